/-! methods: the decoded rows, the meaning (B, X), the contract (v) -/
theorem d_Code_stores_0 : decode prog_3_method_10_code 0 = .ok (.iconst 0, 1) := by decide +kernel
theorem d_Code_stores_1 : decode prog_3_method_10_code 1 = .ok (.istore_n 1, 1) := by decide +kernel
theorem d_Code_stores_2 : decode prog_3_method_10_code 2 = .ok (.iconst 0, 1) := by decide +kernel
theorem d_Code_stores_3 : decode prog_3_method_10_code 3 = .ok (.istore_n 2, 1) := by decide +kernel
theorem d_Code_stores_4 : decode prog_3_method_10_code 4 = .ok (.iload_n 2, 1) := by decide +kernel
theorem d_Code_stores_5 : decode prog_3_method_10_code 5 = .ok (.aload_n 0, 1) := by decide +kernel
theorem d_Code_stores_6 : decode prog_3_method_10_code 6 = .ok (.getfield 30, 3) := by decide +kernel
theorem d_Code_stores_9 : decode prog_3_method_10_code 9 = .ok (.if_icmp .ge 26, 3) := by decide +kernel
theorem d_Code_stores_12 : decode prog_3_method_10_code 12 = .ok (.aload_n 0, 1) := by decide +kernel
theorem d_Code_stores_13 : decode prog_3_method_10_code 13 = .ok (.getfield 9, 3) := by decide +kernel
theorem d_Code_stores_16 : decode prog_3_method_10_code 16 = .ok (.iload_n 2, 1) := by decide +kernel
theorem d_Code_stores_17 : decode prog_3_method_10_code 17 = .ok (.iaload, 1) := by decide +kernel
theorem d_Code_stores_18 : decode prog_3_method_10_code 18 = .ok (.bipush 6, 2) := by decide +kernel
theorem d_Code_stores_20 : decode prog_3_method_10_code 20 = .ok (.if_icmp .ne 9, 3) := by decide +kernel
theorem d_Code_stores_23 : decode prog_3_method_10_code 23 = .ok (.iload_n 1, 1) := by decide +kernel
theorem d_Code_stores_24 : decode prog_3_method_10_code 24 = .ok (.iconst 1, 1) := by decide +kernel
theorem d_Code_stores_25 : decode prog_3_method_10_code 25 = .ok (.iload_n 2, 1) := by decide +kernel
theorem d_Code_stores_26 : decode prog_3_method_10_code 26 = .ok (.ishl, 1) := by decide +kernel
theorem d_Code_stores_27 : decode prog_3_method_10_code 27 = .ok (.ior, 1) := by decide +kernel
theorem d_Code_stores_28 : decode prog_3_method_10_code 28 = .ok (.istore_n 1, 1) := by decide +kernel
theorem d_Code_stores_29 : decode prog_3_method_10_code 29 = .ok (.iinc 2 1, 3) := by decide +kernel
theorem d_Code_stores_32 : decode prog_3_method_10_code 32 = .ok (.goto (-28), 3) := by decide +kernel
theorem d_Code_stores_35 : decode prog_3_method_10_code 35 = .ok (.iload_n 1, 1) := by decide +kernel
theorem d_Code_stores_36 : decode prog_3_method_10_code 36 = .ok (.ireturn, 1) := by decide +kernel
def B_Code_stores (_ : Nat × Nat) : PS :=
  (sSq (sI 1 (eV (0 : Int32)))
    (sSq (sCut 2 (sSq (sI 2 (eV (0 : Int32)))
    (sLp 3 (e2 (fun x y : Int32 => decide (x < y)) (eI 2) (eFI 1 6 (eR 0)))
    (sIf (e2 (fun x y : Int32 => decide (x = y)) (eAI (eFR 1 0 (eR 0)) (eI 2)) (eV (6 : Int32))) (sI 1 (e2 (fun x y : Int32 => x ||| y) (eI 1) (e2 (fun x y : Int32 => x <<< (y &&& 31)) (eV (1 : Int32)) (eI 2)))) sSk)
    (sInc 2 (1)))))
    (sRt .int (eI 1))))
def X_Code_stores : PM := fun vs h Q => (lx vs).length ≤ 3 ∧ B_Code_stores (h.length + 0, hsz h + 0) (fun _ _ => False) (fun _ _ => False) (fun _ _ => False) Q (lini 3 vs) h
theorem v_Code_stores (l : Launch) : Ctr l y_Code_stores prog_3_method_10_code 3 (some .int) rm_Code_stores X_Code_stores := by
  refine Ctr_of (own := "PackLanes$Code") (B := B_Code_stores) (KR := fun _ Q => Q) (by decide) rfl (fun _ _ _ z => z) (fun _ _ _ _ z => ⟨Or.inl ⟨rfl, rfl⟩, z⟩) (Or.inr (Or.inl rfl)) (fun κ hl ho hR hrt hn0 => ?_)
  subst hl
  unfold B_Code_stores
  exact (S_sq (pc1 := 2) (S_In (pc1 := 1) (E_ic d_Code_stores_0 rfl) d_Code_stores_1 rfl)
    (S_sq (pc1 := 35) (S_cut (S_sq (pc1 := 4) (S_In (pc1 := 3) (E_ic d_Code_stores_2 rfl) d_Code_stores_3 rfl)
    (S_lp (pT := 12) (pF := 35) (pS := 29) (pG := 32) (J2_lt (pF := 35) (pc1 := 5) (pc2 := 9) (E_iln d_Code_stores_4 rfl) (E_fI f_Code_30 ho (pc1 := 6) (E_aln d_Code_stores_5 rfl) d_Code_stores_6) d_Code_stores_9 rfl)
    (S_if1 (pT := 23) (pF := 29) (J2_eq (pF := 29) (pc1 := 18) (pc2 := 20) (E_aI (pc1 := 16) (pc2 := 17) (E_fR f_Code_9 ho (pc1 := 13) (E_aln d_Code_stores_12 rfl) d_Code_stores_13) (E_iln d_Code_stores_16 rfl) d_Code_stores_17) (E_bi d_Code_stores_18 rfl) d_Code_stores_20 rfl) (S_In (pc1 := 28) (E_ior (pc1 := 24) (pc2 := 27) (E_iln d_Code_stores_23 rfl) (E_ishl (pc1 := 25) (pc2 := 26) (E_ic d_Code_stores_24 rfl) (E_iln d_Code_stores_25 rfl) d_Code_stores_26) d_Code_stores_27) d_Code_stores_28 rfl))
    (S_Inc d_Code_stores_29 rfl) d_Code_stores_32 rfl)))
    (S_ri hrt (pc1 := 36) (E_iln d_Code_stores_35 rfl) d_Code_stores_36)))
theorem d_Code_canBegin_0 : decode prog_3_method_4_code 0 = .ok (.aload_n 0, 1) := by decide +kernel
theorem d_Code_canBegin_1 : decode prog_3_method_4_code 1 = .ok (.getfield 30, 3) := by decide +kernel
theorem d_Code_canBegin_4 : decode prog_3_method_4_code 4 = .ok (.bipush 16, 2) := by decide +kernel
theorem d_Code_canBegin_6 : decode prog_3_method_4_code 6 = .ok (.if_icmp .lt 5, 3) := by decide +kernel
theorem d_Code_canBegin_9 : decode prog_3_method_4_code 9 = .ok (.iconst 0, 1) := by decide +kernel
theorem d_Code_canBegin_10 : decode prog_3_method_4_code 10 = .ok (.ireturn, 1) := by decide +kernel
theorem d_Code_canBegin_11 : decode prog_3_method_4_code 11 = .ok (.iload_n 1, 1) := by decide +kernel
theorem d_Code_canBegin_12 : decode prog_3_method_4_code 12 = .ok (.ifCond .eq 22, 3) := by decide +kernel
theorem d_Code_canBegin_15 : decode prog_3_method_4_code 15 = .ok (.iload_n 1, 1) := by decide +kernel
theorem d_Code_canBegin_16 : decode prog_3_method_4_code 16 = .ok (.iconst 1, 1) := by decide +kernel
theorem d_Code_canBegin_17 : decode prog_3_method_4_code 17 = .ok (.if_icmp .eq 17, 3) := by decide +kernel
theorem d_Code_canBegin_20 : decode prog_3_method_4_code 20 = .ok (.aload_n 0, 1) := by decide +kernel
theorem d_Code_canBegin_21 : decode prog_3_method_4_code 21 = .ok (.invokevirtual 34, 3) := by decide +kernel
theorem d_Code_canBegin_24 : decode prog_3_method_4_code 24 = .ok (.invokestatic 38, 3) := by decide +kernel
theorem d_Code_canBegin_27 : decode prog_3_method_4_code 27 = .ok (.aload_n 0, 1) := by decide +kernel
theorem d_Code_canBegin_28 : decode prog_3_method_4_code 28 = .ok (.getfield 30, 3) := by decide +kernel
theorem d_Code_canBegin_31 : decode prog_3_method_4_code 31 = .ok (.if_icmp .ge 7, 3) := by decide +kernel
theorem d_Code_canBegin_34 : decode prog_3_method_4_code 34 = .ok (.iconst 1, 1) := by decide +kernel
theorem d_Code_canBegin_35 : decode prog_3_method_4_code 35 = .ok (.goto 4, 3) := by decide +kernel
theorem d_Code_canBegin_38 : decode prog_3_method_4_code 38 = .ok (.iconst 0, 1) := by decide +kernel
theorem d_Code_canBegin_39 : decode prog_3_method_4_code 39 = .ok (.ireturn, 1) := by decide +kernel
def B_Code_canBegin (_ : Nat × Nat) : PS :=
  (sSq (sIf (e2 (fun x y : Int32 => decide (y ≤ x)) (eFI 1 6 (eR 0)) (eV (16 : Int32))) (sRz (eV (0 : Int32))) sSk)
    (sRz (eC (cO (cO (e1 (fun x : Int32 => decide (x = 0)) (eI 1)) (e2 (fun x y : Int32 => decide (x = y)) (eI 1) (eV (1 : Int32)))) (e2 (fun x y : Int32 => decide (x < y)) (eX .int (xS 1 X_Int_bitCount (aC .int (eX .int (xV 1 0 X_Code_stores (eR 0) aN)) aN))) (eFI 1 6 (eR 0)))))))
def X_Code_canBegin : PM := fun vs h Q => (lx vs).length ≤ 2 ∧ B_Code_canBegin (h.length + 0, hsz h + 0) (fun _ _ => False) (fun _ _ => False) (fun _ _ => False) Q (lini 2 vs) h
theorem v_Code_canBegin (l : Launch) : Ctr l y_Code_canBegin prog_3_method_4_code 2 (some .boolean) rm_Code_canBegin X_Code_canBegin := by
  refine Ctr_of (own := "PackLanes$Code") (B := B_Code_canBegin) (KR := fun _ Q => Q) (by decide) rfl (fun _ _ _ z => z) (fun _ _ _ _ z => ⟨Or.inl ⟨rfl, rfl⟩, z⟩) (Or.inr (Or.inr (Or.inl rfl))) (fun κ hl ho hR hrt hn0 => ?_)
  subst hl
  unfold B_Code_canBegin
  exact (S_sq (pc1 := 11) (S_if1 (pT := 9) (pF := 11) (J2_ge (pF := 11) (pc1 := 4) (pc2 := 6) (E_fI f_Code_30 ho (pc1 := 1) (E_aln d_Code_canBegin_0 rfl) d_Code_canBegin_1) (E_bi d_Code_canBegin_4 rfl) d_Code_canBegin_6 rfl) (S_rz hrt (pc1 := 10) (E_ic d_Code_canBegin_9 rfl) d_Code_canBegin_10))
    (S_rz hrt (pc1 := 39) (E_C (pT := 34) (pF := 38) (pc2 := 39) (C_or (pc1 := 20) (C_or (pc1 := 15) (T1_eq (pT := 34) (pc2 := 12) (E_iln d_Code_canBegin_11 rfl) d_Code_canBegin_12 rfl) (T2_eq (pT := 34) (pc1 := 16) (pc2 := 17) (E_iln d_Code_canBegin_15 rfl) (E_ic d_Code_canBegin_16 rfl) d_Code_canBegin_17 rfl)) (J2_lt (pF := 38) (pc1 := 27) (pc2 := 31) (E_x (O_S k_Code_38 (v_Int_bitCount _) ⟨rfl, rfl⟩ ho (rk hR rfl) (by decide) (pc2 := 24) (A_c catI (pc1 := 24) (E_x (O_V k_Code_34 (v_Code_stores _) ⟨rfl, rfl⟩ ho (rk hR rfl) (by decide) (T := KT1) (N := 7) rfl (by decide) (pc1 := 21) (pc2 := 21) (E_aln d_Code_canBegin_20 rfl) A_n d_Code_canBegin_21)) A_n) d_Code_canBegin_24)) (E_fI f_Code_30 ho (pc1 := 28) (E_aln d_Code_canBegin_27 rfl) d_Code_canBegin_28) d_Code_canBegin_31 rfl)) d_Code_canBegin_34 d_Code_canBegin_35 rfl d_Code_canBegin_38 rfl) d_Code_canBegin_39))
theorem d_Code_clear_0 : decode prog_3_method_2_code 0 = .ok (.aload_n 0, 1) := by decide +kernel
theorem d_Code_clear_1 : decode prog_3_method_2_code 1 = .ok (.iconst 0, 1) := by decide +kernel
theorem d_Code_clear_2 : decode prog_3_method_2_code 2 = .ok (.putfield 30, 3) := by decide +kernel
theorem d_Code_clear_5 : decode prog_3_method_2_code 5 = .ok (.return_, 1) := by decide +kernel
def B_Code_clear (_ : Nat × Nat) : PS :=
  (sSq (sF .int 1 6 (eR 0) (eV (0 : Int32)))
    sRv)
def X_Code_clear : PM := fun vs h Q => (lx vs).length ≤ 1 ∧ B_Code_clear (h.length + 0, hsz h + 0) (fun _ _ => False) (fun _ _ => False) (fun _ _ => False) Q (lini 1 vs) h
theorem v_Code_clear (l : Launch) : Ctr l y_Code_clear prog_3_method_2_code 1 none rm_Code_clear X_Code_clear := by
  refine Ctr_of (own := "PackLanes$Code") (B := B_Code_clear) (KR := fun _ Q => Q) (by decide) rfl (fun _ _ _ z => z) (fun _ _ _ _ z => ⟨Or.inl ⟨rfl, rfl⟩, z⟩) (Or.inl rfl) (fun κ hl ho hR hrt hn0 => ?_)
  subst hl
  unfold B_Code_clear
  exact (S_sq (pc1 := 5) (S_FI f_Code_30 ho (pc1 := 1) (pc2 := 2) (E_aln d_Code_clear_0 rfl) (E_ic d_Code_clear_1 rfl) d_Code_clear_2)
    (S_rv hrt d_Code_clear_5))
theorem d_Code_add_0 : decode prog_3_method_6_code 0 = .ok (.aload_n 0, 1) := by decide +kernel
theorem d_Code_add_1 : decode prog_3_method_6_code 1 = .ok (.getfield 30, 3) := by decide +kernel
theorem d_Code_add_4 : decode prog_3_method_6_code 4 = .ok (.bipush 16, 2) := by decide +kernel
theorem d_Code_add_6 : decode prog_3_method_6_code 6 = .ok (.if_icmp .lt 4, 3) := by decide +kernel
theorem d_Code_add_9 : decode prog_3_method_6_code 9 = .ok (.return_, 1) := by decide +kernel
theorem d_Code_add_10 : decode prog_3_method_6_code 10 = .ok (.aload_n 0, 1) := by decide +kernel
theorem d_Code_add_11 : decode prog_3_method_6_code 11 = .ok (.getfield 30, 3) := by decide +kernel
theorem d_Code_add_14 : decode prog_3_method_6_code 14 = .ok (.istore 5, 2) := by decide +kernel
theorem d_Code_add_16 : decode prog_3_method_6_code 16 = .ok (.aload_n 0, 1) := by decide +kernel
theorem d_Code_add_17 : decode prog_3_method_6_code 17 = .ok (.dup, 1) := by decide +kernel
theorem d_Code_add_18 : decode prog_3_method_6_code 18 = .ok (.getfield 30, 3) := by decide +kernel
theorem d_Code_add_21 : decode prog_3_method_6_code 21 = .ok (.iconst 1, 1) := by decide +kernel
theorem d_Code_add_22 : decode prog_3_method_6_code 22 = .ok (.iadd, 1) := by decide +kernel
theorem d_Code_add_23 : decode prog_3_method_6_code 23 = .ok (.putfield 30, 3) := by decide +kernel
theorem d_Code_add_26 : decode prog_3_method_6_code 26 = .ok (.aload_n 0, 1) := by decide +kernel
theorem d_Code_add_27 : decode prog_3_method_6_code 27 = .ok (.getfield 9, 3) := by decide +kernel
theorem d_Code_add_30 : decode prog_3_method_6_code 30 = .ok (.iload 5, 2) := by decide +kernel
theorem d_Code_add_32 : decode prog_3_method_6_code 32 = .ok (.iload_n 1, 1) := by decide +kernel
theorem d_Code_add_33 : decode prog_3_method_6_code 33 = .ok (.iastore, 1) := by decide +kernel
theorem d_Code_add_34 : decode prog_3_method_6_code 34 = .ok (.aload_n 0, 1) := by decide +kernel
theorem d_Code_add_35 : decode prog_3_method_6_code 35 = .ok (.getfield 15, 3) := by decide +kernel
theorem d_Code_add_38 : decode prog_3_method_6_code 38 = .ok (.iload 5, 2) := by decide +kernel
theorem d_Code_add_40 : decode prog_3_method_6_code 40 = .ok (.iconst 0, 1) := by decide +kernel
theorem d_Code_add_41 : decode prog_3_method_6_code 41 = .ok (.iastore, 1) := by decide +kernel
theorem d_Code_add_42 : decode prog_3_method_6_code 42 = .ok (.aload_n 0, 1) := by decide +kernel
theorem d_Code_add_43 : decode prog_3_method_6_code 43 = .ok (.getfield 18, 3) := by decide +kernel
theorem d_Code_add_46 : decode prog_3_method_6_code 46 = .ok (.iload 5, 2) := by decide +kernel
theorem d_Code_add_48 : decode prog_3_method_6_code 48 = .ok (.iconst 0, 1) := by decide +kernel
theorem d_Code_add_49 : decode prog_3_method_6_code 49 = .ok (.iastore, 1) := by decide +kernel
theorem d_Code_add_50 : decode prog_3_method_6_code 50 = .ok (.aload_n 0, 1) := by decide +kernel
theorem d_Code_add_51 : decode prog_3_method_6_code 51 = .ok (.getfield 21, 3) := by decide +kernel
theorem d_Code_add_54 : decode prog_3_method_6_code 54 = .ok (.iload 5, 2) := by decide +kernel
theorem d_Code_add_56 : decode prog_3_method_6_code 56 = .ok (.iconst 0, 1) := by decide +kernel
theorem d_Code_add_57 : decode prog_3_method_6_code 57 = .ok (.iastore, 1) := by decide +kernel
theorem d_Code_add_58 : decode prog_3_method_6_code 58 = .ok (.aload_n 0, 1) := by decide +kernel
theorem d_Code_add_59 : decode prog_3_method_6_code 59 = .ok (.getfield 24, 3) := by decide +kernel
theorem d_Code_add_62 : decode prog_3_method_6_code 62 = .ok (.iload 5, 2) := by decide +kernel
theorem d_Code_add_64 : decode prog_3_method_6_code 64 = .ok (.iconst 0, 1) := by decide +kernel
theorem d_Code_add_65 : decode prog_3_method_6_code 65 = .ok (.iastore, 1) := by decide +kernel
theorem d_Code_add_66 : decode prog_3_method_6_code 66 = .ok (.aload_n 0, 1) := by decide +kernel
theorem d_Code_add_67 : decode prog_3_method_6_code 67 = .ok (.getfield 27, 3) := by decide +kernel
theorem d_Code_add_70 : decode prog_3_method_6_code 70 = .ok (.iload 5, 2) := by decide +kernel
theorem d_Code_add_72 : decode prog_3_method_6_code 72 = .ok (.iconst 0, 1) := by decide +kernel
theorem d_Code_add_73 : decode prog_3_method_6_code 73 = .ok (.iastore, 1) := by decide +kernel
theorem d_Code_add_74 : decode prog_3_method_6_code 74 = .ok (.iload_n 1, 1) := by decide +kernel
theorem d_Code_add_75 : decode prog_3_method_6_code 75 = .ok (.lookupswitch 91 #[(0, 33), (1, 52), (6, 63)], 33) := by decide +kernel
theorem d_Code_add_108 : decode prog_3_method_6_code 108 = .ok (.aload_n 0, 1) := by decide +kernel
theorem d_Code_add_109 : decode prog_3_method_6_code 109 = .ok (.getfield 15, 3) := by decide +kernel
theorem d_Code_add_112 : decode prog_3_method_6_code 112 = .ok (.iload 5, 2) := by decide +kernel
theorem d_Code_add_114 : decode prog_3_method_6_code 114 = .ok (.iload_n 2, 1) := by decide +kernel
theorem d_Code_add_115 : decode prog_3_method_6_code 115 = .ok (.iastore, 1) := by decide +kernel
theorem d_Code_add_116 : decode prog_3_method_6_code 116 = .ok (.aload_n 0, 1) := by decide +kernel
theorem d_Code_add_117 : decode prog_3_method_6_code 117 = .ok (.getfield 18, 3) := by decide +kernel
theorem d_Code_add_120 : decode prog_3_method_6_code 120 = .ok (.iload 5, 2) := by decide +kernel
theorem d_Code_add_122 : decode prog_3_method_6_code 122 = .ok (.iload_n 3, 1) := by decide +kernel
theorem d_Code_add_123 : decode prog_3_method_6_code 123 = .ok (.iastore, 1) := by decide +kernel
theorem d_Code_add_124 : decode prog_3_method_6_code 124 = .ok (.goto 58, 3) := by decide +kernel
theorem d_Code_add_127 : decode prog_3_method_6_code 127 = .ok (.aload_n 0, 1) := by decide +kernel
theorem d_Code_add_128 : decode prog_3_method_6_code 128 = .ok (.getfield 21, 3) := by decide +kernel
theorem d_Code_add_131 : decode prog_3_method_6_code 131 = .ok (.iload 5, 2) := by decide +kernel
theorem d_Code_add_133 : decode prog_3_method_6_code 133 = .ok (.iload_n 2, 1) := by decide +kernel
theorem d_Code_add_134 : decode prog_3_method_6_code 134 = .ok (.iastore, 1) := by decide +kernel
theorem d_Code_add_135 : decode prog_3_method_6_code 135 = .ok (.goto 47, 3) := by decide +kernel
theorem d_Code_add_138 : decode prog_3_method_6_code 138 = .ok (.aload_n 0, 1) := by decide +kernel
theorem d_Code_add_139 : decode prog_3_method_6_code 139 = .ok (.getfield 15, 3) := by decide +kernel
theorem d_Code_add_142 : decode prog_3_method_6_code 142 = .ok (.iload 5, 2) := by decide +kernel
theorem d_Code_add_144 : decode prog_3_method_6_code 144 = .ok (.iload_n 2, 1) := by decide +kernel
theorem d_Code_add_145 : decode prog_3_method_6_code 145 = .ok (.iastore, 1) := by decide +kernel
theorem d_Code_add_146 : decode prog_3_method_6_code 146 = .ok (.aload_n 0, 1) := by decide +kernel
theorem d_Code_add_147 : decode prog_3_method_6_code 147 = .ok (.getfield 18, 3) := by decide +kernel
theorem d_Code_add_150 : decode prog_3_method_6_code 150 = .ok (.iload 5, 2) := by decide +kernel
theorem d_Code_add_152 : decode prog_3_method_6_code 152 = .ok (.iload_n 3, 1) := by decide +kernel
theorem d_Code_add_153 : decode prog_3_method_6_code 153 = .ok (.iastore, 1) := by decide +kernel
theorem d_Code_add_154 : decode prog_3_method_6_code 154 = .ok (.aload_n 0, 1) := by decide +kernel
theorem d_Code_add_155 : decode prog_3_method_6_code 155 = .ok (.getfield 24, 3) := by decide +kernel
theorem d_Code_add_158 : decode prog_3_method_6_code 158 = .ok (.iload 5, 2) := by decide +kernel
theorem d_Code_add_160 : decode prog_3_method_6_code 160 = .ok (.iload 4, 2) := by decide +kernel
theorem d_Code_add_162 : decode prog_3_method_6_code 162 = .ok (.iastore, 1) := by decide +kernel
theorem d_Code_add_163 : decode prog_3_method_6_code 163 = .ok (.goto 19, 3) := by decide +kernel
theorem d_Code_add_166 : decode prog_3_method_6_code 166 = .ok (.aload_n 0, 1) := by decide +kernel
theorem d_Code_add_167 : decode prog_3_method_6_code 167 = .ok (.getfield 24, 3) := by decide +kernel
theorem d_Code_add_170 : decode prog_3_method_6_code 170 = .ok (.iload 5, 2) := by decide +kernel
theorem d_Code_add_172 : decode prog_3_method_6_code 172 = .ok (.iload_n 2, 1) := by decide +kernel
theorem d_Code_add_173 : decode prog_3_method_6_code 173 = .ok (.iastore, 1) := by decide +kernel
theorem d_Code_add_174 : decode prog_3_method_6_code 174 = .ok (.aload_n 0, 1) := by decide +kernel
theorem d_Code_add_175 : decode prog_3_method_6_code 175 = .ok (.getfield 27, 3) := by decide +kernel
theorem d_Code_add_178 : decode prog_3_method_6_code 178 = .ok (.iload 5, 2) := by decide +kernel
theorem d_Code_add_180 : decode prog_3_method_6_code 180 = .ok (.iload_n 3, 1) := by decide +kernel
theorem d_Code_add_181 : decode prog_3_method_6_code 181 = .ok (.iastore, 1) := by decide +kernel
theorem d_Code_add_182 : decode prog_3_method_6_code 182 = .ok (.return_, 1) := by decide +kernel
def B_Code_add (_ : Nat × Nat) : PS :=
  (sSq (sIf (e2 (fun x y : Int32 => decide (y ≤ x)) (eFI 1 6 (eR 0)) (eV (16 : Int32))) sRv sSk)
    (sSq (sI 5 (eFI 1 6 (eR 0)))
    (sSq (sFO 1 6 (fun x y : Int32 => x + y) (eR 0) (eV (1 : Int32)))
    (sSq (sAI (eFR 1 0 (eR 0)) (eI 5) (eI 1))
    (sSq (sAI (eFR 1 1 (eR 0)) (eI 5) (eV (0 : Int32)))
    (sSq (sAI (eFR 1 2 (eR 0)) (eI 5) (eV (0 : Int32)))
    (sSq (sAI (eFR 1 3 (eR 0)) (eI 5) (eV (0 : Int32)))
    (sSq (sAI (eFR 1 4 (eR 0)) (eI 5) (eV (0 : Int32)))
    (sSq (sAI (eFR 1 5 (eR 0)) (eI 5) (eV (0 : Int32)))
    (sSq (sSw 6 (eI 1) [(0, 0), (1, 1), (6, 2)] 3 [(sSq (sAI (eFR 1 1 (eR 0)) (eI 5) (eI 2))
    (sSq (sAI (eFR 1 2 (eR 0)) (eI 5) (eI 3))
    sBk)),
    (sSq (sAI (eFR 1 3 (eR 0)) (eI 5) (eI 2))
    sBk),
    (sSq (sAI (eFR 1 1 (eR 0)) (eI 5) (eI 2))
    (sSq (sAI (eFR 1 2 (eR 0)) (eI 5) (eI 3))
    (sSq (sAI (eFR 1 4 (eR 0)) (eI 5) (eI 4))
    sBk))),
    (sSq (sAI (eFR 1 4 (eR 0)) (eI 5) (eI 2))
    (sSq (sAI (eFR 1 5 (eR 0)) (eI 5) (eI 3))
    sBk))])
    sRv))))))))))
def X_Code_add : PM := fun vs h Q => (lx vs).length ≤ 6 ∧ B_Code_add (h.length + 0, hsz h + 0) (fun _ _ => False) (fun _ _ => False) (fun _ _ => False) Q (lini 6 vs) h
theorem v_Code_add (l : Launch) : Ctr l y_Code_add prog_3_method_6_code 6 none rm_Code_add X_Code_add := by
  refine Ctr_of (own := "PackLanes$Code") (B := B_Code_add) (KR := fun _ Q => Q) (by decide) rfl (fun _ _ _ z => z) (fun _ _ _ _ z => ⟨Or.inl ⟨rfl, rfl⟩, z⟩) (Or.inl rfl) (fun κ hl ho hR hrt hn0 => ?_)
  subst hl
  unfold B_Code_add
  exact (S_sq (pc1 := 10) (S_if1 (pT := 9) (pF := 10) (J2_ge (pF := 10) (pc1 := 4) (pc2 := 6) (E_fI f_Code_30 ho (pc1 := 1) (E_aln d_Code_add_0 rfl) d_Code_add_1) (E_bi d_Code_add_4 rfl) d_Code_add_6 rfl) (S_rv hrt d_Code_add_9))
    (S_sq (pc1 := 16) (S_I (pc1 := 14) (E_fI f_Code_30 ho (pc1 := 11) (E_aln d_Code_add_10 rfl) d_Code_add_11) d_Code_add_14)
    (S_sq (pc1 := 26) (S_FO f_Code_30 f_Code_30 ho (pc1 := 17) (pc2 := 22) (E_aln d_Code_add_16 rfl) d_Code_add_17 d_Code_add_18 (E_ic d_Code_add_21 rfl) (fun _ _ _ _ _ k => r_iadd d_Code_add_22 k) d_Code_add_23)
    (S_sq (pc1 := 34) (S_AI (pc1 := 30) (pc2 := 32) (pc3 := 33) (E_fR f_Code_9 ho (pc1 := 27) (E_aln d_Code_add_26 rfl) d_Code_add_27) (E_il d_Code_add_30) (E_iln d_Code_add_32 rfl) d_Code_add_33)
    (S_sq (pc1 := 42) (S_AI (pc1 := 38) (pc2 := 40) (pc3 := 41) (E_fR f_Code_15 ho (pc1 := 35) (E_aln d_Code_add_34 rfl) d_Code_add_35) (E_il d_Code_add_38) (E_ic d_Code_add_40 rfl) d_Code_add_41)
    (S_sq (pc1 := 50) (S_AI (pc1 := 46) (pc2 := 48) (pc3 := 49) (E_fR f_Code_18 ho (pc1 := 43) (E_aln d_Code_add_42 rfl) d_Code_add_43) (E_il d_Code_add_46) (E_ic d_Code_add_48 rfl) d_Code_add_49)
    (S_sq (pc1 := 58) (S_AI (pc1 := 54) (pc2 := 56) (pc3 := 57) (E_fR f_Code_21 ho (pc1 := 51) (E_aln d_Code_add_50 rfl) d_Code_add_51) (E_il d_Code_add_54) (E_ic d_Code_add_56 rfl) d_Code_add_57)
    (S_sq (pc1 := 66) (S_AI (pc1 := 62) (pc2 := 64) (pc3 := 65) (E_fR f_Code_24 ho (pc1 := 59) (E_aln d_Code_add_58 rfl) d_Code_add_59) (E_il d_Code_add_62) (E_ic d_Code_add_64 rfl) d_Code_add_65)
    (S_sq (pc1 := 74) (S_AI (pc1 := 70) (pc2 := 72) (pc3 := 73) (E_fR f_Code_27 ho (pc1 := 67) (E_aln d_Code_add_66 rfl) d_Code_add_67) (E_il d_Code_add_70) (E_ic d_Code_add_72 rfl) d_Code_add_73)
    (S_sq (pc1 := 182) (S_sw (pcs := [108, 127, 138, 166, 182]) (pc1 := 75) (pN := 182) (E_iln d_Code_add_74 rfl) (fun _ _ _ k => r_lsw d_Code_add_75 (by decide +kernel) k) (And.intro (S_sq (pc1 := 116) (S_AI (pc1 := 112) (pc2 := 114) (pc3 := 115) (E_fR f_Code_15 ho (pc1 := 109) (E_aln d_Code_add_108 rfl) d_Code_add_109) (E_il d_Code_add_112) (E_iln d_Code_add_114 rfl) d_Code_add_115)
    (S_sq (pc1 := 124) (S_AI (pc1 := 120) (pc2 := 122) (pc3 := 123) (E_fR f_Code_18 ho (pc1 := 117) (E_aln d_Code_add_116 rfl) d_Code_add_117) (E_il d_Code_add_120) (E_iln d_Code_add_122 rfl) d_Code_add_123)
    (S_bk d_Code_add_124 rfl)))
    (And.intro (S_sq (pc1 := 135) (S_AI (pc1 := 131) (pc2 := 133) (pc3 := 134) (E_fR f_Code_21 ho (pc1 := 128) (E_aln d_Code_add_127 rfl) d_Code_add_128) (E_il d_Code_add_131) (E_iln d_Code_add_133 rfl) d_Code_add_134)
    (S_bk d_Code_add_135 rfl))
    (And.intro (S_sq (pc1 := 146) (S_AI (pc1 := 142) (pc2 := 144) (pc3 := 145) (E_fR f_Code_15 ho (pc1 := 139) (E_aln d_Code_add_138 rfl) d_Code_add_139) (E_il d_Code_add_142) (E_iln d_Code_add_144 rfl) d_Code_add_145)
    (S_sq (pc1 := 154) (S_AI (pc1 := 150) (pc2 := 152) (pc3 := 153) (E_fR f_Code_18 ho (pc1 := 147) (E_aln d_Code_add_146 rfl) d_Code_add_147) (E_il d_Code_add_150) (E_iln d_Code_add_152 rfl) d_Code_add_153)
    (S_sq (pc1 := 163) (S_AI (pc1 := 158) (pc2 := 160) (pc3 := 162) (E_fR f_Code_24 ho (pc1 := 155) (E_aln d_Code_add_154 rfl) d_Code_add_155) (E_il d_Code_add_158) (E_il d_Code_add_160) d_Code_add_162)
    (S_bk d_Code_add_163 rfl))))
    (And.intro (S_sq (pc1 := 174) (S_AI (pc1 := 170) (pc2 := 172) (pc3 := 173) (E_fR f_Code_24 ho (pc1 := 167) (E_aln d_Code_add_166 rfl) d_Code_add_167) (E_il d_Code_add_170) (E_iln d_Code_add_172 rfl) d_Code_add_173)
    (S_sq (pc1 := 182) (S_AI (pc1 := 178) (pc2 := 180) (pc3 := 181) (E_fR f_Code_27 ho (pc1 := 175) (E_aln d_Code_add_174 rfl) d_Code_add_175) (E_il d_Code_add_178) (E_iln d_Code_add_180 rfl) d_Code_add_181)
    S_bk0))
    rfl)))) (by decide))
    (S_rv hrt d_Code_add_182)))))))))))
theorem d_Src_parse_0 : decode prog_9_method_5_code 0 = .ok (.aload_n 1, 1) := by decide +kernel
theorem d_Src_parse_1 : decode prog_9_method_5_code 1 = .ok (.invokevirtual 22, 3) := by decide +kernel
theorem d_Src_parse_4 : decode prog_9_method_5_code 4 = .ok (.iconst 0, 1) := by decide +kernel
theorem d_Src_parse_5 : decode prog_9_method_5_code 5 = .ok (.istore_n 2, 1) := by decide +kernel
theorem d_Src_parse_6 : decode prog_9_method_5_code 6 = .ok (.iload_n 2, 1) := by decide +kernel
theorem d_Src_parse_7 : decode prog_9_method_5_code 7 = .ok (.iconst 4, 1) := by decide +kernel
theorem d_Src_parse_8 : decode prog_9_method_5_code 8 = .ok (.if_icmp .ge 32, 3) := by decide +kernel
theorem d_Src_parse_11 : decode prog_9_method_5_code 11 = .ok (.iload_n 2, 1) := by decide +kernel
theorem d_Src_parse_12 : decode prog_9_method_5_code 12 = .ok (.aload_n 0, 1) := by decide +kernel
theorem d_Src_parse_13 : decode prog_9_method_5_code 13 = .ok (.getfield 18, 3) := by decide +kernel
theorem d_Src_parse_16 : decode prog_9_method_5_code 16 = .ok (.if_icmp .ge 16, 3) := by decide +kernel
theorem d_Src_parse_19 : decode prog_9_method_5_code 19 = .ok (.iload_n 2, 1) := by decide +kernel
theorem d_Src_parse_20 : decode prog_9_method_5_code 20 = .ok (.aload_n 0, 1) := by decide +kernel
theorem d_Src_parse_21 : decode prog_9_method_5_code 21 = .ok (.getfield 9, 3) := by decide +kernel
theorem d_Src_parse_24 : decode prog_9_method_5_code 24 = .ok (.iload_n 2, 1) := by decide +kernel
theorem d_Src_parse_25 : decode prog_9_method_5_code 25 = .ok (.iaload, 1) := by decide +kernel
theorem d_Src_parse_26 : decode prog_9_method_5_code 26 = .ok (.invokestatic 27, 3) := by decide +kernel
theorem d_Src_parse_29 : decode prog_9_method_5_code 29 = .ok (.ifCond .ne 5, 3) := by decide +kernel
theorem d_Src_parse_32 : decode prog_9_method_5_code 32 = .ok (.iload_n 2, 1) := by decide +kernel
theorem d_Src_parse_33 : decode prog_9_method_5_code 33 = .ok (.ireturn, 1) := by decide +kernel
theorem d_Src_parse_34 : decode prog_9_method_5_code 34 = .ok (.iinc 2 1, 3) := by decide +kernel
theorem d_Src_parse_37 : decode prog_9_method_5_code 37 = .ok (.goto (-31), 3) := by decide +kernel
theorem d_Src_parse_40 : decode prog_9_method_5_code 40 = .ok (.iconst 4, 1) := by decide +kernel
theorem d_Src_parse_41 : decode prog_9_method_5_code 41 = .ok (.istore_n 2, 1) := by decide +kernel
theorem d_Src_parse_42 : decode prog_9_method_5_code 42 = .ok (.iconst 0, 1) := by decide +kernel
theorem d_Src_parse_43 : decode prog_9_method_5_code 43 = .ok (.istore_n 3, 1) := by decide +kernel
theorem d_Src_parse_44 : decode prog_9_method_5_code 44 = .ok (.iload_n 3, 1) := by decide +kernel
theorem d_Src_parse_45 : decode prog_9_method_5_code 45 = .ok (.bipush 16, 2) := by decide +kernel
theorem d_Src_parse_47 : decode prog_9_method_5_code 47 = .ok (.if_icmp .gt 153, 3) := by decide +kernel
theorem d_Src_parse_50 : decode prog_9_method_5_code 50 = .ok (.iload_n 2, 1) := by decide +kernel
theorem d_Src_parse_51 : decode prog_9_method_5_code 51 = .ok (.aload_n 0, 1) := by decide +kernel
theorem d_Src_parse_52 : decode prog_9_method_5_code 52 = .ok (.getfield 18, 3) := by decide +kernel
theorem d_Src_parse_55 : decode prog_9_method_5_code 55 = .ok (.if_icmp .ge 145, 3) := by decide +kernel
theorem d_Src_parse_58 : decode prog_9_method_5_code 58 = .ok (.aload_n 0, 1) := by decide +kernel
theorem d_Src_parse_59 : decode prog_9_method_5_code 59 = .ok (.getfield 9, 3) := by decide +kernel
theorem d_Src_parse_62 : decode prog_9_method_5_code 62 = .ok (.iload_n 2, 1) := by decide +kernel
theorem d_Src_parse_63 : decode prog_9_method_5_code 63 = .ok (.iaload, 1) := by decide +kernel
theorem d_Src_parse_64 : decode prog_9_method_5_code 64 = .ok (.invokestatic 31, 3) := by decide +kernel
theorem d_Src_parse_67 : decode prog_9_method_5_code 67 = .ok (.istore 4, 2) := by decide +kernel
theorem d_Src_parse_69 : decode prog_9_method_5_code 69 = .ok (.iload 4, 2) := by decide +kernel
theorem d_Src_parse_71 : decode prog_9_method_5_code 71 = .ok (.ifCond .lt 12, 3) := by decide +kernel
theorem d_Src_parse_74 : decode prog_9_method_5_code 74 = .ok (.aload_n 1, 1) := by decide +kernel
theorem d_Src_parse_75 : decode prog_9_method_5_code 75 = .ok (.iload 4, 2) := by decide +kernel
theorem d_Src_parse_77 : decode prog_9_method_5_code 77 = .ok (.invokevirtual 35, 3) := by decide +kernel
theorem d_Src_parse_80 : decode prog_9_method_5_code 80 = .ok (.ifCond .ne 5, 3) := by decide +kernel
theorem d_Src_parse_83 : decode prog_9_method_5_code 83 = .ok (.iload_n 2, 1) := by decide +kernel
theorem d_Src_parse_84 : decode prog_9_method_5_code 84 = .ok (.ireturn, 1) := by decide +kernel
theorem d_Src_parse_85 : decode prog_9_method_5_code 85 = .ok (.iload 4, 2) := by decide +kernel
theorem d_Src_parse_87 : decode prog_9_method_5_code 87 = .ok (.invokestatic 39, 3) := by decide +kernel
theorem d_Src_parse_90 : decode prog_9_method_5_code 90 = .ok (.istore 5, 2) := by decide +kernel
theorem d_Src_parse_92 : decode prog_9_method_5_code 92 = .ok (.iconst 1, 1) := by decide +kernel
theorem d_Src_parse_93 : decode prog_9_method_5_code 93 = .ok (.istore 6, 2) := by decide +kernel
theorem d_Src_parse_95 : decode prog_9_method_5_code 95 = .ok (.iload 6, 2) := by decide +kernel
theorem d_Src_parse_97 : decode prog_9_method_5_code 97 = .ok (.iload 5, 2) := by decide +kernel
theorem d_Src_parse_99 : decode prog_9_method_5_code 99 = .ok (.if_icmp .gt 64, 3) := by decide +kernel
theorem d_Src_parse_102 : decode prog_9_method_5_code 102 = .ok (.iload_n 2, 1) := by decide +kernel
theorem d_Src_parse_103 : decode prog_9_method_5_code 103 = .ok (.iload 6, 2) := by decide +kernel
theorem d_Src_parse_105 : decode prog_9_method_5_code 105 = .ok (.iadd, 1) := by decide +kernel
theorem d_Src_parse_106 : decode prog_9_method_5_code 106 = .ok (.istore 7, 2) := by decide +kernel
theorem d_Src_parse_108 : decode prog_9_method_5_code 108 = .ok (.iload 7, 2) := by decide +kernel
theorem d_Src_parse_110 : decode prog_9_method_5_code 110 = .ok (.aload_n 0, 1) := by decide +kernel
theorem d_Src_parse_111 : decode prog_9_method_5_code 111 = .ok (.getfield 18, 3) := by decide +kernel
theorem d_Src_parse_114 : decode prog_9_method_5_code 114 = .ok (.if_icmp .lt 8, 3) := by decide +kernel
theorem d_Src_parse_117 : decode prog_9_method_5_code 117 = .ok (.aload_n 0, 1) := by decide +kernel
theorem d_Src_parse_118 : decode prog_9_method_5_code 118 = .ok (.getfield 18, 3) := by decide +kernel
theorem d_Src_parse_121 : decode prog_9_method_5_code 121 = .ok (.ireturn, 1) := by decide +kernel
theorem d_Src_parse_122 : decode prog_9_method_5_code 122 = .ok (.aload_n 0, 1) := by decide +kernel
theorem d_Src_parse_123 : decode prog_9_method_5_code 123 = .ok (.getfield 15, 3) := by decide +kernel
theorem d_Src_parse_126 : decode prog_9_method_5_code 126 = .ok (.iload 6, 2) := by decide +kernel
theorem d_Src_parse_128 : decode prog_9_method_5_code 128 = .ok (.iload 4, 2) := by decide +kernel
theorem d_Src_parse_130 : decode prog_9_method_5_code 130 = .ok (.iload 6, 2) := by decide +kernel
theorem d_Src_parse_132 : decode prog_9_method_5_code 132 = .ok (.aload_n 0, 1) := by decide +kernel
theorem d_Src_parse_133 : decode prog_9_method_5_code 133 = .ok (.getfield 9, 3) := by decide +kernel
theorem d_Src_parse_136 : decode prog_9_method_5_code 136 = .ok (.iload 7, 2) := by decide +kernel
theorem d_Src_parse_138 : decode prog_9_method_5_code 138 = .ok (.iaload, 1) := by decide +kernel
theorem d_Src_parse_139 : decode prog_9_method_5_code 139 = .ok (.aload_n 1, 1) := by decide +kernel
theorem d_Src_parse_140 : decode prog_9_method_5_code 140 = .ok (.invokestatic 42, 3) := by decide +kernel
theorem d_Src_parse_143 : decode prog_9_method_5_code 143 = .ok (.iastore, 1) := by decide +kernel
theorem d_Src_parse_144 : decode prog_9_method_5_code 144 = .ok (.aload_n 0, 1) := by decide +kernel
theorem d_Src_parse_145 : decode prog_9_method_5_code 145 = .ok (.getfield 15, 3) := by decide +kernel
theorem d_Src_parse_148 : decode prog_9_method_5_code 148 = .ok (.iload 6, 2) := by decide +kernel
theorem d_Src_parse_150 : decode prog_9_method_5_code 150 = .ok (.iaload, 1) := by decide +kernel
theorem d_Src_parse_151 : decode prog_9_method_5_code 151 = .ok (.ifCond .ge 6, 3) := by decide +kernel
theorem d_Src_parse_154 : decode prog_9_method_5_code 154 = .ok (.iload 7, 2) := by decide +kernel
theorem d_Src_parse_156 : decode prog_9_method_5_code 156 = .ok (.ireturn, 1) := by decide +kernel
theorem d_Src_parse_157 : decode prog_9_method_5_code 157 = .ok (.iinc 6 1, 3) := by decide +kernel
theorem d_Src_parse_160 : decode prog_9_method_5_code 160 = .ok (.goto (-65), 3) := by decide +kernel
theorem d_Src_parse_163 : decode prog_9_method_5_code 163 = .ok (.aload_n 1, 1) := by decide +kernel
theorem d_Src_parse_164 : decode prog_9_method_5_code 164 = .ok (.iload 4, 2) := by decide +kernel
theorem d_Src_parse_166 : decode prog_9_method_5_code 166 = .ok (.aload_n 0, 1) := by decide +kernel
theorem d_Src_parse_167 : decode prog_9_method_5_code 167 = .ok (.getfield 15, 3) := by decide +kernel
theorem d_Src_parse_170 : decode prog_9_method_5_code 170 = .ok (.iconst 1, 1) := by decide +kernel
theorem d_Src_parse_171 : decode prog_9_method_5_code 171 = .ok (.iaload, 1) := by decide +kernel
theorem d_Src_parse_172 : decode prog_9_method_5_code 172 = .ok (.aload_n 0, 1) := by decide +kernel
theorem d_Src_parse_173 : decode prog_9_method_5_code 173 = .ok (.getfield 15, 3) := by decide +kernel
theorem d_Src_parse_176 : decode prog_9_method_5_code 176 = .ok (.iconst 2, 1) := by decide +kernel
theorem d_Src_parse_177 : decode prog_9_method_5_code 177 = .ok (.iaload, 1) := by decide +kernel
theorem d_Src_parse_178 : decode prog_9_method_5_code 178 = .ok (.aload_n 0, 1) := by decide +kernel
theorem d_Src_parse_179 : decode prog_9_method_5_code 179 = .ok (.getfield 15, 3) := by decide +kernel
theorem d_Src_parse_182 : decode prog_9_method_5_code 182 = .ok (.iconst 3, 1) := by decide +kernel
theorem d_Src_parse_183 : decode prog_9_method_5_code 183 = .ok (.iaload, 1) := by decide +kernel
theorem d_Src_parse_184 : decode prog_9_method_5_code 184 = .ok (.invokevirtual 46, 3) := by decide +kernel
theorem d_Src_parse_187 : decode prog_9_method_5_code 187 = .ok (.iload_n 2, 1) := by decide +kernel
theorem d_Src_parse_188 : decode prog_9_method_5_code 188 = .ok (.iconst 1, 1) := by decide +kernel
theorem d_Src_parse_189 : decode prog_9_method_5_code 189 = .ok (.iload 5, 2) := by decide +kernel
theorem d_Src_parse_191 : decode prog_9_method_5_code 191 = .ok (.iadd, 1) := by decide +kernel
theorem d_Src_parse_192 : decode prog_9_method_5_code 192 = .ok (.iadd, 1) := by decide +kernel
theorem d_Src_parse_193 : decode prog_9_method_5_code 193 = .ok (.istore_n 2, 1) := by decide +kernel
theorem d_Src_parse_194 : decode prog_9_method_5_code 194 = .ok (.iinc 3 1, 3) := by decide +kernel
theorem d_Src_parse_197 : decode prog_9_method_5_code 197 = .ok (.goto (-153), 3) := by decide +kernel
theorem d_Src_parse_200 : decode prog_9_method_5_code 200 = .ok (.bipush (-9), 2) := by decide +kernel
theorem d_Src_parse_202 : decode prog_9_method_5_code 202 = .ok (.ireturn, 1) := by decide +kernel
def B_Src_parse (_ : Nat × Nat) : PS :=
  (sSq (sX (xV 1 0 X_Code_clear (eR 1) aN))
    (sSq (sCut 2 (sSq (sI 2 (eV (0 : Int32)))
    (sLp 3 (e2 (fun x y : Int32 => decide (x < y)) (eI 2) (eV (4 : Int32)))
    (sIf (cO (e2 (fun x y : Int32 => decide (y ≤ x)) (eI 2) (eFI 7 2 (eR 0))) (cN (e1 (fun x : Int32 => decide (¬ x = 0)) (eX .int (xS 2 X_Src_headerAllows (aC .int (eI 2) (aC .int (eAI (eFR 7 0 (eR 0)) (eI 2)) aN))))))) (sRt .int (eI 2)) sSk)
    (sInc 2 (1)))))
    (sSq (sI 2 (eV (4 : Int32)))
    (sSq (sCut 3 (sSq (sI 3 (eV (0 : Int32)))
    (sLp 4 (cA (e2 (fun x y : Int32 => decide (x ≤ y)) (eI 3) (eV (16 : Int32))) (e2 (fun x y : Int32 => decide (x < y)) (eI 2) (eFI 7 2 (eR 0))))
    (sCut 4 (sSq (sI 4 (eX .int (xS 1 X_Src_kindOf (aC .int (eAI (eFR 7 0 (eR 0)) (eI 2)) aN))))
    (sSq (sIf (cO (e1 (fun x : Int32 => decide (x < 0)) (eI 4)) (cN (e1 (fun x : Int32 => decide (¬ x = 0)) (eX .int (xV 1 1 X_Code_canBegin (eR 1) (aC .int (eI 4) aN)))))) (sRt .int (eI 2)) sSk)
    (sSq (sI 5 (eX .int (xS 1 X_Src_partsOf (aC .int (eI 4) aN))))
    (sSq (sCut 6 (sSq (sI 6 (eV (1 : Int32)))
    (sLp 7 (e2 (fun x y : Int32 => decide (x ≤ y)) (eI 6) (eI 5))
    (sCut 7 (sSq (sI 7 (e2 (fun x y : Int32 => x + y) (eI 2) (eI 6)))
    (sSq (sIf (e2 (fun x y : Int32 => decide (y ≤ x)) (eI 7) (eFI 7 2 (eR 0))) (sRt .int (eFI 7 2 (eR 0))) sSk)
    (sSq (sAI (eFR 7 1 (eR 0)) (eI 6) (eX .int (xS 4 X_Src_partOf (aC .int (eI 4) (aC .int (eI 6) (aC .int (eAI (eFR 7 0 (eR 0)) (eI 7)) (aC .ref (eR 1) aN)))))))
    (sIf (e1 (fun x : Int32 => decide (x < 0)) (eAI (eFR 7 1 (eR 0)) (eI 6))) (sRt .int (eI 7)) sSk)))))
    (sInc 6 (1)))))
    (sSq (sX (xV 1 4 X_Code_add (eR 1) (aC .int (eI 4) (aC .int (eAI (eFR 7 1 (eR 0)) (eV (1 : Int32))) (aC .int (eAI (eFR 7 1 (eR 0)) (eV (2 : Int32))) (aC .int (eAI (eFR 7 1 (eR 0)) (eV (3 : Int32))) aN))))))
    (sI 2 (e2 (fun x y : Int32 => x + y) (eI 2) (e2 (fun x y : Int32 => x + y) (eV (1 : Int32)) (eI 5))))))))))
    (sInc 3 (1)))))
    (sRt .int (eV (-9 : Int32)))))))
def X_Src_parse : PM := fun vs h Q => (lx vs).length ≤ 8 ∧ B_Src_parse (h.length + 0, hsz h + 0) (fun _ _ => False) (fun _ _ => False) (fun _ _ => False) Q (lini 8 vs) h
theorem v_Src_parse (l : Launch) : Ctr l y_Src_parse prog_9_method_5_code 8 (some .int) rm_Src_parse X_Src_parse := by
  refine Ctr_of (own := "PackLanes$Source") (B := B_Src_parse) (KR := fun _ Q => Q) (by decide) rfl (fun _ _ _ z => z) (fun _ _ _ _ z => ⟨Or.inl ⟨rfl, rfl⟩, z⟩) (Or.inr (Or.inl rfl)) (fun κ hl ho hR hrt hn0 => ?_)
  subst hl
  unfold B_Src_parse
  exact (S_sq (pc1 := 4) (S_X (O_V k_Src_22 (v_Code_clear _) ⟨rfl, rfl⟩ ho (rk hR rfl) (by decide) (T := KT1) (N := 7) rfl (by decide) (pc1 := 1) (pc2 := 1) (E_aln d_Src_parse_0 rfl) A_n d_Src_parse_1))
    (S_sq (pc1 := 40) (S_cut (S_sq (pc1 := 6) (S_In (pc1 := 5) (E_ic d_Src_parse_4 rfl) d_Src_parse_5 rfl)
    (S_lp (pT := 11) (pF := 40) (pS := 34) (pG := 37) (J2_lt (pF := 40) (pc1 := 7) (pc2 := 8) (E_iln d_Src_parse_6 rfl) (E_ic d_Src_parse_7 rfl) d_Src_parse_8 rfl)
    (S_if1 (pT := 32) (pF := 34) (C_or (pc1 := 19) (T2_ge (pT := 32) (pc1 := 12) (pc2 := 16) (E_iln d_Src_parse_11 rfl) (E_fI f_Src_18 ho (pc1 := 13) (E_aln d_Src_parse_12 rfl) d_Src_parse_13) d_Src_parse_16 rfl) (C_not (T1_ne (pT := 34) (pc2 := 29) (E_x (O_S k_Src_27 (v_Src_headerAllows _) ⟨rfl, rfl⟩ ho (rk hR rfl) (by decide) (pc2 := 26) (A_c catI (pc1 := 20) (E_iln d_Src_parse_19 rfl) (A_c catI (pc1 := 26) (E_aI (pc1 := 24) (pc2 := 25) (E_fR f_Src_9 ho (pc1 := 21) (E_aln d_Src_parse_20 rfl) d_Src_parse_21) (E_iln d_Src_parse_24 rfl) d_Src_parse_25) A_n)) d_Src_parse_26)) d_Src_parse_29 rfl))) (S_ri hrt (pc1 := 33) (E_iln d_Src_parse_32 rfl) d_Src_parse_33))
    (S_Inc d_Src_parse_34 rfl) d_Src_parse_37 rfl)))
    (S_sq (pc1 := 42) (S_In (pc1 := 41) (E_ic d_Src_parse_40 rfl) d_Src_parse_41 rfl)
    (S_sq (pc1 := 200) (S_cut (S_sq (pc1 := 44) (S_In (pc1 := 43) (E_ic d_Src_parse_42 rfl) d_Src_parse_43 rfl)
    (S_lp (pT := 58) (pF := 200) (pS := 194) (pG := 197) (C_and (pc1 := 50) (J2_le (pF := 200) (pc1 := 45) (pc2 := 47) (E_iln d_Src_parse_44 rfl) (E_bi d_Src_parse_45 rfl) d_Src_parse_47 rfl) (J2_lt (pF := 200) (pc1 := 51) (pc2 := 55) (E_iln d_Src_parse_50 rfl) (E_fI f_Src_18 ho (pc1 := 52) (E_aln d_Src_parse_51 rfl) d_Src_parse_52) d_Src_parse_55 rfl))
    (S_cut (S_sq (pc1 := 69) (S_I (pc1 := 67) (E_x (O_S k_Src_31 (v_Src_kindOf _) ⟨rfl, rfl⟩ ho (rk hR rfl) (by decide) (pc2 := 64) (A_c catI (pc1 := 64) (E_aI (pc1 := 62) (pc2 := 63) (E_fR f_Src_9 ho (pc1 := 59) (E_aln d_Src_parse_58 rfl) d_Src_parse_59) (E_iln d_Src_parse_62 rfl) d_Src_parse_63) A_n) d_Src_parse_64)) d_Src_parse_67)
    (S_sq (pc1 := 85) (S_if1 (pT := 83) (pF := 85) (C_or (pc1 := 74) (T1_lt (pT := 83) (pc2 := 71) (E_il d_Src_parse_69) d_Src_parse_71 rfl) (C_not (T1_ne (pT := 85) (pc2 := 80) (E_x (O_V k_Src_35 (v_Code_canBegin _) ⟨rfl, rfl⟩ ho (rk hR rfl) (by decide) (T := KT1) (N := 7) rfl (by decide) (pc1 := 75) (pc2 := 77) (E_aln d_Src_parse_74 rfl) (A_c catI (pc1 := 77) (E_il d_Src_parse_75) A_n) d_Src_parse_77)) d_Src_parse_80 rfl))) (S_ri hrt (pc1 := 84) (E_iln d_Src_parse_83 rfl) d_Src_parse_84))
    (S_sq (pc1 := 92) (S_I (pc1 := 90) (E_x (O_S k_Src_39 (v_Src_partsOf _) ⟨rfl, rfl⟩ ho (rk hR rfl) (by decide) (pc2 := 87) (A_c catI (pc1 := 87) (E_il d_Src_parse_85) A_n) d_Src_parse_87)) d_Src_parse_90)
    (S_sq (pc1 := 163) (S_cut (S_sq (pc1 := 95) (S_I (pc1 := 93) (E_ic d_Src_parse_92 rfl) d_Src_parse_93)
    (S_lp (pT := 102) (pF := 163) (pS := 157) (pG := 160) (J2_le (pF := 163) (pc1 := 97) (pc2 := 99) (E_il d_Src_parse_95) (E_il d_Src_parse_97) d_Src_parse_99 rfl)
    (S_cut (S_sq (pc1 := 108) (S_I (pc1 := 106) (E_iadd (pc1 := 103) (pc2 := 105) (E_iln d_Src_parse_102 rfl) (E_il d_Src_parse_103) d_Src_parse_105) d_Src_parse_106)
    (S_sq (pc1 := 122) (S_if1 (pT := 117) (pF := 122) (J2_ge (pF := 122) (pc1 := 110) (pc2 := 114) (E_il d_Src_parse_108) (E_fI f_Src_18 ho (pc1 := 111) (E_aln d_Src_parse_110 rfl) d_Src_parse_111) d_Src_parse_114 rfl) (S_ri hrt (pc1 := 121) (E_fI f_Src_18 ho (pc1 := 118) (E_aln d_Src_parse_117 rfl) d_Src_parse_118) d_Src_parse_121))
    (S_sq (pc1 := 144) (S_AI (pc1 := 126) (pc2 := 128) (pc3 := 143) (E_fR f_Src_15 ho (pc1 := 123) (E_aln d_Src_parse_122 rfl) d_Src_parse_123) (E_il d_Src_parse_126) (E_x (O_S k_Src_42 (v_Src_partOf _) ⟨rfl, rfl⟩ ho (rk hR rfl) (by decide) (pc2 := 140) (A_c catI (pc1 := 130) (E_il d_Src_parse_128) (A_c catI (pc1 := 132) (E_il d_Src_parse_130) (A_c catI (pc1 := 139) (E_aI (pc1 := 136) (pc2 := 138) (E_fR f_Src_9 ho (pc1 := 133) (E_aln d_Src_parse_132 rfl) d_Src_parse_133) (E_il d_Src_parse_136) d_Src_parse_138) (A_c catR (pc1 := 140) (E_aln d_Src_parse_139 rfl) A_n)))) d_Src_parse_140)) d_Src_parse_143)
    (S_if1 (pT := 154) (pF := 157) (J1_lt (pF := 157) (pc2 := 151) (E_aI (pc1 := 148) (pc2 := 150) (E_fR f_Src_15 ho (pc1 := 145) (E_aln d_Src_parse_144 rfl) d_Src_parse_145) (E_il d_Src_parse_148) d_Src_parse_150) d_Src_parse_151 rfl) (S_ri hrt (pc1 := 156) (E_il d_Src_parse_154) d_Src_parse_156))))))
    (S_Inc d_Src_parse_157 rfl) d_Src_parse_160 rfl)))
    (S_sq (pc1 := 187) (S_X (O_V k_Src_46 (v_Code_add _) ⟨rfl, rfl⟩ ho (rk hR rfl) (by decide) (T := KT1) (N := 7) rfl (by decide) (pc1 := 164) (pc2 := 184) (E_aln d_Src_parse_163 rfl) (A_c catI (pc1 := 166) (E_il d_Src_parse_164) (A_c catI (pc1 := 172) (E_aI (pc1 := 170) (pc2 := 171) (E_fR f_Src_15 ho (pc1 := 167) (E_aln d_Src_parse_166 rfl) d_Src_parse_167) (E_ic d_Src_parse_170 rfl) d_Src_parse_171) (A_c catI (pc1 := 178) (E_aI (pc1 := 176) (pc2 := 177) (E_fR f_Src_15 ho (pc1 := 173) (E_aln d_Src_parse_172 rfl) d_Src_parse_173) (E_ic d_Src_parse_176 rfl) d_Src_parse_177) (A_c catI (pc1 := 184) (E_aI (pc1 := 182) (pc2 := 183) (E_fR f_Src_15 ho (pc1 := 179) (E_aln d_Src_parse_178 rfl) d_Src_parse_179) (E_ic d_Src_parse_182 rfl) d_Src_parse_183) A_n)))) d_Src_parse_184))
    (S_In (pc1 := 193) (E_iadd (pc1 := 188) (pc2 := 192) (E_iln d_Src_parse_187 rfl) (E_iadd (pc1 := 189) (pc2 := 191) (E_ic d_Src_parse_188 rfl) (E_il d_Src_parse_189) d_Src_parse_191) d_Src_parse_192) d_Src_parse_193 rfl)))))))
    (S_Inc d_Src_parse_194 rfl) d_Src_parse_197 rfl)))
    (S_ri hrt (pc1 := 202) (E_bi d_Src_parse_200 rfl) d_Src_parse_202)))))
theorem d_PL_fault_0 : decode prog_1_method_4_code 0 = .ok (.aload_n 0, 1) := by decide +kernel
theorem d_PL_fault_1 : decode prog_1_method_4_code 1 = .ok (.getfield 10, 3) := by decide +kernel
theorem d_PL_fault_4 : decode prog_1_method_4_code 4 = .ok (.aload_n 0, 1) := by decide +kernel
theorem d_PL_fault_5 : decode prog_1_method_4_code 5 = .ok (.getfield 23, 3) := by decide +kernel
theorem d_PL_fault_8 : decode prog_1_method_4_code 8 = .ok (.invokevirtual 102, 3) := by decide +kernel
theorem d_PL_fault_11 : decode prog_1_method_4_code 11 = .ok (.ireturn, 1) := by decide +kernel
def B_PL_fault (_ : Nat × Nat) : PS :=
  (sRt .int (eX .int (xV 7 1 X_Src_parse (eFR 9 0 (eR 0)) (aC .ref (eFR 9 2 (eR 0)) aN))))
def X_PL_fault : PM := fun vs h Q => (lx vs).length ≤ 1 ∧ B_PL_fault (h.length + 0, hsz h + 0) (fun _ _ => False) (fun _ _ => False) (fun _ _ => False) Q (lini 1 vs) h
theorem v_PL_fault (l : Launch) : Ctr l y_PL_fault prog_1_method_4_code 1 (some .int) rm_PL_fault X_PL_fault := by
  refine Ctr_of (own := "PackLanes") (B := B_PL_fault) (KR := fun _ Q => Q) (by decide) rfl (fun _ _ _ z => z) (fun _ _ _ _ z => ⟨Or.inl ⟨rfl, rfl⟩, z⟩) (Or.inr (Or.inl rfl)) (fun κ hl ho hR hrt hn0 => ?_)
  subst hl
  unfold B_PL_fault
  exact (S_ri hrt (pc1 := 11) (E_x (O_V k_PL_102 (v_Src_parse _) ⟨rfl, rfl⟩ ho (rk hR rfl) (by decide) (T := KT7) (N := 3) rfl (by decide) (pc1 := 4) (pc2 := 8) (E_fR f_PL_10 ho (pc1 := 1) (E_aln d_PL_fault_0 rfl) d_PL_fault_1) (A_c catR (pc1 := 8) (E_fR f_PL_23 ho (pc1 := 5) (E_aln d_PL_fault_4 rfl) d_PL_fault_5) A_n) d_PL_fault_8)) d_PL_fault_11)
theorem d_Src_headerDigit_0 : decode prog_9_method_4_code 0 = .ok (.aload_n 0, 1) := by decide +kernel
theorem d_Src_headerDigit_1 : decode prog_9_method_4_code 1 = .ok (.getfield 9, 3) := by decide +kernel
theorem d_Src_headerDigit_4 : decode prog_9_method_4_code 4 = .ok (.iload_n 1, 1) := by decide +kernel
theorem d_Src_headerDigit_5 : decode prog_9_method_4_code 5 = .ok (.iconst 3, 1) := by decide +kernel
theorem d_Src_headerDigit_6 : decode prog_9_method_4_code 6 = .ok (.iand, 1) := by decide +kernel
theorem d_Src_headerDigit_7 : decode prog_9_method_4_code 7 = .ok (.iaload, 1) := by decide +kernel
theorem d_Src_headerDigit_8 : decode prog_9_method_4_code 8 = .ok (.bipush 48, 2) := by decide +kernel
theorem d_Src_headerDigit_10 : decode prog_9_method_4_code 10 = .ok (.isub, 1) := by decide +kernel
theorem d_Src_headerDigit_11 : decode prog_9_method_4_code 11 = .ok (.ireturn, 1) := by decide +kernel
def B_Src_headerDigit (_ : Nat × Nat) : PS :=
  (sRt .int (e2 (fun x y : Int32 => x - y) (eAI (eFR 7 0 (eR 0)) (e2 (fun x y : Int32 => x &&& y) (eI 1) (eV (3 : Int32)))) (eV (48 : Int32))))
def X_Src_headerDigit : PM := fun vs h Q => (lx vs).length ≤ 2 ∧ B_Src_headerDigit (h.length + 0, hsz h + 0) (fun _ _ => False) (fun _ _ => False) (fun _ _ => False) Q (lini 2 vs) h
theorem v_Src_headerDigit (l : Launch) : Ctr l y_Src_headerDigit prog_9_method_4_code 2 (some .int) rm_Src_headerDigit X_Src_headerDigit := by
  refine Ctr_of (own := "PackLanes$Source") (B := B_Src_headerDigit) (KR := fun _ Q => Q) (by decide) rfl (fun _ _ _ z => z) (fun _ _ _ _ z => ⟨Or.inl ⟨rfl, rfl⟩, z⟩) (Or.inr (Or.inl rfl)) (fun κ hl ho hR hrt hn0 => ?_)
  subst hl
  unfold B_Src_headerDigit
  exact (S_ri hrt (pc1 := 11) (E_isub (pc1 := 8) (pc2 := 10) (E_aI (pc1 := 4) (pc2 := 7) (E_fR f_Src_9 ho (pc1 := 1) (E_aln d_Src_headerDigit_0 rfl) d_Src_headerDigit_1) (E_iand (pc1 := 5) (pc2 := 6) (E_iln d_Src_headerDigit_4 rfl) (E_ic d_Src_headerDigit_5 rfl) d_Src_headerDigit_6) d_Src_headerDigit_7) (E_bi d_Src_headerDigit_8 rfl) d_Src_headerDigit_10) d_Src_headerDigit_11)
theorem d_PL_block_0 : decode prog_1_method_5_code 0 = .ok (.aload_n 0, 1) := by decide +kernel
theorem d_PL_block_1 : decode prog_1_method_5_code 1 = .ok (.getfield 10, 3) := by decide +kernel
theorem d_PL_block_4 : decode prog_1_method_5_code 4 = .ok (.aload_n 0, 1) := by decide +kernel
theorem d_PL_block_5 : decode prog_1_method_5_code 5 = .ok (.getfield 23, 3) := by decide +kernel
theorem d_PL_block_8 : decode prog_1_method_5_code 8 = .ok (.invokevirtual 102, 3) := by decide +kernel
theorem d_PL_block_11 : decode prog_1_method_5_code 11 = .ok (.bipush (-9), 2) := by decide +kernel
theorem d_PL_block_13 : decode prog_1_method_5_code 13 = .ok (.if_icmp .eq 6, 3) := by decide +kernel
theorem d_PL_block_16 : decode prog_1_method_5_code 16 = .ok (.bipush (-3), 2) := by decide +kernel
theorem d_PL_block_18 : decode prog_1_method_5_code 18 = .ok (.ireturn, 1) := by decide +kernel
theorem d_PL_block_19 : decode prog_1_method_5_code 19 = .ok (.aload_n 0, 1) := by decide +kernel
theorem d_PL_block_20 : decode prog_1_method_5_code 20 = .ok (.getfield 10, 3) := by decide +kernel
theorem d_PL_block_23 : decode prog_1_method_5_code 23 = .ok (.aload_n 0, 1) := by decide +kernel
theorem d_PL_block_24 : decode prog_1_method_5_code 24 = .ok (.getfield 19, 3) := by decide +kernel
theorem d_PL_block_27 : decode prog_1_method_5_code 27 = .ok (.invokevirtual 102, 3) := by decide +kernel
theorem d_PL_block_30 : decode prog_1_method_5_code 30 = .ok (.pop, 1) := by decide +kernel
theorem d_PL_block_31 : decode prog_1_method_5_code 31 = .ok (.aload_n 0, 1) := by decide +kernel
theorem d_PL_block_32 : decode prog_1_method_5_code 32 = .ok (.aload_n 0, 1) := by decide +kernel
theorem d_PL_block_33 : decode prog_1_method_5_code 33 = .ok (.getfield 10, 3) := by decide +kernel
theorem d_PL_block_36 : decode prog_1_method_5_code 36 = .ok (.iconst 1, 1) := by decide +kernel
theorem d_PL_block_37 : decode prog_1_method_5_code 37 = .ok (.invokevirtual 106, 3) := by decide +kernel
theorem d_PL_block_40 : decode prog_1_method_5_code 40 = .ok (.aload_n 0, 1) := by decide +kernel
theorem d_PL_block_41 : decode prog_1_method_5_code 41 = .ok (.getfield 10, 3) := by decide +kernel
theorem d_PL_block_44 : decode prog_1_method_5_code 44 = .ok (.iconst 2, 1) := by decide +kernel
theorem d_PL_block_45 : decode prog_1_method_5_code 45 = .ok (.invokevirtual 106, 3) := by decide +kernel
theorem d_PL_block_48 : decode prog_1_method_5_code 48 = .ok (.aload_n 0, 1) := by decide +kernel
theorem d_PL_block_49 : decode prog_1_method_5_code 49 = .ok (.getfield 10, 3) := by decide +kernel
theorem d_PL_block_52 : decode prog_1_method_5_code 52 = .ok (.iconst 3, 1) := by decide +kernel
theorem d_PL_block_53 : decode prog_1_method_5_code 53 = .ok (.invokevirtual 106, 3) := by decide +kernel
theorem d_PL_block_56 : decode prog_1_method_5_code 56 = .ok (.invokevirtual 86, 3) := by decide +kernel
theorem d_PL_block_59 : decode prog_1_method_5_code 59 = .ok (.aload_n 0, 1) := by decide +kernel
theorem d_PL_block_60 : decode prog_1_method_5_code 60 = .ok (.getfield 65, 3) := by decide +kernel
theorem d_PL_block_63 : decode prog_1_method_5_code 63 = .ok (.aload_n 0, 1) := by decide +kernel
theorem d_PL_block_64 : decode prog_1_method_5_code 64 = .ok (.getfield 26, 3) := by decide +kernel
theorem d_PL_block_67 : decode prog_1_method_5_code 67 = .ok (.iconst 0, 1) := by decide +kernel
theorem d_PL_block_68 : decode prog_1_method_5_code 68 = .ok (.invokevirtual 90, 3) := by decide +kernel
theorem d_PL_block_71 : decode prog_1_method_5_code 71 = .ok (.aload_n 0, 1) := by decide +kernel
theorem d_PL_block_72 : decode prog_1_method_5_code 72 = .ok (.getfield 19, 3) := by decide +kernel
theorem d_PL_block_75 : decode prog_1_method_5_code 75 = .ok (.getfield 109, 3) := by decide +kernel
theorem d_PL_block_78 : decode prog_1_method_5_code 78 = .ok (.ireturn, 1) := by decide +kernel
def B_PL_block (_ : Nat × Nat) : PS :=
  (sSq (sIf (e2 (fun x y : Int32 => decide (¬ x = y)) (eX .int (xV 7 1 X_Src_parse (eFR 9 0 (eR 0)) (aC .ref (eFR 9 2 (eR 0)) aN))) (eV (-9 : Int32))) (sRt .int (eV (-3 : Int32))) sSk)
    (sSq (sXp (xV 7 1 X_Src_parse (eFR 9 0 (eR 0)) (aC .ref (eFR 9 1 (eR 0)) aN)))
    (sSq (sX (xV 9 3 X_PL_restart (eR 0) (aC .int (eX .int (xV 7 1 X_Src_headerDigit (eFR 9 0 (eR 0)) (aC .int (eV (1 : Int32)) aN))) (aC .int (eX .int (xV 7 1 X_Src_headerDigit (eFR 9 0 (eR 0)) (aC .int (eV (2 : Int32)) aN))) (aC .int (eX .int (xV 7 1 X_Src_headerDigit (eFR 9 0 (eR 0)) (aC .int (eV (3 : Int32)) aN))) aN)))))
    (sSq (sX (xV 4 2 X_Pack_choosePacks (eFR 9 10 (eR 0)) (aC .ref (eFR 9 3 (eR 0)) (aC .int (eV (0 : Int32)) aN))))
    (sRt .int (eFI 1 6 (eFR 9 1 (eR 0))))))))
def X_PL_block : PM := fun vs h Q => (lx vs).length ≤ 1 ∧ B_PL_block (h.length + 0, hsz h + 0) (fun _ _ => False) (fun _ _ => False) (fun _ _ => False) Q (lini 1 vs) h
theorem v_PL_block (l : Launch) : Ctr l y_PL_block prog_1_method_5_code 1 (some .int) rm_PL_block X_PL_block := by
  refine Ctr_of (own := "PackLanes") (B := B_PL_block) (KR := fun _ Q => Q) (by decide) rfl (fun _ _ _ z => z) (fun _ _ _ _ z => ⟨Or.inl ⟨rfl, rfl⟩, z⟩) (Or.inr (Or.inl rfl)) (fun κ hl ho hR hrt hn0 => ?_)
  subst hl
  unfold B_PL_block
  exact (S_sq (pc1 := 19) (S_if1 (pT := 16) (pF := 19) (J2_ne (pF := 19) (pc1 := 11) (pc2 := 13) (E_x (O_V k_PL_102 (v_Src_parse _) ⟨rfl, rfl⟩ ho (rk hR rfl) (by decide) (T := KT7) (N := 3) rfl (by decide) (pc1 := 4) (pc2 := 8) (E_fR f_PL_10 ho (pc1 := 1) (E_aln d_PL_block_0 rfl) d_PL_block_1) (A_c catR (pc1 := 8) (E_fR f_PL_23 ho (pc1 := 5) (E_aln d_PL_block_4 rfl) d_PL_block_5) A_n) d_PL_block_8)) (E_bi d_PL_block_11 rfl) d_PL_block_13 rfl) (S_ri hrt (pc1 := 18) (E_bi d_PL_block_16 rfl) d_PL_block_18))
    (S_sq (pc1 := 31) (S_Xp (pc1 := 30) (O_V k_PL_102 (v_Src_parse _) ⟨rfl, rfl⟩ ho (rk hR rfl) (by decide) (T := KT7) (N := 3) rfl (by decide) (pc1 := 23) (pc2 := 27) (E_fR f_PL_10 ho (pc1 := 20) (E_aln d_PL_block_19 rfl) d_PL_block_20) (A_c catR (pc1 := 27) (E_fR f_PL_19 ho (pc1 := 24) (E_aln d_PL_block_23 rfl) d_PL_block_24) A_n) d_PL_block_27) d_PL_block_30)
    (S_sq (pc1 := 59) (S_X (O_V k_PL_86 (v_PL_restart _) ⟨rfl, rfl⟩ ho (rk hR rfl) (by decide) (T := KT9) (N := 15) rfl (by decide) (pc1 := 32) (pc2 := 56) (E_aln d_PL_block_31 rfl) (A_c catI (pc1 := 40) (E_x (O_V k_PL_106 (v_Src_headerDigit _) ⟨rfl, rfl⟩ ho (rk hR rfl) (by decide) (T := KT7) (N := 3) rfl (by decide) (pc1 := 36) (pc2 := 37) (E_fR f_PL_10 ho (pc1 := 33) (E_aln d_PL_block_32 rfl) d_PL_block_33) (A_c catI (pc1 := 37) (E_ic d_PL_block_36 rfl) A_n) d_PL_block_37)) (A_c catI (pc1 := 48) (E_x (O_V k_PL_106 (v_Src_headerDigit _) ⟨rfl, rfl⟩ ho (rk hR rfl) (by decide) (T := KT7) (N := 3) rfl (by decide) (pc1 := 44) (pc2 := 45) (E_fR f_PL_10 ho (pc1 := 41) (E_aln d_PL_block_40 rfl) d_PL_block_41) (A_c catI (pc1 := 45) (E_ic d_PL_block_44 rfl) A_n) d_PL_block_45)) (A_c catI (pc1 := 56) (E_x (O_V k_PL_106 (v_Src_headerDigit _) ⟨rfl, rfl⟩ ho (rk hR rfl) (by decide) (T := KT7) (N := 3) rfl (by decide) (pc1 := 52) (pc2 := 53) (E_fR f_PL_10 ho (pc1 := 49) (E_aln d_PL_block_48 rfl) d_PL_block_49) (A_c catI (pc1 := 53) (E_ic d_PL_block_52 rfl) A_n) d_PL_block_53)) A_n))) d_PL_block_56))
    (S_sq (pc1 := 71) (S_X (O_V k_PL_90 (v_Pack_choosePacks _) ⟨rfl, rfl⟩ ho (rk hR rfl) (by decide) (T := KT4) (N := 14) rfl (by decide) (pc1 := 63) (pc2 := 68) (E_fR f_PL_65 ho (pc1 := 60) (E_aln d_PL_block_59 rfl) d_PL_block_60) (A_c catR (pc1 := 67) (E_fR f_PL_26 ho (pc1 := 64) (E_aln d_PL_block_63 rfl) d_PL_block_64) (A_c catI (pc1 := 68) (E_ic d_PL_block_67 rfl) A_n)) d_PL_block_68))
    (S_ri hrt (pc1 := 78) (E_fI f_PL_109 ho (pc1 := 75) (E_fR f_PL_19 ho (pc1 := 72) (E_aln d_PL_block_71 rfl) d_PL_block_72) d_PL_block_75) d_PL_block_78)))))
theorem d_PL_bestWidth_0 : decode prog_1_method_25_code 0 = .ok (.aload_n 0, 1) := by decide +kernel
theorem d_PL_bestWidth_1 : decode prog_1_method_25_code 1 = .ok (.getfield 26, 3) := by decide +kernel
theorem d_PL_bestWidth_4 : decode prog_1_method_25_code 4 = .ok (.iconst 0, 1) := by decide +kernel
theorem d_PL_bestWidth_5 : decode prog_1_method_25_code 5 = .ok (.aload_n 0, 1) := by decide +kernel
theorem d_PL_bestWidth_6 : decode prog_1_method_25_code 6 = .ok (.getfield 33, 3) := by decide +kernel
theorem d_PL_bestWidth_9 : decode prog_1_method_25_code 9 = .ok (.iconst 0, 1) := by decide +kernel
theorem d_PL_bestWidth_10 : decode prog_1_method_25_code 10 = .ok (.bipush 19, 2) := by decide +kernel
theorem d_PL_bestWidth_12 : decode prog_1_method_25_code 12 = .ok (.invokestatic 209, 3) := by decide +kernel
theorem d_PL_bestWidth_15 : decode prog_1_method_25_code 15 = .ok (.aload_n 0, 1) := by decide +kernel
theorem d_PL_bestWidth_16 : decode prog_1_method_25_code 16 = .ok (.getfield 33, 3) := by decide +kernel
theorem d_PL_bestWidth_19 : decode prog_1_method_25_code 19 = .ok (.bipush 18, 2) := by decide +kernel
theorem d_PL_bestWidth_21 : decode prog_1_method_25_code 21 = .ok (.iconst 2, 1) := by decide +kernel
theorem d_PL_bestWidth_22 : decode prog_1_method_25_code 22 = .ok (.iastore, 1) := by decide +kernel
theorem d_PL_bestWidth_23 : decode prog_1_method_25_code 23 = .ok (.aload_n 0, 1) := by decide +kernel
theorem d_PL_bestWidth_24 : decode prog_1_method_25_code 24 = .ok (.getfield 69, 3) := by decide +kernel
theorem d_PL_bestWidth_27 : decode prog_1_method_25_code 27 = .ok (.aload_n 0, 1) := by decide +kernel
theorem d_PL_bestWidth_28 : decode prog_1_method_25_code 28 = .ok (.getfield 33, 3) := by decide +kernel
theorem d_PL_bestWidth_31 : decode prog_1_method_25_code 31 = .ok (.iconst 0, 1) := by decide +kernel
theorem d_PL_bestWidth_32 : decode prog_1_method_25_code 32 = .ok (.invokevirtual 90, 3) := by decide +kernel
theorem d_PL_bestWidth_35 : decode prog_1_method_25_code 35 = .ok (.aload_n 0, 1) := by decide +kernel
theorem d_PL_bestWidth_36 : decode prog_1_method_25_code 36 = .ok (.getfield 69, 3) := by decide +kernel
theorem d_PL_bestWidth_39 : decode prog_1_method_25_code 39 = .ok (.getfield 116, 3) := by decide +kernel
theorem d_PL_bestWidth_42 : decode prog_1_method_25_code 42 = .ok (.istore_n 1, 1) := by decide +kernel
theorem d_PL_bestWidth_43 : decode prog_1_method_25_code 43 = .ok (.aload_n 0, 1) := by decide +kernel
theorem d_PL_bestWidth_44 : decode prog_1_method_25_code 44 = .ok (.getfield 33, 3) := by decide +kernel
theorem d_PL_bestWidth_47 : decode prog_1_method_25_code 47 = .ok (.bipush 18, 2) := by decide +kernel
theorem d_PL_bestWidth_49 : decode prog_1_method_25_code 49 = .ok (.iconst 4, 1) := by decide +kernel
theorem d_PL_bestWidth_50 : decode prog_1_method_25_code 50 = .ok (.iastore, 1) := by decide +kernel
theorem d_PL_bestWidth_51 : decode prog_1_method_25_code 51 = .ok (.aload_n 0, 1) := by decide +kernel
theorem d_PL_bestWidth_52 : decode prog_1_method_25_code 52 = .ok (.getfield 69, 3) := by decide +kernel
theorem d_PL_bestWidth_55 : decode prog_1_method_25_code 55 = .ok (.aload_n 0, 1) := by decide +kernel
theorem d_PL_bestWidth_56 : decode prog_1_method_25_code 56 = .ok (.getfield 33, 3) := by decide +kernel
theorem d_PL_bestWidth_59 : decode prog_1_method_25_code 59 = .ok (.iconst 0, 1) := by decide +kernel
theorem d_PL_bestWidth_60 : decode prog_1_method_25_code 60 = .ok (.invokevirtual 90, 3) := by decide +kernel
theorem d_PL_bestWidth_63 : decode prog_1_method_25_code 63 = .ok (.aload_n 0, 1) := by decide +kernel
theorem d_PL_bestWidth_64 : decode prog_1_method_25_code 64 = .ok (.getfield 69, 3) := by decide +kernel
theorem d_PL_bestWidth_67 : decode prog_1_method_25_code 67 = .ok (.getfield 116, 3) := by decide +kernel
theorem d_PL_bestWidth_70 : decode prog_1_method_25_code 70 = .ok (.iload_n 1, 1) := by decide +kernel
theorem d_PL_bestWidth_71 : decode prog_1_method_25_code 71 = .ok (.if_icmp .le 7, 3) := by decide +kernel
theorem d_PL_bestWidth_74 : decode prog_1_method_25_code 74 = .ok (.iconst 4, 1) := by decide +kernel
theorem d_PL_bestWidth_75 : decode prog_1_method_25_code 75 = .ok (.goto 4, 3) := by decide +kernel
theorem d_PL_bestWidth_78 : decode prog_1_method_25_code 78 = .ok (.iconst 2, 1) := by decide +kernel
theorem d_PL_bestWidth_79 : decode prog_1_method_25_code 79 = .ok (.ireturn, 1) := by decide +kernel
def B_PL_bestWidth (_ : Nat × Nat) : PS :=
  (sSq (sCp (eFR 9 3 (eR 0)) (eV (0 : Int32)) (eFR 9 5 (eR 0)) (eV (0 : Int32)) (eV (19 : Int32)))
    (sSq (sAI (eFR 9 5 (eR 0)) (eV (18 : Int32)) (eV (2 : Int32)))
    (sSq (sX (xV 4 2 X_Pack_choosePacks (eFR 9 11 (eR 0)) (aC .ref (eFR 9 5 (eR 0)) (aC .int (eV (0 : Int32)) aN))))
    (sSq (sI 1 (eFI 4 13 (eFR 9 11 (eR 0))))
    (sSq (sAI (eFR 9 5 (eR 0)) (eV (18 : Int32)) (eV (4 : Int32)))
    (sSq (sX (xV 4 2 X_Pack_choosePacks (eFR 9 11 (eR 0)) (aC .ref (eFR 9 5 (eR 0)) (aC .int (eV (0 : Int32)) aN))))
    (sRt .int (eIf (e2 (fun x y : Int32 => decide (y < x)) (eFI 4 13 (eFR 9 11 (eR 0))) (eI 1)) (eV (4 : Int32)) (eV (2 : Int32))))))))))
def X_PL_bestWidth : PM := fun vs h Q => (lx vs).length ≤ 2 ∧ B_PL_bestWidth (h.length + 0, hsz h + 0) (fun _ _ => False) (fun _ _ => False) (fun _ _ => False) Q (lini 2 vs) h
theorem v_PL_bestWidth (l : Launch) : Ctr l y_PL_bestWidth prog_1_method_25_code 2 (some .int) rm_PL_bestWidth X_PL_bestWidth := by
  refine Ctr_of (own := "PackLanes") (B := B_PL_bestWidth) (KR := fun _ Q => Q) (by decide) rfl (fun _ _ _ z => z) (fun _ _ _ _ z => ⟨Or.inl ⟨rfl, rfl⟩, z⟩) (Or.inr (Or.inl rfl)) (fun κ hl ho hR hrt hn0 => ?_)
  subst hl
  unfold B_PL_bestWidth
  exact (S_sq (pc1 := 15) (S_cp w_ac_PL_209 w_acn w_acs w_aci ho (rk1 hR rfl) (pc1 := 4) (pc2 := 5) (pc3 := 9) (pc4 := 10) (pS := 12) (E_fR f_PL_26 ho (pc1 := 1) (E_aln d_PL_bestWidth_0 rfl) d_PL_bestWidth_1) (E_ic d_PL_bestWidth_4 rfl) (E_fR f_PL_33 ho (pc1 := 6) (E_aln d_PL_bestWidth_5 rfl) d_PL_bestWidth_6) (E_ic d_PL_bestWidth_9 rfl) (E_bi d_PL_bestWidth_10 rfl) d_PL_bestWidth_12)
    (S_sq (pc1 := 23) (S_AI (pc1 := 19) (pc2 := 21) (pc3 := 22) (E_fR f_PL_33 ho (pc1 := 16) (E_aln d_PL_bestWidth_15 rfl) d_PL_bestWidth_16) (E_bi d_PL_bestWidth_19 rfl) (E_ic d_PL_bestWidth_21 rfl) d_PL_bestWidth_22)
    (S_sq (pc1 := 35) (S_X (O_V k_PL_90 (v_Pack_choosePacks _) ⟨rfl, rfl⟩ ho (rk hR rfl) (by decide) (T := KT4) (N := 14) rfl (by decide) (pc1 := 27) (pc2 := 32) (E_fR f_PL_69 ho (pc1 := 24) (E_aln d_PL_bestWidth_23 rfl) d_PL_bestWidth_24) (A_c catR (pc1 := 31) (E_fR f_PL_33 ho (pc1 := 28) (E_aln d_PL_bestWidth_27 rfl) d_PL_bestWidth_28) (A_c catI (pc1 := 32) (E_ic d_PL_bestWidth_31 rfl) A_n)) d_PL_bestWidth_32))
    (S_sq (pc1 := 43) (S_In (pc1 := 42) (E_fI f_PL_116 ho (pc1 := 39) (E_fR f_PL_69 ho (pc1 := 36) (E_aln d_PL_bestWidth_35 rfl) d_PL_bestWidth_36) d_PL_bestWidth_39) d_PL_bestWidth_42 rfl)
    (S_sq (pc1 := 51) (S_AI (pc1 := 47) (pc2 := 49) (pc3 := 50) (E_fR f_PL_33 ho (pc1 := 44) (E_aln d_PL_bestWidth_43 rfl) d_PL_bestWidth_44) (E_bi d_PL_bestWidth_47 rfl) (E_ic d_PL_bestWidth_49 rfl) d_PL_bestWidth_50)
    (S_sq (pc1 := 63) (S_X (O_V k_PL_90 (v_Pack_choosePacks _) ⟨rfl, rfl⟩ ho (rk hR rfl) (by decide) (T := KT4) (N := 14) rfl (by decide) (pc1 := 55) (pc2 := 60) (E_fR f_PL_69 ho (pc1 := 52) (E_aln d_PL_bestWidth_51 rfl) d_PL_bestWidth_52) (A_c catR (pc1 := 59) (E_fR f_PL_33 ho (pc1 := 56) (E_aln d_PL_bestWidth_55 rfl) d_PL_bestWidth_56) (A_c catI (pc1 := 60) (E_ic d_PL_bestWidth_59 rfl) A_n)) d_PL_bestWidth_60))
    (S_ri hrt (pc1 := 79) (E_if (pT := 74) (pF := 78) (pc1 := 75) (pc2 := 79) (J2_gt (pF := 78) (pc1 := 70) (pc2 := 71) (E_fI f_PL_116 ho (pc1 := 67) (E_fR f_PL_69 ho (pc1 := 64) (E_aln d_PL_bestWidth_63 rfl) d_PL_bestWidth_64) d_PL_bestWidth_67) (E_iln d_PL_bestWidth_70 rfl) d_PL_bestWidth_71 rfl) (E_ic d_PL_bestWidth_74 rfl) d_PL_bestWidth_75 rfl (E_ic d_PL_bestWidth_78 rfl)) d_PL_bestWidth_79)))))))
theorem d_Code_cost_0 : decode prog_3_method_11_code 0 = .ok (.iconst 0, 1) := by decide +kernel
theorem d_Code_cost_1 : decode prog_3_method_11_code 1 = .ok (.istore_n 1, 1) := by decide +kernel
theorem d_Code_cost_2 : decode prog_3_method_11_code 2 = .ok (.iconst 0, 1) := by decide +kernel
theorem d_Code_cost_3 : decode prog_3_method_11_code 3 = .ok (.istore_n 2, 1) := by decide +kernel
theorem d_Code_cost_4 : decode prog_3_method_11_code 4 = .ok (.iload_n 2, 1) := by decide +kernel
theorem d_Code_cost_5 : decode prog_3_method_11_code 5 = .ok (.aload_n 0, 1) := by decide +kernel
theorem d_Code_cost_6 : decode prog_3_method_11_code 6 = .ok (.getfield 30, 3) := by decide +kernel
theorem d_Code_cost_9 : decode prog_3_method_11_code 9 = .ok (.if_icmp .ge 22, 3) := by decide +kernel
theorem d_Code_cost_12 : decode prog_3_method_11_code 12 = .ok (.aload_n 0, 1) := by decide +kernel
theorem d_Code_cost_13 : decode prog_3_method_11_code 13 = .ok (.getfield 9, 3) := by decide +kernel
theorem d_Code_cost_16 : decode prog_3_method_11_code 16 = .ok (.iload_n 2, 1) := by decide +kernel
theorem d_Code_cost_17 : decode prog_3_method_11_code 17 = .ok (.iaload, 1) := by decide +kernel
theorem d_Code_cost_18 : decode prog_3_method_11_code 18 = .ok (.iconst 1, 1) := by decide +kernel
theorem d_Code_cost_19 : decode prog_3_method_11_code 19 = .ok (.if_icmp .eq 6, 3) := by decide +kernel
theorem d_Code_cost_22 : decode prog_3_method_11_code 22 = .ok (.iinc 1 1, 3) := by decide +kernel
theorem d_Code_cost_25 : decode prog_3_method_11_code 25 = .ok (.iinc 2 1, 3) := by decide +kernel
theorem d_Code_cost_28 : decode prog_3_method_11_code 28 = .ok (.goto (-24), 3) := by decide +kernel
theorem d_Code_cost_31 : decode prog_3_method_11_code 31 = .ok (.iload_n 1, 1) := by decide +kernel
theorem d_Code_cost_32 : decode prog_3_method_11_code 32 = .ok (.ireturn, 1) := by decide +kernel
def B_Code_cost (_ : Nat × Nat) : PS :=
  (sSq (sI 1 (eV (0 : Int32)))
    (sSq (sCut 2 (sSq (sI 2 (eV (0 : Int32)))
    (sLp 3 (e2 (fun x y : Int32 => decide (x < y)) (eI 2) (eFI 1 6 (eR 0)))
    (sIf (e2 (fun x y : Int32 => decide (¬ x = y)) (eAI (eFR 1 0 (eR 0)) (eI 2)) (eV (1 : Int32))) (sInc 1 (1)) sSk)
    (sInc 2 (1)))))
    (sRt .int (eI 1))))
def X_Code_cost : PM := fun vs h Q => (lx vs).length ≤ 3 ∧ B_Code_cost (h.length + 0, hsz h + 0) (fun _ _ => False) (fun _ _ => False) (fun _ _ => False) Q (lini 3 vs) h
theorem v_Code_cost (l : Launch) : Ctr l y_Code_cost prog_3_method_11_code 3 (some .int) rm_Code_cost X_Code_cost := by
  refine Ctr_of (own := "PackLanes$Code") (B := B_Code_cost) (KR := fun _ Q => Q) (by decide) rfl (fun _ _ _ z => z) (fun _ _ _ _ z => ⟨Or.inl ⟨rfl, rfl⟩, z⟩) (Or.inr (Or.inl rfl)) (fun κ hl ho hR hrt hn0 => ?_)
  subst hl
  unfold B_Code_cost
  exact (S_sq (pc1 := 2) (S_In (pc1 := 1) (E_ic d_Code_cost_0 rfl) d_Code_cost_1 rfl)
    (S_sq (pc1 := 31) (S_cut (S_sq (pc1 := 4) (S_In (pc1 := 3) (E_ic d_Code_cost_2 rfl) d_Code_cost_3 rfl)
    (S_lp (pT := 12) (pF := 31) (pS := 25) (pG := 28) (J2_lt (pF := 31) (pc1 := 5) (pc2 := 9) (E_iln d_Code_cost_4 rfl) (E_fI f_Code_30 ho (pc1 := 6) (E_aln d_Code_cost_5 rfl) d_Code_cost_6) d_Code_cost_9 rfl)
    (S_if1 (pT := 22) (pF := 25) (J2_ne (pF := 25) (pc1 := 18) (pc2 := 19) (E_aI (pc1 := 16) (pc2 := 17) (E_fR f_Code_9 ho (pc1 := 13) (E_aln d_Code_cost_12 rfl) d_Code_cost_13) (E_iln d_Code_cost_16 rfl) d_Code_cost_17) (E_ic d_Code_cost_18 rfl) d_Code_cost_19 rfl) (S_Inc d_Code_cost_22 rfl))
    (S_Inc d_Code_cost_25 rfl) d_Code_cost_28 rfl)))
    (S_ri hrt (pc1 := 32) (E_iln d_Code_cost_31 rfl) d_Code_cost_32)))
theorem d_Mach_begin_0 : decode prog_5_method_4_code 0 = .ok (.aload_n 0, 1) := by decide +kernel
theorem d_Mach_begin_1 : decode prog_5_method_4_code 1 = .ok (.bipush (-9), 2) := by decide +kernel
theorem d_Mach_begin_3 : decode prog_5_method_4_code 3 = .ok (.putfield 18, 3) := by decide +kernel
theorem d_Mach_begin_6 : decode prog_5_method_4_code 6 = .ok (.aload_n 0, 1) := by decide +kernel
theorem d_Mach_begin_7 : decode prog_5_method_4_code 7 = .ok (.aload_n 1, 1) := by decide +kernel
theorem d_Mach_begin_8 : decode prog_5_method_4_code 8 = .ok (.bipush 16, 2) := by decide +kernel
theorem d_Mach_begin_10 : decode prog_5_method_4_code 10 = .ok (.iaload, 1) := by decide +kernel
theorem d_Mach_begin_11 : decode prog_5_method_4_code 11 = .ok (.putfield 22, 3) := by decide +kernel
theorem d_Mach_begin_14 : decode prog_5_method_4_code 14 = .ok (.aload_n 1, 1) := by decide +kernel
theorem d_Mach_begin_15 : decode prog_5_method_4_code 15 = .ok (.iconst 0, 1) := by decide +kernel
theorem d_Mach_begin_16 : decode prog_5_method_4_code 16 = .ok (.aload_n 0, 1) := by decide +kernel
theorem d_Mach_begin_17 : decode prog_5_method_4_code 17 = .ok (.getfield 9, 3) := by decide +kernel
theorem d_Mach_begin_20 : decode prog_5_method_4_code 20 = .ok (.iconst 0, 1) := by decide +kernel
theorem d_Mach_begin_21 : decode prog_5_method_4_code 21 = .ok (.bipush 16, 2) := by decide +kernel
theorem d_Mach_begin_23 : decode prog_5_method_4_code 23 = .ok (.invokestatic 50, 3) := by decide +kernel
theorem d_Mach_begin_26 : decode prog_5_method_4_code 26 = .ok (.iconst 0, 1) := by decide +kernel
theorem d_Mach_begin_27 : decode prog_5_method_4_code 27 = .ok (.istore_n 2, 1) := by decide +kernel
theorem d_Mach_begin_28 : decode prog_5_method_4_code 28 = .ok (.iload_n 2, 1) := by decide +kernel
theorem d_Mach_begin_29 : decode prog_5_method_4_code 29 = .ok (.bipush 16, 2) := by decide +kernel
theorem d_Mach_begin_31 : decode prog_5_method_4_code 31 = .ok (.if_icmp .ge 16, 3) := by decide +kernel
theorem d_Mach_begin_34 : decode prog_5_method_4_code 34 = .ok (.aload_n 0, 1) := by decide +kernel
theorem d_Mach_begin_35 : decode prog_5_method_4_code 35 = .ok (.getfield 15, 3) := by decide +kernel
theorem d_Mach_begin_38 : decode prog_5_method_4_code 38 = .ok (.iload_n 2, 1) := by decide +kernel
theorem d_Mach_begin_39 : decode prog_5_method_4_code 39 = .ok (.iconst 0, 1) := by decide +kernel
theorem d_Mach_begin_40 : decode prog_5_method_4_code 40 = .ok (.iastore, 1) := by decide +kernel
theorem d_Mach_begin_41 : decode prog_5_method_4_code 41 = .ok (.iinc 2 1, 3) := by decide +kernel
theorem d_Mach_begin_44 : decode prog_5_method_4_code 44 = .ok (.goto (-16), 3) := by decide +kernel
theorem d_Mach_begin_47 : decode prog_5_method_4_code 47 = .ok (.return_, 1) := by decide +kernel
def B_Mach_begin (_ : Nat × Nat) : PS :=
  (sSq (sF .int 3 3 (eR 0) (eV (-9 : Int32)))
    (sSq (sF .int 3 4 (eR 0) (eAI (eR 1) (eV (16 : Int32))))
    (sSq (sCp (eR 1) (eV (0 : Int32)) (eFR 3 1 (eR 0)) (eV (0 : Int32)) (eV (16 : Int32)))
    (sSq (sCut 2 (sSq (sI 2 (eV (0 : Int32)))
    (sLp 3 (e2 (fun x y : Int32 => decide (x < y)) (eI 2) (eV (16 : Int32)))
    (sAI (eFR 3 2 (eR 0)) (eI 2) (eV (0 : Int32)))
    (sInc 2 (1)))))
    sRv))))
def X_Mach_begin : PM := fun vs h Q => (lx vs).length ≤ 3 ∧ B_Mach_begin (h.length + 0, hsz h + 0) (fun _ _ => False) (fun _ _ => False) (fun _ _ => False) Q (lini 3 vs) h
theorem v_Mach_begin (l : Launch) : Ctr l y_Mach_begin prog_5_method_4_code 3 none rm_Mach_begin X_Mach_begin := by
  refine Ctr_of (own := "PackLanes$Machine") (B := B_Mach_begin) (KR := fun _ Q => Q) (by decide) rfl (fun _ _ _ z => z) (fun _ _ _ _ z => ⟨Or.inl ⟨rfl, rfl⟩, z⟩) (Or.inl rfl) (fun κ hl ho hR hrt hn0 => ?_)
  subst hl
  unfold B_Mach_begin
  exact (S_sq (pc1 := 6) (S_FI f_Mach_18 ho (pc1 := 1) (pc2 := 3) (E_aln d_Mach_begin_0 rfl) (E_bi d_Mach_begin_1 rfl) d_Mach_begin_3)
    (S_sq (pc1 := 14) (S_FI f_Mach_22 ho (pc1 := 7) (pc2 := 11) (E_aln d_Mach_begin_6 rfl) (E_aI (pc1 := 8) (pc2 := 10) (E_aln d_Mach_begin_7 rfl) (E_bi d_Mach_begin_8 rfl) d_Mach_begin_10) d_Mach_begin_11)
    (S_sq (pc1 := 26) (S_cp w_ac_Mach_50 w_acn w_acs w_aci ho (rk1 hR rfl) (pc1 := 15) (pc2 := 16) (pc3 := 20) (pc4 := 21) (pS := 23) (E_aln d_Mach_begin_14 rfl) (E_ic d_Mach_begin_15 rfl) (E_fR f_Mach_9 ho (pc1 := 17) (E_aln d_Mach_begin_16 rfl) d_Mach_begin_17) (E_ic d_Mach_begin_20 rfl) (E_bi d_Mach_begin_21 rfl) d_Mach_begin_23)
    (S_sq (pc1 := 47) (S_cut (S_sq (pc1 := 28) (S_In (pc1 := 27) (E_ic d_Mach_begin_26 rfl) d_Mach_begin_27 rfl)
    (S_lp (pT := 34) (pF := 47) (pS := 41) (pG := 44) (J2_lt (pF := 47) (pc1 := 29) (pc2 := 31) (E_iln d_Mach_begin_28 rfl) (E_bi d_Mach_begin_29 rfl) d_Mach_begin_31 rfl)
    (S_AI (pc1 := 38) (pc2 := 39) (pc3 := 40) (E_fR f_Mach_15 ho (pc1 := 35) (E_aln d_Mach_begin_34 rfl) d_Mach_begin_35) (E_iln d_Mach_begin_38 rfl) (E_ic d_Mach_begin_39 rfl) d_Mach_begin_40)
    (S_Inc d_Mach_begin_41 rfl) d_Mach_begin_44 rfl)))
    (S_rv hrt d_Mach_begin_47)))))
theorem d_Mach_carryOut_0 : decode prog_5_method_5_code 0 = .ok (.aload_n 0, 1) := by decide +kernel
theorem d_Mach_carryOut_1 : decode prog_5_method_5_code 1 = .ok (.getfield 15, 3) := by decide +kernel
theorem d_Mach_carryOut_4 : decode prog_5_method_5_code 4 = .ok (.aload_n 0, 1) := by decide +kernel
theorem d_Mach_carryOut_5 : decode prog_5_method_5_code 5 = .ok (.getfield 25, 3) := by decide +kernel
theorem d_Mach_carryOut_8 : decode prog_5_method_5_code 8 = .ok (.getfield 56, 3) := by decide +kernel
theorem d_Mach_carryOut_11 : decode prog_5_method_5_code 11 = .ok (.iload_n 1, 1) := by decide +kernel
theorem d_Mach_carryOut_12 : decode prog_5_method_5_code 12 = .ok (.iaload, 1) := by decide +kernel
theorem d_Mach_carryOut_13 : decode prog_5_method_5_code 13 = .ok (.iaload, 1) := by decide +kernel
theorem d_Mach_carryOut_14 : decode prog_5_method_5_code 14 = .ok (.istore_n 2, 1) := by decide +kernel
theorem d_Mach_carryOut_15 : decode prog_5_method_5_code 15 = .ok (.aload_n 0, 1) := by decide +kernel
theorem d_Mach_carryOut_16 : decode prog_5_method_5_code 16 = .ok (.getfield 15, 3) := by decide +kernel
theorem d_Mach_carryOut_19 : decode prog_5_method_5_code 19 = .ok (.aload_n 0, 1) := by decide +kernel
theorem d_Mach_carryOut_20 : decode prog_5_method_5_code 20 = .ok (.getfield 25, 3) := by decide +kernel
theorem d_Mach_carryOut_23 : decode prog_5_method_5_code 23 = .ok (.getfield 59, 3) := by decide +kernel
theorem d_Mach_carryOut_26 : decode prog_5_method_5_code 26 = .ok (.iload_n 1, 1) := by decide +kernel
theorem d_Mach_carryOut_27 : decode prog_5_method_5_code 27 = .ok (.iaload, 1) := by decide +kernel
theorem d_Mach_carryOut_28 : decode prog_5_method_5_code 28 = .ok (.iaload, 1) := by decide +kernel
theorem d_Mach_carryOut_29 : decode prog_5_method_5_code 29 = .ok (.istore_n 3, 1) := by decide +kernel
theorem d_Mach_carryOut_30 : decode prog_5_method_5_code 30 = .ok (.aload_n 0, 1) := by decide +kernel
theorem d_Mach_carryOut_31 : decode prog_5_method_5_code 31 = .ok (.getfield 25, 3) := by decide +kernel
theorem d_Mach_carryOut_34 : decode prog_5_method_5_code 34 = .ok (.getfield 62, 3) := by decide +kernel
theorem d_Mach_carryOut_37 : decode prog_5_method_5_code 37 = .ok (.iload_n 1, 1) := by decide +kernel
theorem d_Mach_carryOut_38 : decode prog_5_method_5_code 38 = .ok (.iaload, 1) := by decide +kernel
theorem d_Mach_carryOut_39 : decode prog_5_method_5_code 39 = .ok (.tableswitch 141 0 5 #[37, 63, 81, 93, 105, 117], 37) := by decide +kernel
theorem d_Mach_carryOut_76 : decode prog_5_method_5_code 76 = .ok (.aload_n 0, 1) := by decide +kernel
theorem d_Mach_carryOut_77 : decode prog_5_method_5_code 77 = .ok (.getfield 15, 3) := by decide +kernel
theorem d_Mach_carryOut_80 : decode prog_5_method_5_code 80 = .ok (.iload_n 1, 1) := by decide +kernel
theorem d_Mach_carryOut_81 : decode prog_5_method_5_code 81 = .ok (.aload_n 0, 1) := by decide +kernel
theorem d_Mach_carryOut_82 : decode prog_5_method_5_code 82 = .ok (.getfield 9, 3) := by decide +kernel
theorem d_Mach_carryOut_85 : decode prog_5_method_5_code 85 = .ok (.aload_n 0, 1) := by decide +kernel
theorem d_Mach_carryOut_86 : decode prog_5_method_5_code 86 = .ok (.getfield 25, 3) := by decide +kernel
theorem d_Mach_carryOut_89 : decode prog_5_method_5_code 89 = .ok (.iload_n 1, 1) := by decide +kernel
theorem d_Mach_carryOut_90 : decode prog_5_method_5_code 90 = .ok (.aload_n 0, 1) := by decide +kernel
theorem d_Mach_carryOut_91 : decode prog_5_method_5_code 91 = .ok (.getfield 22, 3) := by decide +kernel
theorem d_Mach_carryOut_94 : decode prog_5_method_5_code 94 = .ok (.invokevirtual 65, 3) := by decide +kernel
theorem d_Mach_carryOut_97 : decode prog_5_method_5_code 97 = .ok (.iaload, 1) := by decide +kernel
theorem d_Mach_carryOut_98 : decode prog_5_method_5_code 98 = .ok (.iastore, 1) := by decide +kernel
theorem d_Mach_carryOut_99 : decode prog_5_method_5_code 99 = .ok (.goto 99, 3) := by decide +kernel
theorem d_Mach_carryOut_102 : decode prog_5_method_5_code 102 = .ok (.aload_n 0, 1) := by decide +kernel
theorem d_Mach_carryOut_103 : decode prog_5_method_5_code 103 = .ok (.getfield 15, 3) := by decide +kernel
theorem d_Mach_carryOut_106 : decode prog_5_method_5_code 106 = .ok (.iload_n 1, 1) := by decide +kernel
theorem d_Mach_carryOut_107 : decode prog_5_method_5_code 107 = .ok (.aload_n 0, 1) := by decide +kernel
theorem d_Mach_carryOut_108 : decode prog_5_method_5_code 108 = .ok (.getfield 25, 3) := by decide +kernel
theorem d_Mach_carryOut_111 : decode prog_5_method_5_code 111 = .ok (.getfield 69, 3) := by decide +kernel
theorem d_Mach_carryOut_114 : decode prog_5_method_5_code 114 = .ok (.iload_n 1, 1) := by decide +kernel
theorem d_Mach_carryOut_115 : decode prog_5_method_5_code 115 = .ok (.iaload, 1) := by decide +kernel
theorem d_Mach_carryOut_116 : decode prog_5_method_5_code 116 = .ok (.iastore, 1) := by decide +kernel
theorem d_Mach_carryOut_117 : decode prog_5_method_5_code 117 = .ok (.goto 81, 3) := by decide +kernel
theorem d_Mach_carryOut_120 : decode prog_5_method_5_code 120 = .ok (.aload_n 0, 1) := by decide +kernel
theorem d_Mach_carryOut_121 : decode prog_5_method_5_code 121 = .ok (.getfield 15, 3) := by decide +kernel
theorem d_Mach_carryOut_124 : decode prog_5_method_5_code 124 = .ok (.iload_n 1, 1) := by decide +kernel
theorem d_Mach_carryOut_125 : decode prog_5_method_5_code 125 = .ok (.iload_n 2, 1) := by decide +kernel
theorem d_Mach_carryOut_126 : decode prog_5_method_5_code 126 = .ok (.iload_n 3, 1) := by decide +kernel
theorem d_Mach_carryOut_127 : decode prog_5_method_5_code 127 = .ok (.iadd, 1) := by decide +kernel
theorem d_Mach_carryOut_128 : decode prog_5_method_5_code 128 = .ok (.iastore, 1) := by decide +kernel
theorem d_Mach_carryOut_129 : decode prog_5_method_5_code 129 = .ok (.goto 69, 3) := by decide +kernel
theorem d_Mach_carryOut_132 : decode prog_5_method_5_code 132 = .ok (.aload_n 0, 1) := by decide +kernel
theorem d_Mach_carryOut_133 : decode prog_5_method_5_code 133 = .ok (.getfield 15, 3) := by decide +kernel
theorem d_Mach_carryOut_136 : decode prog_5_method_5_code 136 = .ok (.iload_n 1, 1) := by decide +kernel
theorem d_Mach_carryOut_137 : decode prog_5_method_5_code 137 = .ok (.iload_n 2, 1) := by decide +kernel
theorem d_Mach_carryOut_138 : decode prog_5_method_5_code 138 = .ok (.iload_n 3, 1) := by decide +kernel
theorem d_Mach_carryOut_139 : decode prog_5_method_5_code 139 = .ok (.isub, 1) := by decide +kernel
theorem d_Mach_carryOut_140 : decode prog_5_method_5_code 140 = .ok (.iastore, 1) := by decide +kernel
theorem d_Mach_carryOut_141 : decode prog_5_method_5_code 141 = .ok (.goto 57, 3) := by decide +kernel
theorem d_Mach_carryOut_144 : decode prog_5_method_5_code 144 = .ok (.aload_n 0, 1) := by decide +kernel
theorem d_Mach_carryOut_145 : decode prog_5_method_5_code 145 = .ok (.getfield 15, 3) := by decide +kernel
theorem d_Mach_carryOut_148 : decode prog_5_method_5_code 148 = .ok (.iload_n 1, 1) := by decide +kernel
theorem d_Mach_carryOut_149 : decode prog_5_method_5_code 149 = .ok (.iload_n 2, 1) := by decide +kernel
theorem d_Mach_carryOut_150 : decode prog_5_method_5_code 150 = .ok (.iload_n 3, 1) := by decide +kernel
theorem d_Mach_carryOut_151 : decode prog_5_method_5_code 151 = .ok (.imul, 1) := by decide +kernel
theorem d_Mach_carryOut_152 : decode prog_5_method_5_code 152 = .ok (.iastore, 1) := by decide +kernel
theorem d_Mach_carryOut_153 : decode prog_5_method_5_code 153 = .ok (.goto 45, 3) := by decide +kernel
theorem d_Mach_carryOut_156 : decode prog_5_method_5_code 156 = .ok (.iload_n 3, 1) := by decide +kernel
theorem d_Mach_carryOut_157 : decode prog_5_method_5_code 157 = .ok (.ifCond .ne 11, 3) := by decide +kernel
theorem d_Mach_carryOut_160 : decode prog_5_method_5_code 160 = .ok (.aload_n 0, 1) := by decide +kernel
theorem d_Mach_carryOut_161 : decode prog_5_method_5_code 161 = .ok (.iload_n 1, 1) := by decide +kernel
theorem d_Mach_carryOut_162 : decode prog_5_method_5_code 162 = .ok (.putfield 18, 3) := by decide +kernel
theorem d_Mach_carryOut_165 : decode prog_5_method_5_code 165 = .ok (.goto 33, 3) := by decide +kernel
theorem d_Mach_carryOut_168 : decode prog_5_method_5_code 168 = .ok (.aload_n 0, 1) := by decide +kernel
theorem d_Mach_carryOut_169 : decode prog_5_method_5_code 169 = .ok (.getfield 15, 3) := by decide +kernel
theorem d_Mach_carryOut_172 : decode prog_5_method_5_code 172 = .ok (.iload_n 1, 1) := by decide +kernel
theorem d_Mach_carryOut_173 : decode prog_5_method_5_code 173 = .ok (.iload_n 2, 1) := by decide +kernel
theorem d_Mach_carryOut_174 : decode prog_5_method_5_code 174 = .ok (.iload_n 3, 1) := by decide +kernel
theorem d_Mach_carryOut_175 : decode prog_5_method_5_code 175 = .ok (.idiv, 1) := by decide +kernel
theorem d_Mach_carryOut_176 : decode prog_5_method_5_code 176 = .ok (.iastore, 1) := by decide +kernel
theorem d_Mach_carryOut_177 : decode prog_5_method_5_code 177 = .ok (.goto 21, 3) := by decide +kernel
theorem d_Mach_carryOut_180 : decode prog_5_method_5_code 180 = .ok (.aload_n 0, 1) := by decide +kernel
theorem d_Mach_carryOut_181 : decode prog_5_method_5_code 181 = .ok (.getfield 9, 3) := by decide +kernel
theorem d_Mach_carryOut_184 : decode prog_5_method_5_code 184 = .ok (.aload_n 0, 1) := by decide +kernel
theorem d_Mach_carryOut_185 : decode prog_5_method_5_code 185 = .ok (.getfield 25, 3) := by decide +kernel
theorem d_Mach_carryOut_188 : decode prog_5_method_5_code 188 = .ok (.iload_n 1, 1) := by decide +kernel
theorem d_Mach_carryOut_189 : decode prog_5_method_5_code 189 = .ok (.aload_n 0, 1) := by decide +kernel
theorem d_Mach_carryOut_190 : decode prog_5_method_5_code 190 = .ok (.getfield 22, 3) := by decide +kernel
theorem d_Mach_carryOut_193 : decode prog_5_method_5_code 193 = .ok (.invokevirtual 65, 3) := by decide +kernel
theorem d_Mach_carryOut_196 : decode prog_5_method_5_code 196 = .ok (.iload_n 2, 1) := by decide +kernel
theorem d_Mach_carryOut_197 : decode prog_5_method_5_code 197 = .ok (.iastore, 1) := by decide +kernel
theorem d_Mach_carryOut_198 : decode prog_5_method_5_code 198 = .ok (.return_, 1) := by decide +kernel
def B_Mach_carryOut (_ : Nat × Nat) : PS :=
  (sSq (sI 2 (eAI (eFR 3 2 (eR 0)) (eAI (eFR 1 4 (eFR 3 0 (eR 0))) (eI 1))))
    (sSq (sI 3 (eAI (eFR 3 2 (eR 0)) (eAI (eFR 1 5 (eFR 3 0 (eR 0))) (eI 1))))
    (sSq (sSw 4 (eAI (eFR 1 0 (eFR 3 0 (eR 0))) (eI 1)) [(0, 0), (1, 1), (2, 2), (3, 3), (4, 4), (5, 5)] 6 [(sSq (sAI (eFR 3 2 (eR 0)) (eI 1) (eAI (eFR 3 1 (eR 0)) (eX .int (xV 1 2 X_Code_addressOf (eFR 3 0 (eR 0)) (aC .int (eI 1) (aC .int (eFI 3 4 (eR 0)) aN))))))
    sBk),
    (sSq (sAI (eFR 3 2 (eR 0)) (eI 1) (eAI (eFR 1 3 (eFR 3 0 (eR 0))) (eI 1)))
    sBk),
    (sSq (sAI (eFR 3 2 (eR 0)) (eI 1) (e2 (fun x y : Int32 => x + y) (eI 2) (eI 3)))
    sBk),
    (sSq (sAI (eFR 3 2 (eR 0)) (eI 1) (e2 (fun x y : Int32 => x - y) (eI 2) (eI 3)))
    sBk),
    (sSq (sAI (eFR 3 2 (eR 0)) (eI 1) (e2 (fun x y : Int32 => x * y) (eI 2) (eI 3)))
    sBk),
    (sSq (sIf (e1 (fun x : Int32 => decide (x = 0)) (eI 3)) (sF .int 3 3 (eR 0) (eI 1)) (sAI (eFR 3 2 (eR 0)) (eI 1) (eDI (fun x y : Int32 => x / y) (eI 2) (eI 3))))
    sBk),
    (sSq (sAI (eFR 3 1 (eR 0)) (eX .int (xV 1 2 X_Code_addressOf (eFR 3 0 (eR 0)) (aC .int (eI 1) (aC .int (eFI 3 4 (eR 0)) aN)))) (eI 2))
    sBk)])
    sRv)))
def X_Mach_carryOut : PM := fun vs h Q => (lx vs).length ≤ 4 ∧ B_Mach_carryOut (h.length + 0, hsz h + 0) (fun _ _ => False) (fun _ _ => False) (fun _ _ => False) Q (lini 4 vs) h
theorem v_Mach_carryOut (l : Launch) : Ctr l y_Mach_carryOut prog_5_method_5_code 4 none rm_Mach_carryOut X_Mach_carryOut := by
  refine Ctr_of (own := "PackLanes$Machine") (B := B_Mach_carryOut) (KR := fun _ Q => Q) (by decide) rfl (fun _ _ _ z => z) (fun _ _ _ _ z => ⟨Or.inl ⟨rfl, rfl⟩, z⟩) (Or.inl rfl) (fun κ hl ho hR hrt hn0 => ?_)
  subst hl
  unfold B_Mach_carryOut
  exact (S_sq (pc1 := 15) (S_In (pc1 := 14) (E_aI (pc1 := 4) (pc2 := 13) (E_fR f_Mach_15 ho (pc1 := 1) (E_aln d_Mach_carryOut_0 rfl) d_Mach_carryOut_1) (E_aI (pc1 := 11) (pc2 := 12) (E_fR f_Mach_56 ho (pc1 := 8) (E_fR f_Mach_25 ho (pc1 := 5) (E_aln d_Mach_carryOut_4 rfl) d_Mach_carryOut_5) d_Mach_carryOut_8) (E_iln d_Mach_carryOut_11 rfl) d_Mach_carryOut_12) d_Mach_carryOut_13) d_Mach_carryOut_14 rfl)
    (S_sq (pc1 := 30) (S_In (pc1 := 29) (E_aI (pc1 := 19) (pc2 := 28) (E_fR f_Mach_15 ho (pc1 := 16) (E_aln d_Mach_carryOut_15 rfl) d_Mach_carryOut_16) (E_aI (pc1 := 26) (pc2 := 27) (E_fR f_Mach_59 ho (pc1 := 23) (E_fR f_Mach_25 ho (pc1 := 20) (E_aln d_Mach_carryOut_19 rfl) d_Mach_carryOut_20) d_Mach_carryOut_23) (E_iln d_Mach_carryOut_26 rfl) d_Mach_carryOut_27) d_Mach_carryOut_28) d_Mach_carryOut_29 rfl)
    (S_sq (pc1 := 198) (S_sw (pcs := [76, 102, 120, 132, 144, 156, 180, 198]) (pc1 := 39) (pN := 198) (E_aI (pc1 := 37) (pc2 := 38) (E_fR f_Mach_62 ho (pc1 := 34) (E_fR f_Mach_25 ho (pc1 := 31) (E_aln d_Mach_carryOut_30 rfl) d_Mach_carryOut_31) d_Mach_carryOut_34) (E_iln d_Mach_carryOut_37 rfl) d_Mach_carryOut_38) (fun _ _ _ k => r_tsw d_Mach_carryOut_39 (by decide +kernel) k) (And.intro (S_sq (pc1 := 99) (S_AI (pc1 := 80) (pc2 := 81) (pc3 := 98) (E_fR f_Mach_15 ho (pc1 := 77) (E_aln d_Mach_carryOut_76 rfl) d_Mach_carryOut_77) (E_iln d_Mach_carryOut_80 rfl) (E_aI (pc1 := 85) (pc2 := 97) (E_fR f_Mach_9 ho (pc1 := 82) (E_aln d_Mach_carryOut_81 rfl) d_Mach_carryOut_82) (E_x (O_V k_Mach_65 (v_Code_addressOf _) ⟨rfl, rfl⟩ ho (rk hR rfl) (by decide) (T := KT1) (N := 7) rfl (by decide) (pc1 := 89) (pc2 := 94) (E_fR f_Mach_25 ho (pc1 := 86) (E_aln d_Mach_carryOut_85 rfl) d_Mach_carryOut_86) (A_c catI (pc1 := 90) (E_iln d_Mach_carryOut_89 rfl) (A_c catI (pc1 := 94) (E_fI f_Mach_22 ho (pc1 := 91) (E_aln d_Mach_carryOut_90 rfl) d_Mach_carryOut_91) A_n)) d_Mach_carryOut_94)) d_Mach_carryOut_97) d_Mach_carryOut_98)
    (S_bk d_Mach_carryOut_99 rfl))
    (And.intro (S_sq (pc1 := 117) (S_AI (pc1 := 106) (pc2 := 107) (pc3 := 116) (E_fR f_Mach_15 ho (pc1 := 103) (E_aln d_Mach_carryOut_102 rfl) d_Mach_carryOut_103) (E_iln d_Mach_carryOut_106 rfl) (E_aI (pc1 := 114) (pc2 := 115) (E_fR f_Mach_69 ho (pc1 := 111) (E_fR f_Mach_25 ho (pc1 := 108) (E_aln d_Mach_carryOut_107 rfl) d_Mach_carryOut_108) d_Mach_carryOut_111) (E_iln d_Mach_carryOut_114 rfl) d_Mach_carryOut_115) d_Mach_carryOut_116)
    (S_bk d_Mach_carryOut_117 rfl))
    (And.intro (S_sq (pc1 := 129) (S_AI (pc1 := 124) (pc2 := 125) (pc3 := 128) (E_fR f_Mach_15 ho (pc1 := 121) (E_aln d_Mach_carryOut_120 rfl) d_Mach_carryOut_121) (E_iln d_Mach_carryOut_124 rfl) (E_iadd (pc1 := 126) (pc2 := 127) (E_iln d_Mach_carryOut_125 rfl) (E_iln d_Mach_carryOut_126 rfl) d_Mach_carryOut_127) d_Mach_carryOut_128)
    (S_bk d_Mach_carryOut_129 rfl))
    (And.intro (S_sq (pc1 := 141) (S_AI (pc1 := 136) (pc2 := 137) (pc3 := 140) (E_fR f_Mach_15 ho (pc1 := 133) (E_aln d_Mach_carryOut_132 rfl) d_Mach_carryOut_133) (E_iln d_Mach_carryOut_136 rfl) (E_isub (pc1 := 138) (pc2 := 139) (E_iln d_Mach_carryOut_137 rfl) (E_iln d_Mach_carryOut_138 rfl) d_Mach_carryOut_139) d_Mach_carryOut_140)
    (S_bk d_Mach_carryOut_141 rfl))
    (And.intro (S_sq (pc1 := 153) (S_AI (pc1 := 148) (pc2 := 149) (pc3 := 152) (E_fR f_Mach_15 ho (pc1 := 145) (E_aln d_Mach_carryOut_144 rfl) d_Mach_carryOut_145) (E_iln d_Mach_carryOut_148 rfl) (E_imul (pc1 := 150) (pc2 := 151) (E_iln d_Mach_carryOut_149 rfl) (E_iln d_Mach_carryOut_150 rfl) d_Mach_carryOut_151) d_Mach_carryOut_152)
    (S_bk d_Mach_carryOut_153 rfl))
    (And.intro (S_sqb (S_if2 (pT := 160) (pF := 168) (pN := 198) (J1_eq (pF := 168) (pc2 := 157) (E_iln d_Mach_carryOut_156 rfl) d_Mach_carryOut_157 rfl) (S_go (pc1 := 165) (S_FI f_Mach_18 ho (pc1 := 161) (pc2 := 162) (E_aln d_Mach_carryOut_160 rfl) (E_iln d_Mach_carryOut_161 rfl) d_Mach_carryOut_162) d_Mach_carryOut_165 rfl) (S_go (pc1 := 177) (S_AI (pc1 := 172) (pc2 := 173) (pc3 := 176) (E_fR f_Mach_15 ho (pc1 := 169) (E_aln d_Mach_carryOut_168 rfl) d_Mach_carryOut_169) (E_iln d_Mach_carryOut_172 rfl) (E_idiv (pc1 := 174) (pc2 := 175) (E_iln d_Mach_carryOut_173 rfl) (E_iln d_Mach_carryOut_174 rfl) d_Mach_carryOut_175) d_Mach_carryOut_176) d_Mach_carryOut_177 rfl)))
    (And.intro (S_sq (pc1 := 198) (S_AI (pc1 := 184) (pc2 := 196) (pc3 := 197) (E_fR f_Mach_9 ho (pc1 := 181) (E_aln d_Mach_carryOut_180 rfl) d_Mach_carryOut_181) (E_x (O_V k_Mach_65 (v_Code_addressOf _) ⟨rfl, rfl⟩ ho (rk hR rfl) (by decide) (T := KT1) (N := 7) rfl (by decide) (pc1 := 188) (pc2 := 193) (E_fR f_Mach_25 ho (pc1 := 185) (E_aln d_Mach_carryOut_184 rfl) d_Mach_carryOut_185) (A_c catI (pc1 := 189) (E_iln d_Mach_carryOut_188 rfl) (A_c catI (pc1 := 193) (E_fI f_Mach_22 ho (pc1 := 190) (E_aln d_Mach_carryOut_189 rfl) d_Mach_carryOut_190) A_n)) d_Mach_carryOut_193)) (E_iln d_Mach_carryOut_196 rfl) d_Mach_carryOut_197)
    S_bk0)
    rfl))))))) (by decide))
    (S_rv hrt d_Mach_carryOut_198))))
theorem d_Mach_runInOrder_0 : decode prog_5_method_2_code 0 = .ok (.aload_n 0, 1) := by decide +kernel
theorem d_Mach_runInOrder_1 : decode prog_5_method_2_code 1 = .ok (.aload_n 1, 1) := by decide +kernel
theorem d_Mach_runInOrder_2 : decode prog_5_method_2_code 2 = .ok (.invokevirtual 29, 3) := by decide +kernel
theorem d_Mach_runInOrder_5 : decode prog_5_method_2_code 5 = .ok (.iconst 0, 1) := by decide +kernel
theorem d_Mach_runInOrder_6 : decode prog_5_method_2_code 6 = .ok (.istore_n 3, 1) := by decide +kernel
theorem d_Mach_runInOrder_7 : decode prog_5_method_2_code 7 = .ok (.iload_n 3, 1) := by decide +kernel
theorem d_Mach_runInOrder_8 : decode prog_5_method_2_code 8 = .ok (.aload_n 0, 1) := by decide +kernel
theorem d_Mach_runInOrder_9 : decode prog_5_method_2_code 9 = .ok (.getfield 25, 3) := by decide +kernel
theorem d_Mach_runInOrder_12 : decode prog_5_method_2_code 12 = .ok (.getfield 33, 3) := by decide +kernel
theorem d_Mach_runInOrder_15 : decode prog_5_method_2_code 15 = .ok (.if_icmp .ge 28, 3) := by decide +kernel
theorem d_Mach_runInOrder_18 : decode prog_5_method_2_code 18 = .ok (.aload_n 0, 1) := by decide +kernel
theorem d_Mach_runInOrder_19 : decode prog_5_method_2_code 19 = .ok (.getfield 18, 3) := by decide +kernel
theorem d_Mach_runInOrder_22 : decode prog_5_method_2_code 22 = .ok (.bipush (-9), 2) := by decide +kernel
theorem d_Mach_runInOrder_24 : decode prog_5_method_2_code 24 = .ok (.if_icmp .ne 19, 3) := by decide +kernel
theorem d_Mach_runInOrder_27 : decode prog_5_method_2_code 27 = .ok (.iload_n 3, 1) := by decide +kernel
theorem d_Mach_runInOrder_28 : decode prog_5_method_2_code 28 = .ok (.iload_n 2, 1) := by decide +kernel
theorem d_Mach_runInOrder_29 : decode prog_5_method_2_code 29 = .ok (.if_icmp .eq 8, 3) := by decide +kernel
theorem d_Mach_runInOrder_32 : decode prog_5_method_2_code 32 = .ok (.aload_n 0, 1) := by decide +kernel
theorem d_Mach_runInOrder_33 : decode prog_5_method_2_code 33 = .ok (.iload_n 3, 1) := by decide +kernel
theorem d_Mach_runInOrder_34 : decode prog_5_method_2_code 34 = .ok (.invokevirtual 38, 3) := by decide +kernel
theorem d_Mach_runInOrder_37 : decode prog_5_method_2_code 37 = .ok (.iinc 3 1, 3) := by decide +kernel
theorem d_Mach_runInOrder_40 : decode prog_5_method_2_code 40 = .ok (.goto (-33), 3) := by decide +kernel
theorem d_Mach_runInOrder_43 : decode prog_5_method_2_code 43 = .ok (.return_, 1) := by decide +kernel
def B_Mach_runInOrder (_ : Nat × Nat) : PS :=
  (sSq (sX (xV 3 1 X_Mach_begin (eR 0) (aC .ref (eR 1) aN)))
    (sSq (sCut 3 (sSq (sI 3 (eV (0 : Int32)))
    (sLp 4 (cA (e2 (fun x y : Int32 => decide (x < y)) (eI 3) (eFI 1 6 (eFR 3 0 (eR 0)))) (e2 (fun x y : Int32 => decide (x = y)) (eFI 3 3 (eR 0)) (eV (-9 : Int32))))
    (sIf (e2 (fun x y : Int32 => decide (¬ x = y)) (eI 3) (eI 2)) (sX (xV 3 1 X_Mach_carryOut (eR 0) (aC .int (eI 3) aN))) sSk)
    (sInc 3 (1)))))
    sRv))
def X_Mach_runInOrder : PM := fun vs h Q => (lx vs).length ≤ 4 ∧ B_Mach_runInOrder (h.length + 0, hsz h + 0) (fun _ _ => False) (fun _ _ => False) (fun _ _ => False) Q (lini 4 vs) h
theorem v_Mach_runInOrder (l : Launch) : Ctr l y_Mach_runInOrder prog_5_method_2_code 4 none rm_Mach_runInOrder X_Mach_runInOrder := by
  refine Ctr_of (own := "PackLanes$Machine") (B := B_Mach_runInOrder) (KR := fun _ Q => Q) (by decide) rfl (fun _ _ _ z => z) (fun _ _ _ _ z => ⟨Or.inl ⟨rfl, rfl⟩, z⟩) (Or.inl rfl) (fun κ hl ho hR hrt hn0 => ?_)
  subst hl
  unfold B_Mach_runInOrder
  exact (S_sq (pc1 := 5) (S_X (O_V k_Mach_29 (v_Mach_begin _) ⟨rfl, rfl⟩ ho (rk hR rfl) (by decide) (T := KT3) (N := 5) rfl (by decide) (pc1 := 1) (pc2 := 2) (E_aln d_Mach_runInOrder_0 rfl) (A_c catR (pc1 := 2) (E_aln d_Mach_runInOrder_1 rfl) A_n) d_Mach_runInOrder_2))
    (S_sq (pc1 := 43) (S_cut (S_sq (pc1 := 7) (S_In (pc1 := 6) (E_ic d_Mach_runInOrder_5 rfl) d_Mach_runInOrder_6 rfl)
    (S_lp (pT := 27) (pF := 43) (pS := 37) (pG := 40) (C_and (pc1 := 18) (J2_lt (pF := 43) (pc1 := 8) (pc2 := 15) (E_iln d_Mach_runInOrder_7 rfl) (E_fI f_Mach_33 ho (pc1 := 12) (E_fR f_Mach_25 ho (pc1 := 9) (E_aln d_Mach_runInOrder_8 rfl) d_Mach_runInOrder_9) d_Mach_runInOrder_12) d_Mach_runInOrder_15 rfl) (J2_eq (pF := 43) (pc1 := 22) (pc2 := 24) (E_fI f_Mach_18 ho (pc1 := 19) (E_aln d_Mach_runInOrder_18 rfl) d_Mach_runInOrder_19) (E_bi d_Mach_runInOrder_22 rfl) d_Mach_runInOrder_24 rfl))
    (S_if1 (pT := 32) (pF := 37) (J2_ne (pF := 37) (pc1 := 28) (pc2 := 29) (E_iln d_Mach_runInOrder_27 rfl) (E_iln d_Mach_runInOrder_28 rfl) d_Mach_runInOrder_29 rfl) (S_X (O_V k_Mach_38 (v_Mach_carryOut _) ⟨rfl, rfl⟩ ho (rk hR rfl) (by decide) (T := KT3) (N := 5) rfl (by decide) (pc1 := 33) (pc2 := 34) (E_aln d_Mach_runInOrder_32 rfl) (A_c catI (pc1 := 34) (E_iln d_Mach_runInOrder_33 rfl) A_n) d_Mach_runInOrder_34)))
    (S_Inc d_Mach_runInOrder_37 rfl) d_Mach_runInOrder_40 rfl)))
    (S_rv hrt d_Mach_runInOrder_43)))
theorem d_Mach_runPacked_0 : decode prog_5_method_3_code 0 = .ok (.aload_n 0, 1) := by decide +kernel
theorem d_Mach_runPacked_1 : decode prog_5_method_3_code 1 = .ok (.aload_n 1, 1) := by decide +kernel
theorem d_Mach_runPacked_2 : decode prog_5_method_3_code 2 = .ok (.invokevirtual 29, 3) := by decide +kernel
theorem d_Mach_runPacked_5 : decode prog_5_method_3_code 5 = .ok (.iconst 0, 1) := by decide +kernel
theorem d_Mach_runPacked_6 : decode prog_5_method_3_code 6 = .ok (.istore_n 3, 1) := by decide +kernel
theorem d_Mach_runPacked_7 : decode prog_5_method_3_code 7 = .ok (.iload_n 3, 1) := by decide +kernel
theorem d_Mach_runPacked_8 : decode prog_5_method_3_code 8 = .ok (.aload_n 2, 1) := by decide +kernel
theorem d_Mach_runPacked_9 : decode prog_5_method_3_code 9 = .ok (.getfield 42, 3) := by decide +kernel
theorem d_Mach_runPacked_12 : decode prog_5_method_3_code 12 = .ok (.if_icmp .ge 34, 3) := by decide +kernel
theorem d_Mach_runPacked_15 : decode prog_5_method_3_code 15 = .ok (.iload_n 3, 1) := by decide +kernel
theorem d_Mach_runPacked_16 : decode prog_5_method_3_code 16 = .ok (.bipush 16, 2) := by decide +kernel
theorem d_Mach_runPacked_18 : decode prog_5_method_3_code 18 = .ok (.if_icmp .ge 28, 3) := by decide +kernel
theorem d_Mach_runPacked_21 : decode prog_5_method_3_code 21 = .ok (.aload_n 0, 1) := by decide +kernel
theorem d_Mach_runPacked_22 : decode prog_5_method_3_code 22 = .ok (.getfield 18, 3) := by decide +kernel
theorem d_Mach_runPacked_25 : decode prog_5_method_3_code 25 = .ok (.bipush (-9), 2) := by decide +kernel
theorem d_Mach_runPacked_27 : decode prog_5_method_3_code 27 = .ok (.if_icmp .ne 19, 3) := by decide +kernel
theorem d_Mach_runPacked_30 : decode prog_5_method_3_code 30 = .ok (.aload_n 0, 1) := by decide +kernel
theorem d_Mach_runPacked_31 : decode prog_5_method_3_code 31 = .ok (.aload_n 2, 1) := by decide +kernel
theorem d_Mach_runPacked_32 : decode prog_5_method_3_code 32 = .ok (.getfield 47, 3) := by decide +kernel
theorem d_Mach_runPacked_35 : decode prog_5_method_3_code 35 = .ok (.iload_n 3, 1) := by decide +kernel
theorem d_Mach_runPacked_36 : decode prog_5_method_3_code 36 = .ok (.iaload, 1) := by decide +kernel
theorem d_Mach_runPacked_37 : decode prog_5_method_3_code 37 = .ok (.invokevirtual 38, 3) := by decide +kernel
theorem d_Mach_runPacked_40 : decode prog_5_method_3_code 40 = .ok (.iinc 3 1, 3) := by decide +kernel
theorem d_Mach_runPacked_43 : decode prog_5_method_3_code 43 = .ok (.goto (-36), 3) := by decide +kernel
theorem d_Mach_runPacked_46 : decode prog_5_method_3_code 46 = .ok (.return_, 1) := by decide +kernel
def B_Mach_runPacked (_ : Nat × Nat) : PS :=
  (sSq (sX (xV 3 1 X_Mach_begin (eR 0) (aC .ref (eR 1) aN)))
    (sSq (sCut 3 (sSq (sI 3 (eV (0 : Int32)))
    (sLp 4 (cA (cA (e2 (fun x y : Int32 => decide (x < y)) (eI 3) (eFI 4 9 (eR 2))) (e2 (fun x y : Int32 => decide (x < y)) (eI 3) (eV (16 : Int32)))) (e2 (fun x y : Int32 => decide (x = y)) (eFI 3 3 (eR 0)) (eV (-9 : Int32))))
    (sX (xV 3 1 X_Mach_carryOut (eR 0) (aC .int (eAI (eFR 4 8 (eR 2)) (eI 3)) aN)))
    (sInc 3 (1)))))
    sRv))
def X_Mach_runPacked : PM := fun vs h Q => (lx vs).length ≤ 4 ∧ B_Mach_runPacked (h.length + 0, hsz h + 0) (fun _ _ => False) (fun _ _ => False) (fun _ _ => False) Q (lini 4 vs) h
theorem v_Mach_runPacked (l : Launch) : Ctr l y_Mach_runPacked prog_5_method_3_code 4 none rm_Mach_runPacked X_Mach_runPacked := by
  refine Ctr_of (own := "PackLanes$Machine") (B := B_Mach_runPacked) (KR := fun _ Q => Q) (by decide) rfl (fun _ _ _ z => z) (fun _ _ _ _ z => ⟨Or.inl ⟨rfl, rfl⟩, z⟩) (Or.inl rfl) (fun κ hl ho hR hrt hn0 => ?_)
  subst hl
  unfold B_Mach_runPacked
  exact (S_sq (pc1 := 5) (S_X (O_V k_Mach_29 (v_Mach_begin _) ⟨rfl, rfl⟩ ho (rk hR rfl) (by decide) (T := KT3) (N := 5) rfl (by decide) (pc1 := 1) (pc2 := 2) (E_aln d_Mach_runPacked_0 rfl) (A_c catR (pc1 := 2) (E_aln d_Mach_runPacked_1 rfl) A_n) d_Mach_runPacked_2))
    (S_sq (pc1 := 46) (S_cut (S_sq (pc1 := 7) (S_In (pc1 := 6) (E_ic d_Mach_runPacked_5 rfl) d_Mach_runPacked_6 rfl)
    (S_lp (pT := 30) (pF := 46) (pS := 40) (pG := 43) (C_and (pc1 := 21) (C_and (pc1 := 15) (J2_lt (pF := 46) (pc1 := 8) (pc2 := 12) (E_iln d_Mach_runPacked_7 rfl) (E_fI f_Mach_42 ho (pc1 := 9) (E_aln d_Mach_runPacked_8 rfl) d_Mach_runPacked_9) d_Mach_runPacked_12 rfl) (J2_lt (pF := 46) (pc1 := 16) (pc2 := 18) (E_iln d_Mach_runPacked_15 rfl) (E_bi d_Mach_runPacked_16 rfl) d_Mach_runPacked_18 rfl)) (J2_eq (pF := 46) (pc1 := 25) (pc2 := 27) (E_fI f_Mach_18 ho (pc1 := 22) (E_aln d_Mach_runPacked_21 rfl) d_Mach_runPacked_22) (E_bi d_Mach_runPacked_25 rfl) d_Mach_runPacked_27 rfl))
    (S_X (O_V k_Mach_38 (v_Mach_carryOut _) ⟨rfl, rfl⟩ ho (rk hR rfl) (by decide) (T := KT3) (N := 5) rfl (by decide) (pc1 := 31) (pc2 := 37) (E_aln d_Mach_runPacked_30 rfl) (A_c catI (pc1 := 37) (E_aI (pc1 := 35) (pc2 := 36) (E_fR f_Mach_47 ho (pc1 := 32) (E_aln d_Mach_runPacked_31 rfl) d_Mach_runPacked_32) (E_iln d_Mach_runPacked_35 rfl) d_Mach_runPacked_36) A_n) d_Mach_runPacked_37))
    (S_Inc d_Mach_runPacked_40 rfl) d_Mach_runPacked_43 rfl)))
    (S_rv hrt d_Mach_runPacked_46)))
theorem d_PL_about_0 : decode prog_1_method_6_code 0 = .ok (.iload_n 1, 1) := by decide +kernel
theorem d_PL_about_1 : decode prog_1_method_6_code 1 = .ok (.tableswitch 228 0 14 #[75, 83, 91, 99, 107, 115, 131, 139, 147, 155, 176, 199, 204, 212, 220], 75) := by decide +kernel
theorem d_PL_about_76 : decode prog_1_method_6_code 76 = .ok (.aload_n 0, 1) := by decide +kernel
theorem d_PL_about_77 : decode prog_1_method_6_code 77 = .ok (.getfield 19, 3) := by decide +kernel
theorem d_PL_about_80 : decode prog_1_method_6_code 80 = .ok (.getfield 109, 3) := by decide +kernel
theorem d_PL_about_83 : decode prog_1_method_6_code 83 = .ok (.ireturn, 1) := by decide +kernel
theorem d_PL_about_84 : decode prog_1_method_6_code 84 = .ok (.aload_n 0, 1) := by decide +kernel
theorem d_PL_about_85 : decode prog_1_method_6_code 85 = .ok (.getfield 26, 3) := by decide +kernel
theorem d_PL_about_88 : decode prog_1_method_6_code 88 = .ok (.bipush 16, 2) := by decide +kernel
theorem d_PL_about_90 : decode prog_1_method_6_code 90 = .ok (.iaload, 1) := by decide +kernel
theorem d_PL_about_91 : decode prog_1_method_6_code 91 = .ok (.ireturn, 1) := by decide +kernel
theorem d_PL_about_92 : decode prog_1_method_6_code 92 = .ok (.aload_n 0, 1) := by decide +kernel
theorem d_PL_about_93 : decode prog_1_method_6_code 93 = .ok (.getfield 26, 3) := by decide +kernel
theorem d_PL_about_96 : decode prog_1_method_6_code 96 = .ok (.bipush 17, 2) := by decide +kernel
theorem d_PL_about_98 : decode prog_1_method_6_code 98 = .ok (.iaload, 1) := by decide +kernel
theorem d_PL_about_99 : decode prog_1_method_6_code 99 = .ok (.ireturn, 1) := by decide +kernel
theorem d_PL_about_100 : decode prog_1_method_6_code 100 = .ok (.aload_n 0, 1) := by decide +kernel
theorem d_PL_about_101 : decode prog_1_method_6_code 101 = .ok (.getfield 26, 3) := by decide +kernel
theorem d_PL_about_104 : decode prog_1_method_6_code 104 = .ok (.bipush 18, 2) := by decide +kernel
theorem d_PL_about_106 : decode prog_1_method_6_code 106 = .ok (.iaload, 1) := by decide +kernel
theorem d_PL_about_107 : decode prog_1_method_6_code 107 = .ok (.ireturn, 1) := by decide +kernel
theorem d_PL_about_108 : decode prog_1_method_6_code 108 = .ok (.aload_n 0, 1) := by decide +kernel
theorem d_PL_about_109 : decode prog_1_method_6_code 109 = .ok (.getfield 19, 3) := by decide +kernel
theorem d_PL_about_112 : decode prog_1_method_6_code 112 = .ok (.invokevirtual 113, 3) := by decide +kernel
theorem d_PL_about_115 : decode prog_1_method_6_code 115 = .ok (.ireturn, 1) := by decide +kernel
theorem d_PL_about_116 : decode prog_1_method_6_code 116 = .ok (.aload_n 0, 1) := by decide +kernel
theorem d_PL_about_117 : decode prog_1_method_6_code 117 = .ok (.getfield 19, 3) := by decide +kernel
theorem d_PL_about_120 : decode prog_1_method_6_code 120 = .ok (.invokevirtual 113, 3) := by decide +kernel
theorem d_PL_about_123 : decode prog_1_method_6_code 123 = .ok (.aload_n 0, 1) := by decide +kernel
theorem d_PL_about_124 : decode prog_1_method_6_code 124 = .ok (.getfield 65, 3) := by decide +kernel
theorem d_PL_about_127 : decode prog_1_method_6_code 127 = .ok (.getfield 116, 3) := by decide +kernel
theorem d_PL_about_130 : decode prog_1_method_6_code 130 = .ok (.isub, 1) := by decide +kernel
theorem d_PL_about_131 : decode prog_1_method_6_code 131 = .ok (.ireturn, 1) := by decide +kernel
theorem d_PL_about_132 : decode prog_1_method_6_code 132 = .ok (.aload_n 0, 1) := by decide +kernel
theorem d_PL_about_133 : decode prog_1_method_6_code 133 = .ok (.getfield 65, 3) := by decide +kernel
theorem d_PL_about_136 : decode prog_1_method_6_code 136 = .ok (.getfield 119, 3) := by decide +kernel
theorem d_PL_about_139 : decode prog_1_method_6_code 139 = .ok (.ireturn, 1) := by decide +kernel
theorem d_PL_about_140 : decode prog_1_method_6_code 140 = .ok (.aload_n 0, 1) := by decide +kernel
theorem d_PL_about_141 : decode prog_1_method_6_code 141 = .ok (.getfield 65, 3) := by decide +kernel
theorem d_PL_about_144 : decode prog_1_method_6_code 144 = .ok (.getfield 122, 3) := by decide +kernel
theorem d_PL_about_147 : decode prog_1_method_6_code 147 = .ok (.ireturn, 1) := by decide +kernel
theorem d_PL_about_148 : decode prog_1_method_6_code 148 = .ok (.aload_n 0, 1) := by decide +kernel
theorem d_PL_about_149 : decode prog_1_method_6_code 149 = .ok (.getfield 65, 3) := by decide +kernel
theorem d_PL_about_152 : decode prog_1_method_6_code 152 = .ok (.getfield 125, 3) := by decide +kernel
theorem d_PL_about_155 : decode prog_1_method_6_code 155 = .ok (.ireturn, 1) := by decide +kernel
theorem d_PL_about_156 : decode prog_1_method_6_code 156 = .ok (.aload_n 0, 1) := by decide +kernel
theorem d_PL_about_157 : decode prog_1_method_6_code 157 = .ok (.getfield 75, 3) := by decide +kernel
theorem d_PL_about_160 : decode prog_1_method_6_code 160 = .ok (.aload_n 0, 1) := by decide +kernel
theorem d_PL_about_161 : decode prog_1_method_6_code 161 = .ok (.getfield 26, 3) := by decide +kernel
theorem d_PL_about_164 : decode prog_1_method_6_code 164 = .ok (.bipush (-9), 2) := by decide +kernel
theorem d_PL_about_166 : decode prog_1_method_6_code 166 = .ok (.invokevirtual 128, 3) := by decide +kernel
theorem d_PL_about_169 : decode prog_1_method_6_code 169 = .ok (.aload_n 0, 1) := by decide +kernel
theorem d_PL_about_170 : decode prog_1_method_6_code 170 = .ok (.getfield 75, 3) := by decide +kernel
theorem d_PL_about_173 : decode prog_1_method_6_code 173 = .ok (.getfield 131, 3) := by decide +kernel
theorem d_PL_about_176 : decode prog_1_method_6_code 176 = .ok (.ireturn, 1) := by decide +kernel
theorem d_PL_about_177 : decode prog_1_method_6_code 177 = .ok (.aload_n 0, 1) := by decide +kernel
theorem d_PL_about_178 : decode prog_1_method_6_code 178 = .ok (.getfield 75, 3) := by decide +kernel
theorem d_PL_about_181 : decode prog_1_method_6_code 181 = .ok (.aload_n 0, 1) := by decide +kernel
theorem d_PL_about_182 : decode prog_1_method_6_code 182 = .ok (.getfield 26, 3) := by decide +kernel
theorem d_PL_about_185 : decode prog_1_method_6_code 185 = .ok (.aload_n 0, 1) := by decide +kernel
theorem d_PL_about_186 : decode prog_1_method_6_code 186 = .ok (.getfield 65, 3) := by decide +kernel
theorem d_PL_about_189 : decode prog_1_method_6_code 189 = .ok (.invokevirtual 134, 3) := by decide +kernel
theorem d_PL_about_192 : decode prog_1_method_6_code 192 = .ok (.aload_n 0, 1) := by decide +kernel
theorem d_PL_about_193 : decode prog_1_method_6_code 193 = .ok (.getfield 75, 3) := by decide +kernel
theorem d_PL_about_196 : decode prog_1_method_6_code 196 = .ok (.getfield 131, 3) := by decide +kernel
theorem d_PL_about_199 : decode prog_1_method_6_code 199 = .ok (.ireturn, 1) := by decide +kernel
theorem d_PL_about_200 : decode prog_1_method_6_code 200 = .ok (.aload_n 0, 1) := by decide +kernel
theorem d_PL_about_201 : decode prog_1_method_6_code 201 = .ok (.invokevirtual 138, 3) := by decide +kernel
theorem d_PL_about_204 : decode prog_1_method_6_code 204 = .ok (.ireturn, 1) := by decide +kernel
theorem d_PL_about_205 : decode prog_1_method_6_code 205 = .ok (.aload_n 0, 1) := by decide +kernel
theorem d_PL_about_206 : decode prog_1_method_6_code 206 = .ok (.getfield 42, 3) := by decide +kernel
theorem d_PL_about_209 : decode prog_1_method_6_code 209 = .ok (.getfield 141, 3) := by decide +kernel
theorem d_PL_about_212 : decode prog_1_method_6_code 212 = .ok (.ireturn, 1) := by decide +kernel
theorem d_PL_about_213 : decode prog_1_method_6_code 213 = .ok (.aload_n 0, 1) := by decide +kernel
theorem d_PL_about_214 : decode prog_1_method_6_code 214 = .ok (.getfield 56, 3) := by decide +kernel
theorem d_PL_about_217 : decode prog_1_method_6_code 217 = .ok (.getfield 142, 3) := by decide +kernel
theorem d_PL_about_220 : decode prog_1_method_6_code 220 = .ok (.ireturn, 1) := by decide +kernel
theorem d_PL_about_221 : decode prog_1_method_6_code 221 = .ok (.aload_n 0, 1) := by decide +kernel
theorem d_PL_about_222 : decode prog_1_method_6_code 222 = .ok (.getfield 10, 3) := by decide +kernel
theorem d_PL_about_225 : decode prog_1_method_6_code 225 = .ok (.getfield 143, 3) := by decide +kernel
theorem d_PL_about_228 : decode prog_1_method_6_code 228 = .ok (.ireturn, 1) := by decide +kernel
theorem d_PL_about_229 : decode prog_1_method_6_code 229 = .ok (.bipush (-2), 2) := by decide +kernel
theorem d_PL_about_231 : decode prog_1_method_6_code 231 = .ok (.ireturn, 1) := by decide +kernel
def B_PL_about (_ : Nat × Nat) : PS :=
  (sSw 2 (eI 1) [(0, 0), (1, 1), (2, 2), (3, 3), (4, 4), (5, 5), (6, 6), (7, 7), (8, 8), (9, 9), (10, 10), (11, 11), (12, 12), (13, 13), (14, 14)] 15 [(sRt .int (eFI 1 6 (eFR 9 1 (eR 0)))),
    (sRt .int (eAI (eFR 9 3 (eR 0)) (eV (16 : Int32)))),
    (sRt .int (eAI (eFR 9 3 (eR 0)) (eV (17 : Int32)))),
    (sRt .int (eAI (eFR 9 3 (eR 0)) (eV (18 : Int32)))),
    (sRt .int (eX .int (xV 1 0 X_Code_cost (eFR 9 1 (eR 0)) aN))),
    (sRt .int (e2 (fun x y : Int32 => x - y) (eX .int (xV 1 0 X_Code_cost (eFR 9 1 (eR 0)) aN)) (eFI 4 13 (eFR 9 10 (eR 0))))),
    (sRt .int (eFI 4 10 (eFR 9 10 (eR 0)))),
    (sRt .int (eFI 4 11 (eFR 9 10 (eR 0)))),
    (sRt .int (eFI 4 12 (eFR 9 10 (eR 0)))),
    (sSq (sX (xV 3 2 X_Mach_runInOrder (eFR 9 12 (eR 0)) (aC .ref (eFR 9 3 (eR 0)) (aC .int (eV (-9 : Int32)) aN))))
    (sRt .int (eFI 3 3 (eFR 9 12 (eR 0))))),
    (sSq (sX (xV 3 2 X_Mach_runPacked (eFR 9 12 (eR 0)) (aC .ref (eFR 9 3 (eR 0)) (aC .ref (eFR 9 10 (eR 0)) aN))))
    (sRt .int (eFI 3 3 (eFR 9 12 (eR 0))))),
    (sRt .int (eX .int (xV 9 0 X_PL_bestWidth (eR 0) aN))),
    (sRt .int (eFI 0 2 (eFR 9 7 (eR 0)))),
    (sRt .int (eFI 5 2 (eFR 9 9 (eR 0)))),
    (sRt .int (eFI 7 2 (eFR 9 0 (eR 0)))),
    (sRt .int (eV (-2 : Int32)))])
def X_PL_about : PM := fun vs h Q => (lx vs).length ≤ 2 ∧ B_PL_about (h.length + 0, hsz h + 0) (fun _ _ => False) (fun _ _ => False) (fun _ _ => False) Q (lini 2 vs) h
theorem v_PL_about (l : Launch) : Ctr l y_PL_about prog_1_method_6_code 2 (some .int) rm_PL_about X_PL_about := by
  refine Ctr_of (own := "PackLanes") (B := B_PL_about) (KR := fun _ Q => Q) (by decide) rfl (fun _ _ _ z => z) (fun _ _ _ _ z => ⟨Or.inl ⟨rfl, rfl⟩, z⟩) (Or.inr (Or.inl rfl)) (fun κ hl ho hR hrt hn0 => ?_)
  subst hl
  unfold B_PL_about
  exact (S_sw (pcs := [76, 84, 92, 100, 108, 116, 132, 140, 148, 156, 177, 200, 205, 213, 221, 229, _]) (pc1 := 1)  (E_iln d_PL_about_0 rfl) (fun _ _ _ k => r_tsw d_PL_about_1 (by decide +kernel) k) (And.intro (S_ri hrt (pc1 := 83) (E_fI f_PL_109 ho (pc1 := 80) (E_fR f_PL_19 ho (pc1 := 77) (E_aln d_PL_about_76 rfl) d_PL_about_77) d_PL_about_80) d_PL_about_83)
    (And.intro (S_ri hrt (pc1 := 91) (E_aI (pc1 := 88) (pc2 := 90) (E_fR f_PL_26 ho (pc1 := 85) (E_aln d_PL_about_84 rfl) d_PL_about_85) (E_bi d_PL_about_88 rfl) d_PL_about_90) d_PL_about_91)
    (And.intro (S_ri hrt (pc1 := 99) (E_aI (pc1 := 96) (pc2 := 98) (E_fR f_PL_26 ho (pc1 := 93) (E_aln d_PL_about_92 rfl) d_PL_about_93) (E_bi d_PL_about_96 rfl) d_PL_about_98) d_PL_about_99)
    (And.intro (S_ri hrt (pc1 := 107) (E_aI (pc1 := 104) (pc2 := 106) (E_fR f_PL_26 ho (pc1 := 101) (E_aln d_PL_about_100 rfl) d_PL_about_101) (E_bi d_PL_about_104 rfl) d_PL_about_106) d_PL_about_107)
    (And.intro (S_ri hrt (pc1 := 115) (E_x (O_V k_PL_113 (v_Code_cost _) ⟨rfl, rfl⟩ ho (rk hR rfl) (by decide) (T := KT1) (N := 7) rfl (by decide) (pc1 := 112) (pc2 := 112) (E_fR f_PL_19 ho (pc1 := 109) (E_aln d_PL_about_108 rfl) d_PL_about_109) A_n d_PL_about_112)) d_PL_about_115)
    (And.intro (S_ri hrt (pc1 := 131) (E_isub (pc1 := 123) (pc2 := 130) (E_x (O_V k_PL_113 (v_Code_cost _) ⟨rfl, rfl⟩ ho (rk hR rfl) (by decide) (T := KT1) (N := 7) rfl (by decide) (pc1 := 120) (pc2 := 120) (E_fR f_PL_19 ho (pc1 := 117) (E_aln d_PL_about_116 rfl) d_PL_about_117) A_n d_PL_about_120)) (E_fI f_PL_116 ho (pc1 := 127) (E_fR f_PL_65 ho (pc1 := 124) (E_aln d_PL_about_123 rfl) d_PL_about_124) d_PL_about_127) d_PL_about_130) d_PL_about_131)
    (And.intro (S_ri hrt (pc1 := 139) (E_fI f_PL_119 ho (pc1 := 136) (E_fR f_PL_65 ho (pc1 := 133) (E_aln d_PL_about_132 rfl) d_PL_about_133) d_PL_about_136) d_PL_about_139)
    (And.intro (S_ri hrt (pc1 := 147) (E_fI f_PL_122 ho (pc1 := 144) (E_fR f_PL_65 ho (pc1 := 141) (E_aln d_PL_about_140 rfl) d_PL_about_141) d_PL_about_144) d_PL_about_147)
    (And.intro (S_ri hrt (pc1 := 155) (E_fI f_PL_125 ho (pc1 := 152) (E_fR f_PL_65 ho (pc1 := 149) (E_aln d_PL_about_148 rfl) d_PL_about_149) d_PL_about_152) d_PL_about_155)
    (And.intro (S_sq (pc1 := 169) (S_X (O_V k_PL_128 (v_Mach_runInOrder _) ⟨rfl, rfl⟩ ho (rk hR rfl) (by decide) (T := KT3) (N := 5) rfl (by decide) (pc1 := 160) (pc2 := 166) (E_fR f_PL_75 ho (pc1 := 157) (E_aln d_PL_about_156 rfl) d_PL_about_157) (A_c catR (pc1 := 164) (E_fR f_PL_26 ho (pc1 := 161) (E_aln d_PL_about_160 rfl) d_PL_about_161) (A_c catI (pc1 := 166) (E_bi d_PL_about_164 rfl) A_n)) d_PL_about_166))
    (S_ri hrt (pc1 := 176) (E_fI f_PL_131 ho (pc1 := 173) (E_fR f_PL_75 ho (pc1 := 170) (E_aln d_PL_about_169 rfl) d_PL_about_170) d_PL_about_173) d_PL_about_176))
    (And.intro (S_sq (pc1 := 192) (S_X (O_V k_PL_134 (v_Mach_runPacked _) ⟨rfl, rfl⟩ ho (rk hR rfl) (by decide) (T := KT3) (N := 5) rfl (by decide) (pc1 := 181) (pc2 := 189) (E_fR f_PL_75 ho (pc1 := 178) (E_aln d_PL_about_177 rfl) d_PL_about_178) (A_c catR (pc1 := 185) (E_fR f_PL_26 ho (pc1 := 182) (E_aln d_PL_about_181 rfl) d_PL_about_182) (A_c catR (pc1 := 189) (E_fR f_PL_65 ho (pc1 := 186) (E_aln d_PL_about_185 rfl) d_PL_about_186) A_n)) d_PL_about_189))
    (S_ri hrt (pc1 := 199) (E_fI f_PL_131 ho (pc1 := 196) (E_fR f_PL_75 ho (pc1 := 193) (E_aln d_PL_about_192 rfl) d_PL_about_193) d_PL_about_196) d_PL_about_199))
    (And.intro (S_ri hrt (pc1 := 204) (E_x (O_V k_PL_138 (v_PL_bestWidth _) ⟨rfl, rfl⟩ ho (rk hR rfl) (by decide) (T := KT9) (N := 15) rfl (by decide) (pc1 := 201) (pc2 := 201) (E_aln d_PL_about_200 rfl) A_n d_PL_about_201)) d_PL_about_204)
    (And.intro (S_ri hrt (pc1 := 212) (E_fI f_PL_141 ho (pc1 := 209) (E_fR f_PL_42 ho (pc1 := 206) (E_aln d_PL_about_205 rfl) d_PL_about_206) d_PL_about_209) d_PL_about_212)
    (And.intro (S_ri hrt (pc1 := 220) (E_fI f_PL_142 ho (pc1 := 217) (E_fR f_PL_56 ho (pc1 := 214) (E_aln d_PL_about_213 rfl) d_PL_about_214) d_PL_about_217) d_PL_about_220)
    (And.intro (S_ri hrt (pc1 := 228) (E_fN (C := KR7) (T := KT7) (by decide) rfl (by decide) Ki7 w_fn_PL_143 ho (pc1 := 225) (E_fR f_PL_10 ho (pc1 := 222) (E_aln d_PL_about_221 rfl) d_PL_about_222) d_PL_about_225) d_PL_about_228)
    (And.intro (S_ri hrt (pc1 := 231) (E_bi d_PL_about_229 rfl) d_PL_about_231)
    rfl)))))))))))))))) (by decide))
theorem d_PL_instruction_0 : decode prog_1_method_7_code 0 = .ok (.aload_n 0, 1) := by decide +kernel
theorem d_PL_instruction_1 : decode prog_1_method_7_code 1 = .ok (.getfield 19, 3) := by decide +kernel
theorem d_PL_instruction_4 : decode prog_1_method_7_code 4 = .ok (.iload_n 1, 1) := by decide +kernel
theorem d_PL_instruction_5 : decode prog_1_method_7_code 5 = .ok (.invokevirtual 146, 3) := by decide +kernel
theorem d_PL_instruction_8 : decode prog_1_method_7_code 8 = .ok (.ifCond .ne 5, 3) := by decide +kernel
theorem d_PL_instruction_11 : decode prog_1_method_7_code 11 = .ok (.iconst (-1), 1) := by decide +kernel
theorem d_PL_instruction_12 : decode prog_1_method_7_code 12 = .ok (.ireturn, 1) := by decide +kernel
theorem d_PL_instruction_13 : decode prog_1_method_7_code 13 = .ok (.iload_n 2, 1) := by decide +kernel
theorem d_PL_instruction_14 : decode prog_1_method_7_code 14 = .ok (.tableswitch 117 0 5 #[38, 48, 58, 68, 78, 94], 38) := by decide +kernel
theorem d_PL_instruction_52 : decode prog_1_method_7_code 52 = .ok (.aload_n 0, 1) := by decide +kernel
theorem d_PL_instruction_53 : decode prog_1_method_7_code 53 = .ok (.getfield 19, 3) := by decide +kernel
theorem d_PL_instruction_56 : decode prog_1_method_7_code 56 = .ok (.getfield 150, 3) := by decide +kernel
theorem d_PL_instruction_59 : decode prog_1_method_7_code 59 = .ok (.iload_n 1, 1) := by decide +kernel
theorem d_PL_instruction_60 : decode prog_1_method_7_code 60 = .ok (.iaload, 1) := by decide +kernel
theorem d_PL_instruction_61 : decode prog_1_method_7_code 61 = .ok (.ireturn, 1) := by decide +kernel
theorem d_PL_instruction_62 : decode prog_1_method_7_code 62 = .ok (.aload_n 0, 1) := by decide +kernel
theorem d_PL_instruction_63 : decode prog_1_method_7_code 63 = .ok (.getfield 65, 3) := by decide +kernel
theorem d_PL_instruction_66 : decode prog_1_method_7_code 66 = .ok (.getfield 153, 3) := by decide +kernel
theorem d_PL_instruction_69 : decode prog_1_method_7_code 69 = .ok (.iload_n 1, 1) := by decide +kernel
theorem d_PL_instruction_70 : decode prog_1_method_7_code 70 = .ok (.iaload, 1) := by decide +kernel
theorem d_PL_instruction_71 : decode prog_1_method_7_code 71 = .ok (.ireturn, 1) := by decide +kernel
theorem d_PL_instruction_72 : decode prog_1_method_7_code 72 = .ok (.aload_n 0, 1) := by decide +kernel
theorem d_PL_instruction_73 : decode prog_1_method_7_code 73 = .ok (.getfield 65, 3) := by decide +kernel
theorem d_PL_instruction_76 : decode prog_1_method_7_code 76 = .ok (.getfield 156, 3) := by decide +kernel
theorem d_PL_instruction_79 : decode prog_1_method_7_code 79 = .ok (.iload_n 1, 1) := by decide +kernel
theorem d_PL_instruction_80 : decode prog_1_method_7_code 80 = .ok (.iaload, 1) := by decide +kernel
theorem d_PL_instruction_81 : decode prog_1_method_7_code 81 = .ok (.ireturn, 1) := by decide +kernel
theorem d_PL_instruction_82 : decode prog_1_method_7_code 82 = .ok (.aload_n 0, 1) := by decide +kernel
theorem d_PL_instruction_83 : decode prog_1_method_7_code 83 = .ok (.getfield 65, 3) := by decide +kernel
theorem d_PL_instruction_86 : decode prog_1_method_7_code 86 = .ok (.getfield 159, 3) := by decide +kernel
theorem d_PL_instruction_89 : decode prog_1_method_7_code 89 = .ok (.iload_n 1, 1) := by decide +kernel
theorem d_PL_instruction_90 : decode prog_1_method_7_code 90 = .ok (.iaload, 1) := by decide +kernel
theorem d_PL_instruction_91 : decode prog_1_method_7_code 91 = .ok (.ireturn, 1) := by decide +kernel
theorem d_PL_instruction_92 : decode prog_1_method_7_code 92 = .ok (.aload_n 0, 1) := by decide +kernel
theorem d_PL_instruction_93 : decode prog_1_method_7_code 93 = .ok (.getfield 65, 3) := by decide +kernel
theorem d_PL_instruction_96 : decode prog_1_method_7_code 96 = .ok (.getfield 162, 3) := by decide +kernel
theorem d_PL_instruction_99 : decode prog_1_method_7_code 99 = .ok (.getfield 166, 3) := by decide +kernel
theorem d_PL_instruction_102 : decode prog_1_method_7_code 102 = .ok (.iload_n 1, 1) := by decide +kernel
theorem d_PL_instruction_103 : decode prog_1_method_7_code 103 = .ok (.iaload, 1) := by decide +kernel
theorem d_PL_instruction_104 : decode prog_1_method_7_code 104 = .ok (.invokestatic 171, 3) := by decide +kernel
theorem d_PL_instruction_107 : decode prog_1_method_7_code 107 = .ok (.ireturn, 1) := by decide +kernel
theorem d_PL_instruction_108 : decode prog_1_method_7_code 108 = .ok (.aload_n 0, 1) := by decide +kernel
theorem d_PL_instruction_109 : decode prog_1_method_7_code 109 = .ok (.getfield 75, 3) := by decide +kernel
theorem d_PL_instruction_112 : decode prog_1_method_7_code 112 = .ok (.aload_n 0, 1) := by decide +kernel
theorem d_PL_instruction_113 : decode prog_1_method_7_code 113 = .ok (.getfield 26, 3) := by decide +kernel
theorem d_PL_instruction_116 : decode prog_1_method_7_code 116 = .ok (.bipush (-9), 2) := by decide +kernel
theorem d_PL_instruction_118 : decode prog_1_method_7_code 118 = .ok (.invokevirtual 128, 3) := by decide +kernel
theorem d_PL_instruction_121 : decode prog_1_method_7_code 121 = .ok (.aload_n 0, 1) := by decide +kernel
theorem d_PL_instruction_122 : decode prog_1_method_7_code 122 = .ok (.getfield 75, 3) := by decide +kernel
theorem d_PL_instruction_125 : decode prog_1_method_7_code 125 = .ok (.getfield 176, 3) := by decide +kernel
theorem d_PL_instruction_128 : decode prog_1_method_7_code 128 = .ok (.iload_n 1, 1) := by decide +kernel
theorem d_PL_instruction_129 : decode prog_1_method_7_code 129 = .ok (.iaload, 1) := by decide +kernel
theorem d_PL_instruction_130 : decode prog_1_method_7_code 130 = .ok (.ireturn, 1) := by decide +kernel
theorem d_PL_instruction_131 : decode prog_1_method_7_code 131 = .ok (.bipush (-2), 2) := by decide +kernel
theorem d_PL_instruction_133 : decode prog_1_method_7_code 133 = .ok (.ireturn, 1) := by decide +kernel
def B_PL_instruction (_ : Nat × Nat) : PS :=
  (sSq (sIf (cN (e1 (fun x : Int32 => decide (¬ x = 0)) (eX .int (xV 1 1 X_Code_has (eFR 9 1 (eR 0)) (aC .int (eI 1) aN))))) (sRt .int (eV (-1 : Int32))) sSk)
    (sSw 3 (eI 2) [(0, 0), (1, 1), (2, 2), (3, 3), (4, 4), (5, 5)] 6 [(sRt .int (eAI (eFR 1 0 (eFR 9 1 (eR 0))) (eI 1))),
    (sRt .int (eAI (eFR 4 5 (eFR 9 10 (eR 0))) (eI 1))),
    (sRt .int (eAI (eFR 4 6 (eFR 9 10 (eR 0))) (eI 1))),
    (sRt .int (eAI (eFR 4 7 (eFR 9 10 (eR 0))) (eI 1))),
    (sRt .int (eX .int (xS 1 X_Int_bitCount (aC .int (eAI (eFR 2 2 (eFR 4 1 (eFR 9 10 (eR 0)))) (eI 1)) aN)))),
    (sSq (sX (xV 3 2 X_Mach_runInOrder (eFR 9 12 (eR 0)) (aC .ref (eFR 9 3 (eR 0)) (aC .int (eV (-9 : Int32)) aN))))
    (sRt .int (eAI (eFR 3 2 (eFR 9 12 (eR 0))) (eI 1)))),
    (sRt .int (eV (-2 : Int32)))]))
def X_PL_instruction : PM := fun vs h Q => (lx vs).length ≤ 3 ∧ B_PL_instruction (h.length + 0, hsz h + 0) (fun _ _ => False) (fun _ _ => False) (fun _ _ => False) Q (lini 3 vs) h
theorem v_PL_instruction (l : Launch) : Ctr l y_PL_instruction prog_1_method_7_code 3 (some .int) rm_PL_instruction X_PL_instruction := by
  refine Ctr_of (own := "PackLanes") (B := B_PL_instruction) (KR := fun _ Q => Q) (by decide) rfl (fun _ _ _ z => z) (fun _ _ _ _ z => ⟨Or.inl ⟨rfl, rfl⟩, z⟩) (Or.inr (Or.inl rfl)) (fun κ hl ho hR hrt hn0 => ?_)
  subst hl
  unfold B_PL_instruction
  exact (S_sq (pc1 := 13) (S_if1 (pT := 11) (pF := 13) (C_not (T1_ne (pT := 13) (pc2 := 8) (E_x (O_V k_PL_146 (v_Code_has _) ⟨rfl, rfl⟩ ho (rk hR rfl) (by decide) (T := KT1) (N := 7) rfl (by decide) (pc1 := 4) (pc2 := 5) (E_fR f_PL_19 ho (pc1 := 1) (E_aln d_PL_instruction_0 rfl) d_PL_instruction_1) (A_c catI (pc1 := 5) (E_iln d_PL_instruction_4 rfl) A_n) d_PL_instruction_5)) d_PL_instruction_8 rfl)) (S_ri hrt (pc1 := 12) (E_ic d_PL_instruction_11 rfl) d_PL_instruction_12))
    (S_sw (pcs := [52, 62, 72, 82, 92, 108, 131, _]) (pc1 := 14)  (E_iln d_PL_instruction_13 rfl) (fun _ _ _ k => r_tsw d_PL_instruction_14 (by decide +kernel) k) (And.intro (S_ri hrt (pc1 := 61) (E_aI (pc1 := 59) (pc2 := 60) (E_fR f_PL_150 ho (pc1 := 56) (E_fR f_PL_19 ho (pc1 := 53) (E_aln d_PL_instruction_52 rfl) d_PL_instruction_53) d_PL_instruction_56) (E_iln d_PL_instruction_59 rfl) d_PL_instruction_60) d_PL_instruction_61)
    (And.intro (S_ri hrt (pc1 := 71) (E_aI (pc1 := 69) (pc2 := 70) (E_fR f_PL_153 ho (pc1 := 66) (E_fR f_PL_65 ho (pc1 := 63) (E_aln d_PL_instruction_62 rfl) d_PL_instruction_63) d_PL_instruction_66) (E_iln d_PL_instruction_69 rfl) d_PL_instruction_70) d_PL_instruction_71)
    (And.intro (S_ri hrt (pc1 := 81) (E_aI (pc1 := 79) (pc2 := 80) (E_fR f_PL_156 ho (pc1 := 76) (E_fR f_PL_65 ho (pc1 := 73) (E_aln d_PL_instruction_72 rfl) d_PL_instruction_73) d_PL_instruction_76) (E_iln d_PL_instruction_79 rfl) d_PL_instruction_80) d_PL_instruction_81)
    (And.intro (S_ri hrt (pc1 := 91) (E_aI (pc1 := 89) (pc2 := 90) (E_fR f_PL_159 ho (pc1 := 86) (E_fR f_PL_65 ho (pc1 := 83) (E_aln d_PL_instruction_82 rfl) d_PL_instruction_83) d_PL_instruction_86) (E_iln d_PL_instruction_89 rfl) d_PL_instruction_90) d_PL_instruction_91)
    (And.intro (S_ri hrt (pc1 := 107) (E_x (O_S k_PL_171 (v_Int_bitCount _) ⟨rfl, rfl⟩ ho (rk hR rfl) (by decide) (pc2 := 104) (A_c catI (pc1 := 104) (E_aI (pc1 := 102) (pc2 := 103) (E_fR f_PL_166 ho (pc1 := 99) (E_fR f_PL_162 ho (pc1 := 96) (E_fR f_PL_65 ho (pc1 := 93) (E_aln d_PL_instruction_92 rfl) d_PL_instruction_93) d_PL_instruction_96) d_PL_instruction_99) (E_iln d_PL_instruction_102 rfl) d_PL_instruction_103) A_n) d_PL_instruction_104)) d_PL_instruction_107)
    (And.intro (S_sq (pc1 := 121) (S_X (O_V k_PL_128 (v_Mach_runInOrder _) ⟨rfl, rfl⟩ ho (rk hR rfl) (by decide) (T := KT3) (N := 5) rfl (by decide) (pc1 := 112) (pc2 := 118) (E_fR f_PL_75 ho (pc1 := 109) (E_aln d_PL_instruction_108 rfl) d_PL_instruction_109) (A_c catR (pc1 := 116) (E_fR f_PL_26 ho (pc1 := 113) (E_aln d_PL_instruction_112 rfl) d_PL_instruction_113) (A_c catI (pc1 := 118) (E_bi d_PL_instruction_116 rfl) A_n)) d_PL_instruction_118))
    (S_ri hrt (pc1 := 130) (E_aI (pc1 := 128) (pc2 := 129) (E_fR f_PL_176 ho (pc1 := 125) (E_fR f_PL_75 ho (pc1 := 122) (E_aln d_PL_instruction_121 rfl) d_PL_instruction_122) d_PL_instruction_125) (E_iln d_PL_instruction_128 rfl) d_PL_instruction_129) d_PL_instruction_130))
    (And.intro (S_ri hrt (pc1 := 133) (E_bi d_PL_instruction_131 rfl) d_PL_instruction_133)
    rfl))))))) (by decide)))
theorem d_PL_address_0 : decode prog_1_method_8_code 0 = .ok (.iload_n 1, 1) := by decide +kernel
theorem d_PL_address_1 : decode prog_1_method_8_code 1 = .ok (.ifCond .lt 9, 3) := by decide +kernel
theorem d_PL_address_4 : decode prog_1_method_8_code 4 = .ok (.iload_n 1, 1) := by decide +kernel
theorem d_PL_address_5 : decode prog_1_method_8_code 5 = .ok (.bipush 16, 2) := by decide +kernel
theorem d_PL_address_7 : decode prog_1_method_8_code 7 = .ok (.if_icmp .lt 5, 3) := by decide +kernel
theorem d_PL_address_10 : decode prog_1_method_8_code 10 = .ok (.iconst (-1), 1) := by decide +kernel
theorem d_PL_address_11 : decode prog_1_method_8_code 11 = .ok (.ireturn, 1) := by decide +kernel
theorem d_PL_address_12 : decode prog_1_method_8_code 12 = .ok (.iload_n 2, 1) := by decide +kernel
theorem d_PL_address_13 : decode prog_1_method_8_code 13 = .ok (.tableswitch 85 0 2 #[27, 37, 60], 27) := by decide +kernel
theorem d_PL_address_40 : decode prog_1_method_8_code 40 = .ok (.aload_n 0, 1) := by decide +kernel
theorem d_PL_address_41 : decode prog_1_method_8_code 41 = .ok (.getfield 26, 3) := by decide +kernel
theorem d_PL_address_44 : decode prog_1_method_8_code 44 = .ok (.iload_n 1, 1) := by decide +kernel
theorem d_PL_address_45 : decode prog_1_method_8_code 45 = .ok (.iaload, 1) := by decide +kernel
theorem d_PL_address_46 : decode prog_1_method_8_code 46 = .ok (.bipush 100, 2) := by decide +kernel
theorem d_PL_address_48 : decode prog_1_method_8_code 48 = .ok (.iadd, 1) := by decide +kernel
theorem d_PL_address_49 : decode prog_1_method_8_code 49 = .ok (.ireturn, 1) := by decide +kernel
theorem d_PL_address_50 : decode prog_1_method_8_code 50 = .ok (.aload_n 0, 1) := by decide +kernel
theorem d_PL_address_51 : decode prog_1_method_8_code 51 = .ok (.getfield 75, 3) := by decide +kernel
theorem d_PL_address_54 : decode prog_1_method_8_code 54 = .ok (.aload_n 0, 1) := by decide +kernel
theorem d_PL_address_55 : decode prog_1_method_8_code 55 = .ok (.getfield 26, 3) := by decide +kernel
theorem d_PL_address_58 : decode prog_1_method_8_code 58 = .ok (.bipush (-9), 2) := by decide +kernel
theorem d_PL_address_60 : decode prog_1_method_8_code 60 = .ok (.invokevirtual 128, 3) := by decide +kernel
theorem d_PL_address_63 : decode prog_1_method_8_code 63 = .ok (.aload_n 0, 1) := by decide +kernel
theorem d_PL_address_64 : decode prog_1_method_8_code 64 = .ok (.getfield 75, 3) := by decide +kernel
theorem d_PL_address_67 : decode prog_1_method_8_code 67 = .ok (.getfield 179, 3) := by decide +kernel
theorem d_PL_address_70 : decode prog_1_method_8_code 70 = .ok (.iload_n 1, 1) := by decide +kernel
theorem d_PL_address_71 : decode prog_1_method_8_code 71 = .ok (.iaload, 1) := by decide +kernel
theorem d_PL_address_72 : decode prog_1_method_8_code 72 = .ok (.ireturn, 1) := by decide +kernel
theorem d_PL_address_73 : decode prog_1_method_8_code 73 = .ok (.aload_n 0, 1) := by decide +kernel
theorem d_PL_address_74 : decode prog_1_method_8_code 74 = .ok (.getfield 75, 3) := by decide +kernel
theorem d_PL_address_77 : decode prog_1_method_8_code 77 = .ok (.aload_n 0, 1) := by decide +kernel
theorem d_PL_address_78 : decode prog_1_method_8_code 78 = .ok (.getfield 26, 3) := by decide +kernel
theorem d_PL_address_81 : decode prog_1_method_8_code 81 = .ok (.aload_n 0, 1) := by decide +kernel
theorem d_PL_address_82 : decode prog_1_method_8_code 82 = .ok (.getfield 65, 3) := by decide +kernel
theorem d_PL_address_85 : decode prog_1_method_8_code 85 = .ok (.invokevirtual 134, 3) := by decide +kernel
theorem d_PL_address_88 : decode prog_1_method_8_code 88 = .ok (.aload_n 0, 1) := by decide +kernel
theorem d_PL_address_89 : decode prog_1_method_8_code 89 = .ok (.getfield 75, 3) := by decide +kernel
theorem d_PL_address_92 : decode prog_1_method_8_code 92 = .ok (.getfield 179, 3) := by decide +kernel
theorem d_PL_address_95 : decode prog_1_method_8_code 95 = .ok (.iload_n 1, 1) := by decide +kernel
theorem d_PL_address_96 : decode prog_1_method_8_code 96 = .ok (.iaload, 1) := by decide +kernel
theorem d_PL_address_97 : decode prog_1_method_8_code 97 = .ok (.ireturn, 1) := by decide +kernel
theorem d_PL_address_98 : decode prog_1_method_8_code 98 = .ok (.bipush (-2), 2) := by decide +kernel
theorem d_PL_address_100 : decode prog_1_method_8_code 100 = .ok (.ireturn, 1) := by decide +kernel
def B_PL_address (_ : Nat × Nat) : PS :=
  (sSq (sIf (cO (e1 (fun x : Int32 => decide (x < 0)) (eI 1)) (e2 (fun x y : Int32 => decide (y ≤ x)) (eI 1) (eV (16 : Int32)))) (sRt .int (eV (-1 : Int32))) sSk)
    (sSw 3 (eI 2) [(0, 0), (1, 1), (2, 2)] 3 [(sRt .int (e2 (fun x y : Int32 => x + y) (eAI (eFR 9 3 (eR 0)) (eI 1)) (eV (100 : Int32)))),
    (sSq (sX (xV 3 2 X_Mach_runInOrder (eFR 9 12 (eR 0)) (aC .ref (eFR 9 3 (eR 0)) (aC .int (eV (-9 : Int32)) aN))))
    (sRt .int (eAI (eFR 3 1 (eFR 9 12 (eR 0))) (eI 1)))),
    (sSq (sX (xV 3 2 X_Mach_runPacked (eFR 9 12 (eR 0)) (aC .ref (eFR 9 3 (eR 0)) (aC .ref (eFR 9 10 (eR 0)) aN))))
    (sRt .int (eAI (eFR 3 1 (eFR 9 12 (eR 0))) (eI 1)))),
    (sRt .int (eV (-2 : Int32)))]))
def X_PL_address : PM := fun vs h Q => (lx vs).length ≤ 3 ∧ B_PL_address (h.length + 0, hsz h + 0) (fun _ _ => False) (fun _ _ => False) (fun _ _ => False) Q (lini 3 vs) h
theorem v_PL_address (l : Launch) : Ctr l y_PL_address prog_1_method_8_code 3 (some .int) rm_PL_address X_PL_address := by
  refine Ctr_of (own := "PackLanes") (B := B_PL_address) (KR := fun _ Q => Q) (by decide) rfl (fun _ _ _ z => z) (fun _ _ _ _ z => ⟨Or.inl ⟨rfl, rfl⟩, z⟩) (Or.inr (Or.inl rfl)) (fun κ hl ho hR hrt hn0 => ?_)
  subst hl
  unfold B_PL_address
  exact (S_sq (pc1 := 12) (S_if1 (pT := 10) (pF := 12) (C_or (pc1 := 4) (T1_lt (pT := 10) (pc2 := 1) (E_iln d_PL_address_0 rfl) d_PL_address_1 rfl) (J2_ge (pF := 12) (pc1 := 5) (pc2 := 7) (E_iln d_PL_address_4 rfl) (E_bi d_PL_address_5 rfl) d_PL_address_7 rfl)) (S_ri hrt (pc1 := 11) (E_ic d_PL_address_10 rfl) d_PL_address_11))
    (S_sw (pcs := [40, 50, 73, 98, _]) (pc1 := 13)  (E_iln d_PL_address_12 rfl) (fun _ _ _ k => r_tsw d_PL_address_13 (by decide +kernel) k) (And.intro (S_ri hrt (pc1 := 49) (E_iadd (pc1 := 46) (pc2 := 48) (E_aI (pc1 := 44) (pc2 := 45) (E_fR f_PL_26 ho (pc1 := 41) (E_aln d_PL_address_40 rfl) d_PL_address_41) (E_iln d_PL_address_44 rfl) d_PL_address_45) (E_bi d_PL_address_46 rfl) d_PL_address_48) d_PL_address_49)
    (And.intro (S_sq (pc1 := 63) (S_X (O_V k_PL_128 (v_Mach_runInOrder _) ⟨rfl, rfl⟩ ho (rk hR rfl) (by decide) (T := KT3) (N := 5) rfl (by decide) (pc1 := 54) (pc2 := 60) (E_fR f_PL_75 ho (pc1 := 51) (E_aln d_PL_address_50 rfl) d_PL_address_51) (A_c catR (pc1 := 58) (E_fR f_PL_26 ho (pc1 := 55) (E_aln d_PL_address_54 rfl) d_PL_address_55) (A_c catI (pc1 := 60) (E_bi d_PL_address_58 rfl) A_n)) d_PL_address_60))
    (S_ri hrt (pc1 := 72) (E_aI (pc1 := 70) (pc2 := 71) (E_fR f_PL_179 ho (pc1 := 67) (E_fR f_PL_75 ho (pc1 := 64) (E_aln d_PL_address_63 rfl) d_PL_address_64) d_PL_address_67) (E_iln d_PL_address_70 rfl) d_PL_address_71) d_PL_address_72))
    (And.intro (S_sq (pc1 := 88) (S_X (O_V k_PL_134 (v_Mach_runPacked _) ⟨rfl, rfl⟩ ho (rk hR rfl) (by decide) (T := KT3) (N := 5) rfl (by decide) (pc1 := 77) (pc2 := 85) (E_fR f_PL_75 ho (pc1 := 74) (E_aln d_PL_address_73 rfl) d_PL_address_74) (A_c catR (pc1 := 81) (E_fR f_PL_26 ho (pc1 := 78) (E_aln d_PL_address_77 rfl) d_PL_address_78) (A_c catR (pc1 := 85) (E_fR f_PL_65 ho (pc1 := 82) (E_aln d_PL_address_81 rfl) d_PL_address_82) A_n)) d_PL_address_85))
    (S_ri hrt (pc1 := 97) (E_aI (pc1 := 95) (pc2 := 96) (E_fR f_PL_179 ho (pc1 := 92) (E_fR f_PL_75 ho (pc1 := 89) (E_aln d_PL_address_88 rfl) d_PL_address_89) d_PL_address_92) (E_iln d_PL_address_95 rfl) d_PL_address_96) d_PL_address_97))
    (And.intro (S_ri hrt (pc1 := 100) (E_bi d_PL_address_98 rfl) d_PL_address_100)
    rfl)))) (by decide)))
theorem d_PL_depends_0 : decode prog_1_method_9_code 0 = .ok (.aload_n 0, 1) := by decide +kernel
theorem d_PL_depends_1 : decode prog_1_method_9_code 1 = .ok (.getfield 19, 3) := by decide +kernel
theorem d_PL_depends_4 : decode prog_1_method_9_code 4 = .ok (.iload_n 1, 1) := by decide +kernel
theorem d_PL_depends_5 : decode prog_1_method_9_code 5 = .ok (.invokevirtual 146, 3) := by decide +kernel
theorem d_PL_depends_8 : decode prog_1_method_9_code 8 = .ok (.ifCond .eq 14, 3) := by decide +kernel
theorem d_PL_depends_11 : decode prog_1_method_9_code 11 = .ok (.aload_n 0, 1) := by decide +kernel
theorem d_PL_depends_12 : decode prog_1_method_9_code 12 = .ok (.getfield 19, 3) := by decide +kernel
theorem d_PL_depends_15 : decode prog_1_method_9_code 15 = .ok (.iload_n 2, 1) := by decide +kernel
theorem d_PL_depends_16 : decode prog_1_method_9_code 16 = .ok (.invokevirtual 146, 3) := by decide +kernel
theorem d_PL_depends_19 : decode prog_1_method_9_code 19 = .ok (.ifCond .ne 5, 3) := by decide +kernel
theorem d_PL_depends_22 : decode prog_1_method_9_code 22 = .ok (.iconst (-1), 1) := by decide +kernel
theorem d_PL_depends_23 : decode prog_1_method_9_code 23 = .ok (.ireturn, 1) := by decide +kernel
theorem d_PL_depends_24 : decode prog_1_method_9_code 24 = .ok (.aload_n 0, 1) := by decide +kernel
theorem d_PL_depends_25 : decode prog_1_method_9_code 25 = .ok (.getfield 65, 3) := by decide +kernel
theorem d_PL_depends_28 : decode prog_1_method_9_code 28 = .ok (.getfield 162, 3) := by decide +kernel
theorem d_PL_depends_31 : decode prog_1_method_9_code 31 = .ok (.getfield 166, 3) := by decide +kernel
theorem d_PL_depends_34 : decode prog_1_method_9_code 34 = .ok (.iload_n 2, 1) := by decide +kernel
theorem d_PL_depends_35 : decode prog_1_method_9_code 35 = .ok (.iaload, 1) := by decide +kernel
theorem d_PL_depends_36 : decode prog_1_method_9_code 36 = .ok (.iload_n 1, 1) := by decide +kernel
theorem d_PL_depends_37 : decode prog_1_method_9_code 37 = .ok (.invokestatic 182, 3) := by decide +kernel
theorem d_PL_depends_40 : decode prog_1_method_9_code 40 = .ok (.ifCond .eq 7, 3) := by decide +kernel
theorem d_PL_depends_43 : decode prog_1_method_9_code 43 = .ok (.iconst 1, 1) := by decide +kernel
theorem d_PL_depends_44 : decode prog_1_method_9_code 44 = .ok (.goto 4, 3) := by decide +kernel
theorem d_PL_depends_47 : decode prog_1_method_9_code 47 = .ok (.iconst 0, 1) := by decide +kernel
theorem d_PL_depends_48 : decode prog_1_method_9_code 48 = .ok (.ireturn, 1) := by decide +kernel
def B_PL_depends (_ : Nat × Nat) : PS :=
  (sSq (sIf (cO (cN (e1 (fun x : Int32 => decide (¬ x = 0)) (eX .int (xV 1 1 X_Code_has (eFR 9 1 (eR 0)) (aC .int (eI 1) aN))))) (cN (e1 (fun x : Int32 => decide (¬ x = 0)) (eX .int (xV 1 1 X_Code_has (eFR 9 1 (eR 0)) (aC .int (eI 2) aN)))))) (sRt .int (eV (-1 : Int32))) sSk)
    (sRt .int (eIf (e1 (fun x : Int32 => decide (¬ x = 0)) (eX .int (xS 2 X_PL_holds (aC .int (eAI (eFR 2 2 (eFR 4 1 (eFR 9 10 (eR 0)))) (eI 2)) (aC .int (eI 1) aN))))) (eV (1 : Int32)) (eV (0 : Int32)))))
def X_PL_depends : PM := fun vs h Q => (lx vs).length ≤ 3 ∧ B_PL_depends (h.length + 0, hsz h + 0) (fun _ _ => False) (fun _ _ => False) (fun _ _ => False) Q (lini 3 vs) h
theorem v_PL_depends (l : Launch) : Ctr l y_PL_depends prog_1_method_9_code 3 (some .int) rm_PL_depends X_PL_depends := by
  refine Ctr_of (own := "PackLanes") (B := B_PL_depends) (KR := fun _ Q => Q) (by decide) rfl (fun _ _ _ z => z) (fun _ _ _ _ z => ⟨Or.inl ⟨rfl, rfl⟩, z⟩) (Or.inr (Or.inl rfl)) (fun κ hl ho hR hrt hn0 => ?_)
  subst hl
  unfold B_PL_depends
  exact (S_sq (pc1 := 24) (S_if1 (pT := 22) (pF := 24) (C_or (pc1 := 11) (C_not (J1_ne (pF := 22) (pc2 := 8) (E_x (O_V k_PL_146 (v_Code_has _) ⟨rfl, rfl⟩ ho (rk hR rfl) (by decide) (T := KT1) (N := 7) rfl (by decide) (pc1 := 4) (pc2 := 5) (E_fR f_PL_19 ho (pc1 := 1) (E_aln d_PL_depends_0 rfl) d_PL_depends_1) (A_c catI (pc1 := 5) (E_iln d_PL_depends_4 rfl) A_n) d_PL_depends_5)) d_PL_depends_8 rfl)) (C_not (T1_ne (pT := 24) (pc2 := 19) (E_x (O_V k_PL_146 (v_Code_has _) ⟨rfl, rfl⟩ ho (rk hR rfl) (by decide) (T := KT1) (N := 7) rfl (by decide) (pc1 := 15) (pc2 := 16) (E_fR f_PL_19 ho (pc1 := 12) (E_aln d_PL_depends_11 rfl) d_PL_depends_12) (A_c catI (pc1 := 16) (E_iln d_PL_depends_15 rfl) A_n) d_PL_depends_16)) d_PL_depends_19 rfl))) (S_ri hrt (pc1 := 23) (E_ic d_PL_depends_22 rfl) d_PL_depends_23))
    (S_ri hrt (pc1 := 48) (E_if (pT := 43) (pF := 47) (pc1 := 44) (pc2 := 48) (J1_ne (pF := 47) (pc2 := 40) (E_x (O_S k_PL_182 (v_PL_holds _) ⟨rfl, rfl⟩ ho (rk hR rfl) (by decide) (pc2 := 37) (A_c catI (pc1 := 36) (E_aI (pc1 := 34) (pc2 := 35) (E_fR f_PL_166 ho (pc1 := 31) (E_fR f_PL_162 ho (pc1 := 28) (E_fR f_PL_65 ho (pc1 := 25) (E_aln d_PL_depends_24 rfl) d_PL_depends_25) d_PL_depends_28) d_PL_depends_31) (E_iln d_PL_depends_34 rfl) d_PL_depends_35) (A_c catI (pc1 := 37) (E_iln d_PL_depends_36 rfl) A_n)) d_PL_depends_37)) d_PL_depends_40 rfl) (E_ic d_PL_depends_43 rfl) d_PL_depends_44 rfl (E_ic d_PL_depends_47 rfl)) d_PL_depends_48))
theorem d_Acts_remember_0 : decode prog_2_method_3_code 0 = .ok (.aload_n 0, 1) := by decide +kernel
theorem d_Acts_remember_1 : decode prog_2_method_3_code 1 = .ok (.getfield 18, 3) := by decide +kernel
theorem d_Acts_remember_4 : decode prog_2_method_3_code 4 = .ok (.bipush 14, 2) := by decide +kernel
theorem d_Acts_remember_6 : decode prog_2_method_3_code 6 = .ok (.if_icmp .lt 39, 3) := by decide +kernel
theorem d_Acts_remember_9 : decode prog_2_method_3_code 9 = .ok (.aload_n 0, 1) := by decide +kernel
theorem d_Acts_remember_10 : decode prog_2_method_3_code 10 = .ok (.getfield 9, 3) := by decide +kernel
theorem d_Acts_remember_13 : decode prog_2_method_3_code 13 = .ok (.iconst 1, 1) := by decide +kernel
theorem d_Acts_remember_14 : decode prog_2_method_3_code 14 = .ok (.aload_n 0, 1) := by decide +kernel
theorem d_Acts_remember_15 : decode prog_2_method_3_code 15 = .ok (.getfield 9, 3) := by decide +kernel
theorem d_Acts_remember_18 : decode prog_2_method_3_code 18 = .ok (.iconst 0, 1) := by decide +kernel
theorem d_Acts_remember_19 : decode prog_2_method_3_code 19 = .ok (.bipush 13, 2) := by decide +kernel
theorem d_Acts_remember_21 : decode prog_2_method_3_code 21 = .ok (.invokestatic 22, 3) := by decide +kernel
theorem d_Acts_remember_24 : decode prog_2_method_3_code 24 = .ok (.aload_n 0, 1) := by decide +kernel
theorem d_Acts_remember_25 : decode prog_2_method_3_code 25 = .ok (.getfield 15, 3) := by decide +kernel
theorem d_Acts_remember_28 : decode prog_2_method_3_code 28 = .ok (.iconst 1, 1) := by decide +kernel
theorem d_Acts_remember_29 : decode prog_2_method_3_code 29 = .ok (.aload_n 0, 1) := by decide +kernel
theorem d_Acts_remember_30 : decode prog_2_method_3_code 30 = .ok (.getfield 15, 3) := by decide +kernel
theorem d_Acts_remember_33 : decode prog_2_method_3_code 33 = .ok (.iconst 0, 1) := by decide +kernel
theorem d_Acts_remember_34 : decode prog_2_method_3_code 34 = .ok (.bipush 13, 2) := by decide +kernel
theorem d_Acts_remember_36 : decode prog_2_method_3_code 36 = .ok (.invokestatic 22, 3) := by decide +kernel
theorem d_Acts_remember_39 : decode prog_2_method_3_code 39 = .ok (.aload_n 0, 1) := by decide +kernel
theorem d_Acts_remember_40 : decode prog_2_method_3_code 40 = .ok (.bipush 13, 2) := by decide +kernel
theorem d_Acts_remember_42 : decode prog_2_method_3_code 42 = .ok (.putfield 18, 3) := by decide +kernel
theorem d_Acts_remember_45 : decode prog_2_method_3_code 45 = .ok (.aload_n 0, 1) := by decide +kernel
theorem d_Acts_remember_46 : decode prog_2_method_3_code 46 = .ok (.getfield 9, 3) := by decide +kernel
theorem d_Acts_remember_49 : decode prog_2_method_3_code 49 = .ok (.aload_n 0, 1) := by decide +kernel
theorem d_Acts_remember_50 : decode prog_2_method_3_code 50 = .ok (.getfield 18, 3) := by decide +kernel
theorem d_Acts_remember_53 : decode prog_2_method_3_code 53 = .ok (.iload_n 1, 1) := by decide +kernel
theorem d_Acts_remember_54 : decode prog_2_method_3_code 54 = .ok (.iastore, 1) := by decide +kernel
theorem d_Acts_remember_55 : decode prog_2_method_3_code 55 = .ok (.aload_n 0, 1) := by decide +kernel
theorem d_Acts_remember_56 : decode prog_2_method_3_code 56 = .ok (.getfield 15, 3) := by decide +kernel
theorem d_Acts_remember_59 : decode prog_2_method_3_code 59 = .ok (.aload_n 0, 1) := by decide +kernel
theorem d_Acts_remember_60 : decode prog_2_method_3_code 60 = .ok (.getfield 18, 3) := by decide +kernel
theorem d_Acts_remember_63 : decode prog_2_method_3_code 63 = .ok (.iload_n 2, 1) := by decide +kernel
theorem d_Acts_remember_64 : decode prog_2_method_3_code 64 = .ok (.iastore, 1) := by decide +kernel
theorem d_Acts_remember_65 : decode prog_2_method_3_code 65 = .ok (.aload_n 0, 1) := by decide +kernel
theorem d_Acts_remember_66 : decode prog_2_method_3_code 66 = .ok (.dup, 1) := by decide +kernel
theorem d_Acts_remember_67 : decode prog_2_method_3_code 67 = .ok (.getfield 18, 3) := by decide +kernel
theorem d_Acts_remember_70 : decode prog_2_method_3_code 70 = .ok (.iconst 1, 1) := by decide +kernel
theorem d_Acts_remember_71 : decode prog_2_method_3_code 71 = .ok (.iadd, 1) := by decide +kernel
theorem d_Acts_remember_72 : decode prog_2_method_3_code 72 = .ok (.putfield 18, 3) := by decide +kernel
theorem d_Acts_remember_75 : decode prog_2_method_3_code 75 = .ok (.return_, 1) := by decide +kernel
def B_Acts_remember (_ : Nat × Nat) : PS :=
  (sSq (sIf (e2 (fun x y : Int32 => decide (y ≤ x)) (eFI 0 2 (eR 0)) (eV (14 : Int32))) (sSq (sCp (eFR 0 0 (eR 0)) (eV (1 : Int32)) (eFR 0 0 (eR 0)) (eV (0 : Int32)) (eV (13 : Int32)))
    (sSq (sCp (eFR 0 1 (eR 0)) (eV (1 : Int32)) (eFR 0 1 (eR 0)) (eV (0 : Int32)) (eV (13 : Int32)))
    (sF .int 0 2 (eR 0) (eV (13 : Int32))))) sSk)
    (sSq (sAI (eFR 0 0 (eR 0)) (eFI 0 2 (eR 0)) (eI 1))
    (sSq (sAI (eFR 0 1 (eR 0)) (eFI 0 2 (eR 0)) (eI 2))
    (sSq (sFO 0 2 (fun x y : Int32 => x + y) (eR 0) (eV (1 : Int32)))
    sRv))))
def X_Acts_remember : PM := fun vs h Q => (lx vs).length ≤ 3 ∧ B_Acts_remember (h.length + 0, hsz h + 0) (fun _ _ => False) (fun _ _ => False) (fun _ _ => False) Q (lini 3 vs) h
theorem v_Acts_remember (l : Launch) : Ctr l y_Acts_remember prog_2_method_3_code 3 none rm_Acts_remember X_Acts_remember := by
  refine Ctr_of (own := "PackLanes$Acts") (B := B_Acts_remember) (KR := fun _ Q => Q) (by decide) rfl (fun _ _ _ z => z) (fun _ _ _ _ z => ⟨Or.inl ⟨rfl, rfl⟩, z⟩) (Or.inl rfl) (fun κ hl ho hR hrt hn0 => ?_)
  subst hl
  unfold B_Acts_remember
  exact (S_sq (pc1 := 45) (S_if1 (pT := 9) (pF := 45) (J2_ge (pF := 45) (pc1 := 4) (pc2 := 6) (E_fI f_Acts_18 ho (pc1 := 1) (E_aln d_Acts_remember_0 rfl) d_Acts_remember_1) (E_bi d_Acts_remember_4 rfl) d_Acts_remember_6 rfl) (S_sq (pc1 := 24) (S_cp w_ac_Acts_22 w_acn w_acs w_aci ho (rk1 hR rfl) (pc1 := 13) (pc2 := 14) (pc3 := 18) (pc4 := 19) (pS := 21) (E_fR f_Acts_9 ho (pc1 := 10) (E_aln d_Acts_remember_9 rfl) d_Acts_remember_10) (E_ic d_Acts_remember_13 rfl) (E_fR f_Acts_9 ho (pc1 := 15) (E_aln d_Acts_remember_14 rfl) d_Acts_remember_15) (E_ic d_Acts_remember_18 rfl) (E_bi d_Acts_remember_19 rfl) d_Acts_remember_21)
    (S_sq (pc1 := 39) (S_cp w_ac_Acts_22 w_acn w_acs w_aci ho (rk1 hR rfl) (pc1 := 28) (pc2 := 29) (pc3 := 33) (pc4 := 34) (pS := 36) (E_fR f_Acts_15 ho (pc1 := 25) (E_aln d_Acts_remember_24 rfl) d_Acts_remember_25) (E_ic d_Acts_remember_28 rfl) (E_fR f_Acts_15 ho (pc1 := 30) (E_aln d_Acts_remember_29 rfl) d_Acts_remember_30) (E_ic d_Acts_remember_33 rfl) (E_bi d_Acts_remember_34 rfl) d_Acts_remember_36)
    (S_FI f_Acts_18 ho (pc1 := 40) (pc2 := 42) (E_aln d_Acts_remember_39 rfl) (E_bi d_Acts_remember_40 rfl) d_Acts_remember_42))))
    (S_sq (pc1 := 55) (S_AI (pc1 := 49) (pc2 := 53) (pc3 := 54) (E_fR f_Acts_9 ho (pc1 := 46) (E_aln d_Acts_remember_45 rfl) d_Acts_remember_46) (E_fI f_Acts_18 ho (pc1 := 50) (E_aln d_Acts_remember_49 rfl) d_Acts_remember_50) (E_iln d_Acts_remember_53 rfl) d_Acts_remember_54)
    (S_sq (pc1 := 65) (S_AI (pc1 := 59) (pc2 := 63) (pc3 := 64) (E_fR f_Acts_15 ho (pc1 := 56) (E_aln d_Acts_remember_55 rfl) d_Acts_remember_56) (E_fI f_Acts_18 ho (pc1 := 60) (E_aln d_Acts_remember_59 rfl) d_Acts_remember_60) (E_iln d_Acts_remember_63 rfl) d_Acts_remember_64)
    (S_sq (pc1 := 75) (S_FO f_Acts_18 f_Acts_18 ho (pc1 := 66) (pc2 := 71) (E_aln d_Acts_remember_65 rfl) d_Acts_remember_66 d_Acts_remember_67 (E_ic d_Acts_remember_70 rfl) (fun _ _ _ _ _ k => r_iadd d_Acts_remember_71 k) d_Acts_remember_72)
    (S_rv hrt d_Acts_remember_75)))))
theorem d_PL_start_0 : decode prog_1_method_10_code 0 = .ok (.iload_n 1, 1) := by decide +kernel
theorem d_PL_start_1 : decode prog_1_method_10_code 1 = .ok (.ifCond .lt 9, 3) := by decide +kernel
theorem d_PL_start_4 : decode prog_1_method_10_code 4 = .ok (.iload_n 1, 1) := by decide +kernel
theorem d_PL_start_5 : decode prog_1_method_10_code 5 = .ok (.bipush 16, 2) := by decide +kernel
theorem d_PL_start_7 : decode prog_1_method_10_code 7 = .ok (.if_icmp .lt 5, 3) := by decide +kernel
theorem d_PL_start_10 : decode prog_1_method_10_code 10 = .ok (.iconst (-1), 1) := by decide +kernel
theorem d_PL_start_11 : decode prog_1_method_10_code 11 = .ok (.ireturn, 1) := by decide +kernel
theorem d_PL_start_12 : decode prog_1_method_10_code 12 = .ok (.iload_n 2, 1) := by decide +kernel
theorem d_PL_start_13 : decode prog_1_method_10_code 13 = .ok (.bipush (-99), 2) := by decide +kernel
theorem d_PL_start_15 : decode prog_1_method_10_code 15 = .ok (.if_icmp .lt 9, 3) := by decide +kernel
theorem d_PL_start_18 : decode prog_1_method_10_code 18 = .ok (.iload_n 2, 1) := by decide +kernel
theorem d_PL_start_19 : decode prog_1_method_10_code 19 = .ok (.bipush 99, 2) := by decide +kernel
theorem d_PL_start_21 : decode prog_1_method_10_code 21 = .ok (.if_icmp .le 6, 3) := by decide +kernel
theorem d_PL_start_24 : decode prog_1_method_10_code 24 = .ok (.bipush (-2), 2) := by decide +kernel
theorem d_PL_start_26 : decode prog_1_method_10_code 26 = .ok (.ireturn, 1) := by decide +kernel
theorem d_PL_start_27 : decode prog_1_method_10_code 27 = .ok (.aload_n 0, 1) := by decide +kernel
theorem d_PL_start_28 : decode prog_1_method_10_code 28 = .ok (.getfield 26, 3) := by decide +kernel
theorem d_PL_start_31 : decode prog_1_method_10_code 31 = .ok (.iload_n 1, 1) := by decide +kernel
theorem d_PL_start_32 : decode prog_1_method_10_code 32 = .ok (.iaload, 1) := by decide +kernel
theorem d_PL_start_33 : decode prog_1_method_10_code 33 = .ok (.istore_n 3, 1) := by decide +kernel
theorem d_PL_start_34 : decode prog_1_method_10_code 34 = .ok (.aload_n 0, 1) := by decide +kernel
theorem d_PL_start_35 : decode prog_1_method_10_code 35 = .ok (.getfield 42, 3) := by decide +kernel
theorem d_PL_start_38 : decode prog_1_method_10_code 38 = .ok (.iload_n 1, 1) := by decide +kernel
theorem d_PL_start_39 : decode prog_1_method_10_code 39 = .ok (.iload_n 3, 1) := by decide +kernel
theorem d_PL_start_40 : decode prog_1_method_10_code 40 = .ok (.invokevirtual 186, 3) := by decide +kernel
theorem d_PL_start_43 : decode prog_1_method_10_code 43 = .ok (.aload_n 0, 1) := by decide +kernel
theorem d_PL_start_44 : decode prog_1_method_10_code 44 = .ok (.getfield 26, 3) := by decide +kernel
theorem d_PL_start_47 : decode prog_1_method_10_code 47 = .ok (.iload_n 1, 1) := by decide +kernel
theorem d_PL_start_48 : decode prog_1_method_10_code 48 = .ok (.iload_n 2, 1) := by decide +kernel
theorem d_PL_start_49 : decode prog_1_method_10_code 49 = .ok (.iastore, 1) := by decide +kernel
theorem d_PL_start_50 : decode prog_1_method_10_code 50 = .ok (.iload_n 3, 1) := by decide +kernel
theorem d_PL_start_51 : decode prog_1_method_10_code 51 = .ok (.bipush 100, 2) := by decide +kernel
theorem d_PL_start_53 : decode prog_1_method_10_code 53 = .ok (.iadd, 1) := by decide +kernel
theorem d_PL_start_54 : decode prog_1_method_10_code 54 = .ok (.ireturn, 1) := by decide +kernel
def B_PL_start (_ : Nat × Nat) : PS :=
  (sSq (sIf (cO (e1 (fun x : Int32 => decide (x < 0)) (eI 1)) (e2 (fun x y : Int32 => decide (y ≤ x)) (eI 1) (eV (16 : Int32)))) (sRt .int (eV (-1 : Int32))) sSk)
    (sSq (sIf (cO (e2 (fun x y : Int32 => decide (x < y)) (eI 2) (eV (-99 : Int32))) (e2 (fun x y : Int32 => decide (y < x)) (eI 2) (eV (99 : Int32)))) (sRt .int (eV (-2 : Int32))) sSk)
    (sSq (sI 3 (eAI (eFR 9 3 (eR 0)) (eI 1)))
    (sSq (sX (xV 0 2 X_Acts_remember (eFR 9 7 (eR 0)) (aC .int (eI 1) (aC .int (eI 3) aN))))
    (sSq (sAI (eFR 9 3 (eR 0)) (eI 1) (eI 2))
    (sRt .int (e2 (fun x y : Int32 => x + y) (eI 3) (eV (100 : Int32)))))))))
def X_PL_start : PM := fun vs h Q => (lx vs).length ≤ 4 ∧ B_PL_start (h.length + 0, hsz h + 0) (fun _ _ => False) (fun _ _ => False) (fun _ _ => False) Q (lini 4 vs) h
theorem v_PL_start (l : Launch) : Ctr l y_PL_start prog_1_method_10_code 4 (some .int) rm_PL_start X_PL_start := by
  refine Ctr_of (own := "PackLanes") (B := B_PL_start) (KR := fun _ Q => Q) (by decide) rfl (fun _ _ _ z => z) (fun _ _ _ _ z => ⟨Or.inl ⟨rfl, rfl⟩, z⟩) (Or.inr (Or.inl rfl)) (fun κ hl ho hR hrt hn0 => ?_)
  subst hl
  unfold B_PL_start
  exact (S_sq (pc1 := 12) (S_if1 (pT := 10) (pF := 12) (C_or (pc1 := 4) (T1_lt (pT := 10) (pc2 := 1) (E_iln d_PL_start_0 rfl) d_PL_start_1 rfl) (J2_ge (pF := 12) (pc1 := 5) (pc2 := 7) (E_iln d_PL_start_4 rfl) (E_bi d_PL_start_5 rfl) d_PL_start_7 rfl)) (S_ri hrt (pc1 := 11) (E_ic d_PL_start_10 rfl) d_PL_start_11))
    (S_sq (pc1 := 27) (S_if1 (pT := 24) (pF := 27) (C_or (pc1 := 18) (T2_lt (pT := 24) (pc1 := 13) (pc2 := 15) (E_iln d_PL_start_12 rfl) (E_bi d_PL_start_13 rfl) d_PL_start_15 rfl) (J2_gt (pF := 27) (pc1 := 19) (pc2 := 21) (E_iln d_PL_start_18 rfl) (E_bi d_PL_start_19 rfl) d_PL_start_21 rfl)) (S_ri hrt (pc1 := 26) (E_bi d_PL_start_24 rfl) d_PL_start_26))
    (S_sq (pc1 := 34) (S_In (pc1 := 33) (E_aI (pc1 := 31) (pc2 := 32) (E_fR f_PL_26 ho (pc1 := 28) (E_aln d_PL_start_27 rfl) d_PL_start_28) (E_iln d_PL_start_31 rfl) d_PL_start_32) d_PL_start_33 rfl)
    (S_sq (pc1 := 43) (S_X (O_V k_PL_186 (v_Acts_remember _) ⟨rfl, rfl⟩ ho (rk hR rfl) (by decide) (T := KT0) (N := 3) rfl (by decide) (pc1 := 38) (pc2 := 40) (E_fR f_PL_42 ho (pc1 := 35) (E_aln d_PL_start_34 rfl) d_PL_start_35) (A_c catI (pc1 := 39) (E_iln d_PL_start_38 rfl) (A_c catI (pc1 := 40) (E_iln d_PL_start_39 rfl) A_n)) d_PL_start_40))
    (S_sq (pc1 := 50) (S_AI (pc1 := 47) (pc2 := 48) (pc3 := 49) (E_fR f_PL_26 ho (pc1 := 44) (E_aln d_PL_start_43 rfl) d_PL_start_44) (E_iln d_PL_start_47 rfl) (E_iln d_PL_start_48 rfl) d_PL_start_49)
    (S_ri hrt (pc1 := 54) (E_iadd (pc1 := 51) (pc2 := 53) (E_iln d_PL_start_50 rfl) (E_bi d_PL_start_51 rfl) d_PL_start_53) d_PL_start_54))))))
theorem d_PL_settingAllows_0 : decode prog_1_method_27_code 0 = .ok (.iload_n 0, 1) := by decide +kernel
theorem d_PL_settingAllows_1 : decode prog_1_method_27_code 1 = .ok (.lookupswitch 58 #[(16, 27), (17, 43)], 27) := by decide +kernel
theorem d_PL_settingAllows_28 : decode prog_1_method_27_code 28 = .ok (.iload_n 1, 1) := by decide +kernel
theorem d_PL_settingAllows_29 : decode prog_1_method_27_code 29 = .ok (.ifCond .lt 13, 3) := by decide +kernel
theorem d_PL_settingAllows_32 : decode prog_1_method_27_code 32 = .ok (.iload_n 1, 1) := by decide +kernel
theorem d_PL_settingAllows_33 : decode prog_1_method_27_code 33 = .ok (.bipush 8, 2) := by decide +kernel
theorem d_PL_settingAllows_35 : decode prog_1_method_27_code 35 = .ok (.if_icmp .gt 7, 3) := by decide +kernel
theorem d_PL_settingAllows_38 : decode prog_1_method_27_code 38 = .ok (.iconst 1, 1) := by decide +kernel
theorem d_PL_settingAllows_39 : decode prog_1_method_27_code 39 = .ok (.goto 4, 3) := by decide +kernel
theorem d_PL_settingAllows_42 : decode prog_1_method_27_code 42 = .ok (.iconst 0, 1) := by decide +kernel
theorem d_PL_settingAllows_43 : decode prog_1_method_27_code 43 = .ok (.ireturn, 1) := by decide +kernel
theorem d_PL_settingAllows_44 : decode prog_1_method_27_code 44 = .ok (.iload_n 1, 1) := by decide +kernel
theorem d_PL_settingAllows_45 : decode prog_1_method_27_code 45 = .ok (.ifCond .eq 8, 3) := by decide +kernel
theorem d_PL_settingAllows_48 : decode prog_1_method_27_code 48 = .ok (.iload_n 1, 1) := by decide +kernel
theorem d_PL_settingAllows_49 : decode prog_1_method_27_code 49 = .ok (.iconst 1, 1) := by decide +kernel
theorem d_PL_settingAllows_50 : decode prog_1_method_27_code 50 = .ok (.if_icmp .ne 7, 3) := by decide +kernel
theorem d_PL_settingAllows_53 : decode prog_1_method_27_code 53 = .ok (.iconst 1, 1) := by decide +kernel
theorem d_PL_settingAllows_54 : decode prog_1_method_27_code 54 = .ok (.goto 4, 3) := by decide +kernel
theorem d_PL_settingAllows_57 : decode prog_1_method_27_code 57 = .ok (.iconst 0, 1) := by decide +kernel
theorem d_PL_settingAllows_58 : decode prog_1_method_27_code 58 = .ok (.ireturn, 1) := by decide +kernel
theorem d_PL_settingAllows_59 : decode prog_1_method_27_code 59 = .ok (.iload_n 1, 1) := by decide +kernel
theorem d_PL_settingAllows_60 : decode prog_1_method_27_code 60 = .ok (.iconst 2, 1) := by decide +kernel
theorem d_PL_settingAllows_61 : decode prog_1_method_27_code 61 = .ok (.if_icmp .eq 8, 3) := by decide +kernel
theorem d_PL_settingAllows_64 : decode prog_1_method_27_code 64 = .ok (.iload_n 1, 1) := by decide +kernel
theorem d_PL_settingAllows_65 : decode prog_1_method_27_code 65 = .ok (.iconst 4, 1) := by decide +kernel
theorem d_PL_settingAllows_66 : decode prog_1_method_27_code 66 = .ok (.if_icmp .ne 7, 3) := by decide +kernel
theorem d_PL_settingAllows_69 : decode prog_1_method_27_code 69 = .ok (.iconst 1, 1) := by decide +kernel
theorem d_PL_settingAllows_70 : decode prog_1_method_27_code 70 = .ok (.goto 4, 3) := by decide +kernel
theorem d_PL_settingAllows_73 : decode prog_1_method_27_code 73 = .ok (.iconst 0, 1) := by decide +kernel
theorem d_PL_settingAllows_74 : decode prog_1_method_27_code 74 = .ok (.ireturn, 1) := by decide +kernel
def B_PL_settingAllows (_ : Nat × Nat) : PS :=
  (sSw 2 (eI 0) [(16, 0), (17, 1)] 2 [(sRz (eC (cA (e1 (fun x : Int32 => decide (0 ≤ x)) (eI 1)) (e2 (fun x y : Int32 => decide (x ≤ y)) (eI 1) (eV (8 : Int32)))))),
    (sRz (eC (cO (e1 (fun x : Int32 => decide (x = 0)) (eI 1)) (e2 (fun x y : Int32 => decide (x = y)) (eI 1) (eV (1 : Int32)))))),
    (sRz (eC (cO (e2 (fun x y : Int32 => decide (x = y)) (eI 1) (eV (2 : Int32))) (e2 (fun x y : Int32 => decide (x = y)) (eI 1) (eV (4 : Int32))))))])
def X_PL_settingAllows : PM := fun vs h Q => (lx vs).length ≤ 2 ∧ B_PL_settingAllows (h.length + 0, hsz h + 0) (fun _ _ => False) (fun _ _ => False) (fun _ _ => False) Q (lini 2 vs) h
theorem v_PL_settingAllows (l : Launch) : Ctr l y_PL_settingAllows prog_1_method_27_code 2 (some .boolean) rm_PL_settingAllows X_PL_settingAllows := by
  refine Ctr_of (own := "PackLanes") (B := B_PL_settingAllows) (KR := fun _ Q => Q) (by decide) rfl (fun _ _ _ z => z) (fun _ _ _ _ z => ⟨Or.inl ⟨rfl, rfl⟩, z⟩) (Or.inr (Or.inr (Or.inl rfl))) (fun κ hl ho hR hrt hn0 => ?_)
  subst hl
  unfold B_PL_settingAllows
  exact (S_sw (pcs := [28, 44, 59, _]) (pc1 := 1)  (E_iln d_PL_settingAllows_0 rfl) (fun _ _ _ k => r_lsw d_PL_settingAllows_1 (by decide +kernel) k) (And.intro (S_rz hrt (pc1 := 43) (E_C (pT := 38) (pF := 42) (pc2 := 43) (C_and (pc1 := 32) (J1_ge (pF := 42) (pc2 := 29) (E_iln d_PL_settingAllows_28 rfl) d_PL_settingAllows_29 rfl) (J2_le (pF := 42) (pc1 := 33) (pc2 := 35) (E_iln d_PL_settingAllows_32 rfl) (E_bi d_PL_settingAllows_33 rfl) d_PL_settingAllows_35 rfl)) d_PL_settingAllows_38 d_PL_settingAllows_39 rfl d_PL_settingAllows_42 rfl) d_PL_settingAllows_43)
    (And.intro (S_rz hrt (pc1 := 58) (E_C (pT := 53) (pF := 57) (pc2 := 58) (C_or (pc1 := 48) (T1_eq (pT := 53) (pc2 := 45) (E_iln d_PL_settingAllows_44 rfl) d_PL_settingAllows_45 rfl) (J2_eq (pF := 57) (pc1 := 49) (pc2 := 50) (E_iln d_PL_settingAllows_48 rfl) (E_ic d_PL_settingAllows_49 rfl) d_PL_settingAllows_50 rfl)) d_PL_settingAllows_53 d_PL_settingAllows_54 rfl d_PL_settingAllows_57 rfl) d_PL_settingAllows_58)
    (And.intro (S_rz hrt (pc1 := 74) (E_C (pT := 69) (pF := 73) (pc2 := 74) (C_or (pc1 := 64) (T2_eq (pT := 69) (pc1 := 60) (pc2 := 61) (E_iln d_PL_settingAllows_59 rfl) (E_ic d_PL_settingAllows_60 rfl) d_PL_settingAllows_61 rfl) (J2_eq (pF := 73) (pc1 := 65) (pc2 := 66) (E_iln d_PL_settingAllows_64 rfl) (E_ic d_PL_settingAllows_65 rfl) d_PL_settingAllows_66 rfl)) d_PL_settingAllows_69 d_PL_settingAllows_70 rfl d_PL_settingAllows_73 rfl) d_PL_settingAllows_74)
    rfl))) (by decide))
theorem d_PL_set_0 : decode prog_1_method_11_code 0 = .ok (.iload_n 1, 1) := by decide +kernel
theorem d_PL_set_1 : decode prog_1_method_11_code 1 = .ok (.ifCond .lt 19, 3) := by decide +kernel
theorem d_PL_set_4 : decode prog_1_method_11_code 4 = .ok (.iload_n 1, 1) := by decide +kernel
theorem d_PL_set_5 : decode prog_1_method_11_code 5 = .ok (.iconst 2, 1) := by decide +kernel
theorem d_PL_set_6 : decode prog_1_method_11_code 6 = .ok (.if_icmp .gt 14, 3) := by decide +kernel
theorem d_PL_set_9 : decode prog_1_method_11_code 9 = .ok (.bipush 16, 2) := by decide +kernel
theorem d_PL_set_11 : decode prog_1_method_11_code 11 = .ok (.iload_n 1, 1) := by decide +kernel
theorem d_PL_set_12 : decode prog_1_method_11_code 12 = .ok (.iadd, 1) := by decide +kernel
theorem d_PL_set_13 : decode prog_1_method_11_code 13 = .ok (.iload_n 2, 1) := by decide +kernel
theorem d_PL_set_14 : decode prog_1_method_11_code 14 = .ok (.invokestatic 190, 3) := by decide +kernel
theorem d_PL_set_17 : decode prog_1_method_11_code 17 = .ok (.ifCond .ne 6, 3) := by decide +kernel
theorem d_PL_set_20 : decode prog_1_method_11_code 20 = .ok (.bipush (-2), 2) := by decide +kernel
theorem d_PL_set_22 : decode prog_1_method_11_code 22 = .ok (.ireturn, 1) := by decide +kernel
theorem d_PL_set_23 : decode prog_1_method_11_code 23 = .ok (.bipush 16, 2) := by decide +kernel
theorem d_PL_set_25 : decode prog_1_method_11_code 25 = .ok (.iload_n 1, 1) := by decide +kernel
theorem d_PL_set_26 : decode prog_1_method_11_code 26 = .ok (.iadd, 1) := by decide +kernel
theorem d_PL_set_27 : decode prog_1_method_11_code 27 = .ok (.istore_n 3, 1) := by decide +kernel
theorem d_PL_set_28 : decode prog_1_method_11_code 28 = .ok (.aload_n 0, 1) := by decide +kernel
theorem d_PL_set_29 : decode prog_1_method_11_code 29 = .ok (.getfield 26, 3) := by decide +kernel
theorem d_PL_set_32 : decode prog_1_method_11_code 32 = .ok (.iload_n 3, 1) := by decide +kernel
theorem d_PL_set_33 : decode prog_1_method_11_code 33 = .ok (.iaload, 1) := by decide +kernel
theorem d_PL_set_34 : decode prog_1_method_11_code 34 = .ok (.istore 4, 2) := by decide +kernel
theorem d_PL_set_36 : decode prog_1_method_11_code 36 = .ok (.aload_n 0, 1) := by decide +kernel
theorem d_PL_set_37 : decode prog_1_method_11_code 37 = .ok (.getfield 42, 3) := by decide +kernel
theorem d_PL_set_40 : decode prog_1_method_11_code 40 = .ok (.iload_n 3, 1) := by decide +kernel
theorem d_PL_set_41 : decode prog_1_method_11_code 41 = .ok (.iload 4, 2) := by decide +kernel
theorem d_PL_set_43 : decode prog_1_method_11_code 43 = .ok (.invokevirtual 186, 3) := by decide +kernel
theorem d_PL_set_46 : decode prog_1_method_11_code 46 = .ok (.aload_n 0, 1) := by decide +kernel
theorem d_PL_set_47 : decode prog_1_method_11_code 47 = .ok (.getfield 26, 3) := by decide +kernel
theorem d_PL_set_50 : decode prog_1_method_11_code 50 = .ok (.iload_n 3, 1) := by decide +kernel
theorem d_PL_set_51 : decode prog_1_method_11_code 51 = .ok (.iload_n 2, 1) := by decide +kernel
theorem d_PL_set_52 : decode prog_1_method_11_code 52 = .ok (.iastore, 1) := by decide +kernel
theorem d_PL_set_53 : decode prog_1_method_11_code 53 = .ok (.aload_n 0, 1) := by decide +kernel
theorem d_PL_set_54 : decode prog_1_method_11_code 54 = .ok (.getfield 65, 3) := by decide +kernel
theorem d_PL_set_57 : decode prog_1_method_11_code 57 = .ok (.aload_n 0, 1) := by decide +kernel
theorem d_PL_set_58 : decode prog_1_method_11_code 58 = .ok (.getfield 26, 3) := by decide +kernel
theorem d_PL_set_61 : decode prog_1_method_11_code 61 = .ok (.iconst 0, 1) := by decide +kernel
theorem d_PL_set_62 : decode prog_1_method_11_code 62 = .ok (.invokevirtual 90, 3) := by decide +kernel
theorem d_PL_set_65 : decode prog_1_method_11_code 65 = .ok (.iload 4, 2) := by decide +kernel
theorem d_PL_set_67 : decode prog_1_method_11_code 67 = .ok (.ireturn, 1) := by decide +kernel
def B_PL_set (_ : Nat × Nat) : PS :=
  (sSq (sIf (cO (cO (e1 (fun x : Int32 => decide (x < 0)) (eI 1)) (e2 (fun x y : Int32 => decide (y < x)) (eI 1) (eV (2 : Int32)))) (cN (e1 (fun x : Int32 => decide (¬ x = 0)) (eX .int (xS 2 X_PL_settingAllows (aC .int (e2 (fun x y : Int32 => x + y) (eV (16 : Int32)) (eI 1)) (aC .int (eI 2) aN))))))) (sRt .int (eV (-2 : Int32))) sSk)
    (sSq (sI 3 (e2 (fun x y : Int32 => x + y) (eV (16 : Int32)) (eI 1)))
    (sSq (sI 4 (eAI (eFR 9 3 (eR 0)) (eI 3)))
    (sSq (sX (xV 0 2 X_Acts_remember (eFR 9 7 (eR 0)) (aC .int (eI 3) (aC .int (eI 4) aN))))
    (sSq (sAI (eFR 9 3 (eR 0)) (eI 3) (eI 2))
    (sSq (sX (xV 4 2 X_Pack_choosePacks (eFR 9 10 (eR 0)) (aC .ref (eFR 9 3 (eR 0)) (aC .int (eV (0 : Int32)) aN))))
    (sRt .int (eI 4))))))))
def X_PL_set : PM := fun vs h Q => (lx vs).length ≤ 5 ∧ B_PL_set (h.length + 0, hsz h + 0) (fun _ _ => False) (fun _ _ => False) (fun _ _ => False) Q (lini 5 vs) h
theorem v_PL_set (l : Launch) : Ctr l y_PL_set prog_1_method_11_code 5 (some .int) rm_PL_set X_PL_set := by
  refine Ctr_of (own := "PackLanes") (B := B_PL_set) (KR := fun _ Q => Q) (by decide) rfl (fun _ _ _ z => z) (fun _ _ _ _ z => ⟨Or.inl ⟨rfl, rfl⟩, z⟩) (Or.inr (Or.inl rfl)) (fun κ hl ho hR hrt hn0 => ?_)
  subst hl
  unfold B_PL_set
  exact (S_sq (pc1 := 23) (S_if1 (pT := 20) (pF := 23) (C_or (pc1 := 9) (C_or (pc1 := 4) (T1_lt (pT := 20) (pc2 := 1) (E_iln d_PL_set_0 rfl) d_PL_set_1 rfl) (T2_gt (pT := 20) (pc1 := 5) (pc2 := 6) (E_iln d_PL_set_4 rfl) (E_ic d_PL_set_5 rfl) d_PL_set_6 rfl)) (C_not (T1_ne (pT := 23) (pc2 := 17) (E_x (O_S k_PL_190 (v_PL_settingAllows _) ⟨rfl, rfl⟩ ho (rk hR rfl) (by decide) (pc2 := 14) (A_c catI (pc1 := 13) (E_iadd (pc1 := 11) (pc2 := 12) (E_bi d_PL_set_9 rfl) (E_iln d_PL_set_11 rfl) d_PL_set_12) (A_c catI (pc1 := 14) (E_iln d_PL_set_13 rfl) A_n)) d_PL_set_14)) d_PL_set_17 rfl))) (S_ri hrt (pc1 := 22) (E_bi d_PL_set_20 rfl) d_PL_set_22))
    (S_sq (pc1 := 28) (S_In (pc1 := 27) (E_iadd (pc1 := 25) (pc2 := 26) (E_bi d_PL_set_23 rfl) (E_iln d_PL_set_25 rfl) d_PL_set_26) d_PL_set_27 rfl)
    (S_sq (pc1 := 36) (S_I (pc1 := 34) (E_aI (pc1 := 32) (pc2 := 33) (E_fR f_PL_26 ho (pc1 := 29) (E_aln d_PL_set_28 rfl) d_PL_set_29) (E_iln d_PL_set_32 rfl) d_PL_set_33) d_PL_set_34)
    (S_sq (pc1 := 46) (S_X (O_V k_PL_186 (v_Acts_remember _) ⟨rfl, rfl⟩ ho (rk hR rfl) (by decide) (T := KT0) (N := 3) rfl (by decide) (pc1 := 40) (pc2 := 43) (E_fR f_PL_42 ho (pc1 := 37) (E_aln d_PL_set_36 rfl) d_PL_set_37) (A_c catI (pc1 := 41) (E_iln d_PL_set_40 rfl) (A_c catI (pc1 := 43) (E_il d_PL_set_41) A_n)) d_PL_set_43))
    (S_sq (pc1 := 53) (S_AI (pc1 := 50) (pc2 := 51) (pc3 := 52) (E_fR f_PL_26 ho (pc1 := 47) (E_aln d_PL_set_46 rfl) d_PL_set_47) (E_iln d_PL_set_50 rfl) (E_iln d_PL_set_51 rfl) d_PL_set_52)
    (S_sq (pc1 := 65) (S_X (O_V k_PL_90 (v_Pack_choosePacks _) ⟨rfl, rfl⟩ ho (rk hR rfl) (by decide) (T := KT4) (N := 14) rfl (by decide) (pc1 := 57) (pc2 := 62) (E_fR f_PL_65 ho (pc1 := 54) (E_aln d_PL_set_53 rfl) d_PL_set_54) (A_c catR (pc1 := 61) (E_fR f_PL_26 ho (pc1 := 58) (E_aln d_PL_set_57 rfl) d_PL_set_58) (A_c catI (pc1 := 62) (E_ic d_PL_set_61 rfl) A_n)) d_PL_set_62))
    (S_ri hrt (pc1 := 67) (E_il d_PL_set_65) d_PL_set_67)))))))
theorem d_Acts_takeBack_0 : decode prog_2_method_4_code 0 = .ok (.aload_n 0, 1) := by decide +kernel
theorem d_Acts_takeBack_1 : decode prog_2_method_4_code 1 = .ok (.getfield 18, 3) := by decide +kernel
theorem d_Acts_takeBack_4 : decode prog_2_method_4_code 4 = .ok (.ifCond .le 45, 3) := by decide +kernel
theorem d_Acts_takeBack_7 : decode prog_2_method_4_code 7 = .ok (.aload_n 0, 1) := by decide +kernel
theorem d_Acts_takeBack_8 : decode prog_2_method_4_code 8 = .ok (.dup, 1) := by decide +kernel
theorem d_Acts_takeBack_9 : decode prog_2_method_4_code 9 = .ok (.getfield 18, 3) := by decide +kernel
theorem d_Acts_takeBack_12 : decode prog_2_method_4_code 12 = .ok (.iconst 1, 1) := by decide +kernel
theorem d_Acts_takeBack_13 : decode prog_2_method_4_code 13 = .ok (.isub, 1) := by decide +kernel
theorem d_Acts_takeBack_14 : decode prog_2_method_4_code 14 = .ok (.putfield 18, 3) := by decide +kernel
theorem d_Acts_takeBack_17 : decode prog_2_method_4_code 17 = .ok (.aload_n 0, 1) := by decide +kernel
theorem d_Acts_takeBack_18 : decode prog_2_method_4_code 18 = .ok (.getfield 9, 3) := by decide +kernel
theorem d_Acts_takeBack_21 : decode prog_2_method_4_code 21 = .ok (.aload_n 0, 1) := by decide +kernel
theorem d_Acts_takeBack_22 : decode prog_2_method_4_code 22 = .ok (.getfield 18, 3) := by decide +kernel
theorem d_Acts_takeBack_25 : decode prog_2_method_4_code 25 = .ok (.iaload, 1) := by decide +kernel
theorem d_Acts_takeBack_26 : decode prog_2_method_4_code 26 = .ok (.istore_n 2, 1) := by decide +kernel
theorem d_Acts_takeBack_27 : decode prog_2_method_4_code 27 = .ok (.iload_n 2, 1) := by decide +kernel
theorem d_Acts_takeBack_28 : decode prog_2_method_4_code 28 = .ok (.ifCond .lt 21, 3) := by decide +kernel
theorem d_Acts_takeBack_31 : decode prog_2_method_4_code 31 = .ok (.iload_n 2, 1) := by decide +kernel
theorem d_Acts_takeBack_32 : decode prog_2_method_4_code 32 = .ok (.aload_n 1, 1) := by decide +kernel
theorem d_Acts_takeBack_33 : decode prog_2_method_4_code 33 = .ok (.arraylength, 1) := by decide +kernel
theorem d_Acts_takeBack_34 : decode prog_2_method_4_code 34 = .ok (.if_icmp .ge 15, 3) := by decide +kernel
theorem d_Acts_takeBack_37 : decode prog_2_method_4_code 37 = .ok (.aload_n 1, 1) := by decide +kernel
theorem d_Acts_takeBack_38 : decode prog_2_method_4_code 38 = .ok (.iload_n 2, 1) := by decide +kernel
theorem d_Acts_takeBack_39 : decode prog_2_method_4_code 39 = .ok (.aload_n 0, 1) := by decide +kernel
theorem d_Acts_takeBack_40 : decode prog_2_method_4_code 40 = .ok (.getfield 15, 3) := by decide +kernel
theorem d_Acts_takeBack_43 : decode prog_2_method_4_code 43 = .ok (.aload_n 0, 1) := by decide +kernel
theorem d_Acts_takeBack_44 : decode prog_2_method_4_code 44 = .ok (.getfield 18, 3) := by decide +kernel
theorem d_Acts_takeBack_47 : decode prog_2_method_4_code 47 = .ok (.iaload, 1) := by decide +kernel
theorem d_Acts_takeBack_48 : decode prog_2_method_4_code 48 = .ok (.iastore, 1) := by decide +kernel
theorem d_Acts_takeBack_49 : decode prog_2_method_4_code 49 = .ok (.return_, 1) := by decide +kernel
def B_Acts_takeBack (_ : Nat × Nat) : PS :=
  (sSq (sIf (e1 (fun x : Int32 => decide (0 < x)) (eFI 0 2 (eR 0))) (sCut 2 (sSq (sFO 0 2 (fun x y : Int32 => x - y) (eR 0) (eV (1 : Int32)))
    (sSq (sI 2 (eAI (eFR 0 0 (eR 0)) (eFI 0 2 (eR 0))))
    (sIf (cA (e1 (fun x : Int32 => decide (0 ≤ x)) (eI 2)) (e2 (fun x y : Int32 => decide (x < y)) (eI 2) (eLen (eR 1)))) (sAI (eR 1) (eI 2) (eAI (eFR 0 1 (eR 0)) (eFI 0 2 (eR 0)))) sSk)))) sSk)
    sRv)
def X_Acts_takeBack : PM := fun vs h Q => (lx vs).length ≤ 3 ∧ B_Acts_takeBack (h.length + 0, hsz h + 0) (fun _ _ => False) (fun _ _ => False) (fun _ _ => False) Q (lini 3 vs) h
theorem v_Acts_takeBack (l : Launch) : Ctr l y_Acts_takeBack prog_2_method_4_code 3 none rm_Acts_takeBack X_Acts_takeBack := by
  refine Ctr_of (own := "PackLanes$Acts") (B := B_Acts_takeBack) (KR := fun _ Q => Q) (by decide) rfl (fun _ _ _ z => z) (fun _ _ _ _ z => ⟨Or.inl ⟨rfl, rfl⟩, z⟩) (Or.inl rfl) (fun κ hl ho hR hrt hn0 => ?_)
  subst hl
  unfold B_Acts_takeBack
  exact (S_sq (pc1 := 49) (S_if1 (pT := 7) (pF := 49) (J1_gt (pF := 49) (pc2 := 4) (E_fI f_Acts_18 ho (pc1 := 1) (E_aln d_Acts_takeBack_0 rfl) d_Acts_takeBack_1) d_Acts_takeBack_4 rfl) (S_cut (S_sq (pc1 := 17) (S_FO f_Acts_18 f_Acts_18 ho (pc1 := 8) (pc2 := 13) (E_aln d_Acts_takeBack_7 rfl) d_Acts_takeBack_8 d_Acts_takeBack_9 (E_ic d_Acts_takeBack_12 rfl) (fun _ _ _ _ _ k => r_isub d_Acts_takeBack_13 k) d_Acts_takeBack_14)
    (S_sq (pc1 := 27) (S_In (pc1 := 26) (E_aI (pc1 := 21) (pc2 := 25) (E_fR f_Acts_9 ho (pc1 := 18) (E_aln d_Acts_takeBack_17 rfl) d_Acts_takeBack_18) (E_fI f_Acts_18 ho (pc1 := 22) (E_aln d_Acts_takeBack_21 rfl) d_Acts_takeBack_22) d_Acts_takeBack_25) d_Acts_takeBack_26 rfl)
    (S_if1 (pT := 37) (pF := 49) (C_and (pc1 := 31) (J1_ge (pF := 49) (pc2 := 28) (E_iln d_Acts_takeBack_27 rfl) d_Acts_takeBack_28 rfl) (J2_lt (pF := 49) (pc1 := 32) (pc2 := 34) (E_iln d_Acts_takeBack_31 rfl) (E_len (pc1 := 33) (E_aln d_Acts_takeBack_32 rfl) d_Acts_takeBack_33) d_Acts_takeBack_34 rfl)) (S_AI (pc1 := 38) (pc2 := 39) (pc3 := 48) (E_aln d_Acts_takeBack_37 rfl) (E_iln d_Acts_takeBack_38 rfl) (E_aI (pc1 := 43) (pc2 := 47) (E_fR f_Acts_15 ho (pc1 := 40) (E_aln d_Acts_takeBack_39 rfl) d_Acts_takeBack_40) (E_fI f_Acts_18 ho (pc1 := 44) (E_aln d_Acts_takeBack_43 rfl) d_Acts_takeBack_44) d_Acts_takeBack_47) d_Acts_takeBack_48))))))
    (S_rv hrt d_Acts_takeBack_49))
