/-! methods: the decoded rows, the meaning (B, X), the contract (v) -/
theorem d_Acts_clear_0 : decode prog_2_method_2_code 0 = .ok (.aload_n 0, 1) := by decide +kernel
theorem d_Acts_clear_1 : decode prog_2_method_2_code 1 = .ok (.iconst 0, 1) := by decide +kernel
theorem d_Acts_clear_2 : decode prog_2_method_2_code 2 = .ok (.putfield 18, 3) := by decide +kernel
theorem d_Acts_clear_5 : decode prog_2_method_2_code 5 = .ok (.return_, 1) := by decide +kernel
def B_Acts_clear (_ : Nat × Nat) : PS :=
  (sSq (sF .int 0 2 (eR 0) (eV (0 : Int32)))
    sRv)
def X_Acts_clear : PM := fun vs h Q => (lx vs).length ≤ 1 ∧ B_Acts_clear (h.length + 0, hsz h + 0) (fun _ _ => False) (fun _ _ => False) (fun _ _ => False) Q (lini 1 vs) h
theorem v_Acts_clear (l : Launch) : Ctr l y_Acts_clear prog_2_method_2_code 1 none rm_Acts_clear X_Acts_clear := by
  refine Ctr_of (own := "PackLanes$Acts") (B := B_Acts_clear) (KR := fun _ Q => Q) (by decide) rfl (fun _ _ _ z => z) (fun _ _ _ _ z => ⟨Or.inl ⟨rfl, rfl⟩, z⟩) (Or.inl rfl) (fun κ hl ho hR hrt hn0 => ?_)
  subst hl
  unfold B_Acts_clear
  exact (S_sq (pc1 := 5) (S_FI f_Acts_18 ho (pc1 := 1) (pc2 := 2) (E_aln d_Acts_clear_0 rfl) (E_ic d_Acts_clear_1 rfl) d_Acts_clear_2)
    (S_rv hrt d_Acts_clear_5))
theorem d_Slots_clear_0 : decode prog_8_method_2_code 0 = .ok (.iconst 0, 1) := by decide +kernel
theorem d_Slots_clear_1 : decode prog_8_method_2_code 1 = .ok (.istore_n 1, 1) := by decide +kernel
theorem d_Slots_clear_2 : decode prog_8_method_2_code 2 = .ok (.iload_n 1, 1) := by decide +kernel
theorem d_Slots_clear_3 : decode prog_8_method_2_code 3 = .ok (.iconst 2, 1) := by decide +kernel
theorem d_Slots_clear_4 : decode prog_8_method_2_code 4 = .ok (.if_icmp .ge 16, 3) := by decide +kernel
theorem d_Slots_clear_7 : decode prog_8_method_2_code 7 = .ok (.aload_n 0, 1) := by decide +kernel
theorem d_Slots_clear_8 : decode prog_8_method_2_code 8 = .ok (.getfield 9, 3) := by decide +kernel
theorem d_Slots_clear_11 : decode prog_8_method_2_code 11 = .ok (.iload_n 1, 1) := by decide +kernel
theorem d_Slots_clear_12 : decode prog_8_method_2_code 12 = .ok (.iconst 0, 1) := by decide +kernel
theorem d_Slots_clear_13 : decode prog_8_method_2_code 13 = .ok (.bastore, 1) := by decide +kernel
theorem d_Slots_clear_14 : decode prog_8_method_2_code 14 = .ok (.iinc 1 1, 3) := by decide +kernel
theorem d_Slots_clear_17 : decode prog_8_method_2_code 17 = .ok (.goto (-15), 3) := by decide +kernel
theorem d_Slots_clear_20 : decode prog_8_method_2_code 20 = .ok (.return_, 1) := by decide +kernel
def B_Slots_clear (_ : Nat × Nat) : PS :=
  (sSq (sCut 1 (sSq (sI 1 (eV (0 : Int32)))
    (sLp 2 (e2 (fun x y : Int32 => decide (x < y)) (eI 1) (eV (2 : Int32)))
    (sAZ (eFR 6 0 (eR 0)) (eI 1) (eV (0 : Int32)))
    (sInc 1 (1)))))
    sRv)
def X_Slots_clear : PM := fun vs h Q => (lx vs).length ≤ 2 ∧ B_Slots_clear (h.length + 0, hsz h + 0) (fun _ _ => False) (fun _ _ => False) (fun _ _ => False) Q (lini 2 vs) h
theorem v_Slots_clear (l : Launch) : Ctr l y_Slots_clear prog_8_method_2_code 2 none rm_Slots_clear X_Slots_clear := by
  refine Ctr_of (own := "PackLanes$Slots") (B := B_Slots_clear) (KR := fun _ Q => Q) (by decide) rfl (fun _ _ _ z => z) (fun _ _ _ _ z => ⟨Or.inl ⟨rfl, rfl⟩, z⟩) (Or.inl rfl) (fun κ hl ho hR hrt hn0 => ?_)
  subst hl
  unfold B_Slots_clear
  exact (S_sq (pc1 := 20) (S_cut (S_sq (pc1 := 2) (S_In (pc1 := 1) (E_ic d_Slots_clear_0 rfl) d_Slots_clear_1 rfl)
    (S_lp (pT := 7) (pF := 20) (pS := 14) (pG := 17) (J2_lt (pF := 20) (pc1 := 3) (pc2 := 4) (E_iln d_Slots_clear_2 rfl) (E_ic d_Slots_clear_3 rfl) d_Slots_clear_4 rfl)
    (S_AZ (pc1 := 11) (pc2 := 12) (pc3 := 13) (E_fR f_Slots_9 ho (pc1 := 8) (E_aln d_Slots_clear_7 rfl) d_Slots_clear_8) (E_iln d_Slots_clear_11 rfl) (E_ic d_Slots_clear_12 rfl) d_Slots_clear_13)
    (S_Inc d_Slots_clear_14 rfl) d_Slots_clear_17 rfl)))
    (S_rv hrt d_Slots_clear_20))
theorem d_PL_restart_0 : decode prog_1_method_24_code 0 = .ok (.iconst 0, 1) := by decide +kernel
theorem d_PL_restart_1 : decode prog_1_method_24_code 1 = .ok (.istore 4, 2) := by decide +kernel
theorem d_PL_restart_3 : decode prog_1_method_24_code 3 = .ok (.iload 4, 2) := by decide +kernel
theorem d_PL_restart_5 : decode prog_1_method_24_code 5 = .ok (.bipush 16, 2) := by decide +kernel
theorem d_PL_restart_7 : decode prog_1_method_24_code 7 = .ok (.if_icmp .ge 20, 3) := by decide +kernel
theorem d_PL_restart_10 : decode prog_1_method_24_code 10 = .ok (.aload_n 0, 1) := by decide +kernel
theorem d_PL_restart_11 : decode prog_1_method_24_code 11 = .ok (.getfield 26, 3) := by decide +kernel
theorem d_PL_restart_14 : decode prog_1_method_24_code 14 = .ok (.iload 4, 2) := by decide +kernel
theorem d_PL_restart_16 : decode prog_1_method_24_code 16 = .ok (.iload 4, 2) := by decide +kernel
theorem d_PL_restart_18 : decode prog_1_method_24_code 18 = .ok (.iconst 1, 1) := by decide +kernel
theorem d_PL_restart_19 : decode prog_1_method_24_code 19 = .ok (.iadd, 1) := by decide +kernel
theorem d_PL_restart_20 : decode prog_1_method_24_code 20 = .ok (.iastore, 1) := by decide +kernel
theorem d_PL_restart_21 : decode prog_1_method_24_code 21 = .ok (.iinc 4 1, 3) := by decide +kernel
theorem d_PL_restart_24 : decode prog_1_method_24_code 24 = .ok (.goto (-21), 3) := by decide +kernel
theorem d_PL_restart_27 : decode prog_1_method_24_code 27 = .ok (.aload_n 0, 1) := by decide +kernel
theorem d_PL_restart_28 : decode prog_1_method_24_code 28 = .ok (.getfield 26, 3) := by decide +kernel
theorem d_PL_restart_31 : decode prog_1_method_24_code 31 = .ok (.bipush 16, 2) := by decide +kernel
theorem d_PL_restart_33 : decode prog_1_method_24_code 33 = .ok (.iload_n 1, 1) := by decide +kernel
theorem d_PL_restart_34 : decode prog_1_method_24_code 34 = .ok (.iastore, 1) := by decide +kernel
theorem d_PL_restart_35 : decode prog_1_method_24_code 35 = .ok (.aload_n 0, 1) := by decide +kernel
theorem d_PL_restart_36 : decode prog_1_method_24_code 36 = .ok (.getfield 26, 3) := by decide +kernel
theorem d_PL_restart_39 : decode prog_1_method_24_code 39 = .ok (.bipush 17, 2) := by decide +kernel
theorem d_PL_restart_41 : decode prog_1_method_24_code 41 = .ok (.iload_n 2, 1) := by decide +kernel
theorem d_PL_restart_42 : decode prog_1_method_24_code 42 = .ok (.iastore, 1) := by decide +kernel
theorem d_PL_restart_43 : decode prog_1_method_24_code 43 = .ok (.aload_n 0, 1) := by decide +kernel
theorem d_PL_restart_44 : decode prog_1_method_24_code 44 = .ok (.getfield 26, 3) := by decide +kernel
theorem d_PL_restart_47 : decode prog_1_method_24_code 47 = .ok (.bipush 18, 2) := by decide +kernel
theorem d_PL_restart_49 : decode prog_1_method_24_code 49 = .ok (.iload_n 3, 1) := by decide +kernel
theorem d_PL_restart_50 : decode prog_1_method_24_code 50 = .ok (.iastore, 1) := by decide +kernel
theorem d_PL_restart_51 : decode prog_1_method_24_code 51 = .ok (.aload_n 0, 1) := by decide +kernel
theorem d_PL_restart_52 : decode prog_1_method_24_code 52 = .ok (.getfield 42, 3) := by decide +kernel
theorem d_PL_restart_55 : decode prog_1_method_24_code 55 = .ok (.invokevirtual 263, 3) := by decide +kernel
theorem d_PL_restart_58 : decode prog_1_method_24_code 58 = .ok (.aload_n 0, 1) := by decide +kernel
theorem d_PL_restart_59 : decode prog_1_method_24_code 59 = .ok (.getfield 49, 3) := by decide +kernel
theorem d_PL_restart_62 : decode prog_1_method_24_code 62 = .ok (.invokevirtual 265, 3) := by decide +kernel
theorem d_PL_restart_65 : decode prog_1_method_24_code 65 = .ok (.return_, 1) := by decide +kernel
def B_PL_restart (_ : Nat × Nat) : PS :=
  (sSq (sCut 4 (sSq (sI 4 (eV (0 : Int32)))
    (sLp 5 (e2 (fun x y : Int32 => decide (x < y)) (eI 4) (eV (16 : Int32)))
    (sAI (eFR 9 3 (eR 0)) (eI 4) (e2 (fun x y : Int32 => x + y) (eI 4) (eV (1 : Int32))))
    (sInc 4 (1)))))
    (sSq (sAI (eFR 9 3 (eR 0)) (eV (16 : Int32)) (eI 1))
    (sSq (sAI (eFR 9 3 (eR 0)) (eV (17 : Int32)) (eI 2))
    (sSq (sAI (eFR 9 3 (eR 0)) (eV (18 : Int32)) (eI 3))
    (sSq (sX (xV 0 0 X_Acts_clear (eFR 9 7 (eR 0)) aN))
    (sSq (sX (xV 6 0 X_Slots_clear (eFR 9 8 (eR 0)) aN))
    sRv))))))
def X_PL_restart : PM := fun vs h Q => (lx vs).length ≤ 5 ∧ B_PL_restart (h.length + 0, hsz h + 0) (fun _ _ => False) (fun _ _ => False) (fun _ _ => False) Q (lini 5 vs) h
theorem v_PL_restart (l : Launch) : Ctr l y_PL_restart prog_1_method_24_code 5 none rm_PL_restart X_PL_restart := by
  refine Ctr_of (own := "PackLanes") (B := B_PL_restart) (KR := fun _ Q => Q) (by decide) rfl (fun _ _ _ z => z) (fun _ _ _ _ z => ⟨Or.inl ⟨rfl, rfl⟩, z⟩) (Or.inl rfl) (fun κ hl ho hR hrt hn0 => ?_)
  subst hl
  unfold B_PL_restart
  exact (S_sq (pc1 := 27) (S_cut (S_sq (pc1 := 3) (S_I (pc1 := 1) (E_ic d_PL_restart_0 rfl) d_PL_restart_1)
    (S_lp (pT := 10) (pF := 27) (pS := 21) (pG := 24) (J2_lt (pF := 27) (pc1 := 5) (pc2 := 7) (E_il d_PL_restart_3) (E_bi d_PL_restart_5 rfl) d_PL_restart_7 rfl)
    (S_AI (pc1 := 14) (pc2 := 16) (pc3 := 20) (E_fR f_PL_26 ho (pc1 := 11) (E_aln d_PL_restart_10 rfl) d_PL_restart_11) (E_il d_PL_restart_14) (E_iadd (pc1 := 18) (pc2 := 19) (E_il d_PL_restart_16) (E_ic d_PL_restart_18 rfl) d_PL_restart_19) d_PL_restart_20)
    (S_Inc d_PL_restart_21 rfl) d_PL_restart_24 rfl)))
    (S_sq (pc1 := 35) (S_AI (pc1 := 31) (pc2 := 33) (pc3 := 34) (E_fR f_PL_26 ho (pc1 := 28) (E_aln d_PL_restart_27 rfl) d_PL_restart_28) (E_bi d_PL_restart_31 rfl) (E_iln d_PL_restart_33 rfl) d_PL_restart_34)
    (S_sq (pc1 := 43) (S_AI (pc1 := 39) (pc2 := 41) (pc3 := 42) (E_fR f_PL_26 ho (pc1 := 36) (E_aln d_PL_restart_35 rfl) d_PL_restart_36) (E_bi d_PL_restart_39 rfl) (E_iln d_PL_restart_41 rfl) d_PL_restart_42)
    (S_sq (pc1 := 51) (S_AI (pc1 := 47) (pc2 := 49) (pc3 := 50) (E_fR f_PL_26 ho (pc1 := 44) (E_aln d_PL_restart_43 rfl) d_PL_restart_44) (E_bi d_PL_restart_47 rfl) (E_iln d_PL_restart_49 rfl) d_PL_restart_50)
    (S_sq (pc1 := 58) (S_X (O_V k_PL_263 (v_Acts_clear _) ⟨rfl, rfl⟩ ho (rk hR rfl) (by decide) (T := KT0) (N := 3) rfl (by decide) (pc1 := 55) (pc2 := 55) (E_fR f_PL_42 ho (pc1 := 52) (E_aln d_PL_restart_51 rfl) d_PL_restart_52) A_n d_PL_restart_55))
    (S_sq (pc1 := 65) (S_X (O_V k_PL_265 (v_Slots_clear _) ⟨rfl, rfl⟩ ho (rk hR rfl) (by decide) (T := KT6) (N := 2) rfl (by decide) (pc1 := 62) (pc2 := 62) (E_fR f_PL_49 ho (pc1 := 59) (E_aln d_PL_restart_58 rfl) d_PL_restart_59) A_n d_PL_restart_62))
    (S_rv hrt d_PL_restart_65)))))))
theorem d_Src_init_0 : decode prog_9_method_1_code 0 = .ok (.aload_n 0, 1) := by decide +kernel
theorem d_Src_init_1 : decode prog_9_method_1_code 1 = .ok (.invokespecial 3, 3) := by decide +kernel
theorem d_Src_init_4 : decode prog_9_method_1_code 4 = .ok (.aload_n 0, 1) := by decide +kernel
theorem d_Src_init_5 : decode prog_9_method_1_code 5 = .ok (.bipush 80, 2) := by decide +kernel
theorem d_Src_init_7 : decode prog_9_method_1_code 7 = .ok (.newarray .int, 2) := by decide +kernel
theorem d_Src_init_9 : decode prog_9_method_1_code 9 = .ok (.putfield 9, 3) := by decide +kernel
theorem d_Src_init_12 : decode prog_9_method_1_code 12 = .ok (.aload_n 0, 1) := by decide +kernel
theorem d_Src_init_13 : decode prog_9_method_1_code 13 = .ok (.iconst 4, 1) := by decide +kernel
theorem d_Src_init_14 : decode prog_9_method_1_code 14 = .ok (.newarray .int, 2) := by decide +kernel
theorem d_Src_init_16 : decode prog_9_method_1_code 16 = .ok (.putfield 15, 3) := by decide +kernel
theorem d_Src_init_19 : decode prog_9_method_1_code 19 = .ok (.aload_n 0, 1) := by decide +kernel
theorem d_Src_init_20 : decode prog_9_method_1_code 20 = .ok (.iconst 0, 1) := by decide +kernel
theorem d_Src_init_21 : decode prog_9_method_1_code 21 = .ok (.putfield 18, 3) := by decide +kernel
theorem d_Src_init_24 : decode prog_9_method_1_code 24 = .ok (.return_, 1) := by decide +kernel
def B_Src_init (g : Nat × Nat) : PS :=
  (sSq sSO
    (sSq (sF .ref 7 0 (eR 0) (eNA g 20 (eV (80 : Int32))))
    (sSq (sF .ref 7 1 (eR 0) (eNA g 20 (eV (4 : Int32))))
    (sSq (sF .int 7 2 (eR 0) (eV (0 : Int32)))
    sRv))))
def X_Src_init : PM := fun vs h Q => (lx vs).length ≤ 1 ∧ B_Src_init (h.length + 2, hsz h + 84) (fun _ _ => False) (fun _ _ => False) (fun _ _ => False) (fun o h' => (h'.length = h.length + 2 ∧ hsz h' = hsz h + 84) ∧ Q o h') (lini 1 vs) h
theorem v_Src_init (l : Launch) : Ctr l y_Src_init prog_9_method_1_code 1 none rm_Src_init X_Src_init := by
  refine Ctr_of (own := "PackLanes$Source") (B := B_Src_init) (KR := fun h Q o h' => (h'.length = h.length + 2 ∧ hsz h' = hsz h + 84) ∧ Q o h') (by decide) rfl (fun _ _ _ z => z) (fun _ _ _ _ z => ⟨Or.inr z.1, z.2⟩) (Or.inl rfl) (fun κ hl ho hR hrt hn0 => ?_)
  subst hl
  have hn : KO prog_9_method_1_code κ → (k_me κ).name = "<init>" := fun _ => hn0
  unfold B_Src_init
  exact (S_sq (pc1 := 4) (S_so w_o_Src_3 w_oi w_oc ho (rk2 hR rfl) d_Src_init_0 d_Src_init_1)
    (S_sq (pc1 := 12) (S_FR f_Src_9 ho hn (fun _ => ⟨rfl, rfl⟩) (pc1 := 5) (pc2 := 9) (E_aln d_Src_init_4 rfl) (E_NI rfl w_arrI (pc1 := 7) (E_bi d_Src_init_5 rfl) d_Src_init_7) d_Src_init_9)
    (S_sq (pc1 := 19) (S_FR f_Src_15 ho hn (fun _ => ⟨rfl, rfl⟩) (pc1 := 13) (pc2 := 16) (E_aln d_Src_init_12 rfl) (E_NI rfl w_arrI (pc1 := 14) (E_ic d_Src_init_13 rfl) d_Src_init_14) d_Src_init_16)
    (S_sq (pc1 := 24) (S_FI f_Src_18 ho (pc1 := 20) (pc2 := 21) (E_aln d_Src_init_19 rfl) (E_ic d_Src_init_20 rfl) d_Src_init_21)
    (S_rv hrt d_Src_init_24)))))
theorem d_Code_init_0 : decode prog_3_method_1_code 0 = .ok (.aload_n 0, 1) := by decide +kernel
theorem d_Code_init_1 : decode prog_3_method_1_code 1 = .ok (.invokespecial 3, 3) := by decide +kernel
theorem d_Code_init_4 : decode prog_3_method_1_code 4 = .ok (.aload_n 0, 1) := by decide +kernel
theorem d_Code_init_5 : decode prog_3_method_1_code 5 = .ok (.bipush 16, 2) := by decide +kernel
theorem d_Code_init_7 : decode prog_3_method_1_code 7 = .ok (.newarray .int, 2) := by decide +kernel
theorem d_Code_init_9 : decode prog_3_method_1_code 9 = .ok (.putfield 9, 3) := by decide +kernel
theorem d_Code_init_12 : decode prog_3_method_1_code 12 = .ok (.aload_n 0, 1) := by decide +kernel
theorem d_Code_init_13 : decode prog_3_method_1_code 13 = .ok (.bipush 16, 2) := by decide +kernel
theorem d_Code_init_15 : decode prog_3_method_1_code 15 = .ok (.newarray .int, 2) := by decide +kernel
theorem d_Code_init_17 : decode prog_3_method_1_code 17 = .ok (.putfield 15, 3) := by decide +kernel
theorem d_Code_init_20 : decode prog_3_method_1_code 20 = .ok (.aload_n 0, 1) := by decide +kernel
theorem d_Code_init_21 : decode prog_3_method_1_code 21 = .ok (.bipush 16, 2) := by decide +kernel
theorem d_Code_init_23 : decode prog_3_method_1_code 23 = .ok (.newarray .int, 2) := by decide +kernel
theorem d_Code_init_25 : decode prog_3_method_1_code 25 = .ok (.putfield 18, 3) := by decide +kernel
theorem d_Code_init_28 : decode prog_3_method_1_code 28 = .ok (.aload_n 0, 1) := by decide +kernel
theorem d_Code_init_29 : decode prog_3_method_1_code 29 = .ok (.bipush 16, 2) := by decide +kernel
theorem d_Code_init_31 : decode prog_3_method_1_code 31 = .ok (.newarray .int, 2) := by decide +kernel
theorem d_Code_init_33 : decode prog_3_method_1_code 33 = .ok (.putfield 21, 3) := by decide +kernel
theorem d_Code_init_36 : decode prog_3_method_1_code 36 = .ok (.aload_n 0, 1) := by decide +kernel
theorem d_Code_init_37 : decode prog_3_method_1_code 37 = .ok (.bipush 16, 2) := by decide +kernel
theorem d_Code_init_39 : decode prog_3_method_1_code 39 = .ok (.newarray .int, 2) := by decide +kernel
theorem d_Code_init_41 : decode prog_3_method_1_code 41 = .ok (.putfield 24, 3) := by decide +kernel
theorem d_Code_init_44 : decode prog_3_method_1_code 44 = .ok (.aload_n 0, 1) := by decide +kernel
theorem d_Code_init_45 : decode prog_3_method_1_code 45 = .ok (.bipush 16, 2) := by decide +kernel
theorem d_Code_init_47 : decode prog_3_method_1_code 47 = .ok (.newarray .int, 2) := by decide +kernel
theorem d_Code_init_49 : decode prog_3_method_1_code 49 = .ok (.putfield 27, 3) := by decide +kernel
theorem d_Code_init_52 : decode prog_3_method_1_code 52 = .ok (.aload_n 0, 1) := by decide +kernel
theorem d_Code_init_53 : decode prog_3_method_1_code 53 = .ok (.iconst 0, 1) := by decide +kernel
theorem d_Code_init_54 : decode prog_3_method_1_code 54 = .ok (.putfield 30, 3) := by decide +kernel
theorem d_Code_init_57 : decode prog_3_method_1_code 57 = .ok (.return_, 1) := by decide +kernel
def B_Code_init (g : Nat × Nat) : PS :=
  (sSq sSO
    (sSq (sF .ref 1 0 (eR 0) (eNA g 20 (eV (16 : Int32))))
    (sSq (sF .ref 1 1 (eR 0) (eNA g 20 (eV (16 : Int32))))
    (sSq (sF .ref 1 2 (eR 0) (eNA g 20 (eV (16 : Int32))))
    (sSq (sF .ref 1 3 (eR 0) (eNA g 20 (eV (16 : Int32))))
    (sSq (sF .ref 1 4 (eR 0) (eNA g 20 (eV (16 : Int32))))
    (sSq (sF .ref 1 5 (eR 0) (eNA g 20 (eV (16 : Int32))))
    (sSq (sF .int 1 6 (eR 0) (eV (0 : Int32)))
    sRv))))))))
def X_Code_init : PM := fun vs h Q => (lx vs).length ≤ 1 ∧ B_Code_init (h.length + 6, hsz h + 96) (fun _ _ => False) (fun _ _ => False) (fun _ _ => False) (fun o h' => (h'.length = h.length + 6 ∧ hsz h' = hsz h + 96) ∧ Q o h') (lini 1 vs) h
theorem v_Code_init (l : Launch) : Ctr l y_Code_init prog_3_method_1_code 1 none rm_Code_init X_Code_init := by
  refine Ctr_of (own := "PackLanes$Code") (B := B_Code_init) (KR := fun h Q o h' => (h'.length = h.length + 6 ∧ hsz h' = hsz h + 96) ∧ Q o h') (by decide) rfl (fun _ _ _ z => z) (fun _ _ _ _ z => ⟨Or.inr z.1, z.2⟩) (Or.inl rfl) (fun κ hl ho hR hrt hn0 => ?_)
  subst hl
  have hn : KO prog_3_method_1_code κ → (k_me κ).name = "<init>" := fun _ => hn0
  unfold B_Code_init
  exact (S_sq (pc1 := 4) (S_so w_o_Code_3 w_oi w_oc ho (rk2 hR rfl) d_Code_init_0 d_Code_init_1)
    (S_sq (pc1 := 12) (S_FR f_Code_9 ho hn (fun _ => ⟨rfl, rfl⟩) (pc1 := 5) (pc2 := 9) (E_aln d_Code_init_4 rfl) (E_NI rfl w_arrI (pc1 := 7) (E_bi d_Code_init_5 rfl) d_Code_init_7) d_Code_init_9)
    (S_sq (pc1 := 20) (S_FR f_Code_15 ho hn (fun _ => ⟨rfl, rfl⟩) (pc1 := 13) (pc2 := 17) (E_aln d_Code_init_12 rfl) (E_NI rfl w_arrI (pc1 := 15) (E_bi d_Code_init_13 rfl) d_Code_init_15) d_Code_init_17)
    (S_sq (pc1 := 28) (S_FR f_Code_18 ho hn (fun _ => ⟨rfl, rfl⟩) (pc1 := 21) (pc2 := 25) (E_aln d_Code_init_20 rfl) (E_NI rfl w_arrI (pc1 := 23) (E_bi d_Code_init_21 rfl) d_Code_init_23) d_Code_init_25)
    (S_sq (pc1 := 36) (S_FR f_Code_21 ho hn (fun _ => ⟨rfl, rfl⟩) (pc1 := 29) (pc2 := 33) (E_aln d_Code_init_28 rfl) (E_NI rfl w_arrI (pc1 := 31) (E_bi d_Code_init_29 rfl) d_Code_init_31) d_Code_init_33)
    (S_sq (pc1 := 44) (S_FR f_Code_24 ho hn (fun _ => ⟨rfl, rfl⟩) (pc1 := 37) (pc2 := 41) (E_aln d_Code_init_36 rfl) (E_NI rfl w_arrI (pc1 := 39) (E_bi d_Code_init_37 rfl) d_Code_init_39) d_Code_init_41)
    (S_sq (pc1 := 52) (S_FR f_Code_27 ho hn (fun _ => ⟨rfl, rfl⟩) (pc1 := 45) (pc2 := 49) (E_aln d_Code_init_44 rfl) (E_NI rfl w_arrI (pc1 := 47) (E_bi d_Code_init_45 rfl) d_Code_init_47) d_Code_init_49)
    (S_sq (pc1 := 57) (S_FI f_Code_30 ho (pc1 := 53) (pc2 := 54) (E_aln d_Code_init_52 rfl) (E_ic d_Code_init_53 rfl) d_Code_init_54)
    (S_rv hrt d_Code_init_57)))))))))
theorem d_Acts_init_0 : decode prog_2_method_1_code 0 = .ok (.aload_n 0, 1) := by decide +kernel
theorem d_Acts_init_1 : decode prog_2_method_1_code 1 = .ok (.invokespecial 3, 3) := by decide +kernel
theorem d_Acts_init_4 : decode prog_2_method_1_code 4 = .ok (.aload_n 0, 1) := by decide +kernel
theorem d_Acts_init_5 : decode prog_2_method_1_code 5 = .ok (.bipush 14, 2) := by decide +kernel
theorem d_Acts_init_7 : decode prog_2_method_1_code 7 = .ok (.newarray .int, 2) := by decide +kernel
theorem d_Acts_init_9 : decode prog_2_method_1_code 9 = .ok (.putfield 9, 3) := by decide +kernel
theorem d_Acts_init_12 : decode prog_2_method_1_code 12 = .ok (.aload_n 0, 1) := by decide +kernel
theorem d_Acts_init_13 : decode prog_2_method_1_code 13 = .ok (.bipush 14, 2) := by decide +kernel
theorem d_Acts_init_15 : decode prog_2_method_1_code 15 = .ok (.newarray .int, 2) := by decide +kernel
theorem d_Acts_init_17 : decode prog_2_method_1_code 17 = .ok (.putfield 15, 3) := by decide +kernel
theorem d_Acts_init_20 : decode prog_2_method_1_code 20 = .ok (.aload_n 0, 1) := by decide +kernel
theorem d_Acts_init_21 : decode prog_2_method_1_code 21 = .ok (.iconst 0, 1) := by decide +kernel
theorem d_Acts_init_22 : decode prog_2_method_1_code 22 = .ok (.putfield 18, 3) := by decide +kernel
theorem d_Acts_init_25 : decode prog_2_method_1_code 25 = .ok (.return_, 1) := by decide +kernel
def B_Acts_init (g : Nat × Nat) : PS :=
  (sSq sSO
    (sSq (sF .ref 0 0 (eR 0) (eNA g 20 (eV (14 : Int32))))
    (sSq (sF .ref 0 1 (eR 0) (eNA g 20 (eV (14 : Int32))))
    (sSq (sF .int 0 2 (eR 0) (eV (0 : Int32)))
    sRv))))
def X_Acts_init : PM := fun vs h Q => (lx vs).length ≤ 1 ∧ B_Acts_init (h.length + 2, hsz h + 28) (fun _ _ => False) (fun _ _ => False) (fun _ _ => False) (fun o h' => (h'.length = h.length + 2 ∧ hsz h' = hsz h + 28) ∧ Q o h') (lini 1 vs) h
theorem v_Acts_init (l : Launch) : Ctr l y_Acts_init prog_2_method_1_code 1 none rm_Acts_init X_Acts_init := by
  refine Ctr_of (own := "PackLanes$Acts") (B := B_Acts_init) (KR := fun h Q o h' => (h'.length = h.length + 2 ∧ hsz h' = hsz h + 28) ∧ Q o h') (by decide) rfl (fun _ _ _ z => z) (fun _ _ _ _ z => ⟨Or.inr z.1, z.2⟩) (Or.inl rfl) (fun κ hl ho hR hrt hn0 => ?_)
  subst hl
  have hn : KO prog_2_method_1_code κ → (k_me κ).name = "<init>" := fun _ => hn0
  unfold B_Acts_init
  exact (S_sq (pc1 := 4) (S_so w_o_Acts_3 w_oi w_oc ho (rk2 hR rfl) d_Acts_init_0 d_Acts_init_1)
    (S_sq (pc1 := 12) (S_FR f_Acts_9 ho hn (fun _ => ⟨rfl, rfl⟩) (pc1 := 5) (pc2 := 9) (E_aln d_Acts_init_4 rfl) (E_NI rfl w_arrI (pc1 := 7) (E_bi d_Acts_init_5 rfl) d_Acts_init_7) d_Acts_init_9)
    (S_sq (pc1 := 20) (S_FR f_Acts_15 ho hn (fun _ => ⟨rfl, rfl⟩) (pc1 := 13) (pc2 := 17) (E_aln d_Acts_init_12 rfl) (E_NI rfl w_arrI (pc1 := 15) (E_bi d_Acts_init_13 rfl) d_Acts_init_15) d_Acts_init_17)
    (S_sq (pc1 := 25) (S_FI f_Acts_18 ho (pc1 := 21) (pc2 := 22) (E_aln d_Acts_init_20 rfl) (E_ic d_Acts_init_21 rfl) d_Acts_init_22)
    (S_rv hrt d_Acts_init_25)))))
theorem d_Slots_init_0 : decode prog_8_method_1_code 0 = .ok (.aload_n 0, 1) := by decide +kernel
theorem d_Slots_init_1 : decode prog_8_method_1_code 1 = .ok (.invokespecial 3, 3) := by decide +kernel
theorem d_Slots_init_4 : decode prog_8_method_1_code 4 = .ok (.aload_n 0, 1) := by decide +kernel
theorem d_Slots_init_5 : decode prog_8_method_1_code 5 = .ok (.iconst 2, 1) := by decide +kernel
theorem d_Slots_init_6 : decode prog_8_method_1_code 6 = .ok (.newarray .boolean, 2) := by decide +kernel
theorem d_Slots_init_8 : decode prog_8_method_1_code 8 = .ok (.putfield 9, 3) := by decide +kernel
theorem d_Slots_init_11 : decode prog_8_method_1_code 11 = .ok (.aload_n 0, 1) := by decide +kernel
theorem d_Slots_init_12 : decode prog_8_method_1_code 12 = .ok (.iconst 2, 1) := by decide +kernel
theorem d_Slots_init_13 : decode prog_8_method_1_code 13 = .ok (.bipush 19, 2) := by decide +kernel
theorem d_Slots_init_15 : decode prog_8_method_1_code 15 = .ok (.multianewarray 15 2, 4) := by decide +kernel
theorem d_Slots_init_19 : decode prog_8_method_1_code 19 = .ok (.putfield 17, 3) := by decide +kernel
theorem d_Slots_init_22 : decode prog_8_method_1_code 22 = .ok (.return_, 1) := by decide +kernel
def B_Slots_init (g : Nat × Nat) : PS :=
  (sSq sSO
    (sSq (sF .ref 6 0 (eR 0) (eNA g 21 (eV (2 : Int32))))
    (sSq (sF .ref 6 1 (eR 0) (eNM g (eV (19 : Int32))))
    sRv)))
def X_Slots_init : PM := fun vs h Q => (lx vs).length ≤ 1 ∧ B_Slots_init (h.length + 4, hsz h + 42) (fun _ _ => False) (fun _ _ => False) (fun _ _ => False) (fun o h' => (h'.length = h.length + 4 ∧ hsz h' = hsz h + 42) ∧ Q o h') (lini 1 vs) h
theorem v_Slots_init (l : Launch) : Ctr l y_Slots_init prog_8_method_1_code 1 none rm_Slots_init X_Slots_init := by
  refine Ctr_of (own := "PackLanes$Slots") (B := B_Slots_init) (KR := fun h Q o h' => (h'.length = h.length + 4 ∧ hsz h' = hsz h + 42) ∧ Q o h') (by decide) rfl (fun _ _ _ z => z) (fun _ _ _ _ z => ⟨Or.inr z.1, z.2⟩) (Or.inl rfl) (fun κ hl ho hR hrt hn0 => ?_)
  subst hl
  have hn : KO prog_8_method_1_code κ → (k_me κ).name = "<init>" := fun _ => hn0
  unfold B_Slots_init
  exact (S_sq (pc1 := 4) (S_so w_o_Slots_3 w_oi w_oc ho (rk2 hR rfl) d_Slots_init_0 d_Slots_init_1)
    (S_sq (pc1 := 11) (S_FR f_Slots_9 ho hn (fun _ => ⟨rfl, rfl⟩) (pc1 := 5) (pc2 := 8) (E_aln d_Slots_init_4 rfl) (E_NZ rfl w_arrZ (pc1 := 6) (E_ic d_Slots_init_5 rfl) d_Slots_init_6) d_Slots_init_8)
    (S_sq (pc1 := 22) (S_FR f_Slots_17 ho hn (fun _ => ⟨rfl, rfl⟩) (pc1 := 12) (pc2 := 19) (E_aln d_Slots_init_11 rfl) (E_NM rfl w_k_Slots_15 w_arrI ho d_Slots_init_12 (pc1 := 15) (E_bi d_Slots_init_13 rfl) d_Slots_init_15) d_Slots_init_19)
    (S_rv hrt d_Slots_init_22))))
theorem d_Sights_init_0 : decode prog_7_method_1_code 0 = .ok (.aload_n 0, 1) := by decide +kernel
theorem d_Sights_init_1 : decode prog_7_method_1_code 1 = .ok (.invokespecial 3, 3) := by decide +kernel
theorem d_Sights_init_4 : decode prog_7_method_1_code 4 = .ok (.aload_n 0, 1) := by decide +kernel
theorem d_Sights_init_5 : decode prog_7_method_1_code 5 = .ok (.bipush 6, 2) := by decide +kernel
theorem d_Sights_init_7 : decode prog_7_method_1_code 7 = .ok (.newarray .int, 2) := by decide +kernel
theorem d_Sights_init_9 : decode prog_7_method_1_code 9 = .ok (.putfield 9, 3) := by decide +kernel
theorem d_Sights_init_12 : decode prog_7_method_1_code 12 = .ok (.aload_n 0, 1) := by decide +kernel
theorem d_Sights_init_13 : decode prog_7_method_1_code 13 = .ok (.bipush 6, 2) := by decide +kernel
theorem d_Sights_init_15 : decode prog_7_method_1_code 15 = .ok (.newarray .int, 2) := by decide +kernel
theorem d_Sights_init_17 : decode prog_7_method_1_code 17 = .ok (.putfield 15, 3) := by decide +kernel
theorem d_Sights_init_20 : decode prog_7_method_1_code 20 = .ok (.aload_n 0, 1) := by decide +kernel
theorem d_Sights_init_21 : decode prog_7_method_1_code 21 = .ok (.iconst 0, 1) := by decide +kernel
theorem d_Sights_init_22 : decode prog_7_method_1_code 22 = .ok (.putfield 18, 3) := by decide +kernel
theorem d_Sights_init_25 : decode prog_7_method_1_code 25 = .ok (.return_, 1) := by decide +kernel
def B_Sights_init (g : Nat × Nat) : PS :=
  (sSq sSO
    (sSq (sF .ref 5 0 (eR 0) (eNA g 20 (eV (6 : Int32))))
    (sSq (sF .ref 5 1 (eR 0) (eNA g 20 (eV (6 : Int32))))
    (sSq (sF .int 5 2 (eR 0) (eV (0 : Int32)))
    sRv))))
def X_Sights_init : PM := fun vs h Q => (lx vs).length ≤ 1 ∧ B_Sights_init (h.length + 2, hsz h + 12) (fun _ _ => False) (fun _ _ => False) (fun _ _ => False) (fun o h' => (h'.length = h.length + 2 ∧ hsz h' = hsz h + 12) ∧ Q o h') (lini 1 vs) h
theorem v_Sights_init (l : Launch) : Ctr l y_Sights_init prog_7_method_1_code 1 none rm_Sights_init X_Sights_init := by
  refine Ctr_of (own := "PackLanes$Sights") (B := B_Sights_init) (KR := fun h Q o h' => (h'.length = h.length + 2 ∧ hsz h' = hsz h + 12) ∧ Q o h') (by decide) rfl (fun _ _ _ z => z) (fun _ _ _ _ z => ⟨Or.inr z.1, z.2⟩) (Or.inl rfl) (fun κ hl ho hR hrt hn0 => ?_)
  subst hl
  have hn : KO prog_7_method_1_code κ → (k_me κ).name = "<init>" := fun _ => hn0
  unfold B_Sights_init
  exact (S_sq (pc1 := 4) (S_so w_o_Sights_3 w_oi w_oc ho (rk2 hR rfl) d_Sights_init_0 d_Sights_init_1)
    (S_sq (pc1 := 12) (S_FR f_Sights_9 ho hn (fun _ => ⟨rfl, rfl⟩) (pc1 := 5) (pc2 := 9) (E_aln d_Sights_init_4 rfl) (E_NI rfl w_arrI (pc1 := 7) (E_bi d_Sights_init_5 rfl) d_Sights_init_7) d_Sights_init_9)
    (S_sq (pc1 := 20) (S_FR f_Sights_15 ho hn (fun _ => ⟨rfl, rfl⟩) (pc1 := 13) (pc2 := 17) (E_aln d_Sights_init_12 rfl) (E_NI rfl w_arrI (pc1 := 15) (E_bi d_Sights_init_13 rfl) d_Sights_init_15) d_Sights_init_17)
    (S_sq (pc1 := 25) (S_FI f_Sights_18 ho (pc1 := 21) (pc2 := 22) (E_aln d_Sights_init_20 rfl) (E_ic d_Sights_init_21 rfl) d_Sights_init_22)
    (S_rv hrt d_Sights_init_25)))))
theorem d_Links_init_0 : decode prog_4_method_1_code 0 = .ok (.aload_n 0, 1) := by decide +kernel
theorem d_Links_init_1 : decode prog_4_method_1_code 1 = .ok (.invokespecial 3, 3) := by decide +kernel
theorem d_Links_init_4 : decode prog_4_method_1_code 4 = .ok (.aload_n 0, 1) := by decide +kernel
theorem d_Links_init_5 : decode prog_4_method_1_code 5 = .ok (.bipush 16, 2) := by decide +kernel
theorem d_Links_init_7 : decode prog_4_method_1_code 7 = .ok (.newarray .int, 2) := by decide +kernel
theorem d_Links_init_9 : decode prog_4_method_1_code 9 = .ok (.putfield 9, 3) := by decide +kernel
theorem d_Links_init_12 : decode prog_4_method_1_code 12 = .ok (.aload_n 0, 1) := by decide +kernel
theorem d_Links_init_13 : decode prog_4_method_1_code 13 = .ok (.bipush 16, 2) := by decide +kernel
theorem d_Links_init_15 : decode prog_4_method_1_code 15 = .ok (.newarray .int, 2) := by decide +kernel
theorem d_Links_init_17 : decode prog_4_method_1_code 17 = .ok (.putfield 15, 3) := by decide +kernel
theorem d_Links_init_20 : decode prog_4_method_1_code 20 = .ok (.aload_n 0, 1) := by decide +kernel
theorem d_Links_init_21 : decode prog_4_method_1_code 21 = .ok (.bipush 16, 2) := by decide +kernel
theorem d_Links_init_23 : decode prog_4_method_1_code 23 = .ok (.newarray .int, 2) := by decide +kernel
theorem d_Links_init_25 : decode prog_4_method_1_code 25 = .ok (.putfield 18, 3) := by decide +kernel
theorem d_Links_init_28 : decode prog_4_method_1_code 28 = .ok (.aload_n 0, 1) := by decide +kernel
theorem d_Links_init_29 : decode prog_4_method_1_code 29 = .ok (.iconst 0, 1) := by decide +kernel
theorem d_Links_init_30 : decode prog_4_method_1_code 30 = .ok (.putfield 21, 3) := by decide +kernel
theorem d_Links_init_33 : decode prog_4_method_1_code 33 = .ok (.aload_n 0, 1) := by decide +kernel
theorem d_Links_init_34 : decode prog_4_method_1_code 34 = .ok (.aload_n 1, 1) := by decide +kernel
theorem d_Links_init_35 : decode prog_4_method_1_code 35 = .ok (.putfield 25, 3) := by decide +kernel
theorem d_Links_init_38 : decode prog_4_method_1_code 38 = .ok (.return_, 1) := by decide +kernel
def B_Links_init (g : Nat × Nat) : PS :=
  (sSq sSO
    (sSq (sF .ref 2 1 (eR 0) (eNA g 20 (eV (16 : Int32))))
    (sSq (sF .ref 2 2 (eR 0) (eNA g 20 (eV (16 : Int32))))
    (sSq (sF .ref 2 3 (eR 0) (eNA g 20 (eV (16 : Int32))))
    (sSq (sF .int 2 4 (eR 0) (eV (0 : Int32)))
    (sSq (sF .ref 2 0 (eR 0) (eR 1))
    sRv))))))
def X_Links_init : PM := fun vs h Q => (lx vs).length ≤ 2 ∧ B_Links_init (h.length + 3, hsz h + 48) (fun _ _ => False) (fun _ _ => False) (fun _ _ => False) (fun o h' => (h'.length = h.length + 3 ∧ hsz h' = hsz h + 48) ∧ Q o h') (lini 2 vs) h
theorem v_Links_init (l : Launch) : Ctr l y_Links_init prog_4_method_1_code 2 none rm_Links_init X_Links_init := by
  refine Ctr_of (own := "PackLanes$Links") (B := B_Links_init) (KR := fun h Q o h' => (h'.length = h.length + 3 ∧ hsz h' = hsz h + 48) ∧ Q o h') (by decide) rfl (fun _ _ _ z => z) (fun _ _ _ _ z => ⟨Or.inr z.1, z.2⟩) (Or.inl rfl) (fun κ hl ho hR hrt hn0 => ?_)
  subst hl
  have hn : KO prog_4_method_1_code κ → (k_me κ).name = "<init>" := fun _ => hn0
  unfold B_Links_init
  exact (S_sq (pc1 := 4) (S_so w_o_Links_3 w_oi w_oc ho (rk2 hR rfl) d_Links_init_0 d_Links_init_1)
    (S_sq (pc1 := 12) (S_FR f_Links_9 ho hn (fun _ => ⟨rfl, rfl⟩) (pc1 := 5) (pc2 := 9) (E_aln d_Links_init_4 rfl) (E_NI rfl w_arrI (pc1 := 7) (E_bi d_Links_init_5 rfl) d_Links_init_7) d_Links_init_9)
    (S_sq (pc1 := 20) (S_FR f_Links_15 ho hn (fun _ => ⟨rfl, rfl⟩) (pc1 := 13) (pc2 := 17) (E_aln d_Links_init_12 rfl) (E_NI rfl w_arrI (pc1 := 15) (E_bi d_Links_init_13 rfl) d_Links_init_15) d_Links_init_17)
    (S_sq (pc1 := 28) (S_FR f_Links_18 ho hn (fun _ => ⟨rfl, rfl⟩) (pc1 := 21) (pc2 := 25) (E_aln d_Links_init_20 rfl) (E_NI rfl w_arrI (pc1 := 23) (E_bi d_Links_init_21 rfl) d_Links_init_23) d_Links_init_25)
    (S_sq (pc1 := 33) (S_FI f_Links_21 ho (pc1 := 29) (pc2 := 30) (E_aln d_Links_init_28 rfl) (E_ic d_Links_init_29 rfl) d_Links_init_30)
    (S_sq (pc1 := 38) (S_FR f_Links_25 ho hn (fun _ => ⟨rfl, rfl⟩) (pc1 := 34) (pc2 := 35) (E_aln d_Links_init_33 rfl) (E_aln d_Links_init_34 rfl) d_Links_init_35)
    (S_rv hrt d_Links_init_38)))))))
theorem d_Tree_init_0 : decode prog_10_method_1_code 0 = .ok (.aload_n 0, 1) := by decide +kernel
theorem d_Tree_init_1 : decode prog_10_method_1_code 1 = .ok (.invokespecial 3, 3) := by decide +kernel
theorem d_Tree_init_4 : decode prog_10_method_1_code 4 = .ok (.aload_n 0, 1) := by decide +kernel
theorem d_Tree_init_5 : decode prog_10_method_1_code 5 = .ok (.bipush 8, 2) := by decide +kernel
theorem d_Tree_init_7 : decode prog_10_method_1_code 7 = .ok (.newarray .int, 2) := by decide +kernel
theorem d_Tree_init_9 : decode prog_10_method_1_code 9 = .ok (.putfield 11, 3) := by decide +kernel
theorem d_Tree_init_12 : decode prog_10_method_1_code 12 = .ok (.aload_n 0, 1) := by decide +kernel
theorem d_Tree_init_13 : decode prog_10_method_1_code 13 = .ok (.iconst 0, 1) := by decide +kernel
theorem d_Tree_init_14 : decode prog_10_method_1_code 14 = .ok (.putfield 15, 3) := by decide +kernel
theorem d_Tree_init_17 : decode prog_10_method_1_code 17 = .ok (.aload_n 0, 1) := by decide +kernel
theorem d_Tree_init_18 : decode prog_10_method_1_code 18 = .ok (.iconst 0, 1) := by decide +kernel
theorem d_Tree_init_19 : decode prog_10_method_1_code 19 = .ok (.putfield 19, 3) := by decide +kernel
theorem d_Tree_init_22 : decode prog_10_method_1_code 22 = .ok (.aload_n 0, 1) := by decide +kernel
theorem d_Tree_init_23 : decode prog_10_method_1_code 23 = .ok (.bipush 16, 2) := by decide +kernel
theorem d_Tree_init_25 : decode prog_10_method_1_code 25 = .ok (.newarray .int, 2) := by decide +kernel
theorem d_Tree_init_27 : decode prog_10_method_1_code 27 = .ok (.putfield 22, 3) := by decide +kernel
theorem d_Tree_init_30 : decode prog_10_method_1_code 30 = .ok (.aload_n 0, 1) := by decide +kernel
theorem d_Tree_init_31 : decode prog_10_method_1_code 31 = .ok (.iconst 0, 1) := by decide +kernel
theorem d_Tree_init_32 : decode prog_10_method_1_code 32 = .ok (.putfield 25, 3) := by decide +kernel
theorem d_Tree_init_35 : decode prog_10_method_1_code 35 = .ok (.aload_n 0, 1) := by decide +kernel
theorem d_Tree_init_36 : decode prog_10_method_1_code 36 = .ok (.iconst 2, 1) := by decide +kernel
theorem d_Tree_init_37 : decode prog_10_method_1_code 37 = .ok (.putfield 28, 3) := by decide +kernel
theorem d_Tree_init_40 : decode prog_10_method_1_code 40 = .ok (.aload_n 0, 1) := by decide +kernel
theorem d_Tree_init_41 : decode prog_10_method_1_code 41 = .ok (.iconst 0, 1) := by decide +kernel
theorem d_Tree_init_42 : decode prog_10_method_1_code 42 = .ok (.putfield 31, 3) := by decide +kernel
theorem d_Tree_init_45 : decode prog_10_method_1_code 45 = .ok (.aload_n 0, 1) := by decide +kernel
theorem d_Tree_init_46 : decode prog_10_method_1_code 46 = .ok (.iconst 0, 1) := by decide +kernel
theorem d_Tree_init_47 : decode prog_10_method_1_code 47 = .ok (.putfield 34, 3) := by decide +kernel
theorem d_Tree_init_50 : decode prog_10_method_1_code 50 = .ok (.aload_n 0, 1) := by decide +kernel
theorem d_Tree_init_51 : decode prog_10_method_1_code 51 = .ok (.iconst 0, 1) := by decide +kernel
theorem d_Tree_init_52 : decode prog_10_method_1_code 52 = .ok (.putfield 37, 3) := by decide +kernel
theorem d_Tree_init_55 : decode prog_10_method_1_code 55 = .ok (.aload_n 0, 1) := by decide +kernel
theorem d_Tree_init_56 : decode prog_10_method_1_code 56 = .ok (.aload_n 1, 1) := by decide +kernel
theorem d_Tree_init_57 : decode prog_10_method_1_code 57 = .ok (.putfield 40, 3) := by decide +kernel
theorem d_Tree_init_60 : decode prog_10_method_1_code 60 = .ok (.aload_n 0, 1) := by decide +kernel
theorem d_Tree_init_61 : decode prog_10_method_1_code 61 = .ok (.aload_n 2, 1) := by decide +kernel
theorem d_Tree_init_62 : decode prog_10_method_1_code 62 = .ok (.putfield 44, 3) := by decide +kernel
theorem d_Tree_init_65 : decode prog_10_method_1_code 65 = .ok (.return_, 1) := by decide +kernel
def B_Tree_init (g : Nat × Nat) : PS :=
  (sSq sSO
    (sSq (sF .ref 8 2 (eR 0) (eNA g 20 (eV (8 : Int32))))
    (sSq (sF .int 8 3 (eR 0) (eV (0 : Int32)))
    (sSq (sF .int 8 4 (eR 0) (eV (0 : Int32)))
    (sSq (sF .ref 8 5 (eR 0) (eNA g 20 (eV (16 : Int32))))
    (sSq (sF .int 8 6 (eR 0) (eV (0 : Int32)))
    (sSq (sF .int 8 7 (eR 0) (eV (2 : Int32)))
    (sSq (sF .int 8 8 (eR 0) (eV (0 : Int32)))
    (sSq (sF .int 8 9 (eR 0) (eV (0 : Int32)))
    (sSq (sF .int 8 10 (eR 0) (eV (0 : Int32)))
    (sSq (sF .ref 8 0 (eR 0) (eR 1))
    (sSq (sF .ref 8 1 (eR 0) (eR 2))
    sRv))))))))))))
def X_Tree_init : PM := fun vs h Q => (lx vs).length ≤ 3 ∧ B_Tree_init (h.length + 2, hsz h + 24) (fun _ _ => False) (fun _ _ => False) (fun _ _ => False) (fun o h' => (h'.length = h.length + 2 ∧ hsz h' = hsz h + 24) ∧ Q o h') (lini 3 vs) h
theorem v_Tree_init (l : Launch) : Ctr l y_Tree_init prog_10_method_1_code 3 none rm_Tree_init X_Tree_init := by
  refine Ctr_of (own := "PackLanes$Tree") (B := B_Tree_init) (KR := fun h Q o h' => (h'.length = h.length + 2 ∧ hsz h' = hsz h + 24) ∧ Q o h') (by decide) rfl (fun _ _ _ z => z) (fun _ _ _ _ z => ⟨Or.inr z.1, z.2⟩) (Or.inl rfl) (fun κ hl ho hR hrt hn0 => ?_)
  subst hl
  have hn : KO prog_10_method_1_code κ → (k_me κ).name = "<init>" := fun _ => hn0
  unfold B_Tree_init
  exact (S_sq (pc1 := 4) (S_so w_o_Tree_3 w_oi w_oc ho (rk2 hR rfl) d_Tree_init_0 d_Tree_init_1)
    (S_sq (pc1 := 12) (S_FR f_Tree_11 ho hn (fun _ => ⟨rfl, rfl⟩) (pc1 := 5) (pc2 := 9) (E_aln d_Tree_init_4 rfl) (E_NI rfl w_arrI (pc1 := 7) (E_bi d_Tree_init_5 rfl) d_Tree_init_7) d_Tree_init_9)
    (S_sq (pc1 := 17) (S_FI f_Tree_15 ho (pc1 := 13) (pc2 := 14) (E_aln d_Tree_init_12 rfl) (E_ic d_Tree_init_13 rfl) d_Tree_init_14)
    (S_sq (pc1 := 22) (S_FI f_Tree_19 ho (pc1 := 18) (pc2 := 19) (E_aln d_Tree_init_17 rfl) (E_ic d_Tree_init_18 rfl) d_Tree_init_19)
    (S_sq (pc1 := 30) (S_FR f_Tree_22 ho hn (fun _ => ⟨rfl, rfl⟩) (pc1 := 23) (pc2 := 27) (E_aln d_Tree_init_22 rfl) (E_NI rfl w_arrI (pc1 := 25) (E_bi d_Tree_init_23 rfl) d_Tree_init_25) d_Tree_init_27)
    (S_sq (pc1 := 35) (S_FI f_Tree_25 ho (pc1 := 31) (pc2 := 32) (E_aln d_Tree_init_30 rfl) (E_ic d_Tree_init_31 rfl) d_Tree_init_32)
    (S_sq (pc1 := 40) (S_FI f_Tree_28 ho (pc1 := 36) (pc2 := 37) (E_aln d_Tree_init_35 rfl) (E_ic d_Tree_init_36 rfl) d_Tree_init_37)
    (S_sq (pc1 := 45) (S_FI f_Tree_31 ho (pc1 := 41) (pc2 := 42) (E_aln d_Tree_init_40 rfl) (E_ic d_Tree_init_41 rfl) d_Tree_init_42)
    (S_sq (pc1 := 50) (S_FI f_Tree_34 ho (pc1 := 46) (pc2 := 47) (E_aln d_Tree_init_45 rfl) (E_ic d_Tree_init_46 rfl) d_Tree_init_47)
    (S_sq (pc1 := 55) (S_FI f_Tree_37 ho (pc1 := 51) (pc2 := 52) (E_aln d_Tree_init_50 rfl) (E_ic d_Tree_init_51 rfl) d_Tree_init_52)
    (S_sq (pc1 := 60) (S_FR f_Tree_40 ho hn (fun _ => ⟨rfl, rfl⟩) (pc1 := 56) (pc2 := 57) (E_aln d_Tree_init_55 rfl) (E_aln d_Tree_init_56 rfl) d_Tree_init_57)
    (S_sq (pc1 := 65) (S_FR f_Tree_44 ho hn (fun _ => ⟨rfl, rfl⟩) (pc1 := 61) (pc2 := 62) (E_aln d_Tree_init_60 rfl) (E_aln d_Tree_init_61 rfl) d_Tree_init_62)
    (S_rv hrt d_Tree_init_65)))))))))))))
theorem d_Pack_init_0 : decode prog_6_method_1_code 0 = .ok (.aload_n 0, 1) := by decide +kernel
theorem d_Pack_init_1 : decode prog_6_method_1_code 1 = .ok (.invokespecial 3, 3) := by decide +kernel
theorem d_Pack_init_4 : decode prog_6_method_1_code 4 = .ok (.aload_n 0, 1) := by decide +kernel
theorem d_Pack_init_5 : decode prog_6_method_1_code 5 = .ok (.iconst 2, 1) := by decide +kernel
theorem d_Pack_init_6 : decode prog_6_method_1_code 6 = .ok (.putfield 9, 3) := by decide +kernel
theorem d_Pack_init_9 : decode prog_6_method_1_code 9 = .ok (.aload_n 0, 1) := by decide +kernel
theorem d_Pack_init_10 : decode prog_6_method_1_code 10 = .ok (.bipush 16, 2) := by decide +kernel
theorem d_Pack_init_12 : decode prog_6_method_1_code 12 = .ok (.newarray .int, 2) := by decide +kernel
theorem d_Pack_init_14 : decode prog_6_method_1_code 14 = .ok (.putfield 15, 3) := by decide +kernel
theorem d_Pack_init_17 : decode prog_6_method_1_code 17 = .ok (.aload_n 0, 1) := by decide +kernel
theorem d_Pack_init_18 : decode prog_6_method_1_code 18 = .ok (.bipush 16, 2) := by decide +kernel
theorem d_Pack_init_20 : decode prog_6_method_1_code 20 = .ok (.newarray .int, 2) := by decide +kernel
theorem d_Pack_init_22 : decode prog_6_method_1_code 22 = .ok (.putfield 19, 3) := by decide +kernel
theorem d_Pack_init_25 : decode prog_6_method_1_code 25 = .ok (.aload_n 0, 1) := by decide +kernel
theorem d_Pack_init_26 : decode prog_6_method_1_code 26 = .ok (.bipush 16, 2) := by decide +kernel
theorem d_Pack_init_28 : decode prog_6_method_1_code 28 = .ok (.newarray .int, 2) := by decide +kernel
theorem d_Pack_init_30 : decode prog_6_method_1_code 30 = .ok (.putfield 22, 3) := by decide +kernel
theorem d_Pack_init_33 : decode prog_6_method_1_code 33 = .ok (.aload_n 0, 1) := by decide +kernel
theorem d_Pack_init_34 : decode prog_6_method_1_code 34 = .ok (.bipush 16, 2) := by decide +kernel
theorem d_Pack_init_36 : decode prog_6_method_1_code 36 = .ok (.newarray .int, 2) := by decide +kernel
theorem d_Pack_init_38 : decode prog_6_method_1_code 38 = .ok (.putfield 25, 3) := by decide +kernel
theorem d_Pack_init_41 : decode prog_6_method_1_code 41 = .ok (.aload_n 0, 1) := by decide +kernel
theorem d_Pack_init_42 : decode prog_6_method_1_code 42 = .ok (.bipush 16, 2) := by decide +kernel
theorem d_Pack_init_44 : decode prog_6_method_1_code 44 = .ok (.newarray .int, 2) := by decide +kernel
theorem d_Pack_init_46 : decode prog_6_method_1_code 46 = .ok (.putfield 28, 3) := by decide +kernel
theorem d_Pack_init_49 : decode prog_6_method_1_code 49 = .ok (.aload_n 0, 1) := by decide +kernel
theorem d_Pack_init_50 : decode prog_6_method_1_code 50 = .ok (.iconst 0, 1) := by decide +kernel
theorem d_Pack_init_51 : decode prog_6_method_1_code 51 = .ok (.putfield 31, 3) := by decide +kernel
theorem d_Pack_init_54 : decode prog_6_method_1_code 54 = .ok (.aload_n 0, 1) := by decide +kernel
theorem d_Pack_init_55 : decode prog_6_method_1_code 55 = .ok (.iconst 0, 1) := by decide +kernel
theorem d_Pack_init_56 : decode prog_6_method_1_code 56 = .ok (.putfield 34, 3) := by decide +kernel
theorem d_Pack_init_59 : decode prog_6_method_1_code 59 = .ok (.aload_n 0, 1) := by decide +kernel
theorem d_Pack_init_60 : decode prog_6_method_1_code 60 = .ok (.iconst 0, 1) := by decide +kernel
theorem d_Pack_init_61 : decode prog_6_method_1_code 61 = .ok (.putfield 37, 3) := by decide +kernel
theorem d_Pack_init_64 : decode prog_6_method_1_code 64 = .ok (.aload_n 0, 1) := by decide +kernel
theorem d_Pack_init_65 : decode prog_6_method_1_code 65 = .ok (.iconst 0, 1) := by decide +kernel
theorem d_Pack_init_66 : decode prog_6_method_1_code 66 = .ok (.putfield 40, 3) := by decide +kernel
theorem d_Pack_init_69 : decode prog_6_method_1_code 69 = .ok (.aload_n 0, 1) := by decide +kernel
theorem d_Pack_init_70 : decode prog_6_method_1_code 70 = .ok (.iconst 0, 1) := by decide +kernel
theorem d_Pack_init_71 : decode prog_6_method_1_code 71 = .ok (.putfield 43, 3) := by decide +kernel
theorem d_Pack_init_74 : decode prog_6_method_1_code 74 = .ok (.aload_n 0, 1) := by decide +kernel
theorem d_Pack_init_75 : decode prog_6_method_1_code 75 = .ok (.aload_n 1, 1) := by decide +kernel
theorem d_Pack_init_76 : decode prog_6_method_1_code 76 = .ok (.putfield 46, 3) := by decide +kernel
theorem d_Pack_init_79 : decode prog_6_method_1_code 79 = .ok (.aload_n 0, 1) := by decide +kernel
theorem d_Pack_init_80 : decode prog_6_method_1_code 80 = .ok (.new 50, 3) := by decide +kernel
theorem d_Pack_init_83 : decode prog_6_method_1_code 83 = .ok (.dup, 1) := by decide +kernel
theorem d_Pack_init_84 : decode prog_6_method_1_code 84 = .ok (.aload_n 1, 1) := by decide +kernel
theorem d_Pack_init_85 : decode prog_6_method_1_code 85 = .ok (.invokespecial 52, 3) := by decide +kernel
theorem d_Pack_init_88 : decode prog_6_method_1_code 88 = .ok (.putfield 55, 3) := by decide +kernel
theorem d_Pack_init_91 : decode prog_6_method_1_code 91 = .ok (.aload_n 0, 1) := by decide +kernel
theorem d_Pack_init_92 : decode prog_6_method_1_code 92 = .ok (.new 59, 3) := by decide +kernel
theorem d_Pack_init_95 : decode prog_6_method_1_code 95 = .ok (.dup, 1) := by decide +kernel
theorem d_Pack_init_96 : decode prog_6_method_1_code 96 = .ok (.aload_n 1, 1) := by decide +kernel
theorem d_Pack_init_97 : decode prog_6_method_1_code 97 = .ok (.aload_n 0, 1) := by decide +kernel
theorem d_Pack_init_98 : decode prog_6_method_1_code 98 = .ok (.getfield 55, 3) := by decide +kernel
theorem d_Pack_init_101 : decode prog_6_method_1_code 101 = .ok (.invokespecial 61, 3) := by decide +kernel
theorem d_Pack_init_104 : decode prog_6_method_1_code 104 = .ok (.putfield 64, 3) := by decide +kernel
theorem d_Pack_init_107 : decode prog_6_method_1_code 107 = .ok (.return_, 1) := by decide +kernel
def B_Pack_init (g : Nat × Nat) : PS :=
  (sSq sSO
    (sSq (sF .int 4 3 (eR 0) (eV (2 : Int32)))
    (sSq (sF .ref 4 4 (eR 0) (eNA g 20 (eV (16 : Int32))))
    (sSq (sF .ref 4 5 (eR 0) (eNA g 20 (eV (16 : Int32))))
    (sSq (sF .ref 4 6 (eR 0) (eNA g 20 (eV (16 : Int32))))
    (sSq (sF .ref 4 7 (eR 0) (eNA g 20 (eV (16 : Int32))))
    (sSq (sF .ref 4 8 (eR 0) (eNA g 20 (eV (16 : Int32))))
    (sSq (sF .int 4 9 (eR 0) (eV (0 : Int32)))
    (sSq (sF .int 4 10 (eR 0) (eV (0 : Int32)))
    (sSq (sF .int 4 11 (eR 0) (eV (0 : Int32)))
    (sSq (sF .int 4 12 (eR 0) (eV (0 : Int32)))
    (sSq (sF .int 4 13 (eR 0) (eV (0 : Int32)))
    (sSq (sF .ref 4 0 (eR 0) (eR 1))
    (sSq (sF .ref 4 1 (eR 0) (eNew g 2 [.null, .null, .null, .null, .int 0] rm_Links_init 1 X_Links_init (aC .ref (eR 1) aN)))
    (sSq (sF .ref 4 2 (eR 0) (eNew g 8 [.null, .null, .null, .int 0, .int 0, .null, .int 0, .int 0, .int 0, .int 0, .int 0] rm_Tree_init 2 X_Tree_init (aC .ref (eR 1) (aC .ref (eFR 4 1 (eR 0)) aN))))
    sRv)))))))))))))))
def X_Pack_init : PM := fun vs h Q => (lx vs).length ≤ 2 ∧ B_Pack_init (h.length + 12, hsz h + 168) (fun _ _ => False) (fun _ _ => False) (fun _ _ => False) (fun o h' => (h'.length = h.length + 12 ∧ hsz h' = hsz h + 168) ∧ Q o h') (lini 2 vs) h
theorem v_Pack_init (l : Launch) : Ctr l y_Pack_init prog_6_method_1_code 2 none rm_Pack_init X_Pack_init := by
  refine Ctr_of (own := "PackLanes$Packer") (B := B_Pack_init) (KR := fun h Q o h' => (h'.length = h.length + 12 ∧ hsz h' = hsz h + 168) ∧ Q o h') (by decide) rfl (fun _ _ _ z => z) (fun _ _ _ _ z => ⟨Or.inr z.1, z.2⟩) (Or.inl rfl) (fun κ hl ho hR hrt hn0 => ?_)
  subst hl
  have hn : KO prog_6_method_1_code κ → (k_me κ).name = "<init>" := fun _ => hn0
  unfold B_Pack_init
  exact (S_sq (pc1 := 4) (S_so w_o_Pack_3 w_oi w_oc ho (rk2 hR rfl) d_Pack_init_0 d_Pack_init_1)
    (S_sq (pc1 := 9) (S_FI f_Pack_9 ho (pc1 := 5) (pc2 := 6) (E_aln d_Pack_init_4 rfl) (E_ic d_Pack_init_5 rfl) d_Pack_init_6)
    (S_sq (pc1 := 17) (S_FR f_Pack_15 ho hn (fun _ => ⟨rfl, rfl⟩) (pc1 := 10) (pc2 := 14) (E_aln d_Pack_init_9 rfl) (E_NI rfl w_arrI (pc1 := 12) (E_bi d_Pack_init_10 rfl) d_Pack_init_12) d_Pack_init_14)
    (S_sq (pc1 := 25) (S_FR f_Pack_19 ho hn (fun _ => ⟨rfl, rfl⟩) (pc1 := 18) (pc2 := 22) (E_aln d_Pack_init_17 rfl) (E_NI rfl w_arrI (pc1 := 20) (E_bi d_Pack_init_18 rfl) d_Pack_init_20) d_Pack_init_22)
    (S_sq (pc1 := 33) (S_FR f_Pack_22 ho hn (fun _ => ⟨rfl, rfl⟩) (pc1 := 26) (pc2 := 30) (E_aln d_Pack_init_25 rfl) (E_NI rfl w_arrI (pc1 := 28) (E_bi d_Pack_init_26 rfl) d_Pack_init_28) d_Pack_init_30)
    (S_sq (pc1 := 41) (S_FR f_Pack_25 ho hn (fun _ => ⟨rfl, rfl⟩) (pc1 := 34) (pc2 := 38) (E_aln d_Pack_init_33 rfl) (E_NI rfl w_arrI (pc1 := 36) (E_bi d_Pack_init_34 rfl) d_Pack_init_36) d_Pack_init_38)
    (S_sq (pc1 := 49) (S_FR f_Pack_28 ho hn (fun _ => ⟨rfl, rfl⟩) (pc1 := 42) (pc2 := 46) (E_aln d_Pack_init_41 rfl) (E_NI rfl w_arrI (pc1 := 44) (E_bi d_Pack_init_42 rfl) d_Pack_init_44) d_Pack_init_46)
    (S_sq (pc1 := 54) (S_FI f_Pack_31 ho (pc1 := 50) (pc2 := 51) (E_aln d_Pack_init_49 rfl) (E_ic d_Pack_init_50 rfl) d_Pack_init_51)
    (S_sq (pc1 := 59) (S_FI f_Pack_34 ho (pc1 := 55) (pc2 := 56) (E_aln d_Pack_init_54 rfl) (E_ic d_Pack_init_55 rfl) d_Pack_init_56)
    (S_sq (pc1 := 64) (S_FI f_Pack_37 ho (pc1 := 60) (pc2 := 61) (E_aln d_Pack_init_59 rfl) (E_ic d_Pack_init_60 rfl) d_Pack_init_61)
    (S_sq (pc1 := 69) (S_FI f_Pack_40 ho (pc1 := 65) (pc2 := 66) (E_aln d_Pack_init_64 rfl) (E_ic d_Pack_init_65 rfl) d_Pack_init_66)
    (S_sq (pc1 := 74) (S_FI f_Pack_43 ho (pc1 := 70) (pc2 := 71) (E_aln d_Pack_init_69 rfl) (E_ic d_Pack_init_70 rfl) d_Pack_init_71)
    (S_sq (pc1 := 79) (S_FR f_Pack_46 ho hn (fun _ => ⟨rfl, rfl⟩) (pc1 := 75) (pc2 := 76) (E_aln d_Pack_init_74 rfl) (E_aln d_Pack_init_75 rfl) d_Pack_init_76)
    (S_sq (pc1 := 91) (S_FR f_Pack_55 ho hn (fun _ => ⟨rfl, rfl⟩) (pc1 := 80) (pc2 := 88) (E_aln d_Pack_init_79 rfl) (E_new rfl n_Pack_50 k_Pack_52 (v_Links_init _) ho (rk hR rfl) (by decide) d_Pack_init_80 d_Pack_init_83 (pc1 := 85) (A_c catR (pc1 := 85) (E_aln d_Pack_init_84 rfl) A_n) d_Pack_init_85) d_Pack_init_88)
    (S_sq (pc1 := 107) (S_FR f_Pack_64 ho hn (fun _ => ⟨rfl, rfl⟩) (pc1 := 92) (pc2 := 104) (E_aln d_Pack_init_91 rfl) (E_new rfl n_Pack_59 k_Pack_61 (v_Tree_init _) ho (rk hR rfl) (by decide) d_Pack_init_92 d_Pack_init_95 (pc1 := 101) (A_c catR (pc1 := 97) (E_aln d_Pack_init_96 rfl) (A_c catR (pc1 := 101) (E_fR f_Pack_55 ho (pc1 := 98) (E_aln d_Pack_init_97 rfl) d_Pack_init_98) A_n)) d_Pack_init_101) d_Pack_init_104)
    (S_rv hrt d_Pack_init_107))))))))))))))))
theorem d_Mach_init_0 : decode prog_5_method_1_code 0 = .ok (.aload_n 0, 1) := by decide +kernel
theorem d_Mach_init_1 : decode prog_5_method_1_code 1 = .ok (.invokespecial 3, 3) := by decide +kernel
theorem d_Mach_init_4 : decode prog_5_method_1_code 4 = .ok (.aload_n 0, 1) := by decide +kernel
theorem d_Mach_init_5 : decode prog_5_method_1_code 5 = .ok (.bipush 16, 2) := by decide +kernel
theorem d_Mach_init_7 : decode prog_5_method_1_code 7 = .ok (.newarray .int, 2) := by decide +kernel
theorem d_Mach_init_9 : decode prog_5_method_1_code 9 = .ok (.putfield 9, 3) := by decide +kernel
theorem d_Mach_init_12 : decode prog_5_method_1_code 12 = .ok (.aload_n 0, 1) := by decide +kernel
theorem d_Mach_init_13 : decode prog_5_method_1_code 13 = .ok (.bipush 16, 2) := by decide +kernel
theorem d_Mach_init_15 : decode prog_5_method_1_code 15 = .ok (.newarray .int, 2) := by decide +kernel
theorem d_Mach_init_17 : decode prog_5_method_1_code 17 = .ok (.putfield 15, 3) := by decide +kernel
theorem d_Mach_init_20 : decode prog_5_method_1_code 20 = .ok (.aload_n 0, 1) := by decide +kernel
theorem d_Mach_init_21 : decode prog_5_method_1_code 21 = .ok (.bipush (-9), 2) := by decide +kernel
theorem d_Mach_init_23 : decode prog_5_method_1_code 23 = .ok (.putfield 18, 3) := by decide +kernel
theorem d_Mach_init_26 : decode prog_5_method_1_code 26 = .ok (.aload_n 0, 1) := by decide +kernel
theorem d_Mach_init_27 : decode prog_5_method_1_code 27 = .ok (.bipush 8, 2) := by decide +kernel
theorem d_Mach_init_29 : decode prog_5_method_1_code 29 = .ok (.putfield 22, 3) := by decide +kernel
theorem d_Mach_init_32 : decode prog_5_method_1_code 32 = .ok (.aload_n 0, 1) := by decide +kernel
theorem d_Mach_init_33 : decode prog_5_method_1_code 33 = .ok (.aload_n 1, 1) := by decide +kernel
theorem d_Mach_init_34 : decode prog_5_method_1_code 34 = .ok (.putfield 25, 3) := by decide +kernel
theorem d_Mach_init_37 : decode prog_5_method_1_code 37 = .ok (.return_, 1) := by decide +kernel
def B_Mach_init (g : Nat × Nat) : PS :=
  (sSq sSO
    (sSq (sF .ref 3 1 (eR 0) (eNA g 20 (eV (16 : Int32))))
    (sSq (sF .ref 3 2 (eR 0) (eNA g 20 (eV (16 : Int32))))
    (sSq (sF .int 3 3 (eR 0) (eV (-9 : Int32)))
    (sSq (sF .int 3 4 (eR 0) (eV (8 : Int32)))
    (sSq (sF .ref 3 0 (eR 0) (eR 1))
    sRv))))))
def X_Mach_init : PM := fun vs h Q => (lx vs).length ≤ 2 ∧ B_Mach_init (h.length + 2, hsz h + 32) (fun _ _ => False) (fun _ _ => False) (fun _ _ => False) (fun o h' => (h'.length = h.length + 2 ∧ hsz h' = hsz h + 32) ∧ Q o h') (lini 2 vs) h
theorem v_Mach_init (l : Launch) : Ctr l y_Mach_init prog_5_method_1_code 2 none rm_Mach_init X_Mach_init := by
  refine Ctr_of (own := "PackLanes$Machine") (B := B_Mach_init) (KR := fun h Q o h' => (h'.length = h.length + 2 ∧ hsz h' = hsz h + 32) ∧ Q o h') (by decide) rfl (fun _ _ _ z => z) (fun _ _ _ _ z => ⟨Or.inr z.1, z.2⟩) (Or.inl rfl) (fun κ hl ho hR hrt hn0 => ?_)
  subst hl
  have hn : KO prog_5_method_1_code κ → (k_me κ).name = "<init>" := fun _ => hn0
  unfold B_Mach_init
  exact (S_sq (pc1 := 4) (S_so w_o_Mach_3 w_oi w_oc ho (rk2 hR rfl) d_Mach_init_0 d_Mach_init_1)
    (S_sq (pc1 := 12) (S_FR f_Mach_9 ho hn (fun _ => ⟨rfl, rfl⟩) (pc1 := 5) (pc2 := 9) (E_aln d_Mach_init_4 rfl) (E_NI rfl w_arrI (pc1 := 7) (E_bi d_Mach_init_5 rfl) d_Mach_init_7) d_Mach_init_9)
    (S_sq (pc1 := 20) (S_FR f_Mach_15 ho hn (fun _ => ⟨rfl, rfl⟩) (pc1 := 13) (pc2 := 17) (E_aln d_Mach_init_12 rfl) (E_NI rfl w_arrI (pc1 := 15) (E_bi d_Mach_init_13 rfl) d_Mach_init_15) d_Mach_init_17)
    (S_sq (pc1 := 26) (S_FI f_Mach_18 ho (pc1 := 21) (pc2 := 23) (E_aln d_Mach_init_20 rfl) (E_bi d_Mach_init_21 rfl) d_Mach_init_23)
    (S_sq (pc1 := 32) (S_FI f_Mach_22 ho (pc1 := 27) (pc2 := 29) (E_aln d_Mach_init_26 rfl) (E_bi d_Mach_init_27 rfl) d_Mach_init_29)
    (S_sq (pc1 := 37) (S_FR f_Mach_25 ho hn (fun _ => ⟨rfl, rfl⟩) (pc1 := 33) (pc2 := 34) (E_aln d_Mach_init_32 rfl) (E_aln d_Mach_init_33 rfl) d_Mach_init_34)
    (S_rv hrt d_Mach_init_37)))))))
theorem d_PL_holds_0 : decode prog_1_method_35_code 0 = .ok (.iload_n 0, 1) := by decide +kernel
theorem d_PL_holds_1 : decode prog_1_method_35_code 1 = .ok (.iload_n 1, 1) := by decide +kernel
theorem d_PL_holds_2 : decode prog_1_method_35_code 2 = .ok (.ishr, 1) := by decide +kernel
theorem d_PL_holds_3 : decode prog_1_method_35_code 3 = .ok (.iconst 1, 1) := by decide +kernel
theorem d_PL_holds_4 : decode prog_1_method_35_code 4 = .ok (.iand, 1) := by decide +kernel
theorem d_PL_holds_5 : decode prog_1_method_35_code 5 = .ok (.iconst 1, 1) := by decide +kernel
theorem d_PL_holds_6 : decode prog_1_method_35_code 6 = .ok (.if_icmp .ne 7, 3) := by decide +kernel
theorem d_PL_holds_9 : decode prog_1_method_35_code 9 = .ok (.iconst 1, 1) := by decide +kernel
theorem d_PL_holds_10 : decode prog_1_method_35_code 10 = .ok (.goto 4, 3) := by decide +kernel
theorem d_PL_holds_13 : decode prog_1_method_35_code 13 = .ok (.iconst 0, 1) := by decide +kernel
theorem d_PL_holds_14 : decode prog_1_method_35_code 14 = .ok (.ireturn, 1) := by decide +kernel
def B_PL_holds (_ : Nat × Nat) : PS :=
  (sRz (eC (e2 (fun x y : Int32 => decide (x = y)) (e2 (fun x y : Int32 => x &&& y) (e2 (fun x y : Int32 => x >>> (y &&& 31)) (eI 0) (eI 1)) (eV (1 : Int32))) (eV (1 : Int32)))))
def X_PL_holds : PM := fun vs h Q => (lx vs).length ≤ 2 ∧ B_PL_holds (h.length + 0, hsz h + 0) (fun _ _ => False) (fun _ _ => False) (fun _ _ => False) Q (lini 2 vs) h
theorem v_PL_holds (l : Launch) : Ctr l y_PL_holds prog_1_method_35_code 2 (some .boolean) rm_PL_holds X_PL_holds := by
  refine Ctr_of (own := "PackLanes") (B := B_PL_holds) (KR := fun _ Q => Q) (by decide) rfl (fun _ _ _ z => z) (fun _ _ _ _ z => ⟨Or.inl ⟨rfl, rfl⟩, z⟩) (Or.inr (Or.inr (Or.inl rfl))) (fun κ hl ho hR hrt hn0 => ?_)
  subst hl
  unfold B_PL_holds
  exact (S_rz hrt (pc1 := 14) (E_C (pT := 9) (pF := 13) (pc2 := 14) (J2_eq (pF := 13) (pc1 := 5) (pc2 := 6) (E_iand (pc1 := 3) (pc2 := 4) (E_ishr (pc1 := 1) (pc2 := 2) (E_iln d_PL_holds_0 rfl) (E_iln d_PL_holds_1 rfl) d_PL_holds_2) (E_ic d_PL_holds_3 rfl) d_PL_holds_4) (E_ic d_PL_holds_5 rfl) d_PL_holds_6 rfl) d_PL_holds_9 d_PL_holds_10 rfl d_PL_holds_13 rfl) d_PL_holds_14)
theorem d_Code_addressOf_0 : decode prog_3_method_9_code 0 = .ok (.aload_n 0, 1) := by decide +kernel
theorem d_Code_addressOf_1 : decode prog_3_method_9_code 1 = .ok (.getfield 15, 3) := by decide +kernel
theorem d_Code_addressOf_4 : decode prog_3_method_9_code 4 = .ok (.iload_n 1, 1) := by decide +kernel
theorem d_Code_addressOf_5 : decode prog_3_method_9_code 5 = .ok (.iaload, 1) := by decide +kernel
theorem d_Code_addressOf_6 : decode prog_3_method_9_code 6 = .ok (.ifCond .ne 12, 3) := by decide +kernel
theorem d_Code_addressOf_9 : decode prog_3_method_9_code 9 = .ok (.aload_n 0, 1) := by decide +kernel
theorem d_Code_addressOf_10 : decode prog_3_method_9_code 10 = .ok (.getfield 18, 3) := by decide +kernel
theorem d_Code_addressOf_13 : decode prog_3_method_9_code 13 = .ok (.iload_n 1, 1) := by decide +kernel
theorem d_Code_addressOf_14 : decode prog_3_method_9_code 14 = .ok (.iaload, 1) := by decide +kernel
theorem d_Code_addressOf_15 : decode prog_3_method_9_code 15 = .ok (.goto 11, 3) := by decide +kernel
theorem d_Code_addressOf_18 : decode prog_3_method_9_code 18 = .ok (.iload_n 2, 1) := by decide +kernel
theorem d_Code_addressOf_19 : decode prog_3_method_9_code 19 = .ok (.aload_n 0, 1) := by decide +kernel
theorem d_Code_addressOf_20 : decode prog_3_method_9_code 20 = .ok (.getfield 18, 3) := by decide +kernel
theorem d_Code_addressOf_23 : decode prog_3_method_9_code 23 = .ok (.iload_n 1, 1) := by decide +kernel
theorem d_Code_addressOf_24 : decode prog_3_method_9_code 24 = .ok (.iaload, 1) := by decide +kernel
theorem d_Code_addressOf_25 : decode prog_3_method_9_code 25 = .ok (.iadd, 1) := by decide +kernel
theorem d_Code_addressOf_26 : decode prog_3_method_9_code 26 = .ok (.bipush 15, 2) := by decide +kernel
theorem d_Code_addressOf_28 : decode prog_3_method_9_code 28 = .ok (.iand, 1) := by decide +kernel
theorem d_Code_addressOf_29 : decode prog_3_method_9_code 29 = .ok (.ireturn, 1) := by decide +kernel
def B_Code_addressOf (_ : Nat × Nat) : PS :=
  (sRt .int (e2 (fun x y : Int32 => x &&& y) (eIf (e1 (fun x : Int32 => decide (x = 0)) (eAI (eFR 1 1 (eR 0)) (eI 1))) (eAI (eFR 1 2 (eR 0)) (eI 1)) (e2 (fun x y : Int32 => x + y) (eI 2) (eAI (eFR 1 2 (eR 0)) (eI 1)))) (eV (15 : Int32))))
def X_Code_addressOf : PM := fun vs h Q => (lx vs).length ≤ 3 ∧ B_Code_addressOf (h.length + 0, hsz h + 0) (fun _ _ => False) (fun _ _ => False) (fun _ _ => False) Q (lini 3 vs) h
theorem v_Code_addressOf (l : Launch) : Ctr l y_Code_addressOf prog_3_method_9_code 3 (some .int) rm_Code_addressOf X_Code_addressOf := by
  refine Ctr_of (own := "PackLanes$Code") (B := B_Code_addressOf) (KR := fun _ Q => Q) (by decide) rfl (fun _ _ _ z => z) (fun _ _ _ _ z => ⟨Or.inl ⟨rfl, rfl⟩, z⟩) (Or.inr (Or.inl rfl)) (fun κ hl ho hR hrt hn0 => ?_)
  subst hl
  unfold B_Code_addressOf
  exact (S_ri hrt (pc1 := 29) (E_iand (pc1 := 26) (pc2 := 28) (E_if (pT := 9) (pF := 18) (pc1 := 15) (pc2 := 26) (J1_eq (pF := 18) (pc2 := 6) (E_aI (pc1 := 4) (pc2 := 5) (E_fR f_Code_15 ho (pc1 := 1) (E_aln d_Code_addressOf_0 rfl) d_Code_addressOf_1) (E_iln d_Code_addressOf_4 rfl) d_Code_addressOf_5) d_Code_addressOf_6 rfl) (E_aI (pc1 := 13) (pc2 := 14) (E_fR f_Code_18 ho (pc1 := 10) (E_aln d_Code_addressOf_9 rfl) d_Code_addressOf_10) (E_iln d_Code_addressOf_13 rfl) d_Code_addressOf_14) d_Code_addressOf_15 rfl (E_iadd (pc1 := 19) (pc2 := 25) (E_iln d_Code_addressOf_18 rfl) (E_aI (pc1 := 23) (pc2 := 24) (E_fR f_Code_18 ho (pc1 := 20) (E_aln d_Code_addressOf_19 rfl) d_Code_addressOf_20) (E_iln d_Code_addressOf_23 rfl) d_Code_addressOf_24) d_Code_addressOf_25)) (E_bi d_Code_addressOf_26 rfl) d_Code_addressOf_28) d_Code_addressOf_29)
theorem d_Code_usesMemory_0 : decode prog_3_method_7_code 0 = .ok (.aload_n 0, 1) := by decide +kernel
theorem d_Code_usesMemory_1 : decode prog_3_method_7_code 1 = .ok (.getfield 9, 3) := by decide +kernel
theorem d_Code_usesMemory_4 : decode prog_3_method_7_code 4 = .ok (.iload_n 1, 1) := by decide +kernel
theorem d_Code_usesMemory_5 : decode prog_3_method_7_code 5 = .ok (.iaload, 1) := by decide +kernel
theorem d_Code_usesMemory_6 : decode prog_3_method_7_code 6 = .ok (.ifCond .eq 14, 3) := by decide +kernel
theorem d_Code_usesMemory_9 : decode prog_3_method_7_code 9 = .ok (.aload_n 0, 1) := by decide +kernel
theorem d_Code_usesMemory_10 : decode prog_3_method_7_code 10 = .ok (.getfield 9, 3) := by decide +kernel
theorem d_Code_usesMemory_13 : decode prog_3_method_7_code 13 = .ok (.iload_n 1, 1) := by decide +kernel
theorem d_Code_usesMemory_14 : decode prog_3_method_7_code 14 = .ok (.iaload, 1) := by decide +kernel
theorem d_Code_usesMemory_15 : decode prog_3_method_7_code 15 = .ok (.bipush 6, 2) := by decide +kernel
theorem d_Code_usesMemory_17 : decode prog_3_method_7_code 17 = .ok (.if_icmp .ne 7, 3) := by decide +kernel
theorem d_Code_usesMemory_20 : decode prog_3_method_7_code 20 = .ok (.iconst 1, 1) := by decide +kernel
theorem d_Code_usesMemory_21 : decode prog_3_method_7_code 21 = .ok (.goto 4, 3) := by decide +kernel
theorem d_Code_usesMemory_24 : decode prog_3_method_7_code 24 = .ok (.iconst 0, 1) := by decide +kernel
theorem d_Code_usesMemory_25 : decode prog_3_method_7_code 25 = .ok (.ireturn, 1) := by decide +kernel
def B_Code_usesMemory (_ : Nat × Nat) : PS :=
  (sRz (eC (cO (e1 (fun x : Int32 => decide (x = 0)) (eAI (eFR 1 0 (eR 0)) (eI 1))) (e2 (fun x y : Int32 => decide (x = y)) (eAI (eFR 1 0 (eR 0)) (eI 1)) (eV (6 : Int32))))))
def X_Code_usesMemory : PM := fun vs h Q => (lx vs).length ≤ 2 ∧ B_Code_usesMemory (h.length + 0, hsz h + 0) (fun _ _ => False) (fun _ _ => False) (fun _ _ => False) Q (lini 2 vs) h
theorem v_Code_usesMemory (l : Launch) : Ctr l y_Code_usesMemory prog_3_method_7_code 2 (some .boolean) rm_Code_usesMemory X_Code_usesMemory := by
  refine Ctr_of (own := "PackLanes$Code") (B := B_Code_usesMemory) (KR := fun _ Q => Q) (by decide) rfl (fun _ _ _ z => z) (fun _ _ _ _ z => ⟨Or.inl ⟨rfl, rfl⟩, z⟩) (Or.inr (Or.inr (Or.inl rfl))) (fun κ hl ho hR hrt hn0 => ?_)
  subst hl
  unfold B_Code_usesMemory
  exact (S_rz hrt (pc1 := 25) (E_C (pT := 20) (pF := 24) (pc2 := 25) (C_or (pc1 := 9) (T1_eq (pT := 20) (pc2 := 6) (E_aI (pc1 := 4) (pc2 := 5) (E_fR f_Code_9 ho (pc1 := 1) (E_aln d_Code_usesMemory_0 rfl) d_Code_usesMemory_1) (E_iln d_Code_usesMemory_4 rfl) d_Code_usesMemory_5) d_Code_usesMemory_6 rfl) (J2_eq (pF := 24) (pc1 := 15) (pc2 := 17) (E_aI (pc1 := 13) (pc2 := 14) (E_fR f_Code_9 ho (pc1 := 10) (E_aln d_Code_usesMemory_9 rfl) d_Code_usesMemory_10) (E_iln d_Code_usesMemory_13 rfl) d_Code_usesMemory_14) (E_bi d_Code_usesMemory_15 rfl) d_Code_usesMemory_17 rfl)) d_Code_usesMemory_20 d_Code_usesMemory_21 rfl d_Code_usesMemory_24 rfl) d_Code_usesMemory_25)
theorem d_Links_clashInMemory_0 : decode prog_4_method_4_code 0 = .ok (.aload_n 0, 1) := by decide +kernel
theorem d_Links_clashInMemory_1 : decode prog_4_method_4_code 1 = .ok (.getfield 25, 3) := by decide +kernel
theorem d_Links_clashInMemory_4 : decode prog_4_method_4_code 4 = .ok (.iload_n 1, 1) := by decide +kernel
theorem d_Links_clashInMemory_5 : decode prog_4_method_4_code 5 = .ok (.invokevirtual 53, 3) := by decide +kernel
theorem d_Links_clashInMemory_8 : decode prog_4_method_4_code 8 = .ok (.ifCond .eq 38, 3) := by decide +kernel
theorem d_Links_clashInMemory_11 : decode prog_4_method_4_code 11 = .ok (.aload_n 0, 1) := by decide +kernel
theorem d_Links_clashInMemory_12 : decode prog_4_method_4_code 12 = .ok (.getfield 25, 3) := by decide +kernel
theorem d_Links_clashInMemory_15 : decode prog_4_method_4_code 15 = .ok (.iload_n 2, 1) := by decide +kernel
theorem d_Links_clashInMemory_16 : decode prog_4_method_4_code 16 = .ok (.invokevirtual 53, 3) := by decide +kernel
theorem d_Links_clashInMemory_19 : decode prog_4_method_4_code 19 = .ok (.ifCond .eq 27, 3) := by decide +kernel
theorem d_Links_clashInMemory_22 : decode prog_4_method_4_code 22 = .ok (.aload_n 0, 1) := by decide +kernel
theorem d_Links_clashInMemory_23 : decode prog_4_method_4_code 23 = .ok (.getfield 25, 3) := by decide +kernel
theorem d_Links_clashInMemory_26 : decode prog_4_method_4_code 26 = .ok (.getfield 57, 3) := by decide +kernel
theorem d_Links_clashInMemory_29 : decode prog_4_method_4_code 29 = .ok (.iload_n 1, 1) := by decide +kernel
theorem d_Links_clashInMemory_30 : decode prog_4_method_4_code 30 = .ok (.iaload, 1) := by decide +kernel
theorem d_Links_clashInMemory_31 : decode prog_4_method_4_code 31 = .ok (.ifCond .ne 17, 3) := by decide +kernel
theorem d_Links_clashInMemory_34 : decode prog_4_method_4_code 34 = .ok (.aload_n 0, 1) := by decide +kernel
theorem d_Links_clashInMemory_35 : decode prog_4_method_4_code 35 = .ok (.getfield 25, 3) := by decide +kernel
theorem d_Links_clashInMemory_38 : decode prog_4_method_4_code 38 = .ok (.getfield 57, 3) := by decide +kernel
theorem d_Links_clashInMemory_41 : decode prog_4_method_4_code 41 = .ok (.iload_n 2, 1) := by decide +kernel
theorem d_Links_clashInMemory_42 : decode prog_4_method_4_code 42 = .ok (.iaload, 1) := by decide +kernel
theorem d_Links_clashInMemory_43 : decode prog_4_method_4_code 43 = .ok (.ifCond .ne 5, 3) := by decide +kernel
theorem d_Links_clashInMemory_46 : decode prog_4_method_4_code 46 = .ok (.iconst 0, 1) := by decide +kernel
theorem d_Links_clashInMemory_47 : decode prog_4_method_4_code 47 = .ok (.ireturn, 1) := by decide +kernel
theorem d_Links_clashInMemory_48 : decode prog_4_method_4_code 48 = .ok (.aload_n 0, 1) := by decide +kernel
theorem d_Links_clashInMemory_49 : decode prog_4_method_4_code 49 = .ok (.getfield 25, 3) := by decide +kernel
theorem d_Links_clashInMemory_52 : decode prog_4_method_4_code 52 = .ok (.getfield 60, 3) := by decide +kernel
theorem d_Links_clashInMemory_55 : decode prog_4_method_4_code 55 = .ok (.iload_n 1, 1) := by decide +kernel
theorem d_Links_clashInMemory_56 : decode prog_4_method_4_code 56 = .ok (.iaload, 1) := by decide +kernel
theorem d_Links_clashInMemory_57 : decode prog_4_method_4_code 57 = .ok (.aload_n 0, 1) := by decide +kernel
theorem d_Links_clashInMemory_58 : decode prog_4_method_4_code 58 = .ok (.getfield 25, 3) := by decide +kernel
theorem d_Links_clashInMemory_61 : decode prog_4_method_4_code 61 = .ok (.getfield 60, 3) := by decide +kernel
theorem d_Links_clashInMemory_64 : decode prog_4_method_4_code 64 = .ok (.iload_n 2, 1) := by decide +kernel
theorem d_Links_clashInMemory_65 : decode prog_4_method_4_code 65 = .ok (.iaload, 1) := by decide +kernel
theorem d_Links_clashInMemory_66 : decode prog_4_method_4_code 66 = .ok (.if_icmp .ne 30, 3) := by decide +kernel
theorem d_Links_clashInMemory_69 : decode prog_4_method_4_code 69 = .ok (.aload_n 0, 1) := by decide +kernel
theorem d_Links_clashInMemory_70 : decode prog_4_method_4_code 70 = .ok (.getfield 25, 3) := by decide +kernel
theorem d_Links_clashInMemory_73 : decode prog_4_method_4_code 73 = .ok (.getfield 63, 3) := by decide +kernel
theorem d_Links_clashInMemory_76 : decode prog_4_method_4_code 76 = .ok (.iload_n 1, 1) := by decide +kernel
theorem d_Links_clashInMemory_77 : decode prog_4_method_4_code 77 = .ok (.iaload, 1) := by decide +kernel
theorem d_Links_clashInMemory_78 : decode prog_4_method_4_code 78 = .ok (.aload_n 0, 1) := by decide +kernel
theorem d_Links_clashInMemory_79 : decode prog_4_method_4_code 79 = .ok (.getfield 25, 3) := by decide +kernel
theorem d_Links_clashInMemory_82 : decode prog_4_method_4_code 82 = .ok (.getfield 63, 3) := by decide +kernel
theorem d_Links_clashInMemory_85 : decode prog_4_method_4_code 85 = .ok (.iload_n 2, 1) := by decide +kernel
theorem d_Links_clashInMemory_86 : decode prog_4_method_4_code 86 = .ok (.iaload, 1) := by decide +kernel
theorem d_Links_clashInMemory_87 : decode prog_4_method_4_code 87 = .ok (.if_icmp .ne 7, 3) := by decide +kernel
theorem d_Links_clashInMemory_90 : decode prog_4_method_4_code 90 = .ok (.iconst 1, 1) := by decide +kernel
theorem d_Links_clashInMemory_91 : decode prog_4_method_4_code 91 = .ok (.goto 4, 3) := by decide +kernel
theorem d_Links_clashInMemory_94 : decode prog_4_method_4_code 94 = .ok (.iconst 0, 1) := by decide +kernel
theorem d_Links_clashInMemory_95 : decode prog_4_method_4_code 95 = .ok (.ireturn, 1) := by decide +kernel
theorem d_Links_clashInMemory_96 : decode prog_4_method_4_code 96 = .ok (.iload 4, 2) := by decide +kernel
theorem d_Links_clashInMemory_98 : decode prog_4_method_4_code 98 = .ok (.ifCond .eq 24, 3) := by decide +kernel
theorem d_Links_clashInMemory_101 : decode prog_4_method_4_code 101 = .ok (.aload_n 0, 1) := by decide +kernel
theorem d_Links_clashInMemory_102 : decode prog_4_method_4_code 102 = .ok (.getfield 25, 3) := by decide +kernel
theorem d_Links_clashInMemory_105 : decode prog_4_method_4_code 105 = .ok (.iload_n 1, 1) := by decide +kernel
theorem d_Links_clashInMemory_106 : decode prog_4_method_4_code 106 = .ok (.iload_n 3, 1) := by decide +kernel
theorem d_Links_clashInMemory_107 : decode prog_4_method_4_code 107 = .ok (.invokevirtual 66, 3) := by decide +kernel
theorem d_Links_clashInMemory_110 : decode prog_4_method_4_code 110 = .ok (.aload_n 0, 1) := by decide +kernel
theorem d_Links_clashInMemory_111 : decode prog_4_method_4_code 111 = .ok (.getfield 25, 3) := by decide +kernel
theorem d_Links_clashInMemory_114 : decode prog_4_method_4_code 114 = .ok (.iload_n 2, 1) := by decide +kernel
theorem d_Links_clashInMemory_115 : decode prog_4_method_4_code 115 = .ok (.iload_n 3, 1) := by decide +kernel
theorem d_Links_clashInMemory_116 : decode prog_4_method_4_code 116 = .ok (.invokevirtual 66, 3) := by decide +kernel
theorem d_Links_clashInMemory_119 : decode prog_4_method_4_code 119 = .ok (.if_icmp .ne 7, 3) := by decide +kernel
theorem d_Links_clashInMemory_122 : decode prog_4_method_4_code 122 = .ok (.iconst 1, 1) := by decide +kernel
theorem d_Links_clashInMemory_123 : decode prog_4_method_4_code 123 = .ok (.goto 4, 3) := by decide +kernel
theorem d_Links_clashInMemory_126 : decode prog_4_method_4_code 126 = .ok (.iconst 0, 1) := by decide +kernel
theorem d_Links_clashInMemory_127 : decode prog_4_method_4_code 127 = .ok (.ireturn, 1) := by decide +kernel
def B_Links_clashInMemory (_ : Nat × Nat) : PS :=
  (sSq (sIf (cO (cO (cN (e1 (fun x : Int32 => decide (¬ x = 0)) (eX .int (xV 1 1 X_Code_usesMemory (eFR 2 0 (eR 0)) (aC .int (eI 1) aN))))) (cN (e1 (fun x : Int32 => decide (¬ x = 0)) (eX .int (xV 1 1 X_Code_usesMemory (eFR 2 0 (eR 0)) (aC .int (eI 2) aN)))))) (cA (e1 (fun x : Int32 => decide (x = 0)) (eAI (eFR 1 0 (eFR 2 0 (eR 0))) (eI 1))) (e1 (fun x : Int32 => decide (x = 0)) (eAI (eFR 1 0 (eFR 2 0 (eR 0))) (eI 2))))) (sRz (eV (0 : Int32))) sSk)
    (sSq (sIf (e2 (fun x y : Int32 => decide (x = y)) (eAI (eFR 1 1 (eFR 2 0 (eR 0))) (eI 1)) (eAI (eFR 1 1 (eFR 2 0 (eR 0))) (eI 2))) (sRz (eC (e2 (fun x y : Int32 => decide (x = y)) (eAI (eFR 1 2 (eFR 2 0 (eR 0))) (eI 1)) (eAI (eFR 1 2 (eFR 2 0 (eR 0))) (eI 2))))) sSk)
    (sRz (eC (cO (e1 (fun x : Int32 => decide (x = 0)) (eI 4)) (e2 (fun x y : Int32 => decide (x = y)) (eX .int (xV 1 2 X_Code_addressOf (eFR 2 0 (eR 0)) (aC .int (eI 1) (aC .int (eI 3) aN)))) (eX .int (xV 1 2 X_Code_addressOf (eFR 2 0 (eR 0)) (aC .int (eI 2) (aC .int (eI 3) aN))))))))))
def X_Links_clashInMemory : PM := fun vs h Q => (lx vs).length ≤ 5 ∧ B_Links_clashInMemory (h.length + 0, hsz h + 0) (fun _ _ => False) (fun _ _ => False) (fun _ _ => False) Q (lini 5 vs) h
theorem v_Links_clashInMemory (l : Launch) : Ctr l y_Links_clashInMemory prog_4_method_4_code 5 (some .boolean) rm_Links_clashInMemory X_Links_clashInMemory := by
  refine Ctr_of (own := "PackLanes$Links") (B := B_Links_clashInMemory) (KR := fun _ Q => Q) (by decide) rfl (fun _ _ _ z => z) (fun _ _ _ _ z => ⟨Or.inl ⟨rfl, rfl⟩, z⟩) (Or.inr (Or.inr (Or.inl rfl))) (fun κ hl ho hR hrt hn0 => ?_)
  subst hl
  unfold B_Links_clashInMemory
  exact (S_sq (pc1 := 48) (S_if1 (pT := 46) (pF := 48) (C_or (pc1 := 22) (C_or (pc1 := 11) (C_not (J1_ne (pF := 46) (pc2 := 8) (E_x (O_V k_Links_53 (v_Code_usesMemory _) ⟨rfl, rfl⟩ ho (rk hR rfl) (by decide) (T := KT1) (N := 7) rfl (by decide) (pc1 := 4) (pc2 := 5) (E_fR f_Links_25 ho (pc1 := 1) (E_aln d_Links_clashInMemory_0 rfl) d_Links_clashInMemory_1) (A_c catI (pc1 := 5) (E_iln d_Links_clashInMemory_4 rfl) A_n) d_Links_clashInMemory_5)) d_Links_clashInMemory_8 rfl)) (C_not (J1_ne (pF := 46) (pc2 := 19) (E_x (O_V k_Links_53 (v_Code_usesMemory _) ⟨rfl, rfl⟩ ho (rk hR rfl) (by decide) (T := KT1) (N := 7) rfl (by decide) (pc1 := 15) (pc2 := 16) (E_fR f_Links_25 ho (pc1 := 12) (E_aln d_Links_clashInMemory_11 rfl) d_Links_clashInMemory_12) (A_c catI (pc1 := 16) (E_iln d_Links_clashInMemory_15 rfl) A_n) d_Links_clashInMemory_16)) d_Links_clashInMemory_19 rfl))) (C_and (pc1 := 34) (J1_eq (pF := 48) (pc2 := 31) (E_aI (pc1 := 29) (pc2 := 30) (E_fR f_Links_57 ho (pc1 := 26) (E_fR f_Links_25 ho (pc1 := 23) (E_aln d_Links_clashInMemory_22 rfl) d_Links_clashInMemory_23) d_Links_clashInMemory_26) (E_iln d_Links_clashInMemory_29 rfl) d_Links_clashInMemory_30) d_Links_clashInMemory_31 rfl) (J1_eq (pF := 48) (pc2 := 43) (E_aI (pc1 := 41) (pc2 := 42) (E_fR f_Links_57 ho (pc1 := 38) (E_fR f_Links_25 ho (pc1 := 35) (E_aln d_Links_clashInMemory_34 rfl) d_Links_clashInMemory_35) d_Links_clashInMemory_38) (E_iln d_Links_clashInMemory_41 rfl) d_Links_clashInMemory_42) d_Links_clashInMemory_43 rfl))) (S_rz hrt (pc1 := 47) (E_ic d_Links_clashInMemory_46 rfl) d_Links_clashInMemory_47))
    (S_sq (pc1 := 96) (S_if1 (pT := 69) (pF := 96) (J2_eq (pF := 96) (pc1 := 57) (pc2 := 66) (E_aI (pc1 := 55) (pc2 := 56) (E_fR f_Links_60 ho (pc1 := 52) (E_fR f_Links_25 ho (pc1 := 49) (E_aln d_Links_clashInMemory_48 rfl) d_Links_clashInMemory_49) d_Links_clashInMemory_52) (E_iln d_Links_clashInMemory_55 rfl) d_Links_clashInMemory_56) (E_aI (pc1 := 64) (pc2 := 65) (E_fR f_Links_60 ho (pc1 := 61) (E_fR f_Links_25 ho (pc1 := 58) (E_aln d_Links_clashInMemory_57 rfl) d_Links_clashInMemory_58) d_Links_clashInMemory_61) (E_iln d_Links_clashInMemory_64 rfl) d_Links_clashInMemory_65) d_Links_clashInMemory_66 rfl) (S_rz hrt (pc1 := 95) (E_C (pT := 90) (pF := 94) (pc2 := 95) (J2_eq (pF := 94) (pc1 := 78) (pc2 := 87) (E_aI (pc1 := 76) (pc2 := 77) (E_fR f_Links_63 ho (pc1 := 73) (E_fR f_Links_25 ho (pc1 := 70) (E_aln d_Links_clashInMemory_69 rfl) d_Links_clashInMemory_70) d_Links_clashInMemory_73) (E_iln d_Links_clashInMemory_76 rfl) d_Links_clashInMemory_77) (E_aI (pc1 := 85) (pc2 := 86) (E_fR f_Links_63 ho (pc1 := 82) (E_fR f_Links_25 ho (pc1 := 79) (E_aln d_Links_clashInMemory_78 rfl) d_Links_clashInMemory_79) d_Links_clashInMemory_82) (E_iln d_Links_clashInMemory_85 rfl) d_Links_clashInMemory_86) d_Links_clashInMemory_87 rfl) d_Links_clashInMemory_90 d_Links_clashInMemory_91 rfl d_Links_clashInMemory_94 rfl) d_Links_clashInMemory_95))
    (S_rz hrt (pc1 := 127) (E_C (pT := 122) (pF := 126) (pc2 := 127) (C_or (pc1 := 101) (T1_eq (pT := 122) (pc2 := 98) (E_il d_Links_clashInMemory_96) d_Links_clashInMemory_98 rfl) (J2_eq (pF := 126) (pc1 := 110) (pc2 := 119) (E_x (O_V k_Links_66 (v_Code_addressOf _) ⟨rfl, rfl⟩ ho (rk hR rfl) (by decide) (T := KT1) (N := 7) rfl (by decide) (pc1 := 105) (pc2 := 107) (E_fR f_Links_25 ho (pc1 := 102) (E_aln d_Links_clashInMemory_101 rfl) d_Links_clashInMemory_102) (A_c catI (pc1 := 106) (E_iln d_Links_clashInMemory_105 rfl) (A_c catI (pc1 := 107) (E_iln d_Links_clashInMemory_106 rfl) A_n)) d_Links_clashInMemory_107)) (E_x (O_V k_Links_66 (v_Code_addressOf _) ⟨rfl, rfl⟩ ho (rk hR rfl) (by decide) (T := KT1) (N := 7) rfl (by decide) (pc1 := 114) (pc2 := 116) (E_fR f_Links_25 ho (pc1 := 111) (E_aln d_Links_clashInMemory_110 rfl) d_Links_clashInMemory_111) (A_c catI (pc1 := 115) (E_iln d_Links_clashInMemory_114 rfl) (A_c catI (pc1 := 116) (E_iln d_Links_clashInMemory_115 rfl) A_n)) d_Links_clashInMemory_116)) d_Links_clashInMemory_119 rfl)) d_Links_clashInMemory_122 d_Links_clashInMemory_123 rfl d_Links_clashInMemory_126 rfl) d_Links_clashInMemory_127)))
theorem d_Links_clashByStop_0 : decode prog_4_method_5_code 0 = .ok (.aload_n 0, 1) := by decide +kernel
theorem d_Links_clashByStop_1 : decode prog_4_method_5_code 1 = .ok (.getfield 25, 3) := by decide +kernel
theorem d_Links_clashByStop_4 : decode prog_4_method_5_code 4 = .ok (.getfield 57, 3) := by decide +kernel
theorem d_Links_clashByStop_7 : decode prog_4_method_5_code 7 = .ok (.iload_n 1, 1) := by decide +kernel
theorem d_Links_clashByStop_8 : decode prog_4_method_5_code 8 = .ok (.iaload, 1) := by decide +kernel
theorem d_Links_clashByStop_9 : decode prog_4_method_5_code 9 = .ok (.iconst 5, 1) := by decide +kernel
theorem d_Links_clashByStop_10 : decode prog_4_method_5_code 10 = .ok (.if_icmp .ne 7, 3) := by decide +kernel
theorem d_Links_clashByStop_13 : decode prog_4_method_5_code 13 = .ok (.iconst 1, 1) := by decide +kernel
theorem d_Links_clashByStop_14 : decode prog_4_method_5_code 14 = .ok (.goto 4, 3) := by decide +kernel
theorem d_Links_clashByStop_17 : decode prog_4_method_5_code 17 = .ok (.iconst 0, 1) := by decide +kernel
theorem d_Links_clashByStop_18 : decode prog_4_method_5_code 18 = .ok (.istore_n 3, 1) := by decide +kernel
theorem d_Links_clashByStop_19 : decode prog_4_method_5_code 19 = .ok (.aload_n 0, 1) := by decide +kernel
theorem d_Links_clashByStop_20 : decode prog_4_method_5_code 20 = .ok (.getfield 25, 3) := by decide +kernel
theorem d_Links_clashByStop_23 : decode prog_4_method_5_code 23 = .ok (.getfield 57, 3) := by decide +kernel
theorem d_Links_clashByStop_26 : decode prog_4_method_5_code 26 = .ok (.iload_n 2, 1) := by decide +kernel
theorem d_Links_clashByStop_27 : decode prog_4_method_5_code 27 = .ok (.iaload, 1) := by decide +kernel
theorem d_Links_clashByStop_28 : decode prog_4_method_5_code 28 = .ok (.iconst 5, 1) := by decide +kernel
theorem d_Links_clashByStop_29 : decode prog_4_method_5_code 29 = .ok (.if_icmp .ne 7, 3) := by decide +kernel
theorem d_Links_clashByStop_32 : decode prog_4_method_5_code 32 = .ok (.iconst 1, 1) := by decide +kernel
theorem d_Links_clashByStop_33 : decode prog_4_method_5_code 33 = .ok (.goto 4, 3) := by decide +kernel
theorem d_Links_clashByStop_36 : decode prog_4_method_5_code 36 = .ok (.iconst 0, 1) := by decide +kernel
theorem d_Links_clashByStop_37 : decode prog_4_method_5_code 37 = .ok (.istore 4, 2) := by decide +kernel
theorem d_Links_clashByStop_39 : decode prog_4_method_5_code 39 = .ok (.iload_n 3, 1) := by decide +kernel
theorem d_Links_clashByStop_40 : decode prog_4_method_5_code 40 = .ok (.ifCond .eq 22, 3) := by decide +kernel
theorem d_Links_clashByStop_43 : decode prog_4_method_5_code 43 = .ok (.iload 4, 2) := by decide +kernel
theorem d_Links_clashByStop_45 : decode prog_4_method_5_code 45 = .ok (.ifCond .ne 36, 3) := by decide +kernel
theorem d_Links_clashByStop_48 : decode prog_4_method_5_code 48 = .ok (.aload_n 0, 1) := by decide +kernel
theorem d_Links_clashByStop_49 : decode prog_4_method_5_code 49 = .ok (.getfield 25, 3) := by decide +kernel
theorem d_Links_clashByStop_52 : decode prog_4_method_5_code 52 = .ok (.getfield 57, 3) := by decide +kernel
theorem d_Links_clashByStop_55 : decode prog_4_method_5_code 55 = .ok (.iload_n 2, 1) := by decide +kernel
theorem d_Links_clashByStop_56 : decode prog_4_method_5_code 56 = .ok (.iaload, 1) := by decide +kernel
theorem d_Links_clashByStop_57 : decode prog_4_method_5_code 57 = .ok (.bipush 6, 2) := by decide +kernel
theorem d_Links_clashByStop_59 : decode prog_4_method_5_code 59 = .ok (.if_icmp .eq 22, 3) := by decide +kernel
theorem d_Links_clashByStop_62 : decode prog_4_method_5_code 62 = .ok (.iload 4, 2) := by decide +kernel
theorem d_Links_clashByStop_64 : decode prog_4_method_5_code 64 = .ok (.ifCond .eq 21, 3) := by decide +kernel
theorem d_Links_clashByStop_67 : decode prog_4_method_5_code 67 = .ok (.aload_n 0, 1) := by decide +kernel
theorem d_Links_clashByStop_68 : decode prog_4_method_5_code 68 = .ok (.getfield 25, 3) := by decide +kernel
theorem d_Links_clashByStop_71 : decode prog_4_method_5_code 71 = .ok (.getfield 57, 3) := by decide +kernel
theorem d_Links_clashByStop_74 : decode prog_4_method_5_code 74 = .ok (.iload_n 1, 1) := by decide +kernel
theorem d_Links_clashByStop_75 : decode prog_4_method_5_code 75 = .ok (.iaload, 1) := by decide +kernel
theorem d_Links_clashByStop_76 : decode prog_4_method_5_code 76 = .ok (.bipush 6, 2) := by decide +kernel
theorem d_Links_clashByStop_78 : decode prog_4_method_5_code 78 = .ok (.if_icmp .ne 7, 3) := by decide +kernel
theorem d_Links_clashByStop_81 : decode prog_4_method_5_code 81 = .ok (.iconst 1, 1) := by decide +kernel
theorem d_Links_clashByStop_82 : decode prog_4_method_5_code 82 = .ok (.goto 4, 3) := by decide +kernel
theorem d_Links_clashByStop_85 : decode prog_4_method_5_code 85 = .ok (.iconst 0, 1) := by decide +kernel
theorem d_Links_clashByStop_86 : decode prog_4_method_5_code 86 = .ok (.ireturn, 1) := by decide +kernel
def B_Links_clashByStop (_ : Nat × Nat) : PS :=
  (sSq (sI 3 (eC (e2 (fun x y : Int32 => decide (x = y)) (eAI (eFR 1 0 (eFR 2 0 (eR 0))) (eI 1)) (eV (5 : Int32)))))
    (sSq (sI 4 (eC (e2 (fun x y : Int32 => decide (x = y)) (eAI (eFR 1 0 (eFR 2 0 (eR 0))) (eI 2)) (eV (5 : Int32)))))
    (sRz (eC (cO (cA (e1 (fun x : Int32 => decide (¬ x = 0)) (eI 3)) (cO (e1 (fun x : Int32 => decide (¬ x = 0)) (eI 4)) (e2 (fun x y : Int32 => decide (x = y)) (eAI (eFR 1 0 (eFR 2 0 (eR 0))) (eI 2)) (eV (6 : Int32))))) (cA (e1 (fun x : Int32 => decide (¬ x = 0)) (eI 4)) (e2 (fun x y : Int32 => decide (x = y)) (eAI (eFR 1 0 (eFR 2 0 (eR 0))) (eI 1)) (eV (6 : Int32)))))))))
def X_Links_clashByStop : PM := fun vs h Q => (lx vs).length ≤ 5 ∧ B_Links_clashByStop (h.length + 0, hsz h + 0) (fun _ _ => False) (fun _ _ => False) (fun _ _ => False) Q (lini 5 vs) h
theorem v_Links_clashByStop (l : Launch) : Ctr l y_Links_clashByStop prog_4_method_5_code 5 (some .boolean) rm_Links_clashByStop X_Links_clashByStop := by
  refine Ctr_of (own := "PackLanes$Links") (B := B_Links_clashByStop) (KR := fun _ Q => Q) (by decide) rfl (fun _ _ _ z => z) (fun _ _ _ _ z => ⟨Or.inl ⟨rfl, rfl⟩, z⟩) (Or.inr (Or.inr (Or.inl rfl))) (fun κ hl ho hR hrt hn0 => ?_)
  subst hl
  unfold B_Links_clashByStop
  exact (S_sq (pc1 := 19) (S_In (pc1 := 18) (E_C (pT := 13) (pF := 17) (pc2 := 18) (J2_eq (pF := 17) (pc1 := 9) (pc2 := 10) (E_aI (pc1 := 7) (pc2 := 8) (E_fR f_Links_57 ho (pc1 := 4) (E_fR f_Links_25 ho (pc1 := 1) (E_aln d_Links_clashByStop_0 rfl) d_Links_clashByStop_1) d_Links_clashByStop_4) (E_iln d_Links_clashByStop_7 rfl) d_Links_clashByStop_8) (E_ic d_Links_clashByStop_9 rfl) d_Links_clashByStop_10 rfl) d_Links_clashByStop_13 d_Links_clashByStop_14 rfl d_Links_clashByStop_17 rfl) d_Links_clashByStop_18 rfl)
    (S_sq (pc1 := 39) (S_I (pc1 := 37) (E_C (pT := 32) (pF := 36) (pc2 := 37) (J2_eq (pF := 36) (pc1 := 28) (pc2 := 29) (E_aI (pc1 := 26) (pc2 := 27) (E_fR f_Links_57 ho (pc1 := 23) (E_fR f_Links_25 ho (pc1 := 20) (E_aln d_Links_clashByStop_19 rfl) d_Links_clashByStop_20) d_Links_clashByStop_23) (E_iln d_Links_clashByStop_26 rfl) d_Links_clashByStop_27) (E_ic d_Links_clashByStop_28 rfl) d_Links_clashByStop_29 rfl) d_Links_clashByStop_32 d_Links_clashByStop_33 rfl d_Links_clashByStop_36 rfl) d_Links_clashByStop_37)
    (S_rz hrt (pc1 := 86) (E_C (pT := 81) (pF := 85) (pc2 := 86) (C_or (pc1 := 62) (C_and (pc1 := 43) (J1_ne (pF := 62) (pc2 := 40) (E_iln d_Links_clashByStop_39 rfl) d_Links_clashByStop_40 rfl) (C_or (pc1 := 48) (T1_ne (pT := 81) (pc2 := 45) (E_il d_Links_clashByStop_43) d_Links_clashByStop_45 rfl) (T2_eq (pT := 81) (pc1 := 57) (pc2 := 59) (E_aI (pc1 := 55) (pc2 := 56) (E_fR f_Links_57 ho (pc1 := 52) (E_fR f_Links_25 ho (pc1 := 49) (E_aln d_Links_clashByStop_48 rfl) d_Links_clashByStop_49) d_Links_clashByStop_52) (E_iln d_Links_clashByStop_55 rfl) d_Links_clashByStop_56) (E_bi d_Links_clashByStop_57 rfl) d_Links_clashByStop_59 rfl))) (C_and (pc1 := 67) (J1_ne (pF := 85) (pc2 := 64) (E_il d_Links_clashByStop_62) d_Links_clashByStop_64 rfl) (J2_eq (pF := 85) (pc1 := 76) (pc2 := 78) (E_aI (pc1 := 74) (pc2 := 75) (E_fR f_Links_57 ho (pc1 := 71) (E_fR f_Links_25 ho (pc1 := 68) (E_aln d_Links_clashByStop_67 rfl) d_Links_clashByStop_68) d_Links_clashByStop_71) (E_iln d_Links_clashByStop_74 rfl) d_Links_clashByStop_75) (E_bi d_Links_clashByStop_76 rfl) d_Links_clashByStop_78 rfl))) d_Links_clashByStop_81 d_Links_clashByStop_82 rfl d_Links_clashByStop_85 rfl) d_Links_clashByStop_86)))
theorem d_Code_operands_0 : decode prog_3_method_8_code 0 = .ok (.aload_n 0, 1) := by decide +kernel
theorem d_Code_operands_1 : decode prog_3_method_8_code 1 = .ok (.getfield 9, 3) := by decide +kernel
theorem d_Code_operands_4 : decode prog_3_method_8_code 4 = .ok (.iload_n 1, 1) := by decide +kernel
theorem d_Code_operands_5 : decode prog_3_method_8_code 5 = .ok (.iaload, 1) := by decide +kernel
theorem d_Code_operands_6 : decode prog_3_method_8_code 6 = .ok (.lookupswitch 45 #[(0, 34), (1, 34), (6, 36)], 34) := by decide +kernel
theorem d_Code_operands_40 : decode prog_3_method_8_code 40 = .ok (.iconst 0, 1) := by decide +kernel
theorem d_Code_operands_41 : decode prog_3_method_8_code 41 = .ok (.ireturn, 1) := by decide +kernel
theorem d_Code_operands_42 : decode prog_3_method_8_code 42 = .ok (.iconst 1, 1) := by decide +kernel
theorem d_Code_operands_43 : decode prog_3_method_8_code 43 = .ok (.aload_n 0, 1) := by decide +kernel
theorem d_Code_operands_44 : decode prog_3_method_8_code 44 = .ok (.getfield 24, 3) := by decide +kernel
theorem d_Code_operands_47 : decode prog_3_method_8_code 47 = .ok (.iload_n 1, 1) := by decide +kernel
theorem d_Code_operands_48 : decode prog_3_method_8_code 48 = .ok (.iaload, 1) := by decide +kernel
theorem d_Code_operands_49 : decode prog_3_method_8_code 49 = .ok (.ishl, 1) := by decide +kernel
theorem d_Code_operands_50 : decode prog_3_method_8_code 50 = .ok (.ireturn, 1) := by decide +kernel
theorem d_Code_operands_51 : decode prog_3_method_8_code 51 = .ok (.iconst 1, 1) := by decide +kernel
theorem d_Code_operands_52 : decode prog_3_method_8_code 52 = .ok (.aload_n 0, 1) := by decide +kernel
theorem d_Code_operands_53 : decode prog_3_method_8_code 53 = .ok (.getfield 24, 3) := by decide +kernel
theorem d_Code_operands_56 : decode prog_3_method_8_code 56 = .ok (.iload_n 1, 1) := by decide +kernel
theorem d_Code_operands_57 : decode prog_3_method_8_code 57 = .ok (.iaload, 1) := by decide +kernel
theorem d_Code_operands_58 : decode prog_3_method_8_code 58 = .ok (.ishl, 1) := by decide +kernel
theorem d_Code_operands_59 : decode prog_3_method_8_code 59 = .ok (.iconst 1, 1) := by decide +kernel
theorem d_Code_operands_60 : decode prog_3_method_8_code 60 = .ok (.aload_n 0, 1) := by decide +kernel
theorem d_Code_operands_61 : decode prog_3_method_8_code 61 = .ok (.getfield 27, 3) := by decide +kernel
theorem d_Code_operands_64 : decode prog_3_method_8_code 64 = .ok (.iload_n 1, 1) := by decide +kernel
theorem d_Code_operands_65 : decode prog_3_method_8_code 65 = .ok (.iaload, 1) := by decide +kernel
theorem d_Code_operands_66 : decode prog_3_method_8_code 66 = .ok (.ishl, 1) := by decide +kernel
theorem d_Code_operands_67 : decode prog_3_method_8_code 67 = .ok (.ior, 1) := by decide +kernel
theorem d_Code_operands_68 : decode prog_3_method_8_code 68 = .ok (.ireturn, 1) := by decide +kernel
def B_Code_operands (_ : Nat × Nat) : PS :=
  (sSw 2 (eAI (eFR 1 0 (eR 0)) (eI 1)) [(0, 0), (1, 0), (6, 1)] 2 [(sRt .int (eV (0 : Int32))),
    (sRt .int (e2 (fun x y : Int32 => x <<< (y &&& 31)) (eV (1 : Int32)) (eAI (eFR 1 4 (eR 0)) (eI 1)))),
    (sRt .int (e2 (fun x y : Int32 => x ||| y) (e2 (fun x y : Int32 => x <<< (y &&& 31)) (eV (1 : Int32)) (eAI (eFR 1 4 (eR 0)) (eI 1))) (e2 (fun x y : Int32 => x <<< (y &&& 31)) (eV (1 : Int32)) (eAI (eFR 1 5 (eR 0)) (eI 1)))))])
def X_Code_operands : PM := fun vs h Q => (lx vs).length ≤ 2 ∧ B_Code_operands (h.length + 0, hsz h + 0) (fun _ _ => False) (fun _ _ => False) (fun _ _ => False) Q (lini 2 vs) h
theorem v_Code_operands (l : Launch) : Ctr l y_Code_operands prog_3_method_8_code 2 (some .int) rm_Code_operands X_Code_operands := by
  refine Ctr_of (own := "PackLanes$Code") (B := B_Code_operands) (KR := fun _ Q => Q) (by decide) rfl (fun _ _ _ z => z) (fun _ _ _ _ z => ⟨Or.inl ⟨rfl, rfl⟩, z⟩) (Or.inr (Or.inl rfl)) (fun κ hl ho hR hrt hn0 => ?_)
  subst hl
  unfold B_Code_operands
  exact (S_sw (pcs := [40, 42, 51, _]) (pc1 := 6)  (E_aI (pc1 := 4) (pc2 := 5) (E_fR f_Code_9 ho (pc1 := 1) (E_aln d_Code_operands_0 rfl) d_Code_operands_1) (E_iln d_Code_operands_4 rfl) d_Code_operands_5) (fun _ _ _ k => r_lsw d_Code_operands_6 (by decide +kernel) k) (And.intro (S_ri hrt (pc1 := 41) (E_ic d_Code_operands_40 rfl) d_Code_operands_41)
    (And.intro (S_ri hrt (pc1 := 50) (E_ishl (pc1 := 43) (pc2 := 49) (E_ic d_Code_operands_42 rfl) (E_aI (pc1 := 47) (pc2 := 48) (E_fR f_Code_24 ho (pc1 := 44) (E_aln d_Code_operands_43 rfl) d_Code_operands_44) (E_iln d_Code_operands_47 rfl) d_Code_operands_48) d_Code_operands_49) d_Code_operands_50)
    (And.intro (S_ri hrt (pc1 := 68) (E_ior (pc1 := 59) (pc2 := 67) (E_ishl (pc1 := 52) (pc2 := 58) (E_ic d_Code_operands_51 rfl) (E_aI (pc1 := 56) (pc2 := 57) (E_fR f_Code_24 ho (pc1 := 53) (E_aln d_Code_operands_52 rfl) d_Code_operands_53) (E_iln d_Code_operands_56 rfl) d_Code_operands_57) d_Code_operands_58) (E_ishl (pc1 := 60) (pc2 := 66) (E_ic d_Code_operands_59 rfl) (E_aI (pc1 := 64) (pc2 := 65) (E_fR f_Code_27 ho (pc1 := 61) (E_aln d_Code_operands_60 rfl) d_Code_operands_61) (E_iln d_Code_operands_64 rfl) d_Code_operands_65) d_Code_operands_66) d_Code_operands_67) d_Code_operands_68)
    rfl))) (by decide))
theorem d_Links_link_0 : decode prog_4_method_3_code 0 = .ok (.aload_n 0, 1) := by decide +kernel
theorem d_Links_link_1 : decode prog_4_method_3_code 1 = .ok (.getfield 25, 3) := by decide +kernel
theorem d_Links_link_4 : decode prog_4_method_3_code 4 = .ok (.iload_n 2, 1) := by decide +kernel
theorem d_Links_link_5 : decode prog_4_method_3_code 5 = .ok (.invokevirtual 42, 3) := by decide +kernel
theorem d_Links_link_8 : decode prog_4_method_3_code 8 = .ok (.iload_n 1, 1) := by decide +kernel
theorem d_Links_link_9 : decode prog_4_method_3_code 9 = .ok (.invokestatic 34, 3) := by decide +kernel
theorem d_Links_link_12 : decode prog_4_method_3_code 12 = .ok (.istore 5, 2) := by decide +kernel
theorem d_Links_link_14 : decode prog_4_method_3_code 14 = .ok (.iload 5, 2) := by decide +kernel
theorem d_Links_link_16 : decode prog_4_method_3_code 16 = .ok (.ifCond .eq 15, 3) := by decide +kernel
theorem d_Links_link_19 : decode prog_4_method_3_code 19 = .ok (.aload_n 0, 1) := by decide +kernel
theorem d_Links_link_20 : decode prog_4_method_3_code 20 = .ok (.getfield 18, 3) := by decide +kernel
theorem d_Links_link_23 : decode prog_4_method_3_code 23 = .ok (.iload_n 1, 1) := by decide +kernel
theorem d_Links_link_24 : decode prog_4_method_3_code 24 = .ok (.dup2, 1) := by decide +kernel
theorem d_Links_link_25 : decode prog_4_method_3_code 25 = .ok (.iaload, 1) := by decide +kernel
theorem d_Links_link_26 : decode prog_4_method_3_code 26 = .ok (.iconst 1, 1) := by decide +kernel
theorem d_Links_link_27 : decode prog_4_method_3_code 27 = .ok (.iload_n 2, 1) := by decide +kernel
theorem d_Links_link_28 : decode prog_4_method_3_code 28 = .ok (.ishl, 1) := by decide +kernel
theorem d_Links_link_29 : decode prog_4_method_3_code 29 = .ok (.ior, 1) := by decide +kernel
theorem d_Links_link_30 : decode prog_4_method_3_code 30 = .ok (.iastore, 1) := by decide +kernel
theorem d_Links_link_31 : decode prog_4_method_3_code 31 = .ok (.iload 5, 2) := by decide +kernel
theorem d_Links_link_33 : decode prog_4_method_3_code 33 = .ok (.ifCond .ne 24, 3) := by decide +kernel
theorem d_Links_link_36 : decode prog_4_method_3_code 36 = .ok (.aload_n 0, 1) := by decide +kernel
theorem d_Links_link_37 : decode prog_4_method_3_code 37 = .ok (.iload_n 1, 1) := by decide +kernel
theorem d_Links_link_38 : decode prog_4_method_3_code 38 = .ok (.iload_n 2, 1) := by decide +kernel
theorem d_Links_link_39 : decode prog_4_method_3_code 39 = .ok (.iload_n 3, 1) := by decide +kernel
theorem d_Links_link_40 : decode prog_4_method_3_code 40 = .ok (.iload 4, 2) := by decide +kernel
theorem d_Links_link_42 : decode prog_4_method_3_code 42 = .ok (.invokevirtual 46, 3) := by decide +kernel
theorem d_Links_link_45 : decode prog_4_method_3_code 45 = .ok (.ifCond .ne 12, 3) := by decide +kernel
theorem d_Links_link_48 : decode prog_4_method_3_code 48 = .ok (.aload_n 0, 1) := by decide +kernel
theorem d_Links_link_49 : decode prog_4_method_3_code 49 = .ok (.iload_n 1, 1) := by decide +kernel
theorem d_Links_link_50 : decode prog_4_method_3_code 50 = .ok (.iload_n 2, 1) := by decide +kernel
theorem d_Links_link_51 : decode prog_4_method_3_code 51 = .ok (.invokevirtual 50, 3) := by decide +kernel
theorem d_Links_link_54 : decode prog_4_method_3_code 54 = .ok (.ifCond .eq 34, 3) := by decide +kernel
theorem d_Links_link_57 : decode prog_4_method_3_code 57 = .ok (.aload_n 0, 1) := by decide +kernel
theorem d_Links_link_58 : decode prog_4_method_3_code 58 = .ok (.getfield 9, 3) := by decide +kernel
theorem d_Links_link_61 : decode prog_4_method_3_code 61 = .ok (.iload_n 2, 1) := by decide +kernel
theorem d_Links_link_62 : decode prog_4_method_3_code 62 = .ok (.dup2, 1) := by decide +kernel
theorem d_Links_link_63 : decode prog_4_method_3_code 63 = .ok (.iaload, 1) := by decide +kernel
theorem d_Links_link_64 : decode prog_4_method_3_code 64 = .ok (.iconst 1, 1) := by decide +kernel
theorem d_Links_link_65 : decode prog_4_method_3_code 65 = .ok (.iload_n 1, 1) := by decide +kernel
theorem d_Links_link_66 : decode prog_4_method_3_code 66 = .ok (.ishl, 1) := by decide +kernel
theorem d_Links_link_67 : decode prog_4_method_3_code 67 = .ok (.ior, 1) := by decide +kernel
theorem d_Links_link_68 : decode prog_4_method_3_code 68 = .ok (.iastore, 1) := by decide +kernel
theorem d_Links_link_69 : decode prog_4_method_3_code 69 = .ok (.aload_n 0, 1) := by decide +kernel
theorem d_Links_link_70 : decode prog_4_method_3_code 70 = .ok (.getfield 15, 3) := by decide +kernel
theorem d_Links_link_73 : decode prog_4_method_3_code 73 = .ok (.iload_n 2, 1) := by decide +kernel
theorem d_Links_link_74 : decode prog_4_method_3_code 74 = .ok (.dup2, 1) := by decide +kernel
theorem d_Links_link_75 : decode prog_4_method_3_code 75 = .ok (.iaload, 1) := by decide +kernel
theorem d_Links_link_76 : decode prog_4_method_3_code 76 = .ok (.aload_n 0, 1) := by decide +kernel
theorem d_Links_link_77 : decode prog_4_method_3_code 77 = .ok (.getfield 15, 3) := by decide +kernel
theorem d_Links_link_80 : decode prog_4_method_3_code 80 = .ok (.iload_n 1, 1) := by decide +kernel
theorem d_Links_link_81 : decode prog_4_method_3_code 81 = .ok (.iaload, 1) := by decide +kernel
theorem d_Links_link_82 : decode prog_4_method_3_code 82 = .ok (.iconst 1, 1) := by decide +kernel
theorem d_Links_link_83 : decode prog_4_method_3_code 83 = .ok (.iload_n 1, 1) := by decide +kernel
theorem d_Links_link_84 : decode prog_4_method_3_code 84 = .ok (.ishl, 1) := by decide +kernel
theorem d_Links_link_85 : decode prog_4_method_3_code 85 = .ok (.ior, 1) := by decide +kernel
theorem d_Links_link_86 : decode prog_4_method_3_code 86 = .ok (.ior, 1) := by decide +kernel
theorem d_Links_link_87 : decode prog_4_method_3_code 87 = .ok (.iastore, 1) := by decide +kernel
theorem d_Links_link_88 : decode prog_4_method_3_code 88 = .ok (.return_, 1) := by decide +kernel
def B_Links_link (_ : Nat × Nat) : PS :=
  (sSq (sI 5 (eX .int (xS 2 X_PL_holds (aC .int (eX .int (xV 1 1 X_Code_operands (eFR 2 0 (eR 0)) (aC .int (eI 2) aN))) (aC .int (eI 1) aN)))))
    (sSq (sIf (e1 (fun x : Int32 => decide (¬ x = 0)) (eI 5)) (sAO (fun x y : Int32 => x ||| y) (eFR 2 3 (eR 0)) (eI 1) (e2 (fun x y : Int32 => x <<< (y &&& 31)) (eV (1 : Int32)) (eI 2))) sSk)
    (sSq (sIf (cO (cO (e1 (fun x : Int32 => decide (¬ x = 0)) (eI 5)) (e1 (fun x : Int32 => decide (¬ x = 0)) (eX .int (xV 2 4 X_Links_clashInMemory (eR 0) (aC .int (eI 1) (aC .int (eI 2) (aC .int (eI 3) (aC .int (eI 4) aN)))))))) (e1 (fun x : Int32 => decide (¬ x = 0)) (eX .int (xV 2 2 X_Links_clashByStop (eR 0) (aC .int (eI 1) (aC .int (eI 2) aN)))))) (sSq (sAO (fun x y : Int32 => x ||| y) (eFR 2 1 (eR 0)) (eI 2) (e2 (fun x y : Int32 => x <<< (y &&& 31)) (eV (1 : Int32)) (eI 1)))
    (sAO (fun x y : Int32 => x ||| y) (eFR 2 2 (eR 0)) (eI 2) (e2 (fun x y : Int32 => x ||| y) (eAI (eFR 2 2 (eR 0)) (eI 1)) (e2 (fun x y : Int32 => x <<< (y &&& 31)) (eV (1 : Int32)) (eI 1))))) sSk)
    sRv)))
def X_Links_link : PM := fun vs h Q => (lx vs).length ≤ 6 ∧ B_Links_link (h.length + 0, hsz h + 0) (fun _ _ => False) (fun _ _ => False) (fun _ _ => False) Q (lini 6 vs) h
theorem v_Links_link (l : Launch) : Ctr l y_Links_link prog_4_method_3_code 6 none rm_Links_link X_Links_link := by
  refine Ctr_of (own := "PackLanes$Links") (B := B_Links_link) (KR := fun _ Q => Q) (by decide) rfl (fun _ _ _ z => z) (fun _ _ _ _ z => ⟨Or.inl ⟨rfl, rfl⟩, z⟩) (Or.inl rfl) (fun κ hl ho hR hrt hn0 => ?_)
  subst hl
  unfold B_Links_link
  exact (S_sq (pc1 := 14) (S_I (pc1 := 12) (E_x (O_SN k_Links_34 (v_PL_holds _) ⟨rfl, rfl⟩ ho (rk hR rfl) (by decide) (pc2 := 9) (A_c catI (pc1 := 8) (E_x (O_V k_Links_42 (v_Code_operands _) ⟨rfl, rfl⟩ ho (rk hR rfl) (by decide) (T := KT1) (N := 7) rfl (by decide) (pc1 := 4) (pc2 := 5) (E_fR f_Links_25 ho (pc1 := 1) (E_aln d_Links_link_0 rfl) d_Links_link_1) (A_c catI (pc1 := 5) (E_iln d_Links_link_4 rfl) A_n) d_Links_link_5)) (A_c catI (pc1 := 9) (E_iln d_Links_link_8 rfl) A_n)) d_Links_link_9)) d_Links_link_12)
    (S_sq (pc1 := 31) (S_if1 (pT := 19) (pF := 31) (J1_ne (pF := 31) (pc2 := 16) (E_il d_Links_link_14) d_Links_link_16 rfl) (S_AO (pc1 := 23) (pc2 := 24) (pc3 := 29) (E_fR f_Links_18 ho (pc1 := 20) (E_aln d_Links_link_19 rfl) d_Links_link_20) (E_iln d_Links_link_23 rfl) d_Links_link_24 d_Links_link_25 (E_ishl (pc1 := 27) (pc2 := 28) (E_ic d_Links_link_26 rfl) (E_iln d_Links_link_27 rfl) d_Links_link_28) (fun _ _ _ _ _ k => r_ior d_Links_link_29 k) d_Links_link_30))
    (S_sq (pc1 := 88) (S_if1 (pT := 57) (pF := 88) (C_or (pc1 := 48) (C_or (pc1 := 36) (T1_ne (pT := 57) (pc2 := 33) (E_il d_Links_link_31) d_Links_link_33 rfl) (T1_ne (pT := 57) (pc2 := 45) (E_x (O_V k_Links_46 (v_Links_clashInMemory _) ⟨rfl, rfl⟩ ho (rk hR rfl) (by decide) (T := KT2) (N := 5) rfl (by decide) (pc1 := 37) (pc2 := 42) (E_aln d_Links_link_36 rfl) (A_c catI (pc1 := 38) (E_iln d_Links_link_37 rfl) (A_c catI (pc1 := 39) (E_iln d_Links_link_38 rfl) (A_c catI (pc1 := 40) (E_iln d_Links_link_39 rfl) (A_c catI (pc1 := 42) (E_il d_Links_link_40) A_n)))) d_Links_link_42)) d_Links_link_45 rfl)) (J1_ne (pF := 88) (pc2 := 54) (E_x (O_V k_Links_50 (v_Links_clashByStop _) ⟨rfl, rfl⟩ ho (rk hR rfl) (by decide) (T := KT2) (N := 5) rfl (by decide) (pc1 := 49) (pc2 := 51) (E_aln d_Links_link_48 rfl) (A_c catI (pc1 := 50) (E_iln d_Links_link_49 rfl) (A_c catI (pc1 := 51) (E_iln d_Links_link_50 rfl) A_n)) d_Links_link_51)) d_Links_link_54 rfl)) (S_sq (pc1 := 69) (S_AO (pc1 := 61) (pc2 := 62) (pc3 := 67) (E_fR f_Links_9 ho (pc1 := 58) (E_aln d_Links_link_57 rfl) d_Links_link_58) (E_iln d_Links_link_61 rfl) d_Links_link_62 d_Links_link_63 (E_ishl (pc1 := 65) (pc2 := 66) (E_ic d_Links_link_64 rfl) (E_iln d_Links_link_65 rfl) d_Links_link_66) (fun _ _ _ _ _ k => r_ior d_Links_link_67 k) d_Links_link_68)
    (S_AO (pc1 := 73) (pc2 := 74) (pc3 := 86) (E_fR f_Links_15 ho (pc1 := 70) (E_aln d_Links_link_69 rfl) d_Links_link_70) (E_iln d_Links_link_73 rfl) d_Links_link_74 d_Links_link_75 (E_ior (pc1 := 82) (pc2 := 85) (E_aI (pc1 := 80) (pc2 := 81) (E_fR f_Links_15 ho (pc1 := 77) (E_aln d_Links_link_76 rfl) d_Links_link_77) (E_iln d_Links_link_80 rfl) d_Links_link_81) (E_ishl (pc1 := 83) (pc2 := 84) (E_ic d_Links_link_82 rfl) (E_iln d_Links_link_83 rfl) d_Links_link_84) d_Links_link_85) (fun _ _ _ _ _ k => r_ior d_Links_link_86 k) d_Links_link_87)))
    (S_rv hrt d_Links_link_88))))
theorem d_Links_find_0 : decode prog_4_method_2_code 0 = .ok (.aload_n 0, 1) := by decide +kernel
theorem d_Links_find_1 : decode prog_4_method_2_code 1 = .ok (.iload_n 3, 1) := by decide +kernel
theorem d_Links_find_2 : decode prog_4_method_2_code 2 = .ok (.putfield 21, 3) := by decide +kernel
theorem d_Links_find_5 : decode prog_4_method_2_code 5 = .ok (.iconst 0, 1) := by decide +kernel
theorem d_Links_find_6 : decode prog_4_method_2_code 6 = .ok (.istore 4, 2) := by decide +kernel
theorem d_Links_find_8 : decode prog_4_method_2_code 8 = .ok (.iload 4, 2) := by decide +kernel
theorem d_Links_find_10 : decode prog_4_method_2_code 10 = .ok (.aload_n 0, 1) := by decide +kernel
theorem d_Links_find_11 : decode prog_4_method_2_code 11 = .ok (.getfield 25, 3) := by decide +kernel
theorem d_Links_find_14 : decode prog_4_method_2_code 14 = .ok (.getfield 29, 3) := by decide +kernel
theorem d_Links_find_17 : decode prog_4_method_2_code 17 = .ok (.if_icmp .ge 83, 3) := by decide +kernel
theorem d_Links_find_20 : decode prog_4_method_2_code 20 = .ok (.aload_n 0, 1) := by decide +kernel
theorem d_Links_find_21 : decode prog_4_method_2_code 21 = .ok (.getfield 9, 3) := by decide +kernel
theorem d_Links_find_24 : decode prog_4_method_2_code 24 = .ok (.iload 4, 2) := by decide +kernel
theorem d_Links_find_26 : decode prog_4_method_2_code 26 = .ok (.iconst 0, 1) := by decide +kernel
theorem d_Links_find_27 : decode prog_4_method_2_code 27 = .ok (.iastore, 1) := by decide +kernel
theorem d_Links_find_28 : decode prog_4_method_2_code 28 = .ok (.aload_n 0, 1) := by decide +kernel
theorem d_Links_find_29 : decode prog_4_method_2_code 29 = .ok (.getfield 15, 3) := by decide +kernel
theorem d_Links_find_32 : decode prog_4_method_2_code 32 = .ok (.iload 4, 2) := by decide +kernel
theorem d_Links_find_34 : decode prog_4_method_2_code 34 = .ok (.iconst 0, 1) := by decide +kernel
theorem d_Links_find_35 : decode prog_4_method_2_code 35 = .ok (.iastore, 1) := by decide +kernel
theorem d_Links_find_36 : decode prog_4_method_2_code 36 = .ok (.aload_n 0, 1) := by decide +kernel
theorem d_Links_find_37 : decode prog_4_method_2_code 37 = .ok (.getfield 18, 3) := by decide +kernel
theorem d_Links_find_40 : decode prog_4_method_2_code 40 = .ok (.iload 4, 2) := by decide +kernel
theorem d_Links_find_42 : decode prog_4_method_2_code 42 = .ok (.iconst 0, 1) := by decide +kernel
theorem d_Links_find_43 : decode prog_4_method_2_code 43 = .ok (.iastore, 1) := by decide +kernel
theorem d_Links_find_44 : decode prog_4_method_2_code 44 = .ok (.iconst 0, 1) := by decide +kernel
theorem d_Links_find_45 : decode prog_4_method_2_code 45 = .ok (.istore 5, 2) := by decide +kernel
theorem d_Links_find_47 : decode prog_4_method_2_code 47 = .ok (.iload 5, 2) := by decide +kernel
theorem d_Links_find_49 : decode prog_4_method_2_code 49 = .ok (.iload 4, 2) := by decide +kernel
theorem d_Links_find_51 : decode prog_4_method_2_code 51 = .ok (.if_icmp .ge 43, 3) := by decide +kernel
theorem d_Links_find_54 : decode prog_4_method_2_code 54 = .ok (.aload_n 0, 1) := by decide +kernel
theorem d_Links_find_55 : decode prog_4_method_2_code 55 = .ok (.getfield 21, 3) := by decide +kernel
theorem d_Links_find_58 : decode prog_4_method_2_code 58 = .ok (.iload 5, 2) := by decide +kernel
theorem d_Links_find_60 : decode prog_4_method_2_code 60 = .ok (.invokestatic 34, 3) := by decide +kernel
theorem d_Links_find_63 : decode prog_4_method_2_code 63 = .ok (.ifCond .ne 25, 3) := by decide +kernel
theorem d_Links_find_66 : decode prog_4_method_2_code 66 = .ok (.aload_n 0, 1) := by decide +kernel
theorem d_Links_find_67 : decode prog_4_method_2_code 67 = .ok (.getfield 21, 3) := by decide +kernel
theorem d_Links_find_70 : decode prog_4_method_2_code 70 = .ok (.iload 4, 2) := by decide +kernel
theorem d_Links_find_72 : decode prog_4_method_2_code 72 = .ok (.invokestatic 34, 3) := by decide +kernel
theorem d_Links_find_75 : decode prog_4_method_2_code 75 = .ok (.ifCond .ne 13, 3) := by decide +kernel
theorem d_Links_find_78 : decode prog_4_method_2_code 78 = .ok (.aload_n 0, 1) := by decide +kernel
theorem d_Links_find_79 : decode prog_4_method_2_code 79 = .ok (.iload 5, 2) := by decide +kernel
theorem d_Links_find_81 : decode prog_4_method_2_code 81 = .ok (.iload 4, 2) := by decide +kernel
theorem d_Links_find_83 : decode prog_4_method_2_code 83 = .ok (.iload_n 1, 1) := by decide +kernel
theorem d_Links_find_84 : decode prog_4_method_2_code 84 = .ok (.iload_n 2, 1) := by decide +kernel
theorem d_Links_find_85 : decode prog_4_method_2_code 85 = .ok (.invokevirtual 38, 3) := by decide +kernel
theorem d_Links_find_88 : decode prog_4_method_2_code 88 = .ok (.iinc 5 1, 3) := by decide +kernel
theorem d_Links_find_91 : decode prog_4_method_2_code 91 = .ok (.goto (-44), 3) := by decide +kernel
theorem d_Links_find_94 : decode prog_4_method_2_code 94 = .ok (.iinc 4 1, 3) := by decide +kernel
theorem d_Links_find_97 : decode prog_4_method_2_code 97 = .ok (.goto (-89), 3) := by decide +kernel
theorem d_Links_find_100 : decode prog_4_method_2_code 100 = .ok (.return_, 1) := by decide +kernel
def B_Links_find (_ : Nat × Nat) : PS :=
  (sSq (sF .int 2 4 (eR 0) (eI 3))
    (sSq (sCut 4 (sSq (sI 4 (eV (0 : Int32)))
    (sLp 5 (e2 (fun x y : Int32 => decide (x < y)) (eI 4) (eFI 1 6 (eFR 2 0 (eR 0))))
    (sSq (sAI (eFR 2 1 (eR 0)) (eI 4) (eV (0 : Int32)))
    (sSq (sAI (eFR 2 2 (eR 0)) (eI 4) (eV (0 : Int32)))
    (sSq (sAI (eFR 2 3 (eR 0)) (eI 4) (eV (0 : Int32)))
    (sCut 5 (sSq (sI 5 (eV (0 : Int32)))
    (sLp 6 (e2 (fun x y : Int32 => decide (x < y)) (eI 5) (eI 4))
    (sIf (cA (cN (e1 (fun x : Int32 => decide (¬ x = 0)) (eX .int (xS 2 X_PL_holds (aC .int (eFI 2 4 (eR 0)) (aC .int (eI 5) aN)))))) (cN (e1 (fun x : Int32 => decide (¬ x = 0)) (eX .int (xS 2 X_PL_holds (aC .int (eFI 2 4 (eR 0)) (aC .int (eI 4) aN))))))) (sX (xV 2 4 X_Links_link (eR 0) (aC .int (eI 5) (aC .int (eI 4) (aC .int (eI 1) (aC .int (eI 2) aN)))))) sSk)
    (sInc 5 (1))))))))
    (sInc 4 (1)))))
    sRv))
def X_Links_find : PM := fun vs h Q => (lx vs).length ≤ 6 ∧ B_Links_find (h.length + 0, hsz h + 0) (fun _ _ => False) (fun _ _ => False) (fun _ _ => False) Q (lini 6 vs) h
theorem v_Links_find (l : Launch) : Ctr l y_Links_find prog_4_method_2_code 6 none rm_Links_find X_Links_find := by
  refine Ctr_of (own := "PackLanes$Links") (B := B_Links_find) (KR := fun _ Q => Q) (by decide) rfl (fun _ _ _ z => z) (fun _ _ _ _ z => ⟨Or.inl ⟨rfl, rfl⟩, z⟩) (Or.inl rfl) (fun κ hl ho hR hrt hn0 => ?_)
  subst hl
  unfold B_Links_find
  exact (S_sq (pc1 := 5) (S_FI f_Links_21 ho (pc1 := 1) (pc2 := 2) (E_aln d_Links_find_0 rfl) (E_iln d_Links_find_1 rfl) d_Links_find_2)
    (S_sq (pc1 := 100) (S_cut (S_sq (pc1 := 8) (S_I (pc1 := 6) (E_ic d_Links_find_5 rfl) d_Links_find_6)
    (S_lp (pT := 20) (pF := 100) (pS := 94) (pG := 97) (J2_lt (pF := 100) (pc1 := 10) (pc2 := 17) (E_il d_Links_find_8) (E_fI f_Links_29 ho (pc1 := 14) (E_fR f_Links_25 ho (pc1 := 11) (E_aln d_Links_find_10 rfl) d_Links_find_11) d_Links_find_14) d_Links_find_17 rfl)
    (S_sq (pc1 := 28) (S_AI (pc1 := 24) (pc2 := 26) (pc3 := 27) (E_fR f_Links_9 ho (pc1 := 21) (E_aln d_Links_find_20 rfl) d_Links_find_21) (E_il d_Links_find_24) (E_ic d_Links_find_26 rfl) d_Links_find_27)
    (S_sq (pc1 := 36) (S_AI (pc1 := 32) (pc2 := 34) (pc3 := 35) (E_fR f_Links_15 ho (pc1 := 29) (E_aln d_Links_find_28 rfl) d_Links_find_29) (E_il d_Links_find_32) (E_ic d_Links_find_34 rfl) d_Links_find_35)
    (S_sq (pc1 := 44) (S_AI (pc1 := 40) (pc2 := 42) (pc3 := 43) (E_fR f_Links_18 ho (pc1 := 37) (E_aln d_Links_find_36 rfl) d_Links_find_37) (E_il d_Links_find_40) (E_ic d_Links_find_42 rfl) d_Links_find_43)
    (S_cut (S_sq (pc1 := 47) (S_I (pc1 := 45) (E_ic d_Links_find_44 rfl) d_Links_find_45)
    (S_lp (pT := 54) (pF := 94) (pS := 88) (pG := 91) (J2_lt (pF := 94) (pc1 := 49) (pc2 := 51) (E_il d_Links_find_47) (E_il d_Links_find_49) d_Links_find_51 rfl)
    (S_if1 (pT := 78) (pF := 88) (C_and (pc1 := 66) (C_not (T1_ne (pT := 88) (pc2 := 63) (E_x (O_SN k_Links_34 (v_PL_holds _) ⟨rfl, rfl⟩ ho (rk hR rfl) (by decide) (pc2 := 60) (A_c catI (pc1 := 58) (E_fI f_Links_21 ho (pc1 := 55) (E_aln d_Links_find_54 rfl) d_Links_find_55) (A_c catI (pc1 := 60) (E_il d_Links_find_58) A_n)) d_Links_find_60)) d_Links_find_63 rfl)) (C_not (T1_ne (pT := 88) (pc2 := 75) (E_x (O_SN k_Links_34 (v_PL_holds _) ⟨rfl, rfl⟩ ho (rk hR rfl) (by decide) (pc2 := 72) (A_c catI (pc1 := 70) (E_fI f_Links_21 ho (pc1 := 67) (E_aln d_Links_find_66 rfl) d_Links_find_67) (A_c catI (pc1 := 72) (E_il d_Links_find_70) A_n)) d_Links_find_72)) d_Links_find_75 rfl))) (S_X (O_V k_Links_38 (v_Links_link _) ⟨rfl, rfl⟩ ho (rk hR rfl) (by decide) (T := KT2) (N := 5) rfl (by decide) (pc1 := 79) (pc2 := 85) (E_aln d_Links_find_78 rfl) (A_c catI (pc1 := 81) (E_il d_Links_find_79) (A_c catI (pc1 := 83) (E_il d_Links_find_81) (A_c catI (pc1 := 84) (E_iln d_Links_find_83 rfl) (A_c catI (pc1 := 85) (E_iln d_Links_find_84 rfl) A_n)))) d_Links_find_85)))
    (S_Inc d_Links_find_88 rfl) d_Links_find_91 rfl))))))
    (S_Inc d_Links_find_94 rfl) d_Links_find_97 rfl)))
    (S_rv hrt d_Links_find_100)))
theorem d_Pack_keepNothing_0 : decode prog_6_method_2_code 0 = .ok (.aload_n 0, 1) := by decide +kernel
theorem d_Pack_keepNothing_1 : decode prog_6_method_2_code 1 = .ok (.getfield 55, 3) := by decide +kernel
theorem d_Pack_keepNothing_4 : decode prog_6_method_2_code 4 = .ok (.aload_n 1, 1) := by decide +kernel
theorem d_Pack_keepNothing_5 : decode prog_6_method_2_code 5 = .ok (.bipush 16, 2) := by decide +kernel
theorem d_Pack_keepNothing_7 : decode prog_6_method_2_code 7 = .ok (.iaload, 1) := by decide +kernel
theorem d_Pack_keepNothing_8 : decode prog_6_method_2_code 8 = .ok (.aload_n 1, 1) := by decide +kernel
theorem d_Pack_keepNothing_9 : decode prog_6_method_2_code 9 = .ok (.bipush 17, 2) := by decide +kernel
theorem d_Pack_keepNothing_11 : decode prog_6_method_2_code 11 = .ok (.iaload, 1) := by decide +kernel
theorem d_Pack_keepNothing_12 : decode prog_6_method_2_code 12 = .ok (.iload_n 2, 1) := by decide +kernel
theorem d_Pack_keepNothing_13 : decode prog_6_method_2_code 13 = .ok (.invokevirtual 68, 3) := by decide +kernel
theorem d_Pack_keepNothing_16 : decode prog_6_method_2_code 16 = .ok (.aload_n 0, 1) := by decide +kernel
theorem d_Pack_keepNothing_17 : decode prog_6_method_2_code 17 = .ok (.aload_n 1, 1) := by decide +kernel
theorem d_Pack_keepNothing_18 : decode prog_6_method_2_code 18 = .ok (.bipush 18, 2) := by decide +kernel
theorem d_Pack_keepNothing_20 : decode prog_6_method_2_code 20 = .ok (.iaload, 1) := by decide +kernel
theorem d_Pack_keepNothing_21 : decode prog_6_method_2_code 21 = .ok (.putfield 9, 3) := by decide +kernel
theorem d_Pack_keepNothing_24 : decode prog_6_method_2_code 24 = .ok (.aload_n 0, 1) := by decide +kernel
theorem d_Pack_keepNothing_25 : decode prog_6_method_2_code 25 = .ok (.iconst 0, 1) := by decide +kernel
theorem d_Pack_keepNothing_26 : decode prog_6_method_2_code 26 = .ok (.putfield 34, 3) := by decide +kernel
theorem d_Pack_keepNothing_29 : decode prog_6_method_2_code 29 = .ok (.aload_n 0, 1) := by decide +kernel
theorem d_Pack_keepNothing_30 : decode prog_6_method_2_code 30 = .ok (.iconst 0, 1) := by decide +kernel
theorem d_Pack_keepNothing_31 : decode prog_6_method_2_code 31 = .ok (.putfield 37, 3) := by decide +kernel
theorem d_Pack_keepNothing_34 : decode prog_6_method_2_code 34 = .ok (.aload_n 0, 1) := by decide +kernel
theorem d_Pack_keepNothing_35 : decode prog_6_method_2_code 35 = .ok (.iconst 0, 1) := by decide +kernel
theorem d_Pack_keepNothing_36 : decode prog_6_method_2_code 36 = .ok (.putfield 40, 3) := by decide +kernel
theorem d_Pack_keepNothing_39 : decode prog_6_method_2_code 39 = .ok (.aload_n 0, 1) := by decide +kernel
theorem d_Pack_keepNothing_40 : decode prog_6_method_2_code 40 = .ok (.iconst 0, 1) := by decide +kernel
theorem d_Pack_keepNothing_41 : decode prog_6_method_2_code 41 = .ok (.putfield 43, 3) := by decide +kernel
theorem d_Pack_keepNothing_44 : decode prog_6_method_2_code 44 = .ok (.iconst 0, 1) := by decide +kernel
theorem d_Pack_keepNothing_45 : decode prog_6_method_2_code 45 = .ok (.istore_n 3, 1) := by decide +kernel
theorem d_Pack_keepNothing_46 : decode prog_6_method_2_code 46 = .ok (.iload_n 3, 1) := by decide +kernel
theorem d_Pack_keepNothing_47 : decode prog_6_method_2_code 47 = .ok (.bipush 16, 2) := by decide +kernel
theorem d_Pack_keepNothing_49 : decode prog_6_method_2_code 49 = .ok (.if_icmp .ge 34, 3) := by decide +kernel
theorem d_Pack_keepNothing_52 : decode prog_6_method_2_code 52 = .ok (.aload_n 0, 1) := by decide +kernel
theorem d_Pack_keepNothing_53 : decode prog_6_method_2_code 53 = .ok (.getfield 15, 3) := by decide +kernel
theorem d_Pack_keepNothing_56 : decode prog_6_method_2_code 56 = .ok (.iload_n 3, 1) := by decide +kernel
theorem d_Pack_keepNothing_57 : decode prog_6_method_2_code 57 = .ok (.iconst 1, 1) := by decide +kernel
theorem d_Pack_keepNothing_58 : decode prog_6_method_2_code 58 = .ok (.iload_n 3, 1) := by decide +kernel
theorem d_Pack_keepNothing_59 : decode prog_6_method_2_code 59 = .ok (.ishl, 1) := by decide +kernel
theorem d_Pack_keepNothing_60 : decode prog_6_method_2_code 60 = .ok (.iastore, 1) := by decide +kernel
theorem d_Pack_keepNothing_61 : decode prog_6_method_2_code 61 = .ok (.aload_n 0, 1) := by decide +kernel
theorem d_Pack_keepNothing_62 : decode prog_6_method_2_code 62 = .ok (.getfield 19, 3) := by decide +kernel
theorem d_Pack_keepNothing_65 : decode prog_6_method_2_code 65 = .ok (.iload_n 3, 1) := by decide +kernel
theorem d_Pack_keepNothing_66 : decode prog_6_method_2_code 66 = .ok (.bipush (-9), 2) := by decide +kernel
theorem d_Pack_keepNothing_68 : decode prog_6_method_2_code 68 = .ok (.iastore, 1) := by decide +kernel
theorem d_Pack_keepNothing_69 : decode prog_6_method_2_code 69 = .ok (.aload_n 0, 1) := by decide +kernel
theorem d_Pack_keepNothing_70 : decode prog_6_method_2_code 70 = .ok (.getfield 22, 3) := by decide +kernel
theorem d_Pack_keepNothing_73 : decode prog_6_method_2_code 73 = .ok (.iload_n 3, 1) := by decide +kernel
theorem d_Pack_keepNothing_74 : decode prog_6_method_2_code 74 = .ok (.bipush (-9), 2) := by decide +kernel
theorem d_Pack_keepNothing_76 : decode prog_6_method_2_code 76 = .ok (.iastore, 1) := by decide +kernel
theorem d_Pack_keepNothing_77 : decode prog_6_method_2_code 77 = .ok (.iinc 3 1, 3) := by decide +kernel
theorem d_Pack_keepNothing_80 : decode prog_6_method_2_code 80 = .ok (.goto (-34), 3) := by decide +kernel
theorem d_Pack_keepNothing_83 : decode prog_6_method_2_code 83 = .ok (.return_, 1) := by decide +kernel
def B_Pack_keepNothing (_ : Nat × Nat) : PS :=
  (sSq (sX (xV 2 3 X_Links_find (eFR 4 1 (eR 0)) (aC .int (eAI (eR 1) (eV (16 : Int32))) (aC .int (eAI (eR 1) (eV (17 : Int32))) (aC .int (eI 2) aN)))))
    (sSq (sF .int 4 3 (eR 0) (eAI (eR 1) (eV (18 : Int32))))
    (sSq (sF .int 4 10 (eR 0) (eV (0 : Int32)))
    (sSq (sF .int 4 11 (eR 0) (eV (0 : Int32)))
    (sSq (sF .int 4 12 (eR 0) (eV (0 : Int32)))
    (sSq (sF .int 4 13 (eR 0) (eV (0 : Int32)))
    (sSq (sCut 3 (sSq (sI 3 (eV (0 : Int32)))
    (sLp 4 (e2 (fun x y : Int32 => decide (x < y)) (eI 3) (eV (16 : Int32)))
    (sSq (sAI (eFR 4 4 (eR 0)) (eI 3) (e2 (fun x y : Int32 => x <<< (y &&& 31)) (eV (1 : Int32)) (eI 3)))
    (sSq (sAI (eFR 4 5 (eR 0)) (eI 3) (eV (-9 : Int32)))
    (sAI (eFR 4 6 (eR 0)) (eI 3) (eV (-9 : Int32)))))
    (sInc 3 (1)))))
    sRv)))))))
def X_Pack_keepNothing : PM := fun vs h Q => (lx vs).length ≤ 4 ∧ B_Pack_keepNothing (h.length + 0, hsz h + 0) (fun _ _ => False) (fun _ _ => False) (fun _ _ => False) Q (lini 4 vs) h
theorem v_Pack_keepNothing (l : Launch) : Ctr l y_Pack_keepNothing prog_6_method_2_code 4 none rm_Pack_keepNothing X_Pack_keepNothing := by
  refine Ctr_of (own := "PackLanes$Packer") (B := B_Pack_keepNothing) (KR := fun _ Q => Q) (by decide) rfl (fun _ _ _ z => z) (fun _ _ _ _ z => ⟨Or.inl ⟨rfl, rfl⟩, z⟩) (Or.inl rfl) (fun κ hl ho hR hrt hn0 => ?_)
  subst hl
  unfold B_Pack_keepNothing
  exact (S_sq (pc1 := 16) (S_X (O_V k_Pack_68 (v_Links_find _) ⟨rfl, rfl⟩ ho (rk hR rfl) (by decide) (T := KT2) (N := 5) rfl (by decide) (pc1 := 4) (pc2 := 13) (E_fR f_Pack_55 ho (pc1 := 1) (E_aln d_Pack_keepNothing_0 rfl) d_Pack_keepNothing_1) (A_c catI (pc1 := 8) (E_aI (pc1 := 5) (pc2 := 7) (E_aln d_Pack_keepNothing_4 rfl) (E_bi d_Pack_keepNothing_5 rfl) d_Pack_keepNothing_7) (A_c catI (pc1 := 12) (E_aI (pc1 := 9) (pc2 := 11) (E_aln d_Pack_keepNothing_8 rfl) (E_bi d_Pack_keepNothing_9 rfl) d_Pack_keepNothing_11) (A_c catI (pc1 := 13) (E_iln d_Pack_keepNothing_12 rfl) A_n))) d_Pack_keepNothing_13))
    (S_sq (pc1 := 24) (S_FI f_Pack_9 ho (pc1 := 17) (pc2 := 21) (E_aln d_Pack_keepNothing_16 rfl) (E_aI (pc1 := 18) (pc2 := 20) (E_aln d_Pack_keepNothing_17 rfl) (E_bi d_Pack_keepNothing_18 rfl) d_Pack_keepNothing_20) d_Pack_keepNothing_21)
    (S_sq (pc1 := 29) (S_FI f_Pack_34 ho (pc1 := 25) (pc2 := 26) (E_aln d_Pack_keepNothing_24 rfl) (E_ic d_Pack_keepNothing_25 rfl) d_Pack_keepNothing_26)
    (S_sq (pc1 := 34) (S_FI f_Pack_37 ho (pc1 := 30) (pc2 := 31) (E_aln d_Pack_keepNothing_29 rfl) (E_ic d_Pack_keepNothing_30 rfl) d_Pack_keepNothing_31)
    (S_sq (pc1 := 39) (S_FI f_Pack_40 ho (pc1 := 35) (pc2 := 36) (E_aln d_Pack_keepNothing_34 rfl) (E_ic d_Pack_keepNothing_35 rfl) d_Pack_keepNothing_36)
    (S_sq (pc1 := 44) (S_FI f_Pack_43 ho (pc1 := 40) (pc2 := 41) (E_aln d_Pack_keepNothing_39 rfl) (E_ic d_Pack_keepNothing_40 rfl) d_Pack_keepNothing_41)
    (S_sq (pc1 := 83) (S_cut (S_sq (pc1 := 46) (S_In (pc1 := 45) (E_ic d_Pack_keepNothing_44 rfl) d_Pack_keepNothing_45 rfl)
    (S_lp (pT := 52) (pF := 83) (pS := 77) (pG := 80) (J2_lt (pF := 83) (pc1 := 47) (pc2 := 49) (E_iln d_Pack_keepNothing_46 rfl) (E_bi d_Pack_keepNothing_47 rfl) d_Pack_keepNothing_49 rfl)
    (S_sq (pc1 := 61) (S_AI (pc1 := 56) (pc2 := 57) (pc3 := 60) (E_fR f_Pack_15 ho (pc1 := 53) (E_aln d_Pack_keepNothing_52 rfl) d_Pack_keepNothing_53) (E_iln d_Pack_keepNothing_56 rfl) (E_ishl (pc1 := 58) (pc2 := 59) (E_ic d_Pack_keepNothing_57 rfl) (E_iln d_Pack_keepNothing_58 rfl) d_Pack_keepNothing_59) d_Pack_keepNothing_60)
    (S_sq (pc1 := 69) (S_AI (pc1 := 65) (pc2 := 66) (pc3 := 68) (E_fR f_Pack_19 ho (pc1 := 62) (E_aln d_Pack_keepNothing_61 rfl) d_Pack_keepNothing_62) (E_iln d_Pack_keepNothing_65 rfl) (E_bi d_Pack_keepNothing_66 rfl) d_Pack_keepNothing_68)
    (S_AI (pc1 := 73) (pc2 := 74) (pc3 := 76) (E_fR f_Pack_22 ho (pc1 := 70) (E_aln d_Pack_keepNothing_69 rfl) d_Pack_keepNothing_70) (E_iln d_Pack_keepNothing_73 rfl) (E_bi d_Pack_keepNothing_74 rfl) d_Pack_keepNothing_76)))
    (S_Inc d_Pack_keepNothing_77 rfl) d_Pack_keepNothing_80 rfl)))
    (S_rv hrt d_Pack_keepNothing_83))))))))
theorem d_Pack_leastStore_0 : decode prog_6_method_6_code 0 = .ok (.iconst 0, 1) := by decide +kernel
theorem d_Pack_leastStore_1 : decode prog_6_method_6_code 1 = .ok (.istore_n 3, 1) := by decide +kernel
theorem d_Pack_leastStore_2 : decode prog_6_method_6_code 2 = .ok (.iload_n 3, 1) := by decide +kernel
theorem d_Pack_leastStore_3 : decode prog_6_method_6_code 3 = .ok (.aload_n 0, 1) := by decide +kernel
theorem d_Pack_leastStore_4 : decode prog_6_method_6_code 4 = .ok (.getfield 46, 3) := by decide +kernel
theorem d_Pack_leastStore_7 : decode prog_6_method_6_code 7 = .ok (.getfield 106, 3) := by decide +kernel
theorem d_Pack_leastStore_10 : decode prog_6_method_6_code 10 = .ok (.if_icmp .ge 70, 3) := by decide +kernel
theorem d_Pack_leastStore_13 : decode prog_6_method_6_code 13 = .ok (.aload_n 0, 1) := by decide +kernel
theorem d_Pack_leastStore_14 : decode prog_6_method_6_code 14 = .ok (.getfield 46, 3) := by decide +kernel
theorem d_Pack_leastStore_17 : decode prog_6_method_6_code 17 = .ok (.getfield 111, 3) := by decide +kernel
theorem d_Pack_leastStore_20 : decode prog_6_method_6_code 20 = .ok (.iload_n 3, 1) := by decide +kernel
theorem d_Pack_leastStore_21 : decode prog_6_method_6_code 21 = .ok (.iaload, 1) := by decide +kernel
theorem d_Pack_leastStore_22 : decode prog_6_method_6_code 22 = .ok (.bipush 6, 2) := by decide +kernel
theorem d_Pack_leastStore_24 : decode prog_6_method_6_code 24 = .ok (.if_icmp .ne 50, 3) := by decide +kernel
theorem d_Pack_leastStore_27 : decode prog_6_method_6_code 27 = .ok (.aload_n 0, 1) := by decide +kernel
theorem d_Pack_leastStore_28 : decode prog_6_method_6_code 28 = .ok (.getfield 46, 3) := by decide +kernel
theorem d_Pack_leastStore_31 : decode prog_6_method_6_code 31 = .ok (.getfield 114, 3) := by decide +kernel
theorem d_Pack_leastStore_34 : decode prog_6_method_6_code 34 = .ok (.iload_n 3, 1) := by decide +kernel
theorem d_Pack_leastStore_35 : decode prog_6_method_6_code 35 = .ok (.iaload, 1) := by decide +kernel
theorem d_Pack_leastStore_36 : decode prog_6_method_6_code 36 = .ok (.iload_n 1, 1) := by decide +kernel
theorem d_Pack_leastStore_37 : decode prog_6_method_6_code 37 = .ok (.if_icmp .ne 37, 3) := by decide +kernel
theorem d_Pack_leastStore_40 : decode prog_6_method_6_code 40 = .ok (.aload_n 0, 1) := by decide +kernel
theorem d_Pack_leastStore_41 : decode prog_6_method_6_code 41 = .ok (.getfield 46, 3) := by decide +kernel
theorem d_Pack_leastStore_44 : decode prog_6_method_6_code 44 = .ok (.getfield 117, 3) := by decide +kernel
theorem d_Pack_leastStore_47 : decode prog_6_method_6_code 47 = .ok (.iload_n 3, 1) := by decide +kernel
theorem d_Pack_leastStore_48 : decode prog_6_method_6_code 48 = .ok (.iaload, 1) := by decide +kernel
theorem d_Pack_leastStore_49 : decode prog_6_method_6_code 49 = .ok (.iload_n 2, 1) := by decide +kernel
theorem d_Pack_leastStore_50 : decode prog_6_method_6_code 50 = .ok (.if_icmp .ne 24, 3) := by decide +kernel
theorem d_Pack_leastStore_53 : decode prog_6_method_6_code 53 = .ok (.aload_n 0, 1) := by decide +kernel
theorem d_Pack_leastStore_54 : decode prog_6_method_6_code 54 = .ok (.getfield 37, 3) := by decide +kernel
theorem d_Pack_leastStore_57 : decode prog_6_method_6_code 57 = .ok (.aload_n 0, 1) := by decide +kernel
theorem d_Pack_leastStore_58 : decode prog_6_method_6_code 58 = .ok (.getfield 55, 3) := by decide +kernel
theorem d_Pack_leastStore_61 : decode prog_6_method_6_code 61 = .ok (.getfield 120, 3) := by decide +kernel
theorem d_Pack_leastStore_64 : decode prog_6_method_6_code 64 = .ok (.ior, 1) := by decide +kernel
theorem d_Pack_leastStore_65 : decode prog_6_method_6_code 65 = .ok (.iload_n 3, 1) := by decide +kernel
theorem d_Pack_leastStore_66 : decode prog_6_method_6_code 66 = .ok (.invokestatic 123, 3) := by decide +kernel
theorem d_Pack_leastStore_69 : decode prog_6_method_6_code 69 = .ok (.ifCond .ne 5, 3) := by decide +kernel
theorem d_Pack_leastStore_72 : decode prog_6_method_6_code 72 = .ok (.iload_n 3, 1) := by decide +kernel
theorem d_Pack_leastStore_73 : decode prog_6_method_6_code 73 = .ok (.ireturn, 1) := by decide +kernel
theorem d_Pack_leastStore_74 : decode prog_6_method_6_code 74 = .ok (.iinc 3 1, 3) := by decide +kernel
theorem d_Pack_leastStore_77 : decode prog_6_method_6_code 77 = .ok (.goto (-75), 3) := by decide +kernel
theorem d_Pack_leastStore_80 : decode prog_6_method_6_code 80 = .ok (.bipush (-9), 2) := by decide +kernel
theorem d_Pack_leastStore_82 : decode prog_6_method_6_code 82 = .ok (.ireturn, 1) := by decide +kernel
def B_Pack_leastStore (_ : Nat × Nat) : PS :=
  (sSq (sCut 3 (sSq (sI 3 (eV (0 : Int32)))
    (sLp 4 (e2 (fun x y : Int32 => decide (x < y)) (eI 3) (eFI 1 6 (eFR 4 0 (eR 0))))
    (sIf (cA (cA (cA (e2 (fun x y : Int32 => decide (x = y)) (eAI (eFR 1 0 (eFR 4 0 (eR 0))) (eI 3)) (eV (6 : Int32))) (e2 (fun x y : Int32 => decide (x = y)) (eAI (eFR 1 1 (eFR 4 0 (eR 0))) (eI 3)) (eI 1))) (e2 (fun x y : Int32 => decide (x = y)) (eAI (eFR 1 2 (eFR 4 0 (eR 0))) (eI 3)) (eI 2))) (cN (e1 (fun x : Int32 => decide (¬ x = 0)) (eX .int (xS 2 X_PL_holds (aC .int (e2 (fun x y : Int32 => x ||| y) (eFI 4 11 (eR 0)) (eFI 2 4 (eFR 4 1 (eR 0)))) (aC .int (eI 3) aN))))))) (sRt .int (eI 3)) sSk)
    (sInc 3 (1)))))
    (sRt .int (eV (-9 : Int32))))
def X_Pack_leastStore : PM := fun vs h Q => (lx vs).length ≤ 4 ∧ B_Pack_leastStore (h.length + 0, hsz h + 0) (fun _ _ => False) (fun _ _ => False) (fun _ _ => False) Q (lini 4 vs) h
theorem v_Pack_leastStore (l : Launch) : Ctr l y_Pack_leastStore prog_6_method_6_code 4 (some .int) rm_Pack_leastStore X_Pack_leastStore := by
  refine Ctr_of (own := "PackLanes$Packer") (B := B_Pack_leastStore) (KR := fun _ Q => Q) (by decide) rfl (fun _ _ _ z => z) (fun _ _ _ _ z => ⟨Or.inl ⟨rfl, rfl⟩, z⟩) (Or.inr (Or.inl rfl)) (fun κ hl ho hR hrt hn0 => ?_)
  subst hl
  unfold B_Pack_leastStore
  exact (S_sq (pc1 := 80) (S_cut (S_sq (pc1 := 2) (S_In (pc1 := 1) (E_ic d_Pack_leastStore_0 rfl) d_Pack_leastStore_1 rfl)
    (S_lp (pT := 13) (pF := 80) (pS := 74) (pG := 77) (J2_lt (pF := 80) (pc1 := 3) (pc2 := 10) (E_iln d_Pack_leastStore_2 rfl) (E_fI f_Pack_106 ho (pc1 := 7) (E_fR f_Pack_46 ho (pc1 := 4) (E_aln d_Pack_leastStore_3 rfl) d_Pack_leastStore_4) d_Pack_leastStore_7) d_Pack_leastStore_10 rfl)
    (S_if1 (pT := 72) (pF := 74) (C_and (pc1 := 53) (C_and (pc1 := 40) (C_and (pc1 := 27) (J2_eq (pF := 74) (pc1 := 22) (pc2 := 24) (E_aI (pc1 := 20) (pc2 := 21) (E_fR f_Pack_111 ho (pc1 := 17) (E_fR f_Pack_46 ho (pc1 := 14) (E_aln d_Pack_leastStore_13 rfl) d_Pack_leastStore_14) d_Pack_leastStore_17) (E_iln d_Pack_leastStore_20 rfl) d_Pack_leastStore_21) (E_bi d_Pack_leastStore_22 rfl) d_Pack_leastStore_24 rfl) (J2_eq (pF := 74) (pc1 := 36) (pc2 := 37) (E_aI (pc1 := 34) (pc2 := 35) (E_fR f_Pack_114 ho (pc1 := 31) (E_fR f_Pack_46 ho (pc1 := 28) (E_aln d_Pack_leastStore_27 rfl) d_Pack_leastStore_28) d_Pack_leastStore_31) (E_iln d_Pack_leastStore_34 rfl) d_Pack_leastStore_35) (E_iln d_Pack_leastStore_36 rfl) d_Pack_leastStore_37 rfl)) (J2_eq (pF := 74) (pc1 := 49) (pc2 := 50) (E_aI (pc1 := 47) (pc2 := 48) (E_fR f_Pack_117 ho (pc1 := 44) (E_fR f_Pack_46 ho (pc1 := 41) (E_aln d_Pack_leastStore_40 rfl) d_Pack_leastStore_41) d_Pack_leastStore_44) (E_iln d_Pack_leastStore_47 rfl) d_Pack_leastStore_48) (E_iln d_Pack_leastStore_49 rfl) d_Pack_leastStore_50 rfl)) (C_not (T1_ne (pT := 74) (pc2 := 69) (E_x (O_SN k_Pack_123 (v_PL_holds _) ⟨rfl, rfl⟩ ho (rk hR rfl) (by decide) (pc2 := 66) (A_c catI (pc1 := 65) (E_ior (pc1 := 57) (pc2 := 64) (E_fI f_Pack_37 ho (pc1 := 54) (E_aln d_Pack_leastStore_53 rfl) d_Pack_leastStore_54) (E_fI f_Pack_120 ho (pc1 := 61) (E_fR f_Pack_55 ho (pc1 := 58) (E_aln d_Pack_leastStore_57 rfl) d_Pack_leastStore_58) d_Pack_leastStore_61) d_Pack_leastStore_64) (A_c catI (pc1 := 66) (E_iln d_Pack_leastStore_65 rfl) A_n)) d_Pack_leastStore_66)) d_Pack_leastStore_69 rfl))) (S_ri hrt (pc1 := 73) (E_iln d_Pack_leastStore_72 rfl) d_Pack_leastStore_73))
    (S_Inc d_Pack_leastStore_74 rfl) d_Pack_leastStore_77 rfl)))
    (S_ri hrt (pc1 := 82) (E_bi d_Pack_leastStore_80 rfl) d_Pack_leastStore_82))
theorem d_PL_withLane_0 : decode prog_1_method_37_code 0 = .ok (.iload_n 0, 1) := by decide +kernel
theorem d_PL_withLane_1 : decode prog_1_method_37_code 1 = .ok (.iload_n 2, 1) := by decide +kernel
theorem d_PL_withLane_2 : decode prog_1_method_37_code 2 = .ok (.iconst 4, 1) := by decide +kernel
theorem d_PL_withLane_3 : decode prog_1_method_37_code 3 = .ok (.iload_n 1, 1) := by decide +kernel
theorem d_PL_withLane_4 : decode prog_1_method_37_code 4 = .ok (.imul, 1) := by decide +kernel
theorem d_PL_withLane_5 : decode prog_1_method_37_code 5 = .ok (.ishl, 1) := by decide +kernel
theorem d_PL_withLane_6 : decode prog_1_method_37_code 6 = .ok (.ior, 1) := by decide +kernel
theorem d_PL_withLane_7 : decode prog_1_method_37_code 7 = .ok (.ireturn, 1) := by decide +kernel
def B_PL_withLane (_ : Nat × Nat) : PS :=
  (sRt .int (e2 (fun x y : Int32 => x ||| y) (eI 0) (e2 (fun x y : Int32 => x <<< (y &&& 31)) (eI 2) (e2 (fun x y : Int32 => x * y) (eV (4 : Int32)) (eI 1)))))
def X_PL_withLane : PM := fun vs h Q => (lx vs).length ≤ 3 ∧ B_PL_withLane (h.length + 0, hsz h + 0) (fun _ _ => False) (fun _ _ => False) (fun _ _ => False) Q (lini 3 vs) h
theorem v_PL_withLane (l : Launch) : Ctr l y_PL_withLane prog_1_method_37_code 3 (some .int) rm_PL_withLane X_PL_withLane := by
  refine Ctr_of (own := "PackLanes") (B := B_PL_withLane) (KR := fun _ Q => Q) (by decide) rfl (fun _ _ _ z => z) (fun _ _ _ _ z => ⟨Or.inl ⟨rfl, rfl⟩, z⟩) (Or.inr (Or.inl rfl)) (fun κ hl ho hR hrt hn0 => ?_)
  subst hl
  unfold B_PL_withLane
  exact (S_ri hrt (pc1 := 7) (E_ior (pc1 := 1) (pc2 := 6) (E_iln d_PL_withLane_0 rfl) (E_ishl (pc1 := 2) (pc2 := 5) (E_iln d_PL_withLane_1 rfl) (E_imul (pc1 := 3) (pc2 := 4) (E_ic d_PL_withLane_2 rfl) (E_iln d_PL_withLane_3 rfl) d_PL_withLane_4) d_PL_withLane_5) d_PL_withLane_6) d_PL_withLane_7)
theorem d_PL_inLane_0 : decode prog_1_method_36_code 0 = .ok (.iload_n 0, 1) := by decide +kernel
theorem d_PL_inLane_1 : decode prog_1_method_36_code 1 = .ok (.iconst 4, 1) := by decide +kernel
theorem d_PL_inLane_2 : decode prog_1_method_36_code 2 = .ok (.iload_n 1, 1) := by decide +kernel
theorem d_PL_inLane_3 : decode prog_1_method_36_code 3 = .ok (.imul, 1) := by decide +kernel
theorem d_PL_inLane_4 : decode prog_1_method_36_code 4 = .ok (.ishr, 1) := by decide +kernel
theorem d_PL_inLane_5 : decode prog_1_method_36_code 5 = .ok (.bipush 15, 2) := by decide +kernel
theorem d_PL_inLane_7 : decode prog_1_method_36_code 7 = .ok (.iand, 1) := by decide +kernel
theorem d_PL_inLane_8 : decode prog_1_method_36_code 8 = .ok (.ireturn, 1) := by decide +kernel
def B_PL_inLane (_ : Nat × Nat) : PS :=
  (sRt .int (e2 (fun x y : Int32 => x &&& y) (e2 (fun x y : Int32 => x >>> (y &&& 31)) (eI 0) (e2 (fun x y : Int32 => x * y) (eV (4 : Int32)) (eI 1))) (eV (15 : Int32))))
def X_PL_inLane : PM := fun vs h Q => (lx vs).length ≤ 2 ∧ B_PL_inLane (h.length + 0, hsz h + 0) (fun _ _ => False) (fun _ _ => False) (fun _ _ => False) Q (lini 2 vs) h
theorem v_PL_inLane (l : Launch) : Ctr l y_PL_inLane prog_1_method_36_code 2 (some .int) rm_PL_inLane X_PL_inLane := by
  refine Ctr_of (own := "PackLanes") (B := B_PL_inLane) (KR := fun _ Q => Q) (by decide) rfl (fun _ _ _ z => z) (fun _ _ _ _ z => ⟨Or.inl ⟨rfl, rfl⟩, z⟩) (Or.inr (Or.inl rfl)) (fun κ hl ho hR hrt hn0 => ?_)
  subst hl
  unfold B_PL_inLane
  exact (S_ri hrt (pc1 := 8) (E_iand (pc1 := 5) (pc2 := 7) (E_ishr (pc1 := 1) (pc2 := 4) (E_iln d_PL_inLane_0 rfl) (E_imul (pc1 := 2) (pc2 := 3) (E_ic d_PL_inLane_1 rfl) (E_iln d_PL_inLane_2 rfl) d_PL_inLane_3) d_PL_inLane_4) (E_bi d_PL_inLane_5 rfl) d_PL_inLane_7) d_PL_inLane_8)
theorem d_PL_setOf_0 : decode prog_1_method_38_code 0 = .ok (.iconst 0, 1) := by decide +kernel
theorem d_PL_setOf_1 : decode prog_1_method_38_code 1 = .ok (.istore_n 2, 1) := by decide +kernel
theorem d_PL_setOf_2 : decode prog_1_method_38_code 2 = .ok (.iconst 0, 1) := by decide +kernel
theorem d_PL_setOf_3 : decode prog_1_method_38_code 3 = .ok (.istore_n 3, 1) := by decide +kernel
theorem d_PL_setOf_4 : decode prog_1_method_38_code 4 = .ok (.iload_n 3, 1) := by decide +kernel
theorem d_PL_setOf_5 : decode prog_1_method_38_code 5 = .ok (.iload_n 1, 1) := by decide +kernel
theorem d_PL_setOf_6 : decode prog_1_method_38_code 6 = .ok (.if_icmp .ge 22, 3) := by decide +kernel
theorem d_PL_setOf_9 : decode prog_1_method_38_code 9 = .ok (.iload_n 2, 1) := by decide +kernel
theorem d_PL_setOf_10 : decode prog_1_method_38_code 10 = .ok (.iconst 1, 1) := by decide +kernel
theorem d_PL_setOf_11 : decode prog_1_method_38_code 11 = .ok (.iload_n 0, 1) := by decide +kernel
theorem d_PL_setOf_12 : decode prog_1_method_38_code 12 = .ok (.iconst 4, 1) := by decide +kernel
theorem d_PL_setOf_13 : decode prog_1_method_38_code 13 = .ok (.iload_n 3, 1) := by decide +kernel
theorem d_PL_setOf_14 : decode prog_1_method_38_code 14 = .ok (.imul, 1) := by decide +kernel
theorem d_PL_setOf_15 : decode prog_1_method_38_code 15 = .ok (.ishr, 1) := by decide +kernel
theorem d_PL_setOf_16 : decode prog_1_method_38_code 16 = .ok (.bipush 15, 2) := by decide +kernel
theorem d_PL_setOf_18 : decode prog_1_method_38_code 18 = .ok (.iand, 1) := by decide +kernel
theorem d_PL_setOf_19 : decode prog_1_method_38_code 19 = .ok (.ishl, 1) := by decide +kernel
theorem d_PL_setOf_20 : decode prog_1_method_38_code 20 = .ok (.ior, 1) := by decide +kernel
theorem d_PL_setOf_21 : decode prog_1_method_38_code 21 = .ok (.istore_n 2, 1) := by decide +kernel
theorem d_PL_setOf_22 : decode prog_1_method_38_code 22 = .ok (.iinc 3 1, 3) := by decide +kernel
theorem d_PL_setOf_25 : decode prog_1_method_38_code 25 = .ok (.goto (-21), 3) := by decide +kernel
theorem d_PL_setOf_28 : decode prog_1_method_38_code 28 = .ok (.iload_n 2, 1) := by decide +kernel
theorem d_PL_setOf_29 : decode prog_1_method_38_code 29 = .ok (.ireturn, 1) := by decide +kernel
def B_PL_setOf (_ : Nat × Nat) : PS :=
  (sSq (sI 2 (eV (0 : Int32)))
    (sSq (sCut 3 (sSq (sI 3 (eV (0 : Int32)))
    (sLp 4 (e2 (fun x y : Int32 => decide (x < y)) (eI 3) (eI 1))
    (sI 2 (e2 (fun x y : Int32 => x ||| y) (eI 2) (e2 (fun x y : Int32 => x <<< (y &&& 31)) (eV (1 : Int32)) (e2 (fun x y : Int32 => x &&& y) (e2 (fun x y : Int32 => x >>> (y &&& 31)) (eI 0) (e2 (fun x y : Int32 => x * y) (eV (4 : Int32)) (eI 3))) (eV (15 : Int32))))))
    (sInc 3 (1)))))
    (sRt .int (eI 2))))
def X_PL_setOf : PM := fun vs h Q => (lx vs).length ≤ 4 ∧ B_PL_setOf (h.length + 0, hsz h + 0) (fun _ _ => False) (fun _ _ => False) (fun _ _ => False) Q (lini 4 vs) h
theorem v_PL_setOf (l : Launch) : Ctr l y_PL_setOf prog_1_method_38_code 4 (some .int) rm_PL_setOf X_PL_setOf := by
  refine Ctr_of (own := "PackLanes") (B := B_PL_setOf) (KR := fun _ Q => Q) (by decide) rfl (fun _ _ _ z => z) (fun _ _ _ _ z => ⟨Or.inl ⟨rfl, rfl⟩, z⟩) (Or.inr (Or.inl rfl)) (fun κ hl ho hR hrt hn0 => ?_)
  subst hl
  unfold B_PL_setOf
  exact (S_sq (pc1 := 2) (S_In (pc1 := 1) (E_ic d_PL_setOf_0 rfl) d_PL_setOf_1 rfl)
    (S_sq (pc1 := 28) (S_cut (S_sq (pc1 := 4) (S_In (pc1 := 3) (E_ic d_PL_setOf_2 rfl) d_PL_setOf_3 rfl)
    (S_lp (pT := 9) (pF := 28) (pS := 22) (pG := 25) (J2_lt (pF := 28) (pc1 := 5) (pc2 := 6) (E_iln d_PL_setOf_4 rfl) (E_iln d_PL_setOf_5 rfl) d_PL_setOf_6 rfl)
    (S_In (pc1 := 21) (E_ior (pc1 := 10) (pc2 := 20) (E_iln d_PL_setOf_9 rfl) (E_ishl (pc1 := 11) (pc2 := 19) (E_ic d_PL_setOf_10 rfl) (E_iand (pc1 := 16) (pc2 := 18) (E_ishr (pc1 := 12) (pc2 := 15) (E_iln d_PL_setOf_11 rfl) (E_imul (pc1 := 13) (pc2 := 14) (E_ic d_PL_setOf_12 rfl) (E_iln d_PL_setOf_13 rfl) d_PL_setOf_14) d_PL_setOf_15) (E_bi d_PL_setOf_16 rfl) d_PL_setOf_18) d_PL_setOf_19) d_PL_setOf_20) d_PL_setOf_21 rfl)
    (S_Inc d_PL_setOf_22 rfl) d_PL_setOf_25 rfl)))
    (S_ri hrt (pc1 := 29) (E_iln d_PL_setOf_28 rfl) d_PL_setOf_29)))
theorem d_Int_bitCount_0 : decode prog_13_method_49_code 0 = .ok (.iload_n 0, 1) := by decide +kernel
theorem d_Int_bitCount_1 : decode prog_13_method_49_code 1 = .ok (.iload_n 0, 1) := by decide +kernel
theorem d_Int_bitCount_2 : decode prog_13_method_49_code 2 = .ok (.iconst 1, 1) := by decide +kernel
theorem d_Int_bitCount_3 : decode prog_13_method_49_code 3 = .ok (.iushr, 1) := by decide +kernel
theorem d_Int_bitCount_4 : decode prog_13_method_49_code 4 = .ok (.ldc_w 265, 3) := by decide +kernel
theorem d_Int_bitCount_7 : decode prog_13_method_49_code 7 = .ok (.iand, 1) := by decide +kernel
theorem d_Int_bitCount_8 : decode prog_13_method_49_code 8 = .ok (.isub, 1) := by decide +kernel
theorem d_Int_bitCount_9 : decode prog_13_method_49_code 9 = .ok (.istore_n 0, 1) := by decide +kernel
theorem d_Int_bitCount_10 : decode prog_13_method_49_code 10 = .ok (.iload_n 0, 1) := by decide +kernel
theorem d_Int_bitCount_11 : decode prog_13_method_49_code 11 = .ok (.ldc_w 266, 3) := by decide +kernel
theorem d_Int_bitCount_14 : decode prog_13_method_49_code 14 = .ok (.iand, 1) := by decide +kernel
theorem d_Int_bitCount_15 : decode prog_13_method_49_code 15 = .ok (.iload_n 0, 1) := by decide +kernel
theorem d_Int_bitCount_16 : decode prog_13_method_49_code 16 = .ok (.iconst 2, 1) := by decide +kernel
theorem d_Int_bitCount_17 : decode prog_13_method_49_code 17 = .ok (.iushr, 1) := by decide +kernel
theorem d_Int_bitCount_18 : decode prog_13_method_49_code 18 = .ok (.ldc_w 266, 3) := by decide +kernel
theorem d_Int_bitCount_21 : decode prog_13_method_49_code 21 = .ok (.iand, 1) := by decide +kernel
theorem d_Int_bitCount_22 : decode prog_13_method_49_code 22 = .ok (.iadd, 1) := by decide +kernel
theorem d_Int_bitCount_23 : decode prog_13_method_49_code 23 = .ok (.istore_n 0, 1) := by decide +kernel
theorem d_Int_bitCount_24 : decode prog_13_method_49_code 24 = .ok (.iload_n 0, 1) := by decide +kernel
theorem d_Int_bitCount_25 : decode prog_13_method_49_code 25 = .ok (.iload_n 0, 1) := by decide +kernel
theorem d_Int_bitCount_26 : decode prog_13_method_49_code 26 = .ok (.iconst 4, 1) := by decide +kernel
theorem d_Int_bitCount_27 : decode prog_13_method_49_code 27 = .ok (.iushr, 1) := by decide +kernel
theorem d_Int_bitCount_28 : decode prog_13_method_49_code 28 = .ok (.iadd, 1) := by decide +kernel
theorem d_Int_bitCount_29 : decode prog_13_method_49_code 29 = .ok (.ldc_w 267, 3) := by decide +kernel
theorem d_Int_bitCount_32 : decode prog_13_method_49_code 32 = .ok (.iand, 1) := by decide +kernel
theorem d_Int_bitCount_33 : decode prog_13_method_49_code 33 = .ok (.istore_n 0, 1) := by decide +kernel
theorem d_Int_bitCount_34 : decode prog_13_method_49_code 34 = .ok (.iload_n 0, 1) := by decide +kernel
theorem d_Int_bitCount_35 : decode prog_13_method_49_code 35 = .ok (.iload_n 0, 1) := by decide +kernel
theorem d_Int_bitCount_36 : decode prog_13_method_49_code 36 = .ok (.bipush 8, 2) := by decide +kernel
theorem d_Int_bitCount_38 : decode prog_13_method_49_code 38 = .ok (.iushr, 1) := by decide +kernel
theorem d_Int_bitCount_39 : decode prog_13_method_49_code 39 = .ok (.iadd, 1) := by decide +kernel
theorem d_Int_bitCount_40 : decode prog_13_method_49_code 40 = .ok (.istore_n 0, 1) := by decide +kernel
theorem d_Int_bitCount_41 : decode prog_13_method_49_code 41 = .ok (.iload_n 0, 1) := by decide +kernel
theorem d_Int_bitCount_42 : decode prog_13_method_49_code 42 = .ok (.iload_n 0, 1) := by decide +kernel
theorem d_Int_bitCount_43 : decode prog_13_method_49_code 43 = .ok (.bipush 16, 2) := by decide +kernel
theorem d_Int_bitCount_45 : decode prog_13_method_49_code 45 = .ok (.iushr, 1) := by decide +kernel
theorem d_Int_bitCount_46 : decode prog_13_method_49_code 46 = .ok (.iadd, 1) := by decide +kernel
theorem d_Int_bitCount_47 : decode prog_13_method_49_code 47 = .ok (.istore_n 0, 1) := by decide +kernel
theorem d_Int_bitCount_48 : decode prog_13_method_49_code 48 = .ok (.iload_n 0, 1) := by decide +kernel
theorem d_Int_bitCount_49 : decode prog_13_method_49_code 49 = .ok (.bipush 63, 2) := by decide +kernel
theorem d_Int_bitCount_51 : decode prog_13_method_49_code 51 = .ok (.iand, 1) := by decide +kernel
theorem d_Int_bitCount_52 : decode prog_13_method_49_code 52 = .ok (.ireturn, 1) := by decide +kernel
def B_Int_bitCount (_ : Nat × Nat) : PS :=
  (sSq (sI 0 (e2 (fun x y : Int32 => x - y) (eI 0) (e2 (fun x y : Int32 => x &&& y) (e2 (fun x y : Int32 => (x.toUInt32 >>> (y.toUInt32 &&& Int32.toUInt32 31)).toInt32) (eI 0) (eV (1 : Int32))) (eV (1431655765 : Int32)))))
    (sSq (sI 0 (e2 (fun x y : Int32 => x + y) (e2 (fun x y : Int32 => x &&& y) (eI 0) (eV (858993459 : Int32))) (e2 (fun x y : Int32 => x &&& y) (e2 (fun x y : Int32 => (x.toUInt32 >>> (y.toUInt32 &&& Int32.toUInt32 31)).toInt32) (eI 0) (eV (2 : Int32))) (eV (858993459 : Int32)))))
    (sSq (sI 0 (e2 (fun x y : Int32 => x &&& y) (e2 (fun x y : Int32 => x + y) (eI 0) (e2 (fun x y : Int32 => (x.toUInt32 >>> (y.toUInt32 &&& Int32.toUInt32 31)).toInt32) (eI 0) (eV (4 : Int32)))) (eV (252645135 : Int32))))
    (sSq (sI 0 (e2 (fun x y : Int32 => x + y) (eI 0) (e2 (fun x y : Int32 => (x.toUInt32 >>> (y.toUInt32 &&& Int32.toUInt32 31)).toInt32) (eI 0) (eV (8 : Int32)))))
    (sSq (sI 0 (e2 (fun x y : Int32 => x + y) (eI 0) (e2 (fun x y : Int32 => (x.toUInt32 >>> (y.toUInt32 &&& Int32.toUInt32 31)).toInt32) (eI 0) (eV (16 : Int32)))))
    (sRt .int (e2 (fun x y : Int32 => x &&& y) (eI 0) (eV (63 : Int32)))))))))
def X_Int_bitCount : PM := fun vs h Q => (lx vs).length ≤ 1 ∧ B_Int_bitCount (h.length + 0, hsz h + 0) (fun _ _ => False) (fun _ _ => False) (fun _ _ => False) Q (lini 1 vs) h
theorem v_Int_bitCount (l : Launch) : Ctr l y_Int_bitCount prog_13_method_49_code 1 (some .int) rm_Int_bitCount X_Int_bitCount := by
  refine Ctr_of (own := "java/lang/Integer") (B := B_Int_bitCount) (KR := fun _ Q => Q) (by decide) rfl (fun _ _ _ z => z) (fun _ _ _ _ z => ⟨Or.inl ⟨rfl, rfl⟩, z⟩) (Or.inr (Or.inl rfl)) (fun κ hl ho hR hrt hn0 => ?_)
  subst hl
  unfold B_Int_bitCount
  exact (S_sq (pc1 := 10) (S_In (pc1 := 9) (E_isub (pc1 := 1) (pc2 := 8) (E_iln d_Int_bitCount_0 rfl) (E_iand (pc1 := 4) (pc2 := 7) (E_iushr (pc1 := 2) (pc2 := 3) (E_iln d_Int_bitCount_1 rfl) (E_ic d_Int_bitCount_2 rfl) d_Int_bitCount_3) (E_ldcw ho w_c_Int_265 d_Int_bitCount_4) d_Int_bitCount_7) d_Int_bitCount_8) d_Int_bitCount_9 rfl)
    (S_sq (pc1 := 24) (S_In (pc1 := 23) (E_iadd (pc1 := 15) (pc2 := 22) (E_iand (pc1 := 11) (pc2 := 14) (E_iln d_Int_bitCount_10 rfl) (E_ldcw ho w_c_Int_266 d_Int_bitCount_11) d_Int_bitCount_14) (E_iand (pc1 := 18) (pc2 := 21) (E_iushr (pc1 := 16) (pc2 := 17) (E_iln d_Int_bitCount_15 rfl) (E_ic d_Int_bitCount_16 rfl) d_Int_bitCount_17) (E_ldcw ho w_c_Int_266 d_Int_bitCount_18) d_Int_bitCount_21) d_Int_bitCount_22) d_Int_bitCount_23 rfl)
    (S_sq (pc1 := 34) (S_In (pc1 := 33) (E_iand (pc1 := 29) (pc2 := 32) (E_iadd (pc1 := 25) (pc2 := 28) (E_iln d_Int_bitCount_24 rfl) (E_iushr (pc1 := 26) (pc2 := 27) (E_iln d_Int_bitCount_25 rfl) (E_ic d_Int_bitCount_26 rfl) d_Int_bitCount_27) d_Int_bitCount_28) (E_ldcw ho w_c_Int_267 d_Int_bitCount_29) d_Int_bitCount_32) d_Int_bitCount_33 rfl)
    (S_sq (pc1 := 41) (S_In (pc1 := 40) (E_iadd (pc1 := 35) (pc2 := 39) (E_iln d_Int_bitCount_34 rfl) (E_iushr (pc1 := 36) (pc2 := 38) (E_iln d_Int_bitCount_35 rfl) (E_bi d_Int_bitCount_36 rfl) d_Int_bitCount_38) d_Int_bitCount_39) d_Int_bitCount_40 rfl)
    (S_sq (pc1 := 48) (S_In (pc1 := 47) (E_iadd (pc1 := 42) (pc2 := 46) (E_iln d_Int_bitCount_41 rfl) (E_iushr (pc1 := 43) (pc2 := 45) (E_iln d_Int_bitCount_42 rfl) (E_bi d_Int_bitCount_43 rfl) d_Int_bitCount_45) d_Int_bitCount_46) d_Int_bitCount_47 rfl)
    (S_ri hrt (pc1 := 52) (E_iand (pc1 := 49) (pc2 := 51) (E_iln d_Int_bitCount_48 rfl) (E_bi d_Int_bitCount_49 rfl) d_Int_bitCount_51) d_Int_bitCount_52))))))
theorem d_Links_isPack_0 : decode prog_4_method_6_code 0 = .ok (.iload_n 1, 1) := by decide +kernel
theorem d_Links_isPack_1 : decode prog_4_method_6_code 1 = .ok (.iconst 0, 1) := by decide +kernel
theorem d_Links_isPack_2 : decode prog_4_method_6_code 2 = .ok (.invokestatic 70, 3) := by decide +kernel
theorem d_Links_isPack_5 : decode prog_4_method_6_code 5 = .ok (.istore_n 3, 1) := by decide +kernel
theorem d_Links_isPack_6 : decode prog_4_method_6_code 6 = .ok (.aload_n 0, 1) := by decide +kernel
theorem d_Links_isPack_7 : decode prog_4_method_6_code 7 = .ok (.getfield 25, 3) := by decide +kernel
theorem d_Links_isPack_10 : decode prog_4_method_6_code 10 = .ok (.getfield 57, 3) := by decide +kernel
theorem d_Links_isPack_13 : decode prog_4_method_6_code 13 = .ok (.iload_n 3, 1) := by decide +kernel
theorem d_Links_isPack_14 : decode prog_4_method_6_code 14 = .ok (.iaload, 1) := by decide +kernel
theorem d_Links_isPack_15 : decode prog_4_method_6_code 15 = .ok (.istore 4, 2) := by decide +kernel
theorem d_Links_isPack_17 : decode prog_4_method_6_code 17 = .ok (.iload 4, 2) := by decide +kernel
theorem d_Links_isPack_19 : decode prog_4_method_6_code 19 = .ok (.iconst 1, 1) := by decide +kernel
theorem d_Links_isPack_20 : decode prog_4_method_6_code 20 = .ok (.if_icmp .eq 9, 3) := by decide +kernel
theorem d_Links_isPack_23 : decode prog_4_method_6_code 23 = .ok (.iload 4, 2) := by decide +kernel
theorem d_Links_isPack_25 : decode prog_4_method_6_code 25 = .ok (.iconst 5, 1) := by decide +kernel
theorem d_Links_isPack_26 : decode prog_4_method_6_code 26 = .ok (.if_icmp .ne 5, 3) := by decide +kernel
theorem d_Links_isPack_29 : decode prog_4_method_6_code 29 = .ok (.iconst 0, 1) := by decide +kernel
theorem d_Links_isPack_30 : decode prog_4_method_6_code 30 = .ok (.ireturn, 1) := by decide +kernel
theorem d_Links_isPack_31 : decode prog_4_method_6_code 31 = .ok (.iload_n 1, 1) := by decide +kernel
theorem d_Links_isPack_32 : decode prog_4_method_6_code 32 = .ok (.iload_n 2, 1) := by decide +kernel
theorem d_Links_isPack_33 : decode prog_4_method_6_code 33 = .ok (.invokestatic 73, 3) := by decide +kernel
theorem d_Links_isPack_36 : decode prog_4_method_6_code 36 = .ok (.istore 5, 2) := by decide +kernel
theorem d_Links_isPack_38 : decode prog_4_method_6_code 38 = .ok (.iload 5, 2) := by decide +kernel
theorem d_Links_isPack_40 : decode prog_4_method_6_code 40 = .ok (.invokestatic 76, 3) := by decide +kernel
theorem d_Links_isPack_43 : decode prog_4_method_6_code 43 = .ok (.iload_n 2, 1) := by decide +kernel
theorem d_Links_isPack_44 : decode prog_4_method_6_code 44 = .ok (.if_icmp .eq 5, 3) := by decide +kernel
theorem d_Links_isPack_47 : decode prog_4_method_6_code 47 = .ok (.iconst 0, 1) := by decide +kernel
theorem d_Links_isPack_48 : decode prog_4_method_6_code 48 = .ok (.ireturn, 1) := by decide +kernel
theorem d_Links_isPack_49 : decode prog_4_method_6_code 49 = .ok (.iconst 0, 1) := by decide +kernel
theorem d_Links_isPack_50 : decode prog_4_method_6_code 50 = .ok (.istore 6, 2) := by decide +kernel
theorem d_Links_isPack_52 : decode prog_4_method_6_code 52 = .ok (.iload 6, 2) := by decide +kernel
theorem d_Links_isPack_54 : decode prog_4_method_6_code 54 = .ok (.iload_n 2, 1) := by decide +kernel
theorem d_Links_isPack_55 : decode prog_4_method_6_code 55 = .ok (.if_icmp .ge 108, 3) := by decide +kernel
theorem d_Links_isPack_58 : decode prog_4_method_6_code 58 = .ok (.iload_n 1, 1) := by decide +kernel
theorem d_Links_isPack_59 : decode prog_4_method_6_code 59 = .ok (.iload 6, 2) := by decide +kernel
theorem d_Links_isPack_61 : decode prog_4_method_6_code 61 = .ok (.invokestatic 70, 3) := by decide +kernel
theorem d_Links_isPack_64 : decode prog_4_method_6_code 64 = .ok (.istore 7, 2) := by decide +kernel
theorem d_Links_isPack_66 : decode prog_4_method_6_code 66 = .ok (.aload_n 0, 1) := by decide +kernel
theorem d_Links_isPack_67 : decode prog_4_method_6_code 67 = .ok (.getfield 25, 3) := by decide +kernel
theorem d_Links_isPack_70 : decode prog_4_method_6_code 70 = .ok (.getfield 57, 3) := by decide +kernel
theorem d_Links_isPack_73 : decode prog_4_method_6_code 73 = .ok (.iload 7, 2) := by decide +kernel
theorem d_Links_isPack_75 : decode prog_4_method_6_code 75 = .ok (.iaload, 1) := by decide +kernel
theorem d_Links_isPack_76 : decode prog_4_method_6_code 76 = .ok (.iload 4, 2) := by decide +kernel
theorem d_Links_isPack_78 : decode prog_4_method_6_code 78 = .ok (.if_icmp .ne 16, 3) := by decide +kernel
theorem d_Links_isPack_81 : decode prog_4_method_6_code 81 = .ok (.aload_n 0, 1) := by decide +kernel
theorem d_Links_isPack_82 : decode prog_4_method_6_code 82 = .ok (.getfield 15, 3) := by decide +kernel
theorem d_Links_isPack_85 : decode prog_4_method_6_code 85 = .ok (.iload 7, 2) := by decide +kernel
theorem d_Links_isPack_87 : decode prog_4_method_6_code 87 = .ok (.iaload, 1) := by decide +kernel
theorem d_Links_isPack_88 : decode prog_4_method_6_code 88 = .ok (.iload 5, 2) := by decide +kernel
theorem d_Links_isPack_90 : decode prog_4_method_6_code 90 = .ok (.iand, 1) := by decide +kernel
theorem d_Links_isPack_91 : decode prog_4_method_6_code 91 = .ok (.ifCond .eq 5, 3) := by decide +kernel
theorem d_Links_isPack_94 : decode prog_4_method_6_code 94 = .ok (.iconst 0, 1) := by decide +kernel
theorem d_Links_isPack_95 : decode prog_4_method_6_code 95 = .ok (.ireturn, 1) := by decide +kernel
theorem d_Links_isPack_96 : decode prog_4_method_6_code 96 = .ok (.aload_n 0, 1) := by decide +kernel
theorem d_Links_isPack_97 : decode prog_4_method_6_code 97 = .ok (.getfield 25, 3) := by decide +kernel
theorem d_Links_isPack_100 : decode prog_4_method_6_code 100 = .ok (.iload 7, 2) := by decide +kernel
theorem d_Links_isPack_102 : decode prog_4_method_6_code 102 = .ok (.invokevirtual 53, 3) := by decide +kernel
theorem d_Links_isPack_105 : decode prog_4_method_6_code 105 = .ok (.ifCond .eq 52, 3) := by decide +kernel
theorem d_Links_isPack_108 : decode prog_4_method_6_code 108 = .ok (.aload_n 0, 1) := by decide +kernel
theorem d_Links_isPack_109 : decode prog_4_method_6_code 109 = .ok (.getfield 25, 3) := by decide +kernel
theorem d_Links_isPack_112 : decode prog_4_method_6_code 112 = .ok (.getfield 60, 3) := by decide +kernel
theorem d_Links_isPack_115 : decode prog_4_method_6_code 115 = .ok (.iload 7, 2) := by decide +kernel
theorem d_Links_isPack_117 : decode prog_4_method_6_code 117 = .ok (.iaload, 1) := by decide +kernel
theorem d_Links_isPack_118 : decode prog_4_method_6_code 118 = .ok (.aload_n 0, 1) := by decide +kernel
theorem d_Links_isPack_119 : decode prog_4_method_6_code 119 = .ok (.getfield 25, 3) := by decide +kernel
theorem d_Links_isPack_122 : decode prog_4_method_6_code 122 = .ok (.getfield 60, 3) := by decide +kernel
theorem d_Links_isPack_125 : decode prog_4_method_6_code 125 = .ok (.iload_n 3, 1) := by decide +kernel
theorem d_Links_isPack_126 : decode prog_4_method_6_code 126 = .ok (.iaload, 1) := by decide +kernel
theorem d_Links_isPack_127 : decode prog_4_method_6_code 127 = .ok (.if_icmp .ne 28, 3) := by decide +kernel
theorem d_Links_isPack_130 : decode prog_4_method_6_code 130 = .ok (.aload_n 0, 1) := by decide +kernel
theorem d_Links_isPack_131 : decode prog_4_method_6_code 131 = .ok (.getfield 25, 3) := by decide +kernel
theorem d_Links_isPack_134 : decode prog_4_method_6_code 134 = .ok (.getfield 63, 3) := by decide +kernel
theorem d_Links_isPack_137 : decode prog_4_method_6_code 137 = .ok (.iload 7, 2) := by decide +kernel
theorem d_Links_isPack_139 : decode prog_4_method_6_code 139 = .ok (.iaload, 1) := by decide +kernel
theorem d_Links_isPack_140 : decode prog_4_method_6_code 140 = .ok (.aload_n 0, 1) := by decide +kernel
theorem d_Links_isPack_141 : decode prog_4_method_6_code 141 = .ok (.getfield 25, 3) := by decide +kernel
theorem d_Links_isPack_144 : decode prog_4_method_6_code 144 = .ok (.getfield 63, 3) := by decide +kernel
theorem d_Links_isPack_147 : decode prog_4_method_6_code 147 = .ok (.iload_n 3, 1) := by decide +kernel
theorem d_Links_isPack_148 : decode prog_4_method_6_code 148 = .ok (.iaload, 1) := by decide +kernel
theorem d_Links_isPack_149 : decode prog_4_method_6_code 149 = .ok (.iload 6, 2) := by decide +kernel
theorem d_Links_isPack_151 : decode prog_4_method_6_code 151 = .ok (.iadd, 1) := by decide +kernel
theorem d_Links_isPack_152 : decode prog_4_method_6_code 152 = .ok (.if_icmp .eq 5, 3) := by decide +kernel
theorem d_Links_isPack_155 : decode prog_4_method_6_code 155 = .ok (.iconst 0, 1) := by decide +kernel
theorem d_Links_isPack_156 : decode prog_4_method_6_code 156 = .ok (.ireturn, 1) := by decide +kernel
theorem d_Links_isPack_157 : decode prog_4_method_6_code 157 = .ok (.iinc 6 1, 3) := by decide +kernel
theorem d_Links_isPack_160 : decode prog_4_method_6_code 160 = .ok (.goto (-108), 3) := by decide +kernel
theorem d_Links_isPack_163 : decode prog_4_method_6_code 163 = .ok (.iconst 1, 1) := by decide +kernel
theorem d_Links_isPack_164 : decode prog_4_method_6_code 164 = .ok (.ireturn, 1) := by decide +kernel
def B_Links_isPack (_ : Nat × Nat) : PS :=
  (sSq (sI 3 (eX .int (xS 2 X_PL_inLane (aC .int (eI 1) (aC .int (eV (0 : Int32)) aN)))))
    (sSq (sI 4 (eAI (eFR 1 0 (eFR 2 0 (eR 0))) (eI 3)))
    (sSq (sIf (cO (e2 (fun x y : Int32 => decide (x = y)) (eI 4) (eV (1 : Int32))) (e2 (fun x y : Int32 => decide (x = y)) (eI 4) (eV (5 : Int32)))) (sRz (eV (0 : Int32))) sSk)
    (sSq (sI 5 (eX .int (xS 2 X_PL_setOf (aC .int (eI 1) (aC .int (eI 2) aN)))))
    (sSq (sIf (e2 (fun x y : Int32 => decide (¬ x = y)) (eX .int (xS 1 X_Int_bitCount (aC .int (eI 5) aN))) (eI 2)) (sRz (eV (0 : Int32))) sSk)
    (sSq (sCut 6 (sSq (sI 6 (eV (0 : Int32)))
    (sLp 7 (e2 (fun x y : Int32 => decide (x < y)) (eI 6) (eI 2))
    (sCut 7 (sSq (sI 7 (eX .int (xS 2 X_PL_inLane (aC .int (eI 1) (aC .int (eI 6) aN)))))
    (sSq (sIf (cO (e2 (fun x y : Int32 => decide (¬ x = y)) (eAI (eFR 1 0 (eFR 2 0 (eR 0))) (eI 7)) (eI 4)) (e1 (fun x : Int32 => decide (¬ x = 0)) (e2 (fun x y : Int32 => x &&& y) (eAI (eFR 2 2 (eR 0)) (eI 7)) (eI 5)))) (sRz (eV (0 : Int32))) sSk)
    (sIf (cA (e1 (fun x : Int32 => decide (¬ x = 0)) (eX .int (xV 1 1 X_Code_usesMemory (eFR 2 0 (eR 0)) (aC .int (eI 7) aN)))) (cO (e2 (fun x y : Int32 => decide (¬ x = y)) (eAI (eFR 1 1 (eFR 2 0 (eR 0))) (eI 7)) (eAI (eFR 1 1 (eFR 2 0 (eR 0))) (eI 3))) (e2 (fun x y : Int32 => decide (¬ x = y)) (eAI (eFR 1 2 (eFR 2 0 (eR 0))) (eI 7)) (e2 (fun x y : Int32 => x + y) (eAI (eFR 1 2 (eFR 2 0 (eR 0))) (eI 3)) (eI 6))))) (sRz (eV (0 : Int32))) sSk))))
    (sInc 6 (1)))))
    (sRz (eV (1 : Int32)))))))))
def X_Links_isPack : PM := fun vs h Q => (lx vs).length ≤ 8 ∧ B_Links_isPack (h.length + 0, hsz h + 0) (fun _ _ => False) (fun _ _ => False) (fun _ _ => False) Q (lini 8 vs) h
theorem v_Links_isPack (l : Launch) : Ctr l y_Links_isPack prog_4_method_6_code 8 (some .boolean) rm_Links_isPack X_Links_isPack := by
  refine Ctr_of (own := "PackLanes$Links") (B := B_Links_isPack) (KR := fun _ Q => Q) (by decide) rfl (fun _ _ _ z => z) (fun _ _ _ _ z => ⟨Or.inl ⟨rfl, rfl⟩, z⟩) (Or.inr (Or.inr (Or.inl rfl))) (fun κ hl ho hR hrt hn0 => ?_)
  subst hl
  unfold B_Links_isPack
  exact (S_sq (pc1 := 6) (S_In (pc1 := 5) (E_x (O_SN k_Links_70 (v_PL_inLane _) ⟨rfl, rfl⟩ ho (rk hR rfl) (by decide) (pc2 := 2) (A_c catI (pc1 := 1) (E_iln d_Links_isPack_0 rfl) (A_c catI (pc1 := 2) (E_ic d_Links_isPack_1 rfl) A_n)) d_Links_isPack_2)) d_Links_isPack_5 rfl)
    (S_sq (pc1 := 17) (S_I (pc1 := 15) (E_aI (pc1 := 13) (pc2 := 14) (E_fR f_Links_57 ho (pc1 := 10) (E_fR f_Links_25 ho (pc1 := 7) (E_aln d_Links_isPack_6 rfl) d_Links_isPack_7) d_Links_isPack_10) (E_iln d_Links_isPack_13 rfl) d_Links_isPack_14) d_Links_isPack_15)
    (S_sq (pc1 := 31) (S_if1 (pT := 29) (pF := 31) (C_or (pc1 := 23) (T2_eq (pT := 29) (pc1 := 19) (pc2 := 20) (E_il d_Links_isPack_17) (E_ic d_Links_isPack_19 rfl) d_Links_isPack_20 rfl) (J2_eq (pF := 31) (pc1 := 25) (pc2 := 26) (E_il d_Links_isPack_23) (E_ic d_Links_isPack_25 rfl) d_Links_isPack_26 rfl)) (S_rz hrt (pc1 := 30) (E_ic d_Links_isPack_29 rfl) d_Links_isPack_30))
    (S_sq (pc1 := 38) (S_I (pc1 := 36) (E_x (O_SN k_Links_73 (v_PL_setOf _) ⟨rfl, rfl⟩ ho (rk hR rfl) (by decide) (pc2 := 33) (A_c catI (pc1 := 32) (E_iln d_Links_isPack_31 rfl) (A_c catI (pc1 := 33) (E_iln d_Links_isPack_32 rfl) A_n)) d_Links_isPack_33)) d_Links_isPack_36)
    (S_sq (pc1 := 49) (S_if1 (pT := 47) (pF := 49) (J2_ne (pF := 49) (pc1 := 43) (pc2 := 44) (E_x (O_S k_Links_76 (v_Int_bitCount _) ⟨rfl, rfl⟩ ho (rk hR rfl) (by decide) (pc2 := 40) (A_c catI (pc1 := 40) (E_il d_Links_isPack_38) A_n) d_Links_isPack_40)) (E_iln d_Links_isPack_43 rfl) d_Links_isPack_44 rfl) (S_rz hrt (pc1 := 48) (E_ic d_Links_isPack_47 rfl) d_Links_isPack_48))
    (S_sq (pc1 := 163) (S_cut (S_sq (pc1 := 52) (S_I (pc1 := 50) (E_ic d_Links_isPack_49 rfl) d_Links_isPack_50)
    (S_lp (pT := 58) (pF := 163) (pS := 157) (pG := 160) (J2_lt (pF := 163) (pc1 := 54) (pc2 := 55) (E_il d_Links_isPack_52) (E_iln d_Links_isPack_54 rfl) d_Links_isPack_55 rfl)
    (S_cut (S_sq (pc1 := 66) (S_I (pc1 := 64) (E_x (O_SN k_Links_70 (v_PL_inLane _) ⟨rfl, rfl⟩ ho (rk hR rfl) (by decide) (pc2 := 61) (A_c catI (pc1 := 59) (E_iln d_Links_isPack_58 rfl) (A_c catI (pc1 := 61) (E_il d_Links_isPack_59) A_n)) d_Links_isPack_61)) d_Links_isPack_64)
    (S_sq (pc1 := 96) (S_if1 (pT := 94) (pF := 96) (C_or (pc1 := 81) (T2_ne (pT := 94) (pc1 := 76) (pc2 := 78) (E_aI (pc1 := 73) (pc2 := 75) (E_fR f_Links_57 ho (pc1 := 70) (E_fR f_Links_25 ho (pc1 := 67) (E_aln d_Links_isPack_66 rfl) d_Links_isPack_67) d_Links_isPack_70) (E_il d_Links_isPack_73) d_Links_isPack_75) (E_il d_Links_isPack_76) d_Links_isPack_78 rfl) (J1_ne (pF := 96) (pc2 := 91) (E_iand (pc1 := 88) (pc2 := 90) (E_aI (pc1 := 85) (pc2 := 87) (E_fR f_Links_15 ho (pc1 := 82) (E_aln d_Links_isPack_81 rfl) d_Links_isPack_82) (E_il d_Links_isPack_85) d_Links_isPack_87) (E_il d_Links_isPack_88) d_Links_isPack_90) d_Links_isPack_91 rfl)) (S_rz hrt (pc1 := 95) (E_ic d_Links_isPack_94 rfl) d_Links_isPack_95))
    (S_if1 (pT := 155) (pF := 157) (C_and (pc1 := 108) (J1_ne (pF := 157) (pc2 := 105) (E_x (O_V k_Links_53 (v_Code_usesMemory _) ⟨rfl, rfl⟩ ho (rk hR rfl) (by decide) (T := KT1) (N := 7) rfl (by decide) (pc1 := 100) (pc2 := 102) (E_fR f_Links_25 ho (pc1 := 97) (E_aln d_Links_isPack_96 rfl) d_Links_isPack_97) (A_c catI (pc1 := 102) (E_il d_Links_isPack_100) A_n) d_Links_isPack_102)) d_Links_isPack_105 rfl) (C_or (pc1 := 130) (T2_ne (pT := 155) (pc1 := 118) (pc2 := 127) (E_aI (pc1 := 115) (pc2 := 117) (E_fR f_Links_60 ho (pc1 := 112) (E_fR f_Links_25 ho (pc1 := 109) (E_aln d_Links_isPack_108 rfl) d_Links_isPack_109) d_Links_isPack_112) (E_il d_Links_isPack_115) d_Links_isPack_117) (E_aI (pc1 := 125) (pc2 := 126) (E_fR f_Links_60 ho (pc1 := 122) (E_fR f_Links_25 ho (pc1 := 119) (E_aln d_Links_isPack_118 rfl) d_Links_isPack_119) d_Links_isPack_122) (E_iln d_Links_isPack_125 rfl) d_Links_isPack_126) d_Links_isPack_127 rfl) (J2_ne (pF := 157) (pc1 := 140) (pc2 := 152) (E_aI (pc1 := 137) (pc2 := 139) (E_fR f_Links_63 ho (pc1 := 134) (E_fR f_Links_25 ho (pc1 := 131) (E_aln d_Links_isPack_130 rfl) d_Links_isPack_131) d_Links_isPack_134) (E_il d_Links_isPack_137) d_Links_isPack_139) (E_iadd (pc1 := 149) (pc2 := 151) (E_aI (pc1 := 147) (pc2 := 148) (E_fR f_Links_63 ho (pc1 := 144) (E_fR f_Links_25 ho (pc1 := 141) (E_aln d_Links_isPack_140 rfl) d_Links_isPack_141) d_Links_isPack_144) (E_iln d_Links_isPack_147 rfl) d_Links_isPack_148) (E_il d_Links_isPack_149) d_Links_isPack_151) d_Links_isPack_152 rfl))) (S_rz hrt (pc1 := 156) (E_ic d_Links_isPack_155 rfl) d_Links_isPack_156)))))
    (S_Inc d_Links_isPack_157 rfl) d_Links_isPack_160 rfl)))
    (S_rz hrt (pc1 := 164) (E_ic d_Links_isPack_163 rfl) d_Links_isPack_164)))))))
theorem d_Pack_rootAt_0 : decode prog_6_method_4_code 0 = .ok (.iconst 0, 1) := by decide +kernel
theorem d_Pack_rootAt_1 : decode prog_6_method_4_code 1 = .ok (.istore_n 3, 1) := by decide +kernel
theorem d_Pack_rootAt_2 : decode prog_6_method_4_code 2 = .ok (.iconst 0, 1) := by decide +kernel
theorem d_Pack_rootAt_3 : decode prog_6_method_4_code 3 = .ok (.istore 4, 2) := by decide +kernel
theorem d_Pack_rootAt_5 : decode prog_6_method_4_code 5 = .ok (.iload 4, 2) := by decide +kernel
theorem d_Pack_rootAt_7 : decode prog_6_method_4_code 7 = .ok (.aload_n 0, 1) := by decide +kernel
theorem d_Pack_rootAt_8 : decode prog_6_method_4_code 8 = .ok (.getfield 9, 3) := by decide +kernel
theorem d_Pack_rootAt_11 : decode prog_6_method_4_code 11 = .ok (.if_icmp .ge 37, 3) := by decide +kernel
theorem d_Pack_rootAt_14 : decode prog_6_method_4_code 14 = .ok (.aload_n 0, 1) := by decide +kernel
theorem d_Pack_rootAt_15 : decode prog_6_method_4_code 15 = .ok (.iload_n 1, 1) := by decide +kernel
theorem d_Pack_rootAt_16 : decode prog_6_method_4_code 16 = .ok (.iload_n 2, 1) := by decide +kernel
theorem d_Pack_rootAt_17 : decode prog_6_method_4_code 17 = .ok (.iload 4, 2) := by decide +kernel
theorem d_Pack_rootAt_19 : decode prog_6_method_4_code 19 = .ok (.iadd, 1) := by decide +kernel
theorem d_Pack_rootAt_20 : decode prog_6_method_4_code 20 = .ok (.invokevirtual 88, 3) := by decide +kernel
theorem d_Pack_rootAt_23 : decode prog_6_method_4_code 23 = .ok (.istore 5, 2) := by decide +kernel
theorem d_Pack_rootAt_25 : decode prog_6_method_4_code 25 = .ok (.iload 5, 2) := by decide +kernel
theorem d_Pack_rootAt_27 : decode prog_6_method_4_code 27 = .ok (.ifCond .ge 6, 3) := by decide +kernel
theorem d_Pack_rootAt_30 : decode prog_6_method_4_code 30 = .ok (.bipush (-9), 2) := by decide +kernel
theorem d_Pack_rootAt_32 : decode prog_6_method_4_code 32 = .ok (.ireturn, 1) := by decide +kernel
theorem d_Pack_rootAt_33 : decode prog_6_method_4_code 33 = .ok (.iload_n 3, 1) := by decide +kernel
theorem d_Pack_rootAt_34 : decode prog_6_method_4_code 34 = .ok (.iload 4, 2) := by decide +kernel
theorem d_Pack_rootAt_36 : decode prog_6_method_4_code 36 = .ok (.iload 5, 2) := by decide +kernel
theorem d_Pack_rootAt_38 : decode prog_6_method_4_code 38 = .ok (.invokestatic 91, 3) := by decide +kernel
theorem d_Pack_rootAt_41 : decode prog_6_method_4_code 41 = .ok (.istore_n 3, 1) := by decide +kernel
theorem d_Pack_rootAt_42 : decode prog_6_method_4_code 42 = .ok (.iinc 4 1, 3) := by decide +kernel
theorem d_Pack_rootAt_45 : decode prog_6_method_4_code 45 = .ok (.goto (-40), 3) := by decide +kernel
theorem d_Pack_rootAt_48 : decode prog_6_method_4_code 48 = .ok (.aload_n 0, 1) := by decide +kernel
theorem d_Pack_rootAt_49 : decode prog_6_method_4_code 49 = .ok (.getfield 55, 3) := by decide +kernel
theorem d_Pack_rootAt_52 : decode prog_6_method_4_code 52 = .ok (.iload_n 3, 1) := by decide +kernel
theorem d_Pack_rootAt_53 : decode prog_6_method_4_code 53 = .ok (.aload_n 0, 1) := by decide +kernel
theorem d_Pack_rootAt_54 : decode prog_6_method_4_code 54 = .ok (.getfield 9, 3) := by decide +kernel
theorem d_Pack_rootAt_57 : decode prog_6_method_4_code 57 = .ok (.invokevirtual 95, 3) := by decide +kernel
theorem d_Pack_rootAt_60 : decode prog_6_method_4_code 60 = .ok (.ifCond .eq 7, 3) := by decide +kernel
theorem d_Pack_rootAt_63 : decode prog_6_method_4_code 63 = .ok (.iload_n 3, 1) := by decide +kernel
theorem d_Pack_rootAt_64 : decode prog_6_method_4_code 64 = .ok (.goto 5, 3) := by decide +kernel
theorem d_Pack_rootAt_67 : decode prog_6_method_4_code 67 = .ok (.bipush (-9), 2) := by decide +kernel
theorem d_Pack_rootAt_69 : decode prog_6_method_4_code 69 = .ok (.ireturn, 1) := by decide +kernel
def B_Pack_rootAt (_ : Nat × Nat) : PS :=
  (sSq (sI 3 (eV (0 : Int32)))
    (sSq (sCut 4 (sSq (sI 4 (eV (0 : Int32)))
    (sLp 5 (e2 (fun x y : Int32 => decide (x < y)) (eI 4) (eFI 4 3 (eR 0)))
    (sCut 5 (sSq (sI 5 (eX .int (xV 4 2 X_Pack_leastStore (eR 0) (aC .int (eI 1) (aC .int (e2 (fun x y : Int32 => x + y) (eI 2) (eI 4)) aN)))))
    (sSq (sIf (e1 (fun x : Int32 => decide (x < 0)) (eI 5)) (sRt .int (eV (-9 : Int32))) sSk)
    (sI 3 (eX .int (xS 3 X_PL_withLane (aC .int (eI 3) (aC .int (eI 4) (aC .int (eI 5) aN)))))))))
    (sInc 4 (1)))))
    (sRt .int (eIf (e1 (fun x : Int32 => decide (¬ x = 0)) (eX .int (xV 2 2 X_Links_isPack (eFR 4 1 (eR 0)) (aC .int (eI 3) (aC .int (eFI 4 3 (eR 0)) aN))))) (eI 3) (eV (-9 : Int32))))))
def X_Pack_rootAt : PM := fun vs h Q => (lx vs).length ≤ 6 ∧ B_Pack_rootAt (h.length + 0, hsz h + 0) (fun _ _ => False) (fun _ _ => False) (fun _ _ => False) Q (lini 6 vs) h
theorem v_Pack_rootAt (l : Launch) : Ctr l y_Pack_rootAt prog_6_method_4_code 6 (some .int) rm_Pack_rootAt X_Pack_rootAt := by
  refine Ctr_of (own := "PackLanes$Packer") (B := B_Pack_rootAt) (KR := fun _ Q => Q) (by decide) rfl (fun _ _ _ z => z) (fun _ _ _ _ z => ⟨Or.inl ⟨rfl, rfl⟩, z⟩) (Or.inr (Or.inl rfl)) (fun κ hl ho hR hrt hn0 => ?_)
  subst hl
  unfold B_Pack_rootAt
  exact (S_sq (pc1 := 2) (S_In (pc1 := 1) (E_ic d_Pack_rootAt_0 rfl) d_Pack_rootAt_1 rfl)
    (S_sq (pc1 := 48) (S_cut (S_sq (pc1 := 5) (S_I (pc1 := 3) (E_ic d_Pack_rootAt_2 rfl) d_Pack_rootAt_3)
    (S_lp (pT := 14) (pF := 48) (pS := 42) (pG := 45) (J2_lt (pF := 48) (pc1 := 7) (pc2 := 11) (E_il d_Pack_rootAt_5) (E_fI f_Pack_9 ho (pc1 := 8) (E_aln d_Pack_rootAt_7 rfl) d_Pack_rootAt_8) d_Pack_rootAt_11 rfl)
    (S_cut (S_sq (pc1 := 25) (S_I (pc1 := 23) (E_x (O_V k_Pack_88 (v_Pack_leastStore _) ⟨rfl, rfl⟩ ho (rk hR rfl) (by decide) (T := KT4) (N := 14) rfl (by decide) (pc1 := 15) (pc2 := 20) (E_aln d_Pack_rootAt_14 rfl) (A_c catI (pc1 := 16) (E_iln d_Pack_rootAt_15 rfl) (A_c catI (pc1 := 20) (E_iadd (pc1 := 17) (pc2 := 19) (E_iln d_Pack_rootAt_16 rfl) (E_il d_Pack_rootAt_17) d_Pack_rootAt_19) A_n)) d_Pack_rootAt_20)) d_Pack_rootAt_23)
    (S_sq (pc1 := 33) (S_if1 (pT := 30) (pF := 33) (J1_lt (pF := 33) (pc2 := 27) (E_il d_Pack_rootAt_25) d_Pack_rootAt_27 rfl) (S_ri hrt (pc1 := 32) (E_bi d_Pack_rootAt_30 rfl) d_Pack_rootAt_32))
    (S_In (pc1 := 41) (E_x (O_SN k_Pack_91 (v_PL_withLane _) ⟨rfl, rfl⟩ ho (rk hR rfl) (by decide) (pc2 := 38) (A_c catI (pc1 := 34) (E_iln d_Pack_rootAt_33 rfl) (A_c catI (pc1 := 36) (E_il d_Pack_rootAt_34) (A_c catI (pc1 := 38) (E_il d_Pack_rootAt_36) A_n))) d_Pack_rootAt_38)) d_Pack_rootAt_41 rfl))))
    (S_Inc d_Pack_rootAt_42 rfl) d_Pack_rootAt_45 rfl)))
    (S_ri hrt (pc1 := 69) (E_if (pT := 63) (pF := 67) (pc1 := 64) (pc2 := 69) (J1_ne (pF := 67) (pc2 := 60) (E_x (O_V k_Pack_95 (v_Links_isPack _) ⟨rfl, rfl⟩ ho (rk hR rfl) (by decide) (T := KT2) (N := 5) rfl (by decide) (pc1 := 52) (pc2 := 57) (E_fR f_Pack_55 ho (pc1 := 49) (E_aln d_Pack_rootAt_48 rfl) d_Pack_rootAt_49) (A_c catI (pc1 := 53) (E_iln d_Pack_rootAt_52 rfl) (A_c catI (pc1 := 57) (E_fI f_Pack_9 ho (pc1 := 54) (E_aln d_Pack_rootAt_53 rfl) d_Pack_rootAt_54) A_n)) d_Pack_rootAt_57)) d_Pack_rootAt_60 rfl) (E_iln d_Pack_rootAt_63 rfl) d_Pack_rootAt_64 rfl (E_bi d_Pack_rootAt_67 rfl)) d_Pack_rootAt_69)))
theorem d_Pack_joinTree_0 : decode prog_6_method_8_code 0 = .ok (.iconst 0, 1) := by decide +kernel
theorem d_Pack_joinTree_1 : decode prog_6_method_8_code 1 = .ok (.istore_n 2, 1) := by decide +kernel
theorem d_Pack_joinTree_2 : decode prog_6_method_8_code 2 = .ok (.iload_n 2, 1) := by decide +kernel
theorem d_Pack_joinTree_3 : decode prog_6_method_8_code 3 = .ok (.aload_n 0, 1) := by decide +kernel
theorem d_Pack_joinTree_4 : decode prog_6_method_8_code 4 = .ok (.getfield 64, 3) := by decide +kernel
theorem d_Pack_joinTree_7 : decode prog_6_method_8_code 7 = .ok (.getfield 130, 3) := by decide +kernel
theorem d_Pack_joinTree_10 : decode prog_6_method_8_code 10 = .ok (.if_icmp .ge 79, 3) := by decide +kernel
theorem d_Pack_joinTree_13 : decode prog_6_method_8_code 13 = .ok (.aload_n 0, 1) := by decide +kernel
theorem d_Pack_joinTree_14 : decode prog_6_method_8_code 14 = .ok (.getfield 64, 3) := by decide +kernel
theorem d_Pack_joinTree_17 : decode prog_6_method_8_code 17 = .ok (.getfield 133, 3) := by decide +kernel
theorem d_Pack_joinTree_20 : decode prog_6_method_8_code 20 = .ok (.iload_n 2, 1) := by decide +kernel
theorem d_Pack_joinTree_21 : decode prog_6_method_8_code 21 = .ok (.iaload, 1) := by decide +kernel
theorem d_Pack_joinTree_22 : decode prog_6_method_8_code 22 = .ok (.aload_n 0, 1) := by decide +kernel
theorem d_Pack_joinTree_23 : decode prog_6_method_8_code 23 = .ok (.getfield 9, 3) := by decide +kernel
theorem d_Pack_joinTree_26 : decode prog_6_method_8_code 26 = .ok (.invokestatic 139, 3) := by decide +kernel
theorem d_Pack_joinTree_29 : decode prog_6_method_8_code 29 = .ok (.istore_n 3, 1) := by decide +kernel
theorem d_Pack_joinTree_30 : decode prog_6_method_8_code 30 = .ok (.iconst 0, 1) := by decide +kernel
theorem d_Pack_joinTree_31 : decode prog_6_method_8_code 31 = .ok (.istore 4, 2) := by decide +kernel
theorem d_Pack_joinTree_33 : decode prog_6_method_8_code 33 = .ok (.iload 4, 2) := by decide +kernel
theorem d_Pack_joinTree_35 : decode prog_6_method_8_code 35 = .ok (.aload_n 0, 1) := by decide +kernel
theorem d_Pack_joinTree_36 : decode prog_6_method_8_code 36 = .ok (.getfield 9, 3) := by decide +kernel
theorem d_Pack_joinTree_39 : decode prog_6_method_8_code 39 = .ok (.if_icmp .ge 44, 3) := by decide +kernel
theorem d_Pack_joinTree_42 : decode prog_6_method_8_code 42 = .ok (.aload_n 0, 1) := by decide +kernel
theorem d_Pack_joinTree_43 : decode prog_6_method_8_code 43 = .ok (.getfield 64, 3) := by decide +kernel
theorem d_Pack_joinTree_46 : decode prog_6_method_8_code 46 = .ok (.getfield 133, 3) := by decide +kernel
theorem d_Pack_joinTree_49 : decode prog_6_method_8_code 49 = .ok (.iload_n 2, 1) := by decide +kernel
theorem d_Pack_joinTree_50 : decode prog_6_method_8_code 50 = .ok (.iaload, 1) := by decide +kernel
theorem d_Pack_joinTree_51 : decode prog_6_method_8_code 51 = .ok (.iload 4, 2) := by decide +kernel
theorem d_Pack_joinTree_53 : decode prog_6_method_8_code 53 = .ok (.invokestatic 135, 3) := by decide +kernel
theorem d_Pack_joinTree_56 : decode prog_6_method_8_code 56 = .ok (.istore 5, 2) := by decide +kernel
theorem d_Pack_joinTree_58 : decode prog_6_method_8_code 58 = .ok (.aload_n 0, 1) := by decide +kernel
theorem d_Pack_joinTree_59 : decode prog_6_method_8_code 59 = .ok (.getfield 15, 3) := by decide +kernel
theorem d_Pack_joinTree_62 : decode prog_6_method_8_code 62 = .ok (.iload 5, 2) := by decide +kernel
theorem d_Pack_joinTree_64 : decode prog_6_method_8_code 64 = .ok (.iload_n 1, 1) := by decide +kernel
theorem d_Pack_joinTree_65 : decode prog_6_method_8_code 65 = .ok (.ifCond .eq 7, 3) := by decide +kernel
theorem d_Pack_joinTree_68 : decode prog_6_method_8_code 68 = .ok (.iload_n 3, 1) := by decide +kernel
theorem d_Pack_joinTree_69 : decode prog_6_method_8_code 69 = .ok (.goto 7, 3) := by decide +kernel
theorem d_Pack_joinTree_72 : decode prog_6_method_8_code 72 = .ok (.iconst 1, 1) := by decide +kernel
theorem d_Pack_joinTree_73 : decode prog_6_method_8_code 73 = .ok (.iload 5, 2) := by decide +kernel
theorem d_Pack_joinTree_75 : decode prog_6_method_8_code 75 = .ok (.ishl, 1) := by decide +kernel
theorem d_Pack_joinTree_76 : decode prog_6_method_8_code 76 = .ok (.iastore, 1) := by decide +kernel
theorem d_Pack_joinTree_77 : decode prog_6_method_8_code 77 = .ok (.iinc 4 1, 3) := by decide +kernel
theorem d_Pack_joinTree_80 : decode prog_6_method_8_code 80 = .ok (.goto (-47), 3) := by decide +kernel
theorem d_Pack_joinTree_83 : decode prog_6_method_8_code 83 = .ok (.iinc 2 1, 3) := by decide +kernel
theorem d_Pack_joinTree_86 : decode prog_6_method_8_code 86 = .ok (.goto (-84), 3) := by decide +kernel
theorem d_Pack_joinTree_89 : decode prog_6_method_8_code 89 = .ok (.return_, 1) := by decide +kernel
def B_Pack_joinTree (_ : Nat × Nat) : PS :=
  (sSq (sCut 2 (sSq (sI 2 (eV (0 : Int32)))
    (sLp 3 (e2 (fun x y : Int32 => decide (x < y)) (eI 2) (eFI 8 3 (eFR 4 2 (eR 0))))
    (sCut 3 (sSq (sI 3 (eX .int (xS 2 X_PL_setOf (aC .int (eAI (eFR 8 2 (eFR 4 2 (eR 0))) (eI 2)) (aC .int (eFI 4 3 (eR 0)) aN)))))
    (sCut 4 (sSq (sI 4 (eV (0 : Int32)))
    (sLp 5 (e2 (fun x y : Int32 => decide (x < y)) (eI 4) (eFI 4 3 (eR 0)))
    (sCut 5 (sSq (sI 5 (eX .int (xS 2 X_PL_inLane (aC .int (eAI (eFR 8 2 (eFR 4 2 (eR 0))) (eI 2)) (aC .int (eI 4) aN)))))
    (sAI (eFR 4 4 (eR 0)) (eI 5) (eIf (e1 (fun x : Int32 => decide (¬ x = 0)) (eI 1)) (eI 3) (e2 (fun x y : Int32 => x <<< (y &&& 31)) (eV (1 : Int32)) (eI 5))))))
    (sInc 4 (1)))))))
    (sInc 2 (1)))))
    sRv)
def X_Pack_joinTree : PM := fun vs h Q => (lx vs).length ≤ 6 ∧ B_Pack_joinTree (h.length + 0, hsz h + 0) (fun _ _ => False) (fun _ _ => False) (fun _ _ => False) Q (lini 6 vs) h
theorem v_Pack_joinTree (l : Launch) : Ctr l y_Pack_joinTree prog_6_method_8_code 6 none rm_Pack_joinTree X_Pack_joinTree := by
  refine Ctr_of (own := "PackLanes$Packer") (B := B_Pack_joinTree) (KR := fun _ Q => Q) (by decide) rfl (fun _ _ _ z => z) (fun _ _ _ _ z => ⟨Or.inl ⟨rfl, rfl⟩, z⟩) (Or.inl rfl) (fun κ hl ho hR hrt hn0 => ?_)
  subst hl
  unfold B_Pack_joinTree
  exact (S_sq (pc1 := 89) (S_cut (S_sq (pc1 := 2) (S_In (pc1 := 1) (E_ic d_Pack_joinTree_0 rfl) d_Pack_joinTree_1 rfl)
    (S_lp (pT := 13) (pF := 89) (pS := 83) (pG := 86) (J2_lt (pF := 89) (pc1 := 3) (pc2 := 10) (E_iln d_Pack_joinTree_2 rfl) (E_fI f_Pack_130 ho (pc1 := 7) (E_fR f_Pack_64 ho (pc1 := 4) (E_aln d_Pack_joinTree_3 rfl) d_Pack_joinTree_4) d_Pack_joinTree_7) d_Pack_joinTree_10 rfl)
    (S_cut (S_sq (pc1 := 30) (S_In (pc1 := 29) (E_x (O_SN k_Pack_139 (v_PL_setOf _) ⟨rfl, rfl⟩ ho (rk hR rfl) (by decide) (pc2 := 26) (A_c catI (pc1 := 22) (E_aI (pc1 := 20) (pc2 := 21) (E_fR f_Pack_133 ho (pc1 := 17) (E_fR f_Pack_64 ho (pc1 := 14) (E_aln d_Pack_joinTree_13 rfl) d_Pack_joinTree_14) d_Pack_joinTree_17) (E_iln d_Pack_joinTree_20 rfl) d_Pack_joinTree_21) (A_c catI (pc1 := 26) (E_fI f_Pack_9 ho (pc1 := 23) (E_aln d_Pack_joinTree_22 rfl) d_Pack_joinTree_23) A_n)) d_Pack_joinTree_26)) d_Pack_joinTree_29 rfl)
    (S_cut (S_sq (pc1 := 33) (S_I (pc1 := 31) (E_ic d_Pack_joinTree_30 rfl) d_Pack_joinTree_31)
    (S_lp (pT := 42) (pF := 83) (pS := 77) (pG := 80) (J2_lt (pF := 83) (pc1 := 35) (pc2 := 39) (E_il d_Pack_joinTree_33) (E_fI f_Pack_9 ho (pc1 := 36) (E_aln d_Pack_joinTree_35 rfl) d_Pack_joinTree_36) d_Pack_joinTree_39 rfl)
    (S_cut (S_sq (pc1 := 58) (S_I (pc1 := 56) (E_x (O_SN k_Pack_135 (v_PL_inLane _) ⟨rfl, rfl⟩ ho (rk hR rfl) (by decide) (pc2 := 53) (A_c catI (pc1 := 51) (E_aI (pc1 := 49) (pc2 := 50) (E_fR f_Pack_133 ho (pc1 := 46) (E_fR f_Pack_64 ho (pc1 := 43) (E_aln d_Pack_joinTree_42 rfl) d_Pack_joinTree_43) d_Pack_joinTree_46) (E_iln d_Pack_joinTree_49 rfl) d_Pack_joinTree_50) (A_c catI (pc1 := 53) (E_il d_Pack_joinTree_51) A_n)) d_Pack_joinTree_53)) d_Pack_joinTree_56)
    (S_AI (pc1 := 62) (pc2 := 64) (pc3 := 76) (E_fR f_Pack_15 ho (pc1 := 59) (E_aln d_Pack_joinTree_58 rfl) d_Pack_joinTree_59) (E_il d_Pack_joinTree_62) (E_if (pT := 68) (pF := 72) (pc1 := 69) (pc2 := 76) (J1_ne (pF := 72) (pc2 := 65) (E_iln d_Pack_joinTree_64 rfl) d_Pack_joinTree_65 rfl) (E_iln d_Pack_joinTree_68 rfl) d_Pack_joinTree_69 rfl (E_ishl (pc1 := 73) (pc2 := 75) (E_ic d_Pack_joinTree_72 rfl) (E_il d_Pack_joinTree_73) d_Pack_joinTree_75)) d_Pack_joinTree_76)))
    (S_Inc d_Pack_joinTree_77 rfl) d_Pack_joinTree_80 rfl)))))
    (S_Inc d_Pack_joinTree_83 rfl) d_Pack_joinTree_86 rfl)))
    (S_rv hrt d_Pack_joinTree_89))
