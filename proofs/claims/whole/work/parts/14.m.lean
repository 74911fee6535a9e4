/-! methods: the decoded rows, the meaning (B, X), the contract (v) -/
theorem d_R_copy_0 : decode prog_12_method_4_code 0 = .ok (.iconst 0, 1) := by decide +kernel
theorem d_R_copy_1 : decode prog_12_method_4_code 1 = .ok (.istore_n 2, 1) := by decide +kernel
theorem d_R_copy_2 : decode prog_12_method_4_code 2 = .ok (.iload_n 2, 1) := by decide +kernel
theorem d_R_copy_3 : decode prog_12_method_4_code 3 = .ok (.bipush 19, 2) := by decide +kernel
theorem d_R_copy_5 : decode prog_12_method_4_code 5 = .ok (.if_icmp .ge 15, 3) := by decide +kernel
theorem d_R_copy_8 : decode prog_12_method_4_code 8 = .ok (.aload_n 1, 1) := by decide +kernel
theorem d_R_copy_9 : decode prog_12_method_4_code 9 = .ok (.iload_n 2, 1) := by decide +kernel
theorem d_R_copy_10 : decode prog_12_method_4_code 10 = .ok (.aload_n 0, 1) := by decide +kernel
theorem d_R_copy_11 : decode prog_12_method_4_code 11 = .ok (.iload_n 2, 1) := by decide +kernel
theorem d_R_copy_12 : decode prog_12_method_4_code 12 = .ok (.iaload, 1) := by decide +kernel
theorem d_R_copy_13 : decode prog_12_method_4_code 13 = .ok (.iastore, 1) := by decide +kernel
theorem d_R_copy_14 : decode prog_12_method_4_code 14 = .ok (.iinc 2 1, 3) := by decide +kernel
theorem d_R_copy_17 : decode prog_12_method_4_code 17 = .ok (.goto (-15), 3) := by decide +kernel
theorem d_R_copy_20 : decode prog_12_method_4_code 20 = .ok (.return_, 1) := by decide +kernel
def B_R_copy (_ : Nat × Nat) : PS :=
  (sSq (sCut 2 (sSq (sI 2 (eV (0 : Int32)))
    (sLp 3 (e2 (fun x y : Int32 => decide (x < y)) (eI 2) (eV (19 : Int32)))
    (sAI (eR 1) (eI 2) (eAI (eR 0) (eI 2)))
    (sInc 2 (1)))))
    sRv)
def X_R_copy : PM := fun vs h Q => (lx vs).length ≤ 3 ∧ B_R_copy (h.length + 0, hsz h + 0) (fun _ _ => False) (fun _ _ => False) (fun _ _ => False) Q (lini 3 vs) h
theorem v_R_copy (l : Launch) : Ctr l y_R_copy prog_12_method_4_code 3 none rm_R_copy X_R_copy := by
  refine Ctr_of (own := "PackLanesModel") (B := B_R_copy) (KR := fun _ Q => Q) (by decide) rfl (fun _ _ _ z => z) (fun _ _ _ _ z => ⟨Or.inl ⟨rfl, rfl⟩, z⟩) (Or.inl rfl) (fun κ hl ho hR hrt hn0 => ?_)
  subst hl
  unfold B_R_copy
  exact (S_sq (pc1 := 20) (S_cut (S_sq (pc1 := 2) (S_In (pc1 := 1) (E_ic d_R_copy_0 rfl) d_R_copy_1 rfl)
    (S_lp (pT := 8) (pF := 20) (pS := 14) (pG := 17) (J2_lt (pF := 20) (pc1 := 3) (pc2 := 5) (E_iln d_R_copy_2 rfl) (E_bi d_R_copy_3 rfl) d_R_copy_5 rfl)
    (S_AI (pc1 := 9) (pc2 := 10) (pc3 := 13) (E_aln d_R_copy_8 rfl) (E_iln d_R_copy_9 rfl) (E_aI (pc1 := 11) (pc2 := 12) (E_aln d_R_copy_10 rfl) (E_iln d_R_copy_11 rfl) d_R_copy_12) d_R_copy_13)
    (S_Inc d_R_copy_14 rfl) d_R_copy_17 rfl)))
    (S_rv hrt d_R_copy_20))
theorem d_R_in_0 : decode prog_12_method_5_code 0 = .ok (.lload_n 0, 1) := by decide +kernel
theorem d_R_in_1 : decode prog_12_method_5_code 1 = .ok (.lload_n 2, 1) := by decide +kernel
theorem d_R_in_2 : decode prog_12_method_5_code 2 = .ok (.lcmp, 1) := by decide +kernel
theorem d_R_in_3 : decode prog_12_method_5_code 3 = .ok (.ifCond .lt 14, 3) := by decide +kernel
theorem d_R_in_6 : decode prog_12_method_5_code 6 = .ok (.lload_n 0, 1) := by decide +kernel
theorem d_R_in_7 : decode prog_12_method_5_code 7 = .ok (.lload 4, 2) := by decide +kernel
theorem d_R_in_9 : decode prog_12_method_5_code 9 = .ok (.lcmp, 1) := by decide +kernel
theorem d_R_in_10 : decode prog_12_method_5_code 10 = .ok (.ifCond .gt 7, 3) := by decide +kernel
theorem d_R_in_13 : decode prog_12_method_5_code 13 = .ok (.iconst 1, 1) := by decide +kernel
theorem d_R_in_14 : decode prog_12_method_5_code 14 = .ok (.goto 4, 3) := by decide +kernel
theorem d_R_in_17 : decode prog_12_method_5_code 17 = .ok (.iconst 0, 1) := by decide +kernel
theorem d_R_in_18 : decode prog_12_method_5_code 18 = .ok (.ireturn, 1) := by decide +kernel
def B_R_in (_ : Nat × Nat) : PS :=
  (sRz (eC (cA (e2 (fun x y : Int64 => decide (y ≤ x)) (eL 0) (eL 2)) (e2 (fun x y : Int64 => decide (x ≤ y)) (eL 0) (eL 4)))))
def X_R_in : PM := fun vs h Q => (lx vs).length ≤ 6 ∧ B_R_in (h.length + 0, hsz h + 0) (fun _ _ => False) (fun _ _ => False) (fun _ _ => False) Q (lini 6 vs) h
theorem v_R_in (l : Launch) : Ctr l y_R_in prog_12_method_5_code 6 (some .boolean) rm_R_in X_R_in := by
  refine Ctr_of (own := "PackLanesModel") (B := B_R_in) (KR := fun _ Q => Q) (by decide) rfl (fun _ _ _ z => z) (fun _ _ _ _ z => ⟨Or.inl ⟨rfl, rfl⟩, z⟩) (Or.inr (Or.inr (Or.inl rfl))) (fun κ hl ho hR hrt hn0 => ?_)
  subst hl
  unfold B_R_in
  exact (S_rz hrt (pc1 := 18) (E_C (pT := 13) (pF := 17) (pc2 := 18) (C_and (pc1 := 6) (JL_ge (pF := 17) (pc1 := 1) (pc2 := 2) (E_lln d_R_in_0 rfl) (E_lln d_R_in_1 rfl) d_R_in_2 d_R_in_3 rfl) (JL_le (pF := 17) (pc1 := 7) (pc2 := 9) (E_lln d_R_in_6 rfl) (E_ll d_R_in_7) d_R_in_9 d_R_in_10 rfl)) d_R_in_13 d_R_in_14 rfl d_R_in_17 rfl) d_R_in_18)
theorem d_R_has_0 : decode prog_12_method_6_code 0 = .ok (.iload_n 0, 1) := by decide +kernel
theorem d_R_has_1 : decode prog_12_method_6_code 1 = .ok (.iload_n 1, 1) := by decide +kernel
theorem d_R_has_2 : decode prog_12_method_6_code 2 = .ok (.ishr, 1) := by decide +kernel
theorem d_R_has_3 : decode prog_12_method_6_code 3 = .ok (.iconst 1, 1) := by decide +kernel
theorem d_R_has_4 : decode prog_12_method_6_code 4 = .ok (.iand, 1) := by decide +kernel
theorem d_R_has_5 : decode prog_12_method_6_code 5 = .ok (.iconst 1, 1) := by decide +kernel
theorem d_R_has_6 : decode prog_12_method_6_code 6 = .ok (.if_icmp .ne 7, 3) := by decide +kernel
theorem d_R_has_9 : decode prog_12_method_6_code 9 = .ok (.iconst 1, 1) := by decide +kernel
theorem d_R_has_10 : decode prog_12_method_6_code 10 = .ok (.goto 4, 3) := by decide +kernel
theorem d_R_has_13 : decode prog_12_method_6_code 13 = .ok (.iconst 0, 1) := by decide +kernel
theorem d_R_has_14 : decode prog_12_method_6_code 14 = .ok (.ireturn, 1) := by decide +kernel
def B_R_has (_ : Nat × Nat) : PS :=
  (sRz (eC (e2 (fun x y : Int32 => decide (x = y)) (e2 (fun x y : Int32 => x &&& y) (e2 (fun x y : Int32 => x >>> (y &&& 31)) (eI 0) (eI 1)) (eV (1 : Int32))) (eV (1 : Int32)))))
def X_R_has : PM := fun vs h Q => (lx vs).length ≤ 2 ∧ B_R_has (h.length + 0, hsz h + 0) (fun _ _ => False) (fun _ _ => False) (fun _ _ => False) Q (lini 2 vs) h
theorem v_R_has (l : Launch) : Ctr l y_R_has prog_12_method_6_code 2 (some .boolean) rm_R_has X_R_has := by
  refine Ctr_of (own := "PackLanesModel") (B := B_R_has) (KR := fun _ Q => Q) (by decide) rfl (fun _ _ _ z => z) (fun _ _ _ _ z => ⟨Or.inl ⟨rfl, rfl⟩, z⟩) (Or.inr (Or.inr (Or.inl rfl))) (fun κ hl ho hR hrt hn0 => ?_)
  subst hl
  unfold B_R_has
  exact (S_rz hrt (pc1 := 14) (E_C (pT := 9) (pF := 13) (pc2 := 14) (J2_eq (pF := 13) (pc1 := 5) (pc2 := 6) (E_iand (pc1 := 3) (pc2 := 4) (E_ishr (pc1 := 1) (pc2 := 2) (E_iln d_R_has_0 rfl) (E_iln d_R_has_1 rfl) d_R_has_2) (E_ic d_R_has_3 rfl) d_R_has_4) (E_ic d_R_has_5 rfl) d_R_has_6 rfl) d_R_has_9 d_R_has_10 rfl d_R_has_13 rfl) d_R_has_14)
theorem d_R_ones_0 : decode prog_12_method_7_code 0 = .ok (.iconst 0, 1) := by decide +kernel
theorem d_R_ones_1 : decode prog_12_method_7_code 1 = .ok (.istore_n 1, 1) := by decide +kernel
theorem d_R_ones_2 : decode prog_12_method_7_code 2 = .ok (.iconst 0, 1) := by decide +kernel
theorem d_R_ones_3 : decode prog_12_method_7_code 3 = .ok (.istore_n 2, 1) := by decide +kernel
theorem d_R_ones_4 : decode prog_12_method_7_code 4 = .ok (.iload_n 2, 1) := by decide +kernel
theorem d_R_ones_5 : decode prog_12_method_7_code 5 = .ok (.bipush 16, 2) := by decide +kernel
theorem d_R_ones_7 : decode prog_12_method_7_code 7 = .ok (.if_icmp .ge 17, 3) := by decide +kernel
theorem d_R_ones_10 : decode prog_12_method_7_code 10 = .ok (.iload_n 1, 1) := by decide +kernel
theorem d_R_ones_11 : decode prog_12_method_7_code 11 = .ok (.iload_n 0, 1) := by decide +kernel
theorem d_R_ones_12 : decode prog_12_method_7_code 12 = .ok (.iload_n 2, 1) := by decide +kernel
theorem d_R_ones_13 : decode prog_12_method_7_code 13 = .ok (.ishr, 1) := by decide +kernel
theorem d_R_ones_14 : decode prog_12_method_7_code 14 = .ok (.iconst 1, 1) := by decide +kernel
theorem d_R_ones_15 : decode prog_12_method_7_code 15 = .ok (.iand, 1) := by decide +kernel
theorem d_R_ones_16 : decode prog_12_method_7_code 16 = .ok (.iadd, 1) := by decide +kernel
theorem d_R_ones_17 : decode prog_12_method_7_code 17 = .ok (.istore_n 1, 1) := by decide +kernel
theorem d_R_ones_18 : decode prog_12_method_7_code 18 = .ok (.iinc 2 1, 3) := by decide +kernel
theorem d_R_ones_21 : decode prog_12_method_7_code 21 = .ok (.goto (-17), 3) := by decide +kernel
theorem d_R_ones_24 : decode prog_12_method_7_code 24 = .ok (.iload_n 1, 1) := by decide +kernel
theorem d_R_ones_25 : decode prog_12_method_7_code 25 = .ok (.ireturn, 1) := by decide +kernel
def B_R_ones (_ : Nat × Nat) : PS :=
  (sSq (sI 1 (eV (0 : Int32)))
    (sSq (sCut 2 (sSq (sI 2 (eV (0 : Int32)))
    (sLp 3 (e2 (fun x y : Int32 => decide (x < y)) (eI 2) (eV (16 : Int32)))
    (sI 1 (e2 (fun x y : Int32 => x + y) (eI 1) (e2 (fun x y : Int32 => x &&& y) (e2 (fun x y : Int32 => x >>> (y &&& 31)) (eI 0) (eI 2)) (eV (1 : Int32)))))
    (sInc 2 (1)))))
    (sRt .int (eI 1))))
def X_R_ones : PM := fun vs h Q => (lx vs).length ≤ 3 ∧ B_R_ones (h.length + 0, hsz h + 0) (fun _ _ => False) (fun _ _ => False) (fun _ _ => False) Q (lini 3 vs) h
theorem v_R_ones (l : Launch) : Ctr l y_R_ones prog_12_method_7_code 3 (some .int) rm_R_ones X_R_ones := by
  refine Ctr_of (own := "PackLanesModel") (B := B_R_ones) (KR := fun _ Q => Q) (by decide) rfl (fun _ _ _ z => z) (fun _ _ _ _ z => ⟨Or.inl ⟨rfl, rfl⟩, z⟩) (Or.inr (Or.inl rfl)) (fun κ hl ho hR hrt hn0 => ?_)
  subst hl
  unfold B_R_ones
  exact (S_sq (pc1 := 2) (S_In (pc1 := 1) (E_ic d_R_ones_0 rfl) d_R_ones_1 rfl)
    (S_sq (pc1 := 24) (S_cut (S_sq (pc1 := 4) (S_In (pc1 := 3) (E_ic d_R_ones_2 rfl) d_R_ones_3 rfl)
    (S_lp (pT := 10) (pF := 24) (pS := 18) (pG := 21) (J2_lt (pF := 24) (pc1 := 5) (pc2 := 7) (E_iln d_R_ones_4 rfl) (E_bi d_R_ones_5 rfl) d_R_ones_7 rfl)
    (S_In (pc1 := 17) (E_iadd (pc1 := 11) (pc2 := 16) (E_iln d_R_ones_10 rfl) (E_iand (pc1 := 14) (pc2 := 15) (E_ishr (pc1 := 12) (pc2 := 13) (E_iln d_R_ones_11 rfl) (E_iln d_R_ones_12 rfl) d_R_ones_13) (E_ic d_R_ones_14 rfl) d_R_ones_15) d_R_ones_16) d_R_ones_17 rfl)
    (S_Inc d_R_ones_18 rfl) d_R_ones_21 rfl)))
    (S_ri hrt (pc1 := 25) (E_iln d_R_ones_24 rfl) d_R_ones_25)))
theorem d_R_power_0 : decode prog_12_method_8_code 0 = .ok (.iconst 1, 1) := by decide +kernel
theorem d_R_power_1 : decode prog_12_method_8_code 1 = .ok (.istore_n 2, 1) := by decide +kernel
theorem d_R_power_2 : decode prog_12_method_8_code 2 = .ok (.iconst 0, 1) := by decide +kernel
theorem d_R_power_3 : decode prog_12_method_8_code 3 = .ok (.istore_n 3, 1) := by decide +kernel
theorem d_R_power_4 : decode prog_12_method_8_code 4 = .ok (.iload_n 3, 1) := by decide +kernel
theorem d_R_power_5 : decode prog_12_method_8_code 5 = .ok (.iload_n 1, 1) := by decide +kernel
theorem d_R_power_6 : decode prog_12_method_8_code 6 = .ok (.if_icmp .ge 13, 3) := by decide +kernel
theorem d_R_power_9 : decode prog_12_method_8_code 9 = .ok (.iload_n 2, 1) := by decide +kernel
theorem d_R_power_10 : decode prog_12_method_8_code 10 = .ok (.iload_n 0, 1) := by decide +kernel
theorem d_R_power_11 : decode prog_12_method_8_code 11 = .ok (.imul, 1) := by decide +kernel
theorem d_R_power_12 : decode prog_12_method_8_code 12 = .ok (.istore_n 2, 1) := by decide +kernel
theorem d_R_power_13 : decode prog_12_method_8_code 13 = .ok (.iinc 3 1, 3) := by decide +kernel
theorem d_R_power_16 : decode prog_12_method_8_code 16 = .ok (.goto (-12), 3) := by decide +kernel
theorem d_R_power_19 : decode prog_12_method_8_code 19 = .ok (.iload_n 2, 1) := by decide +kernel
theorem d_R_power_20 : decode prog_12_method_8_code 20 = .ok (.ireturn, 1) := by decide +kernel
def B_R_power (_ : Nat × Nat) : PS :=
  (sSq (sI 2 (eV (1 : Int32)))
    (sSq (sCut 3 (sSq (sI 3 (eV (0 : Int32)))
    (sLp 4 (e2 (fun x y : Int32 => decide (x < y)) (eI 3) (eI 1))
    (sI 2 (e2 (fun x y : Int32 => x * y) (eI 2) (eI 0)))
    (sInc 3 (1)))))
    (sRt .int (eI 2))))
def X_R_power : PM := fun vs h Q => (lx vs).length ≤ 4 ∧ B_R_power (h.length + 0, hsz h + 0) (fun _ _ => False) (fun _ _ => False) (fun _ _ => False) Q (lini 4 vs) h
theorem v_R_power (l : Launch) : Ctr l y_R_power prog_12_method_8_code 4 (some .int) rm_R_power X_R_power := by
  refine Ctr_of (own := "PackLanesModel") (B := B_R_power) (KR := fun _ Q => Q) (by decide) rfl (fun _ _ _ z => z) (fun _ _ _ _ z => ⟨Or.inl ⟨rfl, rfl⟩, z⟩) (Or.inr (Or.inl rfl)) (fun κ hl ho hR hrt hn0 => ?_)
  subst hl
  unfold B_R_power
  exact (S_sq (pc1 := 2) (S_In (pc1 := 1) (E_ic d_R_power_0 rfl) d_R_power_1 rfl)
    (S_sq (pc1 := 19) (S_cut (S_sq (pc1 := 4) (S_In (pc1 := 3) (E_ic d_R_power_2 rfl) d_R_power_3 rfl)
    (S_lp (pT := 9) (pF := 19) (pS := 13) (pG := 16) (J2_lt (pF := 19) (pc1 := 5) (pc2 := 6) (E_iln d_R_power_4 rfl) (E_iln d_R_power_5 rfl) d_R_power_6 rfl)
    (S_In (pc1 := 12) (E_imul (pc1 := 10) (pc2 := 11) (E_iln d_R_power_9 rfl) (E_iln d_R_power_10 rfl) d_R_power_11) d_R_power_12 rfl)
    (S_Inc d_R_power_13 rfl) d_R_power_16 rfl)))
    (S_ri hrt (pc1 := 20) (E_iln d_R_power_19 rfl) d_R_power_20)))
theorem d_R_factorial_0 : decode prog_12_method_9_code 0 = .ok (.iconst 1, 1) := by decide +kernel
theorem d_R_factorial_1 : decode prog_12_method_9_code 1 = .ok (.istore_n 1, 1) := by decide +kernel
theorem d_R_factorial_2 : decode prog_12_method_9_code 2 = .ok (.iconst 2, 1) := by decide +kernel
theorem d_R_factorial_3 : decode prog_12_method_9_code 3 = .ok (.istore_n 2, 1) := by decide +kernel
theorem d_R_factorial_4 : decode prog_12_method_9_code 4 = .ok (.iload_n 2, 1) := by decide +kernel
theorem d_R_factorial_5 : decode prog_12_method_9_code 5 = .ok (.iload_n 0, 1) := by decide +kernel
theorem d_R_factorial_6 : decode prog_12_method_9_code 6 = .ok (.if_icmp .gt 13, 3) := by decide +kernel
theorem d_R_factorial_9 : decode prog_12_method_9_code 9 = .ok (.iload_n 1, 1) := by decide +kernel
theorem d_R_factorial_10 : decode prog_12_method_9_code 10 = .ok (.iload_n 2, 1) := by decide +kernel
theorem d_R_factorial_11 : decode prog_12_method_9_code 11 = .ok (.imul, 1) := by decide +kernel
theorem d_R_factorial_12 : decode prog_12_method_9_code 12 = .ok (.istore_n 1, 1) := by decide +kernel
theorem d_R_factorial_13 : decode prog_12_method_9_code 13 = .ok (.iinc 2 1, 3) := by decide +kernel
theorem d_R_factorial_16 : decode prog_12_method_9_code 16 = .ok (.goto (-12), 3) := by decide +kernel
theorem d_R_factorial_19 : decode prog_12_method_9_code 19 = .ok (.iload_n 1, 1) := by decide +kernel
theorem d_R_factorial_20 : decode prog_12_method_9_code 20 = .ok (.ireturn, 1) := by decide +kernel
def B_R_factorial (_ : Nat × Nat) : PS :=
  (sSq (sI 1 (eV (1 : Int32)))
    (sSq (sCut 2 (sSq (sI 2 (eV (2 : Int32)))
    (sLp 3 (e2 (fun x y : Int32 => decide (x ≤ y)) (eI 2) (eI 0))
    (sI 1 (e2 (fun x y : Int32 => x * y) (eI 1) (eI 2)))
    (sInc 2 (1)))))
    (sRt .int (eI 1))))
def X_R_factorial : PM := fun vs h Q => (lx vs).length ≤ 3 ∧ B_R_factorial (h.length + 0, hsz h + 0) (fun _ _ => False) (fun _ _ => False) (fun _ _ => False) Q (lini 3 vs) h
theorem v_R_factorial (l : Launch) : Ctr l y_R_factorial prog_12_method_9_code 3 (some .int) rm_R_factorial X_R_factorial := by
  refine Ctr_of (own := "PackLanesModel") (B := B_R_factorial) (KR := fun _ Q => Q) (by decide) rfl (fun _ _ _ z => z) (fun _ _ _ _ z => ⟨Or.inl ⟨rfl, rfl⟩, z⟩) (Or.inr (Or.inl rfl)) (fun κ hl ho hR hrt hn0 => ?_)
  subst hl
  unfold B_R_factorial
  exact (S_sq (pc1 := 2) (S_In (pc1 := 1) (E_ic d_R_factorial_0 rfl) d_R_factorial_1 rfl)
    (S_sq (pc1 := 19) (S_cut (S_sq (pc1 := 4) (S_In (pc1 := 3) (E_ic d_R_factorial_2 rfl) d_R_factorial_3 rfl)
    (S_lp (pT := 9) (pF := 19) (pS := 13) (pG := 16) (J2_le (pF := 19) (pc1 := 5) (pc2 := 6) (E_iln d_R_factorial_4 rfl) (E_iln d_R_factorial_5 rfl) d_R_factorial_6 rfl)
    (S_In (pc1 := 12) (E_imul (pc1 := 10) (pc2 := 11) (E_iln d_R_factorial_9 rfl) (E_iln d_R_factorial_10 rfl) d_R_factorial_11) d_R_factorial_12 rfl)
    (S_Inc d_R_factorial_13 rfl) d_R_factorial_16 rfl)))
    (S_ri hrt (pc1 := 20) (E_iln d_R_factorial_19 rfl) d_R_factorial_20)))
theorem d_R_fraction_0 : decode prog_12_method_10_code 0 = .ok (.iload_n 0, 1) := by decide +kernel
theorem d_R_fraction_1 : decode prog_12_method_10_code 1 = .ok (.ifCond .ge 8, 3) := by decide +kernel
theorem d_R_fraction_4 : decode prog_12_method_10_code 4 = .ok (.iload_n 0, 1) := by decide +kernel
theorem d_R_fraction_5 : decode prog_12_method_10_code 5 = .ok (.ineg, 1) := by decide +kernel
theorem d_R_fraction_6 : decode prog_12_method_10_code 6 = .ok (.goto 4, 3) := by decide +kernel
theorem d_R_fraction_9 : decode prog_12_method_10_code 9 = .ok (.iload_n 0, 1) := by decide +kernel
theorem d_R_fraction_10 : decode prog_12_method_10_code 10 = .ok (.istore_n 3, 1) := by decide +kernel
theorem d_R_fraction_11 : decode prog_12_method_10_code 11 = .ok (.iload_n 1, 1) := by decide +kernel
theorem d_R_fraction_12 : decode prog_12_method_10_code 12 = .ok (.istore 4, 2) := by decide +kernel
theorem d_R_fraction_14 : decode prog_12_method_10_code 14 = .ok (.iload 4, 2) := by decide +kernel
theorem d_R_fraction_16 : decode prog_12_method_10_code 16 = .ok (.ifCond .eq 19, 3) := by decide +kernel
theorem d_R_fraction_19 : decode prog_12_method_10_code 19 = .ok (.iload_n 3, 1) := by decide +kernel
theorem d_R_fraction_20 : decode prog_12_method_10_code 20 = .ok (.iload 4, 2) := by decide +kernel
theorem d_R_fraction_22 : decode prog_12_method_10_code 22 = .ok (.irem, 1) := by decide +kernel
theorem d_R_fraction_23 : decode prog_12_method_10_code 23 = .ok (.istore 5, 2) := by decide +kernel
theorem d_R_fraction_25 : decode prog_12_method_10_code 25 = .ok (.iload 4, 2) := by decide +kernel
theorem d_R_fraction_27 : decode prog_12_method_10_code 27 = .ok (.istore_n 3, 1) := by decide +kernel
theorem d_R_fraction_28 : decode prog_12_method_10_code 28 = .ok (.iload 5, 2) := by decide +kernel
theorem d_R_fraction_30 : decode prog_12_method_10_code 30 = .ok (.istore 4, 2) := by decide +kernel
theorem d_R_fraction_32 : decode prog_12_method_10_code 32 = .ok (.goto (-18), 3) := by decide +kernel
theorem d_R_fraction_35 : decode prog_12_method_10_code 35 = .ok (.iload_n 2, 1) := by decide +kernel
theorem d_R_fraction_36 : decode prog_12_method_10_code 36 = .ok (.ifCond .eq 9, 3) := by decide +kernel
theorem d_R_fraction_39 : decode prog_12_method_10_code 39 = .ok (.iload_n 0, 1) := by decide +kernel
theorem d_R_fraction_40 : decode prog_12_method_10_code 40 = .ok (.iload_n 3, 1) := by decide +kernel
theorem d_R_fraction_41 : decode prog_12_method_10_code 41 = .ok (.idiv, 1) := by decide +kernel
theorem d_R_fraction_42 : decode prog_12_method_10_code 42 = .ok (.goto 6, 3) := by decide +kernel
theorem d_R_fraction_45 : decode prog_12_method_10_code 45 = .ok (.iload_n 1, 1) := by decide +kernel
theorem d_R_fraction_46 : decode prog_12_method_10_code 46 = .ok (.iload_n 3, 1) := by decide +kernel
theorem d_R_fraction_47 : decode prog_12_method_10_code 47 = .ok (.idiv, 1) := by decide +kernel
theorem d_R_fraction_48 : decode prog_12_method_10_code 48 = .ok (.ireturn, 1) := by decide +kernel
def B_R_fraction (_ : Nat × Nat) : PS :=
  (sSq (sI 3 (eIf (e1 (fun x : Int32 => decide (x < 0)) (eI 0)) (e1 (fun x : Int32 => -x) (eI 0)) (eI 0)))
    (sSq (sI 4 (eI 1))
    (sSq (sLp 5 (e1 (fun x : Int32 => decide (¬ x = 0)) (eI 4))
    (sCut 5 (sSq (sI 5 (eDI (fun x y : Int32 => x - x / y * y) (eI 3) (eI 4)))
    (sSq (sI 3 (eI 4))
    (sI 4 (eI 5)))))
    sSk)
    (sRt .int (eIf (e1 (fun x : Int32 => decide (¬ x = 0)) (eI 2)) (eDI (fun x y : Int32 => x / y) (eI 0) (eI 3)) (eDI (fun x y : Int32 => x / y) (eI 1) (eI 3)))))))
def X_R_fraction : PM := fun vs h Q => (lx vs).length ≤ 6 ∧ B_R_fraction (h.length + 0, hsz h + 0) (fun _ _ => False) (fun _ _ => False) (fun _ _ => False) Q (lini 6 vs) h
theorem v_R_fraction (l : Launch) : Ctr l y_R_fraction prog_12_method_10_code 6 (some .int) rm_R_fraction X_R_fraction := by
  refine Ctr_of (own := "PackLanesModel") (B := B_R_fraction) (KR := fun _ Q => Q) (by decide) rfl (fun _ _ _ z => z) (fun _ _ _ _ z => ⟨Or.inl ⟨rfl, rfl⟩, z⟩) (Or.inr (Or.inl rfl)) (fun κ hl ho hR hrt hn0 => ?_)
  subst hl
  unfold B_R_fraction
  exact (S_sq (pc1 := 11) (S_In (pc1 := 10) (E_if (pT := 4) (pF := 9) (pc1 := 6) (pc2 := 10) (J1_lt (pF := 9) (pc2 := 1) (E_iln d_R_fraction_0 rfl) d_R_fraction_1 rfl) (E_ineg (pc1 := 5) (E_iln d_R_fraction_4 rfl) d_R_fraction_5) d_R_fraction_6 rfl (E_iln d_R_fraction_9 rfl)) d_R_fraction_10 rfl)
    (S_sq (pc1 := 14) (S_I (pc1 := 12) (E_iln d_R_fraction_11 rfl) d_R_fraction_12)
    (S_sq (pc1 := 35) (S_lp (pT := 19) (pF := 35) (pS := 32) (pG := 32) (J1_ne (pF := 35) (pc2 := 16) (E_il d_R_fraction_14) d_R_fraction_16 rfl)
    (S_cut (S_sq (pc1 := 25) (S_I (pc1 := 23) (E_irem (pc1 := 20) (pc2 := 22) (E_iln d_R_fraction_19 rfl) (E_il d_R_fraction_20) d_R_fraction_22) d_R_fraction_23)
    (S_sq (pc1 := 28) (S_In (pc1 := 27) (E_il d_R_fraction_25) d_R_fraction_27 rfl)
    (S_I (pc1 := 30) (E_il d_R_fraction_28) d_R_fraction_30))))
    S_sk d_R_fraction_32 rfl)
    (S_ri hrt (pc1 := 48) (E_if (pT := 39) (pF := 45) (pc1 := 42) (pc2 := 48) (J1_ne (pF := 45) (pc2 := 36) (E_iln d_R_fraction_35 rfl) d_R_fraction_36 rfl) (E_idiv (pc1 := 40) (pc2 := 41) (E_iln d_R_fraction_39 rfl) (E_iln d_R_fraction_40 rfl) d_R_fraction_41) d_R_fraction_42 rfl (E_idiv (pc1 := 46) (pc2 := 47) (E_iln d_R_fraction_45 rfl) (E_iln d_R_fraction_46 rfl) d_R_fraction_47)) d_R_fraction_48))))
theorem d_R_isThere_0 : decode prog_12_method_11_code 0 = .ok (.iload_n 1, 1) := by decide +kernel
theorem d_R_isThere_1 : decode prog_12_method_11_code 1 = .ok (.i2l, 1) := by decide +kernel
theorem d_R_isThere_2 : decode prog_12_method_11_code 2 = .ok (.lconst 0, 1) := by decide +kernel
theorem d_R_isThere_3 : decode prog_12_method_11_code 3 = .ok (.aload_n 0, 1) := by decide +kernel
theorem d_R_isThere_4 : decode prog_12_method_11_code 4 = .ok (.getfield 99, 3) := by decide +kernel
theorem d_R_isThere_7 : decode prog_12_method_11_code 7 = .ok (.iconst 1, 1) := by decide +kernel
theorem d_R_isThere_8 : decode prog_12_method_11_code 8 = .ok (.isub, 1) := by decide +kernel
theorem d_R_isThere_9 : decode prog_12_method_11_code 9 = .ok (.i2l, 1) := by decide +kernel
theorem d_R_isThere_10 : decode prog_12_method_11_code 10 = .ok (.invokestatic 103, 3) := by decide +kernel
theorem d_R_isThere_13 : decode prog_12_method_11_code 13 = .ok (.ireturn, 1) := by decide +kernel
def B_R_isThere (_ : Nat × Nat) : PS :=
  (sRz (eX .int (xS 3 X_R_in (aC .long (e1 (fun x : Int32 => x.toInt64) (eI 1)) (aC .long (eV (0 : Int64)) (aC .long (e1 (fun x : Int32 => x.toInt64) (e2 (fun x y : Int32 => x - y) (eFI 10 2 (eR 0)) (eV (1 : Int32)))) aN))))))
def X_R_isThere : PM := fun vs h Q => (lx vs).length ≤ 2 ∧ B_R_isThere (h.length + 0, hsz h + 0) (fun _ _ => False) (fun _ _ => False) (fun _ _ => False) Q (lini 2 vs) h
theorem v_R_isThere (l : Launch) : Ctr l y_R_isThere prog_12_method_11_code 2 (some .boolean) rm_R_isThere X_R_isThere := by
  refine Ctr_of (own := "PackLanesModel") (B := B_R_isThere) (KR := fun _ Q => Q) (by decide) rfl (fun _ _ _ z => z) (fun _ _ _ _ z => ⟨Or.inl ⟨rfl, rfl⟩, z⟩) (Or.inr (Or.inr (Or.inl rfl))) (fun κ hl ho hR hrt hn0 => ?_)
  subst hl
  unfold B_R_isThere
  exact (S_rz hrt (pc1 := 13) (E_x (O_S k_R_103 (v_R_in _) ⟨rfl, rfl⟩ ho (rk hR rfl) (by decide) (pc2 := 10) (A_c catL (pc1 := 2) (E_i2l (pc1 := 1) (E_iln d_R_isThere_0 rfl) d_R_isThere_1) (A_c catL (pc1 := 3) (E_lc d_R_isThere_2 rfl) (A_c catL (pc1 := 10) (E_i2l (pc1 := 9) (E_isub (pc1 := 7) (pc2 := 8) (E_fI f_R_99 ho (pc1 := 4) (E_aln d_R_isThere_3 rfl) d_R_isThere_4) (E_ic d_R_isThere_7 rfl) d_R_isThere_8) d_R_isThere_9) A_n))) d_R_isThere_10)) d_R_isThere_13)
theorem d_R_isAddress_0 : decode prog_12_method_12_code 0 = .ok (.iload_n 0, 1) := by decide +kernel
theorem d_R_isAddress_1 : decode prog_12_method_12_code 1 = .ok (.i2l, 1) := by decide +kernel
theorem d_R_isAddress_2 : decode prog_12_method_12_code 2 = .ok (.lconst 0, 1) := by decide +kernel
theorem d_R_isAddress_3 : decode prog_12_method_12_code 3 = .ok (.ldc2_w 107, 3) := by decide +kernel
theorem d_R_isAddress_6 : decode prog_12_method_12_code 6 = .ok (.invokestatic 103, 3) := by decide +kernel
theorem d_R_isAddress_9 : decode prog_12_method_12_code 9 = .ok (.ireturn, 1) := by decide +kernel
def B_R_isAddress (_ : Nat × Nat) : PS :=
  (sRz (eX .int (xS 3 X_R_in (aC .long (e1 (fun x : Int32 => x.toInt64) (eI 0)) (aC .long (eV (0 : Int64)) (aC .long (eV (15 : Int64)) aN))))))
def X_R_isAddress : PM := fun vs h Q => (lx vs).length ≤ 1 ∧ B_R_isAddress (h.length + 0, hsz h + 0) (fun _ _ => False) (fun _ _ => False) (fun _ _ => False) Q (lini 1 vs) h
theorem v_R_isAddress (l : Launch) : Ctr l y_R_isAddress prog_12_method_12_code 1 (some .boolean) rm_R_isAddress X_R_isAddress := by
  refine Ctr_of (own := "PackLanesModel") (B := B_R_isAddress) (KR := fun _ Q => Q) (by decide) rfl (fun _ _ _ z => z) (fun _ _ _ _ z => ⟨Or.inl ⟨rfl, rfl⟩, z⟩) (Or.inr (Or.inr (Or.inl rfl))) (fun κ hl ho hR hrt hn0 => ?_)
  subst hl
  unfold B_R_isAddress
  exact (S_rz hrt (pc1 := 9) (E_x (O_S k_R_103 (v_R_in _) ⟨rfl, rfl⟩ ho (rk hR rfl) (by decide) (pc2 := 6) (A_c catL (pc1 := 2) (E_i2l (pc1 := 1) (E_iln d_R_isAddress_0 rfl) d_R_isAddress_1) (A_c catL (pc1 := 3) (E_lc d_R_isAddress_2 rfl) (A_c catL (pc1 := 6) (E_ldc2 ho w_cl_R_107 d_R_isAddress_3) A_n))) d_R_isAddress_6)) d_R_isAddress_9)
theorem d_R_write_0 : decode prog_12_method_13_code 0 = .ok (.iload_n 1, 1) := by decide +kernel
theorem d_R_write_1 : decode prog_12_method_13_code 1 = .ok (.i2l, 1) := by decide +kernel
theorem d_R_write_2 : decode prog_12_method_13_code 2 = .ok (.lconst 0, 1) := by decide +kernel
theorem d_R_write_3 : decode prog_12_method_13_code 3 = .ok (.ldc2_w 109, 3) := by decide +kernel
theorem d_R_write_6 : decode prog_12_method_13_code 6 = .ok (.invokestatic 103, 3) := by decide +kernel
theorem d_R_write_9 : decode prog_12_method_13_code 9 = .ok (.ifCond .ne 6, 3) := by decide +kernel
theorem d_R_write_12 : decode prog_12_method_13_code 12 = .ok (.bipush (-2), 2) := by decide +kernel
theorem d_R_write_14 : decode prog_12_method_13_code 14 = .ok (.ireturn, 1) := by decide +kernel
theorem d_R_write_15 : decode prog_12_method_13_code 15 = .ok (.aload_n 0, 1) := by decide +kernel
theorem d_R_write_16 : decode prog_12_method_13_code 16 = .ok (.getfield 111, 3) := by decide +kernel
theorem d_R_write_19 : decode prog_12_method_13_code 19 = .ok (.bipush 80, 2) := by decide +kernel
theorem d_R_write_21 : decode prog_12_method_13_code 21 = .ok (.if_icmp .ne 6, 3) := by decide +kernel
theorem d_R_write_24 : decode prog_12_method_13_code 24 = .ok (.bipush (-4), 2) := by decide +kernel
theorem d_R_write_26 : decode prog_12_method_13_code 26 = .ok (.ireturn, 1) := by decide +kernel
theorem d_R_write_27 : decode prog_12_method_13_code 27 = .ok (.aload_n 0, 1) := by decide +kernel
theorem d_R_write_28 : decode prog_12_method_13_code 28 = .ok (.getfield 7, 3) := by decide +kernel
theorem d_R_write_31 : decode prog_12_method_13_code 31 = .ok (.aload_n 0, 1) := by decide +kernel
theorem d_R_write_32 : decode prog_12_method_13_code 32 = .ok (.getfield 111, 3) := by decide +kernel
theorem d_R_write_35 : decode prog_12_method_13_code 35 = .ok (.iload_n 1, 1) := by decide +kernel
theorem d_R_write_36 : decode prog_12_method_13_code 36 = .ok (.iastore, 1) := by decide +kernel
theorem d_R_write_37 : decode prog_12_method_13_code 37 = .ok (.aload_n 0, 1) := by decide +kernel
theorem d_R_write_38 : decode prog_12_method_13_code 38 = .ok (.dup, 1) := by decide +kernel
theorem d_R_write_39 : decode prog_12_method_13_code 39 = .ok (.getfield 111, 3) := by decide +kernel
theorem d_R_write_42 : decode prog_12_method_13_code 42 = .ok (.iconst 1, 1) := by decide +kernel
theorem d_R_write_43 : decode prog_12_method_13_code 43 = .ok (.iadd, 1) := by decide +kernel
theorem d_R_write_44 : decode prog_12_method_13_code 44 = .ok (.putfield 111, 3) := by decide +kernel
theorem d_R_write_47 : decode prog_12_method_13_code 47 = .ok (.aload_n 0, 1) := by decide +kernel
theorem d_R_write_48 : decode prog_12_method_13_code 48 = .ok (.getfield 111, 3) := by decide +kernel
theorem d_R_write_51 : decode prog_12_method_13_code 51 = .ok (.ireturn, 1) := by decide +kernel
def B_R_write (_ : Nat × Nat) : PS :=
  (sSq (sIf (cN (e1 (fun x : Int32 => decide (¬ x = 0)) (eX .int (xS 3 X_R_in (aC .long (e1 (fun x : Int32 => x.toInt64) (eI 1)) (aC .long (eV (0 : Int64)) (aC .long (eV (255 : Int64)) aN))))))) (sRt .int (eV (-2 : Int32))) sSk)
    (sSq (sIf (e2 (fun x y : Int32 => decide (x = y)) (eFI 10 1 (eR 0)) (eV (80 : Int32))) (sRt .int (eV (-4 : Int32))) sSk)
    (sSq (sAI (eFR 10 0 (eR 0)) (eFI 10 1 (eR 0)) (eI 1))
    (sSq (sFO 10 1 (fun x y : Int32 => x + y) (eR 0) (eV (1 : Int32)))
    (sRt .int (eFI 10 1 (eR 0)))))))
def X_R_write : PM := fun vs h Q => (lx vs).length ≤ 2 ∧ B_R_write (h.length + 0, hsz h + 0) (fun _ _ => False) (fun _ _ => False) (fun _ _ => False) Q (lini 2 vs) h
theorem v_R_write (l : Launch) : Ctr l y_R_write prog_12_method_13_code 2 (some .int) rm_R_write X_R_write := by
  refine Ctr_of (own := "PackLanesModel") (B := B_R_write) (KR := fun _ Q => Q) (by decide) rfl (fun _ _ _ z => z) (fun _ _ _ _ z => ⟨Or.inl ⟨rfl, rfl⟩, z⟩) (Or.inr (Or.inl rfl)) (fun κ hl ho hR hrt hn0 => ?_)
  subst hl
  unfold B_R_write
  exact (S_sq (pc1 := 15) (S_if1 (pT := 12) (pF := 15) (C_not (T1_ne (pT := 15) (pc2 := 9) (E_x (O_S k_R_103 (v_R_in _) ⟨rfl, rfl⟩ ho (rk hR rfl) (by decide) (pc2 := 6) (A_c catL (pc1 := 2) (E_i2l (pc1 := 1) (E_iln d_R_write_0 rfl) d_R_write_1) (A_c catL (pc1 := 3) (E_lc d_R_write_2 rfl) (A_c catL (pc1 := 6) (E_ldc2 ho w_cl_R_109 d_R_write_3) A_n))) d_R_write_6)) d_R_write_9 rfl)) (S_ri hrt (pc1 := 14) (E_bi d_R_write_12 rfl) d_R_write_14))
    (S_sq (pc1 := 27) (S_if1 (pT := 24) (pF := 27) (J2_eq (pF := 27) (pc1 := 19) (pc2 := 21) (E_fI f_R_111 ho (pc1 := 16) (E_aln d_R_write_15 rfl) d_R_write_16) (E_bi d_R_write_19 rfl) d_R_write_21 rfl) (S_ri hrt (pc1 := 26) (E_bi d_R_write_24 rfl) d_R_write_26))
    (S_sq (pc1 := 37) (S_AI (pc1 := 31) (pc2 := 35) (pc3 := 36) (E_fR f_R_7 ho (pc1 := 28) (E_aln d_R_write_27 rfl) d_R_write_28) (E_fI f_R_111 ho (pc1 := 32) (E_aln d_R_write_31 rfl) d_R_write_32) (E_iln d_R_write_35 rfl) d_R_write_36)
    (S_sq (pc1 := 47) (S_FO f_R_111 f_R_111 ho (pc1 := 38) (pc2 := 43) (E_aln d_R_write_37 rfl) d_R_write_38 d_R_write_39 (E_ic d_R_write_42 rfl) (fun _ _ _ _ _ k => r_iadd d_R_write_43 k) d_R_write_44)
    (S_ri hrt (pc1 := 51) (E_fI f_R_111 ho (pc1 := 48) (E_aln d_R_write_47 rfl) d_R_write_48) d_R_write_51)))))
theorem d_R_wipe_0 : decode prog_12_method_14_code 0 = .ok (.aload_n 0, 1) := by decide +kernel
theorem d_R_wipe_1 : decode prog_12_method_14_code 1 = .ok (.getfield 111, 3) := by decide +kernel
theorem d_R_wipe_4 : decode prog_12_method_14_code 4 = .ok (.istore_n 1, 1) := by decide +kernel
theorem d_R_wipe_5 : decode prog_12_method_14_code 5 = .ok (.aload_n 0, 1) := by decide +kernel
theorem d_R_wipe_6 : decode prog_12_method_14_code 6 = .ok (.iconst 0, 1) := by decide +kernel
theorem d_R_wipe_7 : decode prog_12_method_14_code 7 = .ok (.putfield 111, 3) := by decide +kernel
theorem d_R_wipe_10 : decode prog_12_method_14_code 10 = .ok (.iload_n 1, 1) := by decide +kernel
theorem d_R_wipe_11 : decode prog_12_method_14_code 11 = .ok (.ireturn, 1) := by decide +kernel
def B_R_wipe (_ : Nat × Nat) : PS :=
  (sSq (sI 1 (eFI 10 1 (eR 0)))
    (sSq (sF .int 10 1 (eR 0) (eV (0 : Int32)))
    (sRt .int (eI 1))))
def X_R_wipe : PM := fun vs h Q => (lx vs).length ≤ 2 ∧ B_R_wipe (h.length + 0, hsz h + 0) (fun _ _ => False) (fun _ _ => False) (fun _ _ => False) Q (lini 2 vs) h
theorem v_R_wipe (l : Launch) : Ctr l y_R_wipe prog_12_method_14_code 2 (some .int) rm_R_wipe X_R_wipe := by
  refine Ctr_of (own := "PackLanesModel") (B := B_R_wipe) (KR := fun _ Q => Q) (by decide) rfl (fun _ _ _ z => z) (fun _ _ _ _ z => ⟨Or.inl ⟨rfl, rfl⟩, z⟩) (Or.inr (Or.inl rfl)) (fun κ hl ho hR hrt hn0 => ?_)
  subst hl
  unfold B_R_wipe
  exact (S_sq (pc1 := 5) (S_In (pc1 := 4) (E_fI f_R_111 ho (pc1 := 1) (E_aln d_R_wipe_0 rfl) d_R_wipe_1) d_R_wipe_4 rfl)
    (S_sq (pc1 := 10) (S_FI f_R_111 ho (pc1 := 6) (pc2 := 7) (E_aln d_R_wipe_5 rfl) (E_ic d_R_wipe_6 rfl) d_R_wipe_7)
    (S_ri hrt (pc1 := 11) (E_iln d_R_wipe_10 rfl) d_R_wipe_11)))
theorem d_R_isValueAsRead_0 : decode prog_12_method_15_code 0 = .ok (.iload_n 1, 1) := by decide +kernel
theorem d_R_isValueAsRead_1 : decode prog_12_method_15_code 1 = .ok (.i2l, 1) := by decide +kernel
theorem d_R_isValueAsRead_2 : decode prog_12_method_15_code 2 = .ok (.lconst 0, 1) := by decide +kernel
theorem d_R_isValueAsRead_3 : decode prog_12_method_15_code 3 = .ok (.aload_n 0, 1) := by decide +kernel
theorem d_R_isValueAsRead_4 : decode prog_12_method_15_code 4 = .ok (.getfield 114, 3) := by decide +kernel
theorem d_R_isValueAsRead_7 : decode prog_12_method_15_code 7 = .ok (.iconst 1, 1) := by decide +kernel
theorem d_R_isValueAsRead_8 : decode prog_12_method_15_code 8 = .ok (.isub, 1) := by decide +kernel
theorem d_R_isValueAsRead_9 : decode prog_12_method_15_code 9 = .ok (.i2l, 1) := by decide +kernel
theorem d_R_isValueAsRead_10 : decode prog_12_method_15_code 10 = .ok (.invokestatic 103, 3) := by decide +kernel
theorem d_R_isValueAsRead_13 : decode prog_12_method_15_code 13 = .ok (.ifCond .eq 18, 3) := by decide +kernel
theorem d_R_isValueAsRead_16 : decode prog_12_method_15_code 16 = .ok (.aload_n 0, 1) := by decide +kernel
theorem d_R_isValueAsRead_17 : decode prog_12_method_15_code 17 = .ok (.getfield 83, 3) := by decide +kernel
theorem d_R_isValueAsRead_20 : decode prog_12_method_15_code 20 = .ok (.iload_n 1, 1) := by decide +kernel
theorem d_R_isValueAsRead_21 : decode prog_12_method_15_code 21 = .ok (.iaload, 1) := by decide +kernel
theorem d_R_isValueAsRead_22 : decode prog_12_method_15_code 22 = .ok (.bipush 6, 2) := by decide +kernel
theorem d_R_isValueAsRead_24 : decode prog_12_method_15_code 24 = .ok (.if_icmp .eq 7, 3) := by decide +kernel
theorem d_R_isValueAsRead_27 : decode prog_12_method_15_code 27 = .ok (.iconst 1, 1) := by decide +kernel
theorem d_R_isValueAsRead_28 : decode prog_12_method_15_code 28 = .ok (.goto 4, 3) := by decide +kernel
theorem d_R_isValueAsRead_31 : decode prog_12_method_15_code 31 = .ok (.iconst 0, 1) := by decide +kernel
theorem d_R_isValueAsRead_32 : decode prog_12_method_15_code 32 = .ok (.ireturn, 1) := by decide +kernel
def B_R_isValueAsRead (_ : Nat × Nat) : PS :=
  (sRz (eC (cA (e1 (fun x : Int32 => decide (¬ x = 0)) (eX .int (xS 3 X_R_in (aC .long (e1 (fun x : Int32 => x.toInt64) (eI 1)) (aC .long (eV (0 : Int64)) (aC .long (e1 (fun x : Int32 => x.toInt64) (e2 (fun x y : Int32 => x - y) (eFI 10 43 (eR 0)) (eV (1 : Int32)))) aN)))))) (e2 (fun x y : Int32 => decide (¬ x = y)) (eAI (eFR 10 44 (eR 0)) (eI 1)) (eV (6 : Int32))))))
def X_R_isValueAsRead : PM := fun vs h Q => (lx vs).length ≤ 2 ∧ B_R_isValueAsRead (h.length + 0, hsz h + 0) (fun _ _ => False) (fun _ _ => False) (fun _ _ => False) Q (lini 2 vs) h
theorem v_R_isValueAsRead (l : Launch) : Ctr l y_R_isValueAsRead prog_12_method_15_code 2 (some .boolean) rm_R_isValueAsRead X_R_isValueAsRead := by
  refine Ctr_of (own := "PackLanesModel") (B := B_R_isValueAsRead) (KR := fun _ Q => Q) (by decide) rfl (fun _ _ _ z => z) (fun _ _ _ _ z => ⟨Or.inl ⟨rfl, rfl⟩, z⟩) (Or.inr (Or.inr (Or.inl rfl))) (fun κ hl ho hR hrt hn0 => ?_)
  subst hl
  unfold B_R_isValueAsRead
  exact (S_rz hrt (pc1 := 32) (E_C (pT := 27) (pF := 31) (pc2 := 32) (C_and (pc1 := 16) (J1_ne (pF := 31) (pc2 := 13) (E_x (O_S k_R_103 (v_R_in _) ⟨rfl, rfl⟩ ho (rk hR rfl) (by decide) (pc2 := 10) (A_c catL (pc1 := 2) (E_i2l (pc1 := 1) (E_iln d_R_isValueAsRead_0 rfl) d_R_isValueAsRead_1) (A_c catL (pc1 := 3) (E_lc d_R_isValueAsRead_2 rfl) (A_c catL (pc1 := 10) (E_i2l (pc1 := 9) (E_isub (pc1 := 7) (pc2 := 8) (E_fI f_R_114 ho (pc1 := 4) (E_aln d_R_isValueAsRead_3 rfl) d_R_isValueAsRead_4) (E_ic d_R_isValueAsRead_7 rfl) d_R_isValueAsRead_8) d_R_isValueAsRead_9) A_n))) d_R_isValueAsRead_10)) d_R_isValueAsRead_13 rfl) (J2_ne (pF := 31) (pc1 := 22) (pc2 := 24) (E_aI (pc1 := 20) (pc2 := 21) (E_fR f_R_83 ho (pc1 := 17) (E_aln d_R_isValueAsRead_16 rfl) d_R_isValueAsRead_17) (E_iln d_R_isValueAsRead_20 rfl) d_R_isValueAsRead_21) (E_bi d_R_isValueAsRead_22 rfl) d_R_isValueAsRead_24 rfl)) d_R_isValueAsRead_27 d_R_isValueAsRead_28 rfl d_R_isValueAsRead_31 rfl) d_R_isValueAsRead_32)
theorem d_R_isAnyValueAsRead_0 : decode prog_12_method_16_code 0 = .ok (.iconst 0, 1) := by decide +kernel
theorem d_R_isAnyValueAsRead_1 : decode prog_12_method_16_code 1 = .ok (.istore_n 1, 1) := by decide +kernel
theorem d_R_isAnyValueAsRead_2 : decode prog_12_method_16_code 2 = .ok (.iconst 0, 1) := by decide +kernel
theorem d_R_isAnyValueAsRead_3 : decode prog_12_method_16_code 3 = .ok (.istore_n 2, 1) := by decide +kernel
theorem d_R_isAnyValueAsRead_4 : decode prog_12_method_16_code 4 = .ok (.iload_n 2, 1) := by decide +kernel
theorem d_R_isAnyValueAsRead_5 : decode prog_12_method_16_code 5 = .ok (.aload_n 0, 1) := by decide +kernel
theorem d_R_isAnyValueAsRead_6 : decode prog_12_method_16_code 6 = .ok (.getfield 114, 3) := by decide +kernel
theorem d_R_isAnyValueAsRead_9 : decode prog_12_method_16_code 9 = .ok (.if_icmp .ge 30, 3) := by decide +kernel
theorem d_R_isAnyValueAsRead_12 : decode prog_12_method_16_code 12 = .ok (.iload_n 1, 1) := by decide +kernel
theorem d_R_isAnyValueAsRead_13 : decode prog_12_method_16_code 13 = .ok (.ifCond .ne 14, 3) := by decide +kernel
theorem d_R_isAnyValueAsRead_16 : decode prog_12_method_16_code 16 = .ok (.aload_n 0, 1) := by decide +kernel
theorem d_R_isAnyValueAsRead_17 : decode prog_12_method_16_code 17 = .ok (.getfield 83, 3) := by decide +kernel
theorem d_R_isAnyValueAsRead_20 : decode prog_12_method_16_code 20 = .ok (.iload_n 2, 1) := by decide +kernel
theorem d_R_isAnyValueAsRead_21 : decode prog_12_method_16_code 21 = .ok (.iaload, 1) := by decide +kernel
theorem d_R_isAnyValueAsRead_22 : decode prog_12_method_16_code 22 = .ok (.bipush 6, 2) := by decide +kernel
theorem d_R_isAnyValueAsRead_24 : decode prog_12_method_16_code 24 = .ok (.if_icmp .eq 7, 3) := by decide +kernel
theorem d_R_isAnyValueAsRead_27 : decode prog_12_method_16_code 27 = .ok (.iconst 1, 1) := by decide +kernel
theorem d_R_isAnyValueAsRead_28 : decode prog_12_method_16_code 28 = .ok (.goto 4, 3) := by decide +kernel
theorem d_R_isAnyValueAsRead_31 : decode prog_12_method_16_code 31 = .ok (.iconst 0, 1) := by decide +kernel
theorem d_R_isAnyValueAsRead_32 : decode prog_12_method_16_code 32 = .ok (.istore_n 1, 1) := by decide +kernel
theorem d_R_isAnyValueAsRead_33 : decode prog_12_method_16_code 33 = .ok (.iinc 2 1, 3) := by decide +kernel
theorem d_R_isAnyValueAsRead_36 : decode prog_12_method_16_code 36 = .ok (.goto (-32), 3) := by decide +kernel
theorem d_R_isAnyValueAsRead_39 : decode prog_12_method_16_code 39 = .ok (.iload_n 1, 1) := by decide +kernel
theorem d_R_isAnyValueAsRead_40 : decode prog_12_method_16_code 40 = .ok (.ireturn, 1) := by decide +kernel
def B_R_isAnyValueAsRead (_ : Nat × Nat) : PS :=
  (sSq (sI 1 (eV (0 : Int32)))
    (sSq (sCut 2 (sSq (sI 2 (eV (0 : Int32)))
    (sLp 3 (e2 (fun x y : Int32 => decide (x < y)) (eI 2) (eFI 10 43 (eR 0)))
    (sI 1 (eC (cO (e1 (fun x : Int32 => decide (¬ x = 0)) (eI 1)) (e2 (fun x y : Int32 => decide (¬ x = y)) (eAI (eFR 10 44 (eR 0)) (eI 2)) (eV (6 : Int32))))))
    (sInc 2 (1)))))
    (sRz (eI 1))))
def X_R_isAnyValueAsRead : PM := fun vs h Q => (lx vs).length ≤ 3 ∧ B_R_isAnyValueAsRead (h.length + 0, hsz h + 0) (fun _ _ => False) (fun _ _ => False) (fun _ _ => False) Q (lini 3 vs) h
theorem v_R_isAnyValueAsRead (l : Launch) : Ctr l y_R_isAnyValueAsRead prog_12_method_16_code 3 (some .boolean) rm_R_isAnyValueAsRead X_R_isAnyValueAsRead := by
  refine Ctr_of (own := "PackLanesModel") (B := B_R_isAnyValueAsRead) (KR := fun _ Q => Q) (by decide) rfl (fun _ _ _ z => z) (fun _ _ _ _ z => ⟨Or.inl ⟨rfl, rfl⟩, z⟩) (Or.inr (Or.inr (Or.inl rfl))) (fun κ hl ho hR hrt hn0 => ?_)
  subst hl
  unfold B_R_isAnyValueAsRead
  exact (S_sq (pc1 := 2) (S_In (pc1 := 1) (E_ic d_R_isAnyValueAsRead_0 rfl) d_R_isAnyValueAsRead_1 rfl)
    (S_sq (pc1 := 39) (S_cut (S_sq (pc1 := 4) (S_In (pc1 := 3) (E_ic d_R_isAnyValueAsRead_2 rfl) d_R_isAnyValueAsRead_3 rfl)
    (S_lp (pT := 12) (pF := 39) (pS := 33) (pG := 36) (J2_lt (pF := 39) (pc1 := 5) (pc2 := 9) (E_iln d_R_isAnyValueAsRead_4 rfl) (E_fI f_R_114 ho (pc1 := 6) (E_aln d_R_isAnyValueAsRead_5 rfl) d_R_isAnyValueAsRead_6) d_R_isAnyValueAsRead_9 rfl)
    (S_In (pc1 := 32) (E_C (pT := 27) (pF := 31) (pc2 := 32) (C_or (pc1 := 16) (T1_ne (pT := 27) (pc2 := 13) (E_iln d_R_isAnyValueAsRead_12 rfl) d_R_isAnyValueAsRead_13 rfl) (J2_ne (pF := 31) (pc1 := 22) (pc2 := 24) (E_aI (pc1 := 20) (pc2 := 21) (E_fR f_R_83 ho (pc1 := 17) (E_aln d_R_isAnyValueAsRead_16 rfl) d_R_isAnyValueAsRead_17) (E_iln d_R_isAnyValueAsRead_20 rfl) d_R_isAnyValueAsRead_21) (E_bi d_R_isAnyValueAsRead_22 rfl) d_R_isAnyValueAsRead_24 rfl)) d_R_isAnyValueAsRead_27 d_R_isAnyValueAsRead_28 rfl d_R_isAnyValueAsRead_31 rfl) d_R_isAnyValueAsRead_32 rfl)
    (S_Inc d_R_isAnyValueAsRead_33 rfl) d_R_isAnyValueAsRead_36 rfl)))
    (S_rz hrt (pc1 := 40) (E_iln d_R_isAnyValueAsRead_39 rfl) d_R_isAnyValueAsRead_40)))
theorem d_R_takeHead_0 : decode prog_12_method_17_code 0 = .ok (.aload_n 0, 1) := by decide +kernel
theorem d_R_takeHead_1 : decode prog_12_method_17_code 1 = .ok (.dup, 1) := by decide +kernel
theorem d_R_takeHead_2 : decode prog_12_method_17_code 2 = .ok (.getfield 117, 3) := by decide +kernel
theorem d_R_takeHead_5 : decode prog_12_method_17_code 5 = .ok (.iconst 1, 1) := by decide +kernel
theorem d_R_takeHead_6 : decode prog_12_method_17_code 6 = .ok (.iadd, 1) := by decide +kernel
theorem d_R_takeHead_7 : decode prog_12_method_17_code 7 = .ok (.putfield 117, 3) := by decide +kernel
theorem d_R_takeHead_10 : decode prog_12_method_17_code 10 = .ok (.aload_n 0, 1) := by decide +kernel
theorem d_R_takeHead_11 : decode prog_12_method_17_code 11 = .ok (.getfield 117, 3) := by decide +kernel
theorem d_R_takeHead_14 : decode prog_12_method_17_code 14 = .ok (.iconst 1, 1) := by decide +kernel
theorem d_R_takeHead_15 : decode prog_12_method_17_code 15 = .ok (.if_icmp .ne 18, 3) := by decide +kernel
theorem d_R_takeHead_18 : decode prog_12_method_17_code 18 = .ok (.aload_n 0, 1) := by decide +kernel
theorem d_R_takeHead_19 : decode prog_12_method_17_code 19 = .ok (.iload_n 1, 1) := by decide +kernel
theorem d_R_takeHead_20 : decode prog_12_method_17_code 20 = .ok (.putfield 120, 3) := by decide +kernel
theorem d_R_takeHead_23 : decode prog_12_method_17_code 23 = .ok (.iload_n 1, 1) := by decide +kernel
theorem d_R_takeHead_24 : decode prog_12_method_17_code 24 = .ok (.i2l, 1) := by decide +kernel
theorem d_R_takeHead_25 : decode prog_12_method_17_code 25 = .ok (.lconst 0, 1) := by decide +kernel
theorem d_R_takeHead_26 : decode prog_12_method_17_code 26 = .ok (.ldc2_w 123, 3) := by decide +kernel
theorem d_R_takeHead_29 : decode prog_12_method_17_code 29 = .ok (.invokestatic 103, 3) := by decide +kernel
theorem d_R_takeHead_32 : decode prog_12_method_17_code 32 = .ok (.ireturn, 1) := by decide +kernel
theorem d_R_takeHead_33 : decode prog_12_method_17_code 33 = .ok (.aload_n 0, 1) := by decide +kernel
theorem d_R_takeHead_34 : decode prog_12_method_17_code 34 = .ok (.getfield 117, 3) := by decide +kernel
theorem d_R_takeHead_37 : decode prog_12_method_17_code 37 = .ok (.iconst 2, 1) := by decide +kernel
theorem d_R_takeHead_38 : decode prog_12_method_17_code 38 = .ok (.if_icmp .ne 16, 3) := by decide +kernel
theorem d_R_takeHead_41 : decode prog_12_method_17_code 41 = .ok (.aload_n 0, 1) := by decide +kernel
theorem d_R_takeHead_42 : decode prog_12_method_17_code 42 = .ok (.iload_n 1, 1) := by decide +kernel
theorem d_R_takeHead_43 : decode prog_12_method_17_code 43 = .ok (.putfield 125, 3) := by decide +kernel
theorem d_R_takeHead_46 : decode prog_12_method_17_code 46 = .ok (.iload_n 1, 1) := by decide +kernel
theorem d_R_takeHead_47 : decode prog_12_method_17_code 47 = .ok (.i2l, 1) := by decide +kernel
theorem d_R_takeHead_48 : decode prog_12_method_17_code 48 = .ok (.lconst 0, 1) := by decide +kernel
theorem d_R_takeHead_49 : decode prog_12_method_17_code 49 = .ok (.lconst 1, 1) := by decide +kernel
theorem d_R_takeHead_50 : decode prog_12_method_17_code 50 = .ok (.invokestatic 103, 3) := by decide +kernel
theorem d_R_takeHead_53 : decode prog_12_method_17_code 53 = .ok (.ireturn, 1) := by decide +kernel
theorem d_R_takeHead_54 : decode prog_12_method_17_code 54 = .ok (.aload_n 0, 1) := by decide +kernel
theorem d_R_takeHead_55 : decode prog_12_method_17_code 55 = .ok (.iload_n 1, 1) := by decide +kernel
theorem d_R_takeHead_56 : decode prog_12_method_17_code 56 = .ok (.putfield 128, 3) := by decide +kernel
theorem d_R_takeHead_59 : decode prog_12_method_17_code 59 = .ok (.aload_n 0, 1) := by decide +kernel
theorem d_R_takeHead_60 : decode prog_12_method_17_code 60 = .ok (.iconst 0, 1) := by decide +kernel
theorem d_R_takeHead_61 : decode prog_12_method_17_code 61 = .ok (.putfield 131, 3) := by decide +kernel
theorem d_R_takeHead_64 : decode prog_12_method_17_code 64 = .ok (.iload_n 1, 1) := by decide +kernel
theorem d_R_takeHead_65 : decode prog_12_method_17_code 65 = .ok (.iconst 2, 1) := by decide +kernel
theorem d_R_takeHead_66 : decode prog_12_method_17_code 66 = .ok (.if_icmp .eq 8, 3) := by decide +kernel
theorem d_R_takeHead_69 : decode prog_12_method_17_code 69 = .ok (.iload_n 1, 1) := by decide +kernel
theorem d_R_takeHead_70 : decode prog_12_method_17_code 70 = .ok (.iconst 4, 1) := by decide +kernel
theorem d_R_takeHead_71 : decode prog_12_method_17_code 71 = .ok (.if_icmp .ne 7, 3) := by decide +kernel
theorem d_R_takeHead_74 : decode prog_12_method_17_code 74 = .ok (.iconst 1, 1) := by decide +kernel
theorem d_R_takeHead_75 : decode prog_12_method_17_code 75 = .ok (.goto 4, 3) := by decide +kernel
theorem d_R_takeHead_78 : decode prog_12_method_17_code 78 = .ok (.iconst 0, 1) := by decide +kernel
theorem d_R_takeHead_79 : decode prog_12_method_17_code 79 = .ok (.ireturn, 1) := by decide +kernel
def B_R_takeHead (_ : Nat × Nat) : PS :=
  (sSq (sFO 10 49 (fun x y : Int32 => x + y) (eR 0) (eV (1 : Int32)))
    (sSq (sIf (e2 (fun x y : Int32 => decide (x = y)) (eFI 10 49 (eR 0)) (eV (1 : Int32))) (sSq (sF .int 10 40 (eR 0) (eI 1))
    (sRz (eX .int (xS 3 X_R_in (aC .long (e1 (fun x : Int32 => x.toInt64) (eI 1)) (aC .long (eV (0 : Int64)) (aC .long (eV (8 : Int64)) aN))))))) sSk)
    (sSq (sIf (e2 (fun x y : Int32 => decide (x = y)) (eFI 10 49 (eR 0)) (eV (2 : Int32))) (sSq (sF .int 10 41 (eR 0) (eI 1))
    (sRz (eX .int (xS 3 X_R_in (aC .long (e1 (fun x : Int32 => x.toInt64) (eI 1)) (aC .long (eV (0 : Int64)) (aC .long (eV (1 : Int64)) aN))))))) sSk)
    (sSq (sF .int 10 42 (eR 0) (eI 1))
    (sSq (sF .int 10 48 (eR 0) (eV (0 : Int32)))
    (sRz (eC (cO (e2 (fun x y : Int32 => decide (x = y)) (eI 1) (eV (2 : Int32))) (e2 (fun x y : Int32 => decide (x = y)) (eI 1) (eV (4 : Int32)))))))))))
def X_R_takeHead : PM := fun vs h Q => (lx vs).length ≤ 2 ∧ B_R_takeHead (h.length + 0, hsz h + 0) (fun _ _ => False) (fun _ _ => False) (fun _ _ => False) Q (lini 2 vs) h
theorem v_R_takeHead (l : Launch) : Ctr l y_R_takeHead prog_12_method_17_code 2 (some .boolean) rm_R_takeHead X_R_takeHead := by
  refine Ctr_of (own := "PackLanesModel") (B := B_R_takeHead) (KR := fun _ Q => Q) (by decide) rfl (fun _ _ _ z => z) (fun _ _ _ _ z => ⟨Or.inl ⟨rfl, rfl⟩, z⟩) (Or.inr (Or.inr (Or.inl rfl))) (fun κ hl ho hR hrt hn0 => ?_)
  subst hl
  unfold B_R_takeHead
  exact (S_sq (pc1 := 10) (S_FO f_R_117 f_R_117 ho (pc1 := 1) (pc2 := 6) (E_aln d_R_takeHead_0 rfl) d_R_takeHead_1 d_R_takeHead_2 (E_ic d_R_takeHead_5 rfl) (fun _ _ _ _ _ k => r_iadd d_R_takeHead_6 k) d_R_takeHead_7)
    (S_sq (pc1 := 33) (S_if1 (pT := 18) (pF := 33) (J2_eq (pF := 33) (pc1 := 14) (pc2 := 15) (E_fI f_R_117 ho (pc1 := 11) (E_aln d_R_takeHead_10 rfl) d_R_takeHead_11) (E_ic d_R_takeHead_14 rfl) d_R_takeHead_15 rfl) (S_sq (pc1 := 23) (S_FI f_R_120 ho (pc1 := 19) (pc2 := 20) (E_aln d_R_takeHead_18 rfl) (E_iln d_R_takeHead_19 rfl) d_R_takeHead_20)
    (S_rz hrt (pc1 := 32) (E_x (O_S k_R_103 (v_R_in _) ⟨rfl, rfl⟩ ho (rk hR rfl) (by decide) (pc2 := 29) (A_c catL (pc1 := 25) (E_i2l (pc1 := 24) (E_iln d_R_takeHead_23 rfl) d_R_takeHead_24) (A_c catL (pc1 := 26) (E_lc d_R_takeHead_25 rfl) (A_c catL (pc1 := 29) (E_ldc2 ho w_cl_R_123 d_R_takeHead_26) A_n))) d_R_takeHead_29)) d_R_takeHead_32)))
    (S_sq (pc1 := 54) (S_if1 (pT := 41) (pF := 54) (J2_eq (pF := 54) (pc1 := 37) (pc2 := 38) (E_fI f_R_117 ho (pc1 := 34) (E_aln d_R_takeHead_33 rfl) d_R_takeHead_34) (E_ic d_R_takeHead_37 rfl) d_R_takeHead_38 rfl) (S_sq (pc1 := 46) (S_FI f_R_125 ho (pc1 := 42) (pc2 := 43) (E_aln d_R_takeHead_41 rfl) (E_iln d_R_takeHead_42 rfl) d_R_takeHead_43)
    (S_rz hrt (pc1 := 53) (E_x (O_S k_R_103 (v_R_in _) ⟨rfl, rfl⟩ ho (rk hR rfl) (by decide) (pc2 := 50) (A_c catL (pc1 := 48) (E_i2l (pc1 := 47) (E_iln d_R_takeHead_46 rfl) d_R_takeHead_47) (A_c catL (pc1 := 49) (E_lc d_R_takeHead_48 rfl) (A_c catL (pc1 := 50) (E_lc d_R_takeHead_49 rfl) A_n))) d_R_takeHead_50)) d_R_takeHead_53)))
    (S_sq (pc1 := 59) (S_FI f_R_128 ho (pc1 := 55) (pc2 := 56) (E_aln d_R_takeHead_54 rfl) (E_iln d_R_takeHead_55 rfl) d_R_takeHead_56)
    (S_sq (pc1 := 64) (S_FI f_R_131 ho (pc1 := 60) (pc2 := 61) (E_aln d_R_takeHead_59 rfl) (E_ic d_R_takeHead_60 rfl) d_R_takeHead_61)
    (S_rz hrt (pc1 := 79) (E_C (pT := 74) (pF := 78) (pc2 := 79) (C_or (pc1 := 69) (T2_eq (pT := 74) (pc1 := 65) (pc2 := 66) (E_iln d_R_takeHead_64 rfl) (E_ic d_R_takeHead_65 rfl) d_R_takeHead_66 rfl) (J2_eq (pF := 78) (pc1 := 70) (pc2 := 71) (E_iln d_R_takeHead_69 rfl) (E_ic d_R_takeHead_70 rfl) d_R_takeHead_71 rfl)) d_R_takeHead_74 d_R_takeHead_75 rfl d_R_takeHead_78 rfl) d_R_takeHead_79))))))
theorem d_R_kindOf_0 : decode prog_12_method_18_code 0 = .ok (.iload_n 0, 1) := by decide +kernel
theorem d_R_kindOf_1 : decode prog_12_method_18_code 1 = .ok (.lookupswitch 82 #[(42, 75), (43, 71), (45, 73), (47, 77), (107, 69), (108, 67), (115, 79)], 67) := by decide +kernel
theorem d_R_kindOf_68 : decode prog_12_method_18_code 68 = .ok (.iconst 0, 1) := by decide +kernel
theorem d_R_kindOf_69 : decode prog_12_method_18_code 69 = .ok (.ireturn, 1) := by decide +kernel
theorem d_R_kindOf_70 : decode prog_12_method_18_code 70 = .ok (.iconst 1, 1) := by decide +kernel
theorem d_R_kindOf_71 : decode prog_12_method_18_code 71 = .ok (.ireturn, 1) := by decide +kernel
theorem d_R_kindOf_72 : decode prog_12_method_18_code 72 = .ok (.iconst 2, 1) := by decide +kernel
theorem d_R_kindOf_73 : decode prog_12_method_18_code 73 = .ok (.ireturn, 1) := by decide +kernel
theorem d_R_kindOf_74 : decode prog_12_method_18_code 74 = .ok (.iconst 3, 1) := by decide +kernel
theorem d_R_kindOf_75 : decode prog_12_method_18_code 75 = .ok (.ireturn, 1) := by decide +kernel
theorem d_R_kindOf_76 : decode prog_12_method_18_code 76 = .ok (.iconst 4, 1) := by decide +kernel
theorem d_R_kindOf_77 : decode prog_12_method_18_code 77 = .ok (.ireturn, 1) := by decide +kernel
theorem d_R_kindOf_78 : decode prog_12_method_18_code 78 = .ok (.iconst 5, 1) := by decide +kernel
theorem d_R_kindOf_79 : decode prog_12_method_18_code 79 = .ok (.ireturn, 1) := by decide +kernel
theorem d_R_kindOf_80 : decode prog_12_method_18_code 80 = .ok (.bipush 6, 2) := by decide +kernel
theorem d_R_kindOf_82 : decode prog_12_method_18_code 82 = .ok (.ireturn, 1) := by decide +kernel
theorem d_R_kindOf_83 : decode prog_12_method_18_code 83 = .ok (.bipush (-9), 2) := by decide +kernel
theorem d_R_kindOf_85 : decode prog_12_method_18_code 85 = .ok (.ireturn, 1) := by decide +kernel
def B_R_kindOf (_ : Nat × Nat) : PS :=
  (sSw 1 (eI 0) [(42, 4), (43, 2), (45, 3), (47, 5), (107, 1), (108, 0), (115, 6)] 7 [(sRt .int (eV (0 : Int32))),
    (sRt .int (eV (1 : Int32))),
    (sRt .int (eV (2 : Int32))),
    (sRt .int (eV (3 : Int32))),
    (sRt .int (eV (4 : Int32))),
    (sRt .int (eV (5 : Int32))),
    (sRt .int (eV (6 : Int32))),
    (sRt .int (eV (-9 : Int32)))])
def X_R_kindOf : PM := fun vs h Q => (lx vs).length ≤ 1 ∧ B_R_kindOf (h.length + 0, hsz h + 0) (fun _ _ => False) (fun _ _ => False) (fun _ _ => False) Q (lini 1 vs) h
theorem v_R_kindOf (l : Launch) : Ctr l y_R_kindOf prog_12_method_18_code 1 (some .int) rm_R_kindOf X_R_kindOf := by
  refine Ctr_of (own := "PackLanesModel") (B := B_R_kindOf) (KR := fun _ Q => Q) (by decide) rfl (fun _ _ _ z => z) (fun _ _ _ _ z => ⟨Or.inl ⟨rfl, rfl⟩, z⟩) (Or.inr (Or.inl rfl)) (fun κ hl ho hR hrt hn0 => ?_)
  subst hl
  unfold B_R_kindOf
  exact (S_sw (pcs := [68, 70, 72, 74, 76, 78, 80, 83, _]) (pc1 := 1)  (E_iln d_R_kindOf_0 rfl) (fun _ _ _ k => r_lsw d_R_kindOf_1 (by decide +kernel) k) (And.intro (S_ri hrt (pc1 := 69) (E_ic d_R_kindOf_68 rfl) d_R_kindOf_69)
    (And.intro (S_ri hrt (pc1 := 71) (E_ic d_R_kindOf_70 rfl) d_R_kindOf_71)
    (And.intro (S_ri hrt (pc1 := 73) (E_ic d_R_kindOf_72 rfl) d_R_kindOf_73)
    (And.intro (S_ri hrt (pc1 := 75) (E_ic d_R_kindOf_74 rfl) d_R_kindOf_75)
    (And.intro (S_ri hrt (pc1 := 77) (E_ic d_R_kindOf_76 rfl) d_R_kindOf_77)
    (And.intro (S_ri hrt (pc1 := 79) (E_ic d_R_kindOf_78 rfl) d_R_kindOf_79)
    (And.intro (S_ri hrt (pc1 := 82) (E_bi d_R_kindOf_80 rfl) d_R_kindOf_82)
    (And.intro (S_ri hrt (pc1 := 85) (E_bi d_R_kindOf_83 rfl) d_R_kindOf_85)
    rfl)))))))) (by decide))
theorem d_R_takeSign_0 : decode prog_12_method_19_code 0 = .ok (.iload_n 1, 1) := by decide +kernel
theorem d_R_takeSign_1 : decode prog_12_method_19_code 1 = .ok (.invokestatic 134, 3) := by decide +kernel
theorem d_R_takeSign_4 : decode prog_12_method_19_code 4 = .ok (.istore_n 2, 1) := by decide +kernel
theorem d_R_takeSign_5 : decode prog_12_method_19_code 5 = .ok (.iload_n 2, 1) := by decide +kernel
theorem d_R_takeSign_6 : decode prog_12_method_19_code 6 = .ok (.bipush (-9), 2) := by decide +kernel
theorem d_R_takeSign_8 : decode prog_12_method_19_code 8 = .ok (.if_icmp .eq 12, 3) := by decide +kernel
theorem d_R_takeSign_11 : decode prog_12_method_19_code 11 = .ok (.aload_n 0, 1) := by decide +kernel
theorem d_R_takeSign_12 : decode prog_12_method_19_code 12 = .ok (.getfield 114, 3) := by decide +kernel
theorem d_R_takeSign_15 : decode prog_12_method_19_code 15 = .ok (.bipush 16, 2) := by decide +kernel
theorem d_R_takeSign_17 : decode prog_12_method_19_code 17 = .ok (.if_icmp .ne 5, 3) := by decide +kernel
theorem d_R_takeSign_20 : decode prog_12_method_19_code 20 = .ok (.iconst 0, 1) := by decide +kernel
theorem d_R_takeSign_21 : decode prog_12_method_19_code 21 = .ok (.ireturn, 1) := by decide +kernel
theorem d_R_takeSign_22 : decode prog_12_method_19_code 22 = .ok (.aload_n 0, 1) := by decide +kernel
theorem d_R_takeSign_23 : decode prog_12_method_19_code 23 = .ok (.getfield 83, 3) := by decide +kernel
theorem d_R_takeSign_26 : decode prog_12_method_19_code 26 = .ok (.aload_n 0, 1) := by decide +kernel
theorem d_R_takeSign_27 : decode prog_12_method_19_code 27 = .ok (.getfield 114, 3) := by decide +kernel
theorem d_R_takeSign_30 : decode prog_12_method_19_code 30 = .ok (.iload_n 2, 1) := by decide +kernel
theorem d_R_takeSign_31 : decode prog_12_method_19_code 31 = .ok (.iastore, 1) := by decide +kernel
theorem d_R_takeSign_32 : decode prog_12_method_19_code 32 = .ok (.aload_n 0, 1) := by decide +kernel
theorem d_R_takeSign_33 : decode prog_12_method_19_code 33 = .ok (.iconst 2, 1) := by decide +kernel
theorem d_R_takeSign_34 : decode prog_12_method_19_code 34 = .ok (.putfield 131, 3) := by decide +kernel
theorem d_R_takeSign_37 : decode prog_12_method_19_code 37 = .ok (.aload_n 0, 1) := by decide +kernel
theorem d_R_takeSign_38 : decode prog_12_method_19_code 38 = .ok (.iconst 0, 1) := by decide +kernel
theorem d_R_takeSign_39 : decode prog_12_method_19_code 39 = .ok (.putfield 117, 3) := by decide +kernel
theorem d_R_takeSign_42 : decode prog_12_method_19_code 42 = .ok (.iload_n 2, 1) := by decide +kernel
theorem d_R_takeSign_43 : decode prog_12_method_19_code 43 = .ok (.ifCond .eq 15, 3) := by decide +kernel
theorem d_R_takeSign_46 : decode prog_12_method_19_code 46 = .ok (.iload_n 2, 1) := by decide +kernel
theorem d_R_takeSign_47 : decode prog_12_method_19_code 47 = .ok (.iconst 1, 1) := by decide +kernel
theorem d_R_takeSign_48 : decode prog_12_method_19_code 48 = .ok (.if_icmp .eq 10, 3) := by decide +kernel
theorem d_R_takeSign_51 : decode prog_12_method_19_code 51 = .ok (.aload_n 0, 1) := by decide +kernel
theorem d_R_takeSign_52 : decode prog_12_method_19_code 52 = .ok (.invokevirtual 138, 3) := by decide +kernel
theorem d_R_takeSign_55 : decode prog_12_method_19_code 55 = .ok (.ifCond .eq 7, 3) := by decide +kernel
theorem d_R_takeSign_58 : decode prog_12_method_19_code 58 = .ok (.iconst 1, 1) := by decide +kernel
theorem d_R_takeSign_59 : decode prog_12_method_19_code 59 = .ok (.goto 4, 3) := by decide +kernel
theorem d_R_takeSign_62 : decode prog_12_method_19_code 62 = .ok (.iconst 0, 1) := by decide +kernel
theorem d_R_takeSign_63 : decode prog_12_method_19_code 63 = .ok (.ireturn, 1) := by decide +kernel
def B_R_takeSign (_ : Nat × Nat) : PS :=
  (sSq (sI 2 (eX .int (xS 1 X_R_kindOf (aC .int (eI 1) aN))))
    (sSq (sIf (cO (e2 (fun x y : Int32 => decide (x = y)) (eI 2) (eV (-9 : Int32))) (e2 (fun x y : Int32 => decide (x = y)) (eFI 10 43 (eR 0)) (eV (16 : Int32)))) (sRz (eV (0 : Int32))) sSk)
    (sSq (sAI (eFR 10 44 (eR 0)) (eFI 10 43 (eR 0)) (eI 2))
    (sSq (sF .int 10 48 (eR 0) (eV (2 : Int32)))
    (sSq (sF .int 10 49 (eR 0) (eV (0 : Int32)))
    (sRz (eC (cO (cO (e1 (fun x : Int32 => decide (x = 0)) (eI 2)) (e2 (fun x y : Int32 => decide (x = y)) (eI 2) (eV (1 : Int32)))) (e1 (fun x : Int32 => decide (¬ x = 0)) (eX .int (xV 10 0 X_R_isAnyValueAsRead (eR 0) aN)))))))))))
def X_R_takeSign : PM := fun vs h Q => (lx vs).length ≤ 3 ∧ B_R_takeSign (h.length + 0, hsz h + 0) (fun _ _ => False) (fun _ _ => False) (fun _ _ => False) Q (lini 3 vs) h
theorem v_R_takeSign (l : Launch) : Ctr l y_R_takeSign prog_12_method_19_code 3 (some .boolean) rm_R_takeSign X_R_takeSign := by
  refine Ctr_of (own := "PackLanesModel") (B := B_R_takeSign) (KR := fun _ Q => Q) (by decide) rfl (fun _ _ _ z => z) (fun _ _ _ _ z => ⟨Or.inl ⟨rfl, rfl⟩, z⟩) (Or.inr (Or.inr (Or.inl rfl))) (fun κ hl ho hR hrt hn0 => ?_)
  subst hl
  unfold B_R_takeSign
  exact (S_sq (pc1 := 5) (S_In (pc1 := 4) (E_x (O_S k_R_134 (v_R_kindOf _) ⟨rfl, rfl⟩ ho (rk hR rfl) (by decide) (pc2 := 1) (A_c catI (pc1 := 1) (E_iln d_R_takeSign_0 rfl) A_n) d_R_takeSign_1)) d_R_takeSign_4 rfl)
    (S_sq (pc1 := 22) (S_if1 (pT := 20) (pF := 22) (C_or (pc1 := 11) (T2_eq (pT := 20) (pc1 := 6) (pc2 := 8) (E_iln d_R_takeSign_5 rfl) (E_bi d_R_takeSign_6 rfl) d_R_takeSign_8 rfl) (J2_eq (pF := 22) (pc1 := 15) (pc2 := 17) (E_fI f_R_114 ho (pc1 := 12) (E_aln d_R_takeSign_11 rfl) d_R_takeSign_12) (E_bi d_R_takeSign_15 rfl) d_R_takeSign_17 rfl)) (S_rz hrt (pc1 := 21) (E_ic d_R_takeSign_20 rfl) d_R_takeSign_21))
    (S_sq (pc1 := 32) (S_AI (pc1 := 26) (pc2 := 30) (pc3 := 31) (E_fR f_R_83 ho (pc1 := 23) (E_aln d_R_takeSign_22 rfl) d_R_takeSign_23) (E_fI f_R_114 ho (pc1 := 27) (E_aln d_R_takeSign_26 rfl) d_R_takeSign_27) (E_iln d_R_takeSign_30 rfl) d_R_takeSign_31)
    (S_sq (pc1 := 37) (S_FI f_R_131 ho (pc1 := 33) (pc2 := 34) (E_aln d_R_takeSign_32 rfl) (E_ic d_R_takeSign_33 rfl) d_R_takeSign_34)
    (S_sq (pc1 := 42) (S_FI f_R_117 ho (pc1 := 38) (pc2 := 39) (E_aln d_R_takeSign_37 rfl) (E_ic d_R_takeSign_38 rfl) d_R_takeSign_39)
    (S_rz hrt (pc1 := 63) (E_C (pT := 58) (pF := 62) (pc2 := 63) (C_or (pc1 := 51) (C_or (pc1 := 46) (T1_eq (pT := 58) (pc2 := 43) (E_iln d_R_takeSign_42 rfl) d_R_takeSign_43 rfl) (T2_eq (pT := 58) (pc1 := 47) (pc2 := 48) (E_iln d_R_takeSign_46 rfl) (E_ic d_R_takeSign_47 rfl) d_R_takeSign_48 rfl)) (J1_ne (pF := 62) (pc2 := 55) (E_x (O_V k_R_138 (v_R_isAnyValueAsRead _) ⟨rfl, rfl⟩ ho (rk hR rfl) (by decide) (T := KT10) (N := 50) rfl (by decide) (pc1 := 52) (pc2 := 52) (E_aln d_R_takeSign_51 rfl) A_n d_R_takeSign_52)) d_R_takeSign_55 rfl)) d_R_takeSign_58 d_R_takeSign_59 rfl d_R_takeSign_62 rfl) d_R_takeSign_63))))))
theorem d_R_done_0 : decode prog_12_method_20_code 0 = .ok (.iload_n 1, 1) := by decide +kernel
theorem d_R_done_1 : decode prog_12_method_20_code 1 = .ok (.ifCond .eq 18, 3) := by decide +kernel
theorem d_R_done_4 : decode prog_12_method_20_code 4 = .ok (.aload_n 0, 1) := by decide +kernel
theorem d_R_done_5 : decode prog_12_method_20_code 5 = .ok (.dup, 1) := by decide +kernel
theorem d_R_done_6 : decode prog_12_method_20_code 6 = .ok (.getfield 114, 3) := by decide +kernel
theorem d_R_done_9 : decode prog_12_method_20_code 9 = .ok (.iconst 1, 1) := by decide +kernel
theorem d_R_done_10 : decode prog_12_method_20_code 10 = .ok (.iadd, 1) := by decide +kernel
theorem d_R_done_11 : decode prog_12_method_20_code 11 = .ok (.putfield 114, 3) := by decide +kernel
theorem d_R_done_14 : decode prog_12_method_20_code 14 = .ok (.aload_n 0, 1) := by decide +kernel
theorem d_R_done_15 : decode prog_12_method_20_code 15 = .ok (.iconst 0, 1) := by decide +kernel
theorem d_R_done_16 : decode prog_12_method_20_code 16 = .ok (.putfield 131, 3) := by decide +kernel
theorem d_R_done_19 : decode prog_12_method_20_code 19 = .ok (.iload_n 1, 1) := by decide +kernel
theorem d_R_done_20 : decode prog_12_method_20_code 20 = .ok (.ireturn, 1) := by decide +kernel
def B_R_done (_ : Nat × Nat) : PS :=
  (sSq (sIf (e1 (fun x : Int32 => decide (¬ x = 0)) (eI 1)) (sSq (sFO 10 43 (fun x y : Int32 => x + y) (eR 0) (eV (1 : Int32)))
    (sF .int 10 48 (eR 0) (eV (0 : Int32)))) sSk)
    (sRz (eI 1)))
def X_R_done : PM := fun vs h Q => (lx vs).length ≤ 2 ∧ B_R_done (h.length + 0, hsz h + 0) (fun _ _ => False) (fun _ _ => False) (fun _ _ => False) Q (lini 2 vs) h
theorem v_R_done (l : Launch) : Ctr l y_R_done prog_12_method_20_code 2 (some .boolean) rm_R_done X_R_done := by
  refine Ctr_of (own := "PackLanesModel") (B := B_R_done) (KR := fun _ Q => Q) (by decide) rfl (fun _ _ _ z => z) (fun _ _ _ _ z => ⟨Or.inl ⟨rfl, rfl⟩, z⟩) (Or.inr (Or.inr (Or.inl rfl))) (fun κ hl ho hR hrt hn0 => ?_)
  subst hl
  unfold B_R_done
  exact (S_sq (pc1 := 19) (S_if1 (pT := 4) (pF := 19) (J1_ne (pF := 19) (pc2 := 1) (E_iln d_R_done_0 rfl) d_R_done_1 rfl) (S_sq (pc1 := 14) (S_FO f_R_114 f_R_114 ho (pc1 := 5) (pc2 := 10) (E_aln d_R_done_4 rfl) d_R_done_5 d_R_done_6 (E_ic d_R_done_9 rfl) (fun _ _ _ _ _ k => r_iadd d_R_done_10 k) d_R_done_11)
    (S_FI f_R_131 ho (pc1 := 15) (pc2 := 16) (E_aln d_R_done_14 rfl) (E_ic d_R_done_15 rfl) d_R_done_16)))
    (S_rz hrt (pc1 := 20) (E_iln d_R_done_19 rfl) d_R_done_20))
theorem d_R_takeOf_0 : decode prog_12_method_21_code 0 = .ok (.aload_n 0, 1) := by decide +kernel
theorem d_R_takeOf_1 : decode prog_12_method_21_code 1 = .ok (.getfield 83, 3) := by decide +kernel
theorem d_R_takeOf_4 : decode prog_12_method_21_code 4 = .ok (.aload_n 0, 1) := by decide +kernel
theorem d_R_takeOf_5 : decode prog_12_method_21_code 5 = .ok (.getfield 114, 3) := by decide +kernel
theorem d_R_takeOf_8 : decode prog_12_method_21_code 8 = .ok (.iaload, 1) := by decide +kernel
theorem d_R_takeOf_9 : decode prog_12_method_21_code 9 = .ok (.istore_n 2, 1) := by decide +kernel
theorem d_R_takeOf_10 : decode prog_12_method_21_code 10 = .ok (.aload_n 0, 1) := by decide +kernel
theorem d_R_takeOf_11 : decode prog_12_method_21_code 11 = .ok (.getfield 114, 3) := by decide +kernel
theorem d_R_takeOf_14 : decode prog_12_method_21_code 14 = .ok (.istore_n 3, 1) := by decide +kernel
theorem d_R_takeOf_15 : decode prog_12_method_21_code 15 = .ok (.aload_n 0, 1) := by decide +kernel
theorem d_R_takeOf_16 : decode prog_12_method_21_code 16 = .ok (.dup, 1) := by decide +kernel
theorem d_R_takeOf_17 : decode prog_12_method_21_code 17 = .ok (.getfield 117, 3) := by decide +kernel
theorem d_R_takeOf_20 : decode prog_12_method_21_code 20 = .ok (.iconst 1, 1) := by decide +kernel
theorem d_R_takeOf_21 : decode prog_12_method_21_code 21 = .ok (.iadd, 1) := by decide +kernel
theorem d_R_takeOf_22 : decode prog_12_method_21_code 22 = .ok (.putfield 117, 3) := by decide +kernel
theorem d_R_takeOf_25 : decode prog_12_method_21_code 25 = .ok (.iload_n 2, 1) := by decide +kernel
theorem d_R_takeOf_26 : decode prog_12_method_21_code 26 = .ok (.iconst 1, 1) := by decide +kernel
theorem d_R_takeOf_27 : decode prog_12_method_21_code 27 = .ok (.if_icmp .ne 29, 3) := by decide +kernel
theorem d_R_takeOf_30 : decode prog_12_method_21_code 30 = .ok (.aload_n 0, 1) := by decide +kernel
theorem d_R_takeOf_31 : decode prog_12_method_21_code 31 = .ok (.getfield 86, 3) := by decide +kernel
theorem d_R_takeOf_34 : decode prog_12_method_21_code 34 = .ok (.iload_n 3, 1) := by decide +kernel
theorem d_R_takeOf_35 : decode prog_12_method_21_code 35 = .ok (.iload_n 1, 1) := by decide +kernel
theorem d_R_takeOf_36 : decode prog_12_method_21_code 36 = .ok (.bipush 48, 2) := by decide +kernel
theorem d_R_takeOf_38 : decode prog_12_method_21_code 38 = .ok (.isub, 1) := by decide +kernel
theorem d_R_takeOf_39 : decode prog_12_method_21_code 39 = .ok (.iastore, 1) := by decide +kernel
theorem d_R_takeOf_40 : decode prog_12_method_21_code 40 = .ok (.aload_n 0, 1) := by decide +kernel
theorem d_R_takeOf_41 : decode prog_12_method_21_code 41 = .ok (.iload_n 1, 1) := by decide +kernel
theorem d_R_takeOf_42 : decode prog_12_method_21_code 42 = .ok (.i2l, 1) := by decide +kernel
theorem d_R_takeOf_43 : decode prog_12_method_21_code 43 = .ok (.ldc2_w 142, 3) := by decide +kernel
theorem d_R_takeOf_46 : decode prog_12_method_21_code 46 = .ok (.ldc2_w 144, 3) := by decide +kernel
theorem d_R_takeOf_49 : decode prog_12_method_21_code 49 = .ok (.invokestatic 103, 3) := by decide +kernel
theorem d_R_takeOf_52 : decode prog_12_method_21_code 52 = .ok (.invokevirtual 146, 3) := by decide +kernel
theorem d_R_takeOf_55 : decode prog_12_method_21_code 55 = .ok (.ireturn, 1) := by decide +kernel
theorem d_R_takeOf_56 : decode prog_12_method_21_code 56 = .ok (.iload_n 2, 1) := by decide +kernel
theorem d_R_takeOf_57 : decode prog_12_method_21_code 57 = .ok (.ifCond .eq 9, 3) := by decide +kernel
theorem d_R_takeOf_60 : decode prog_12_method_21_code 60 = .ok (.iload_n 2, 1) := by decide +kernel
theorem d_R_takeOf_61 : decode prog_12_method_21_code 61 = .ok (.bipush 6, 2) := by decide +kernel
theorem d_R_takeOf_63 : decode prog_12_method_21_code 63 = .ok (.if_icmp .ne 103, 3) := by decide +kernel
theorem d_R_takeOf_66 : decode prog_12_method_21_code 66 = .ok (.aload_n 0, 1) := by decide +kernel
theorem d_R_takeOf_67 : decode prog_12_method_21_code 67 = .ok (.getfield 117, 3) := by decide +kernel
theorem d_R_takeOf_70 : decode prog_12_method_21_code 70 = .ok (.iconst 1, 1) := by decide +kernel
theorem d_R_takeOf_71 : decode prog_12_method_21_code 71 = .ok (.if_icmp .ne 25, 3) := by decide +kernel
theorem d_R_takeOf_74 : decode prog_12_method_21_code 74 = .ok (.aload_n 0, 1) := by decide +kernel
theorem d_R_takeOf_75 : decode prog_12_method_21_code 75 = .ok (.getfield 86, 3) := by decide +kernel
theorem d_R_takeOf_78 : decode prog_12_method_21_code 78 = .ok (.iload_n 3, 1) := by decide +kernel
theorem d_R_takeOf_79 : decode prog_12_method_21_code 79 = .ok (.iload_n 1, 1) := by decide +kernel
theorem d_R_takeOf_80 : decode prog_12_method_21_code 80 = .ok (.bipush 65, 2) := by decide +kernel
theorem d_R_takeOf_82 : decode prog_12_method_21_code 82 = .ok (.isub, 1) := by decide +kernel
theorem d_R_takeOf_83 : decode prog_12_method_21_code 83 = .ok (.iastore, 1) := by decide +kernel
theorem d_R_takeOf_84 : decode prog_12_method_21_code 84 = .ok (.iload_n 1, 1) := by decide +kernel
theorem d_R_takeOf_85 : decode prog_12_method_21_code 85 = .ok (.i2l, 1) := by decide +kernel
theorem d_R_takeOf_86 : decode prog_12_method_21_code 86 = .ok (.ldc2_w 150, 3) := by decide +kernel
theorem d_R_takeOf_89 : decode prog_12_method_21_code 89 = .ok (.ldc2_w 152, 3) := by decide +kernel
theorem d_R_takeOf_92 : decode prog_12_method_21_code 92 = .ok (.invokestatic 103, 3) := by decide +kernel
theorem d_R_takeOf_95 : decode prog_12_method_21_code 95 = .ok (.ireturn, 1) := by decide +kernel
theorem d_R_takeOf_96 : decode prog_12_method_21_code 96 = .ok (.aload_n 0, 1) := by decide +kernel
theorem d_R_takeOf_97 : decode prog_12_method_21_code 97 = .ok (.getfield 117, 3) := by decide +kernel
theorem d_R_takeOf_100 : decode prog_12_method_21_code 100 = .ok (.iconst 2, 1) := by decide +kernel
theorem d_R_takeOf_101 : decode prog_12_method_21_code 101 = .ok (.if_icmp .ne 42, 3) := by decide +kernel
theorem d_R_takeOf_104 : decode prog_12_method_21_code 104 = .ok (.aload_n 0, 1) := by decide +kernel
theorem d_R_takeOf_105 : decode prog_12_method_21_code 105 = .ok (.getfield 89, 3) := by decide +kernel
theorem d_R_takeOf_108 : decode prog_12_method_21_code 108 = .ok (.iload_n 3, 1) := by decide +kernel
theorem d_R_takeOf_109 : decode prog_12_method_21_code 109 = .ok (.iload_n 1, 1) := by decide +kernel
theorem d_R_takeOf_110 : decode prog_12_method_21_code 110 = .ok (.bipush 48, 2) := by decide +kernel
theorem d_R_takeOf_112 : decode prog_12_method_21_code 112 = .ok (.isub, 1) := by decide +kernel
theorem d_R_takeOf_113 : decode prog_12_method_21_code 113 = .ok (.iastore, 1) := by decide +kernel
theorem d_R_takeOf_114 : decode prog_12_method_21_code 114 = .ok (.iload_n 1, 1) := by decide +kernel
theorem d_R_takeOf_115 : decode prog_12_method_21_code 115 = .ok (.i2l, 1) := by decide +kernel
theorem d_R_takeOf_116 : decode prog_12_method_21_code 116 = .ok (.ldc2_w 142, 3) := by decide +kernel
theorem d_R_takeOf_119 : decode prog_12_method_21_code 119 = .ok (.ldc2_w 154, 3) := by decide +kernel
theorem d_R_takeOf_122 : decode prog_12_method_21_code 122 = .ok (.invokestatic 103, 3) := by decide +kernel
theorem d_R_takeOf_125 : decode prog_12_method_21_code 125 = .ok (.istore 4, 2) := by decide +kernel
theorem d_R_takeOf_127 : decode prog_12_method_21_code 127 = .ok (.iload_n 2, 1) := by decide +kernel
theorem d_R_takeOf_128 : decode prog_12_method_21_code 128 = .ok (.ifCond .ne 12, 3) := by decide +kernel
theorem d_R_takeOf_131 : decode prog_12_method_21_code 131 = .ok (.aload_n 0, 1) := by decide +kernel
theorem d_R_takeOf_132 : decode prog_12_method_21_code 132 = .ok (.iload 4, 2) := by decide +kernel
theorem d_R_takeOf_134 : decode prog_12_method_21_code 134 = .ok (.invokevirtual 146, 3) := by decide +kernel
theorem d_R_takeOf_137 : decode prog_12_method_21_code 137 = .ok (.goto 5, 3) := by decide +kernel
theorem d_R_takeOf_140 : decode prog_12_method_21_code 140 = .ok (.iload 4, 2) := by decide +kernel
theorem d_R_takeOf_142 : decode prog_12_method_21_code 142 = .ok (.ireturn, 1) := by decide +kernel
theorem d_R_takeOf_143 : decode prog_12_method_21_code 143 = .ok (.aload_n 0, 1) := by decide +kernel
theorem d_R_takeOf_144 : decode prog_12_method_21_code 144 = .ok (.getfield 92, 3) := by decide +kernel
theorem d_R_takeOf_147 : decode prog_12_method_21_code 147 = .ok (.iload_n 3, 1) := by decide +kernel
theorem d_R_takeOf_148 : decode prog_12_method_21_code 148 = .ok (.iload_n 1, 1) := by decide +kernel
theorem d_R_takeOf_149 : decode prog_12_method_21_code 149 = .ok (.bipush 97, 2) := by decide +kernel
theorem d_R_takeOf_151 : decode prog_12_method_21_code 151 = .ok (.isub, 1) := by decide +kernel
theorem d_R_takeOf_152 : decode prog_12_method_21_code 152 = .ok (.iastore, 1) := by decide +kernel
theorem d_R_takeOf_153 : decode prog_12_method_21_code 153 = .ok (.aload_n 0, 1) := by decide +kernel
theorem d_R_takeOf_154 : decode prog_12_method_21_code 154 = .ok (.aload_n 0, 1) := by decide +kernel
theorem d_R_takeOf_155 : decode prog_12_method_21_code 155 = .ok (.iload_n 1, 1) := by decide +kernel
theorem d_R_takeOf_156 : decode prog_12_method_21_code 156 = .ok (.bipush 97, 2) := by decide +kernel
theorem d_R_takeOf_158 : decode prog_12_method_21_code 158 = .ok (.isub, 1) := by decide +kernel
theorem d_R_takeOf_159 : decode prog_12_method_21_code 159 = .ok (.invokevirtual 156, 3) := by decide +kernel
theorem d_R_takeOf_162 : decode prog_12_method_21_code 162 = .ok (.invokevirtual 146, 3) := by decide +kernel
theorem d_R_takeOf_165 : decode prog_12_method_21_code 165 = .ok (.ireturn, 1) := by decide +kernel
theorem d_R_takeOf_166 : decode prog_12_method_21_code 166 = .ok (.aload_n 0, 1) := by decide +kernel
theorem d_R_takeOf_167 : decode prog_12_method_21_code 167 = .ok (.getfield 117, 3) := by decide +kernel
theorem d_R_takeOf_170 : decode prog_12_method_21_code 170 = .ok (.iconst 1, 1) := by decide +kernel
theorem d_R_takeOf_171 : decode prog_12_method_21_code 171 = .ok (.if_icmp .ne 22, 3) := by decide +kernel
theorem d_R_takeOf_174 : decode prog_12_method_21_code 174 = .ok (.aload_n 0, 1) := by decide +kernel
theorem d_R_takeOf_175 : decode prog_12_method_21_code 175 = .ok (.getfield 86, 3) := by decide +kernel
theorem d_R_takeOf_178 : decode prog_12_method_21_code 178 = .ok (.iload_n 3, 1) := by decide +kernel
theorem d_R_takeOf_179 : decode prog_12_method_21_code 179 = .ok (.iload_n 1, 1) := by decide +kernel
theorem d_R_takeOf_180 : decode prog_12_method_21_code 180 = .ok (.bipush 97, 2) := by decide +kernel
theorem d_R_takeOf_182 : decode prog_12_method_21_code 182 = .ok (.isub, 1) := by decide +kernel
theorem d_R_takeOf_183 : decode prog_12_method_21_code 183 = .ok (.iastore, 1) := by decide +kernel
theorem d_R_takeOf_184 : decode prog_12_method_21_code 184 = .ok (.aload_n 0, 1) := by decide +kernel
theorem d_R_takeOf_185 : decode prog_12_method_21_code 185 = .ok (.iload_n 1, 1) := by decide +kernel
theorem d_R_takeOf_186 : decode prog_12_method_21_code 186 = .ok (.bipush 97, 2) := by decide +kernel
theorem d_R_takeOf_188 : decode prog_12_method_21_code 188 = .ok (.isub, 1) := by decide +kernel
theorem d_R_takeOf_189 : decode prog_12_method_21_code 189 = .ok (.invokevirtual 156, 3) := by decide +kernel
theorem d_R_takeOf_192 : decode prog_12_method_21_code 192 = .ok (.ireturn, 1) := by decide +kernel
theorem d_R_takeOf_193 : decode prog_12_method_21_code 193 = .ok (.aload_n 0, 1) := by decide +kernel
theorem d_R_takeOf_194 : decode prog_12_method_21_code 194 = .ok (.getfield 89, 3) := by decide +kernel
theorem d_R_takeOf_197 : decode prog_12_method_21_code 197 = .ok (.iload_n 3, 1) := by decide +kernel
theorem d_R_takeOf_198 : decode prog_12_method_21_code 198 = .ok (.iload_n 1, 1) := by decide +kernel
theorem d_R_takeOf_199 : decode prog_12_method_21_code 199 = .ok (.bipush 97, 2) := by decide +kernel
theorem d_R_takeOf_201 : decode prog_12_method_21_code 201 = .ok (.isub, 1) := by decide +kernel
theorem d_R_takeOf_202 : decode prog_12_method_21_code 202 = .ok (.iastore, 1) := by decide +kernel
theorem d_R_takeOf_203 : decode prog_12_method_21_code 203 = .ok (.aload_n 0, 1) := by decide +kernel
theorem d_R_takeOf_204 : decode prog_12_method_21_code 204 = .ok (.aload_n 0, 1) := by decide +kernel
theorem d_R_takeOf_205 : decode prog_12_method_21_code 205 = .ok (.iload_n 1, 1) := by decide +kernel
theorem d_R_takeOf_206 : decode prog_12_method_21_code 206 = .ok (.bipush 97, 2) := by decide +kernel
theorem d_R_takeOf_208 : decode prog_12_method_21_code 208 = .ok (.isub, 1) := by decide +kernel
theorem d_R_takeOf_209 : decode prog_12_method_21_code 209 = .ok (.invokevirtual 156, 3) := by decide +kernel
theorem d_R_takeOf_212 : decode prog_12_method_21_code 212 = .ok (.invokevirtual 146, 3) := by decide +kernel
theorem d_R_takeOf_215 : decode prog_12_method_21_code 215 = .ok (.ireturn, 1) := by decide +kernel
def B_R_takeOf (_ : Nat × Nat) : PS :=
  (sSq (sI 2 (eAI (eFR 10 44 (eR 0)) (eFI 10 43 (eR 0))))
    (sSq (sI 3 (eFI 10 43 (eR 0)))
    (sSq (sFO 10 49 (fun x y : Int32 => x + y) (eR 0) (eV (1 : Int32)))
    (sSq (sIf (e2 (fun x y : Int32 => decide (x = y)) (eI 2) (eV (1 : Int32))) (sSq (sAI (eFR 10 45 (eR 0)) (eI 3) (e2 (fun x y : Int32 => x - y) (eI 1) (eV (48 : Int32))))
    (sRz (eX .int (xV 10 1 X_R_done (eR 0) (aC .int (eX .int (xS 3 X_R_in (aC .long (e1 (fun x : Int32 => x.toInt64) (eI 1)) (aC .long (eV (48 : Int64)) (aC .long (eV (57 : Int64)) aN))))) aN))))) sSk)
    (sSq (sIf (cO (e1 (fun x : Int32 => decide (x = 0)) (eI 2)) (e2 (fun x y : Int32 => decide (x = y)) (eI 2) (eV (6 : Int32)))) (sSq (sIf (e2 (fun x y : Int32 => decide (x = y)) (eFI 10 49 (eR 0)) (eV (1 : Int32))) (sSq (sAI (eFR 10 45 (eR 0)) (eI 3) (e2 (fun x y : Int32 => x - y) (eI 1) (eV (65 : Int32))))
    (sRz (eX .int (xS 3 X_R_in (aC .long (e1 (fun x : Int32 => x.toInt64) (eI 1)) (aC .long (eV (65 : Int64)) (aC .long (eV (66 : Int64)) aN))))))) sSk)
    (sSq (sIf (e2 (fun x y : Int32 => decide (x = y)) (eFI 10 49 (eR 0)) (eV (2 : Int32))) (sSq (sAI (eFR 10 46 (eR 0)) (eI 3) (e2 (fun x y : Int32 => x - y) (eI 1) (eV (48 : Int32))))
    (sSq (sI 4 (eX .int (xS 3 X_R_in (aC .long (e1 (fun x : Int32 => x.toInt64) (eI 1)) (aC .long (eV (48 : Int64)) (aC .long (eV (55 : Int64)) aN))))))
    (sRz (eIf (e1 (fun x : Int32 => decide (x = 0)) (eI 2)) (eX .int (xV 10 1 X_R_done (eR 0) (aC .int (eI 4) aN))) (eI 4))))) sSk)
    (sSq (sAI (eFR 10 47 (eR 0)) (eI 3) (e2 (fun x y : Int32 => x - y) (eI 1) (eV (97 : Int32))))
    (sRz (eX .int (xV 10 1 X_R_done (eR 0) (aC .int (eX .int (xV 10 1 X_R_isValueAsRead (eR 0) (aC .int (e2 (fun x y : Int32 => x - y) (eI 1) (eV (97 : Int32))) aN))) aN))))))) sSk)
    (sSq (sIf (e2 (fun x y : Int32 => decide (x = y)) (eFI 10 49 (eR 0)) (eV (1 : Int32))) (sSq (sAI (eFR 10 45 (eR 0)) (eI 3) (e2 (fun x y : Int32 => x - y) (eI 1) (eV (97 : Int32))))
    (sRz (eX .int (xV 10 1 X_R_isValueAsRead (eR 0) (aC .int (e2 (fun x y : Int32 => x - y) (eI 1) (eV (97 : Int32))) aN))))) sSk)
    (sSq (sAI (eFR 10 46 (eR 0)) (eI 3) (e2 (fun x y : Int32 => x - y) (eI 1) (eV (97 : Int32))))
    (sRz (eX .int (xV 10 1 X_R_done (eR 0) (aC .int (eX .int (xV 10 1 X_R_isValueAsRead (eR 0) (aC .int (e2 (fun x y : Int32 => x - y) (eI 1) (eV (97 : Int32))) aN))) aN)))))))))))
def X_R_takeOf : PM := fun vs h Q => (lx vs).length ≤ 5 ∧ B_R_takeOf (h.length + 0, hsz h + 0) (fun _ _ => False) (fun _ _ => False) (fun _ _ => False) Q (lini 5 vs) h
theorem v_R_takeOf (l : Launch) : Ctr l y_R_takeOf prog_12_method_21_code 5 (some .boolean) rm_R_takeOf X_R_takeOf := by
  refine Ctr_of (own := "PackLanesModel") (B := B_R_takeOf) (KR := fun _ Q => Q) (by decide) rfl (fun _ _ _ z => z) (fun _ _ _ _ z => ⟨Or.inl ⟨rfl, rfl⟩, z⟩) (Or.inr (Or.inr (Or.inl rfl))) (fun κ hl ho hR hrt hn0 => ?_)
  subst hl
  unfold B_R_takeOf
  exact (S_sq (pc1 := 10) (S_In (pc1 := 9) (E_aI (pc1 := 4) (pc2 := 8) (E_fR f_R_83 ho (pc1 := 1) (E_aln d_R_takeOf_0 rfl) d_R_takeOf_1) (E_fI f_R_114 ho (pc1 := 5) (E_aln d_R_takeOf_4 rfl) d_R_takeOf_5) d_R_takeOf_8) d_R_takeOf_9 rfl)
    (S_sq (pc1 := 15) (S_In (pc1 := 14) (E_fI f_R_114 ho (pc1 := 11) (E_aln d_R_takeOf_10 rfl) d_R_takeOf_11) d_R_takeOf_14 rfl)
    (S_sq (pc1 := 25) (S_FO f_R_117 f_R_117 ho (pc1 := 16) (pc2 := 21) (E_aln d_R_takeOf_15 rfl) d_R_takeOf_16 d_R_takeOf_17 (E_ic d_R_takeOf_20 rfl) (fun _ _ _ _ _ k => r_iadd d_R_takeOf_21 k) d_R_takeOf_22)
    (S_sq (pc1 := 56) (S_if1 (pT := 30) (pF := 56) (J2_eq (pF := 56) (pc1 := 26) (pc2 := 27) (E_iln d_R_takeOf_25 rfl) (E_ic d_R_takeOf_26 rfl) d_R_takeOf_27 rfl) (S_sq (pc1 := 40) (S_AI (pc1 := 34) (pc2 := 35) (pc3 := 39) (E_fR f_R_86 ho (pc1 := 31) (E_aln d_R_takeOf_30 rfl) d_R_takeOf_31) (E_iln d_R_takeOf_34 rfl) (E_isub (pc1 := 36) (pc2 := 38) (E_iln d_R_takeOf_35 rfl) (E_bi d_R_takeOf_36 rfl) d_R_takeOf_38) d_R_takeOf_39)
    (S_rz hrt (pc1 := 55) (E_x (O_V k_R_146 (v_R_done _) ⟨rfl, rfl⟩ ho (rk hR rfl) (by decide) (T := KT10) (N := 50) rfl (by decide) (pc1 := 41) (pc2 := 52) (E_aln d_R_takeOf_40 rfl) (A_c catI (pc1 := 52) (E_x (O_S k_R_103 (v_R_in _) ⟨rfl, rfl⟩ ho (rk hR rfl) (by decide) (pc2 := 49) (A_c catL (pc1 := 43) (E_i2l (pc1 := 42) (E_iln d_R_takeOf_41 rfl) d_R_takeOf_42) (A_c catL (pc1 := 46) (E_ldc2 ho w_cl_R_142 d_R_takeOf_43) (A_c catL (pc1 := 49) (E_ldc2 ho w_cl_R_144 d_R_takeOf_46) A_n))) d_R_takeOf_49)) A_n) d_R_takeOf_52)) d_R_takeOf_55)))
    (S_sq (pc1 := 166) (S_if1 (pT := 66) (pF := 166) (C_or (pc1 := 60) (T1_eq (pT := 66) (pc2 := 57) (E_iln d_R_takeOf_56 rfl) d_R_takeOf_57 rfl) (J2_eq (pF := 166) (pc1 := 61) (pc2 := 63) (E_iln d_R_takeOf_60 rfl) (E_bi d_R_takeOf_61 rfl) d_R_takeOf_63 rfl)) (S_sq (pc1 := 96) (S_if1 (pT := 74) (pF := 96) (J2_eq (pF := 96) (pc1 := 70) (pc2 := 71) (E_fI f_R_117 ho (pc1 := 67) (E_aln d_R_takeOf_66 rfl) d_R_takeOf_67) (E_ic d_R_takeOf_70 rfl) d_R_takeOf_71 rfl) (S_sq (pc1 := 84) (S_AI (pc1 := 78) (pc2 := 79) (pc3 := 83) (E_fR f_R_86 ho (pc1 := 75) (E_aln d_R_takeOf_74 rfl) d_R_takeOf_75) (E_iln d_R_takeOf_78 rfl) (E_isub (pc1 := 80) (pc2 := 82) (E_iln d_R_takeOf_79 rfl) (E_bi d_R_takeOf_80 rfl) d_R_takeOf_82) d_R_takeOf_83)
    (S_rz hrt (pc1 := 95) (E_x (O_S k_R_103 (v_R_in _) ⟨rfl, rfl⟩ ho (rk hR rfl) (by decide) (pc2 := 92) (A_c catL (pc1 := 86) (E_i2l (pc1 := 85) (E_iln d_R_takeOf_84 rfl) d_R_takeOf_85) (A_c catL (pc1 := 89) (E_ldc2 ho w_cl_R_150 d_R_takeOf_86) (A_c catL (pc1 := 92) (E_ldc2 ho w_cl_R_152 d_R_takeOf_89) A_n))) d_R_takeOf_92)) d_R_takeOf_95)))
    (S_sq (pc1 := 143) (S_if1 (pT := 104) (pF := 143) (J2_eq (pF := 143) (pc1 := 100) (pc2 := 101) (E_fI f_R_117 ho (pc1 := 97) (E_aln d_R_takeOf_96 rfl) d_R_takeOf_97) (E_ic d_R_takeOf_100 rfl) d_R_takeOf_101 rfl) (S_sq (pc1 := 114) (S_AI (pc1 := 108) (pc2 := 109) (pc3 := 113) (E_fR f_R_89 ho (pc1 := 105) (E_aln d_R_takeOf_104 rfl) d_R_takeOf_105) (E_iln d_R_takeOf_108 rfl) (E_isub (pc1 := 110) (pc2 := 112) (E_iln d_R_takeOf_109 rfl) (E_bi d_R_takeOf_110 rfl) d_R_takeOf_112) d_R_takeOf_113)
    (S_sq (pc1 := 127) (S_I (pc1 := 125) (E_x (O_S k_R_103 (v_R_in _) ⟨rfl, rfl⟩ ho (rk hR rfl) (by decide) (pc2 := 122) (A_c catL (pc1 := 116) (E_i2l (pc1 := 115) (E_iln d_R_takeOf_114 rfl) d_R_takeOf_115) (A_c catL (pc1 := 119) (E_ldc2 ho w_cl_R_142 d_R_takeOf_116) (A_c catL (pc1 := 122) (E_ldc2 ho w_cl_R_154 d_R_takeOf_119) A_n))) d_R_takeOf_122)) d_R_takeOf_125)
    (S_rz hrt (pc1 := 142) (E_if (pT := 131) (pF := 140) (pc1 := 137) (pc2 := 142) (J1_eq (pF := 140) (pc2 := 128) (E_iln d_R_takeOf_127 rfl) d_R_takeOf_128 rfl) (E_x (O_V k_R_146 (v_R_done _) ⟨rfl, rfl⟩ ho (rk hR rfl) (by decide) (T := KT10) (N := 50) rfl (by decide) (pc1 := 132) (pc2 := 134) (E_aln d_R_takeOf_131 rfl) (A_c catI (pc1 := 134) (E_il d_R_takeOf_132) A_n) d_R_takeOf_134)) d_R_takeOf_137 rfl (E_il d_R_takeOf_140)) d_R_takeOf_142))))
    (S_sq (pc1 := 153) (S_AI (pc1 := 147) (pc2 := 148) (pc3 := 152) (E_fR f_R_92 ho (pc1 := 144) (E_aln d_R_takeOf_143 rfl) d_R_takeOf_144) (E_iln d_R_takeOf_147 rfl) (E_isub (pc1 := 149) (pc2 := 151) (E_iln d_R_takeOf_148 rfl) (E_bi d_R_takeOf_149 rfl) d_R_takeOf_151) d_R_takeOf_152)
    (S_rz hrt (pc1 := 165) (E_x (O_V k_R_146 (v_R_done _) ⟨rfl, rfl⟩ ho (rk hR rfl) (by decide) (T := KT10) (N := 50) rfl (by decide) (pc1 := 154) (pc2 := 162) (E_aln d_R_takeOf_153 rfl) (A_c catI (pc1 := 162) (E_x (O_V k_R_156 (v_R_isValueAsRead _) ⟨rfl, rfl⟩ ho (rk hR rfl) (by decide) (T := KT10) (N := 50) rfl (by decide) (pc1 := 155) (pc2 := 159) (E_aln d_R_takeOf_154 rfl) (A_c catI (pc1 := 159) (E_isub (pc1 := 156) (pc2 := 158) (E_iln d_R_takeOf_155 rfl) (E_bi d_R_takeOf_156 rfl) d_R_takeOf_158) A_n) d_R_takeOf_159)) A_n) d_R_takeOf_162)) d_R_takeOf_165)))))
    (S_sq (pc1 := 193) (S_if1 (pT := 174) (pF := 193) (J2_eq (pF := 193) (pc1 := 170) (pc2 := 171) (E_fI f_R_117 ho (pc1 := 167) (E_aln d_R_takeOf_166 rfl) d_R_takeOf_167) (E_ic d_R_takeOf_170 rfl) d_R_takeOf_171 rfl) (S_sq (pc1 := 184) (S_AI (pc1 := 178) (pc2 := 179) (pc3 := 183) (E_fR f_R_86 ho (pc1 := 175) (E_aln d_R_takeOf_174 rfl) d_R_takeOf_175) (E_iln d_R_takeOf_178 rfl) (E_isub (pc1 := 180) (pc2 := 182) (E_iln d_R_takeOf_179 rfl) (E_bi d_R_takeOf_180 rfl) d_R_takeOf_182) d_R_takeOf_183)
    (S_rz hrt (pc1 := 192) (E_x (O_V k_R_156 (v_R_isValueAsRead _) ⟨rfl, rfl⟩ ho (rk hR rfl) (by decide) (T := KT10) (N := 50) rfl (by decide) (pc1 := 185) (pc2 := 189) (E_aln d_R_takeOf_184 rfl) (A_c catI (pc1 := 189) (E_isub (pc1 := 186) (pc2 := 188) (E_iln d_R_takeOf_185 rfl) (E_bi d_R_takeOf_186 rfl) d_R_takeOf_188) A_n) d_R_takeOf_189)) d_R_takeOf_192)))
    (S_sq (pc1 := 203) (S_AI (pc1 := 197) (pc2 := 198) (pc3 := 202) (E_fR f_R_89 ho (pc1 := 194) (E_aln d_R_takeOf_193 rfl) d_R_takeOf_194) (E_iln d_R_takeOf_197 rfl) (E_isub (pc1 := 199) (pc2 := 201) (E_iln d_R_takeOf_198 rfl) (E_bi d_R_takeOf_199 rfl) d_R_takeOf_201) d_R_takeOf_202)
    (S_rz hrt (pc1 := 215) (E_x (O_V k_R_146 (v_R_done _) ⟨rfl, rfl⟩ ho (rk hR rfl) (by decide) (T := KT10) (N := 50) rfl (by decide) (pc1 := 204) (pc2 := 212) (E_aln d_R_takeOf_203 rfl) (A_c catI (pc1 := 212) (E_x (O_V k_R_156 (v_R_isValueAsRead _) ⟨rfl, rfl⟩ ho (rk hR rfl) (by decide) (T := KT10) (N := 50) rfl (by decide) (pc1 := 205) (pc2 := 209) (E_aln d_R_takeOf_204 rfl) (A_c catI (pc1 := 209) (E_isub (pc1 := 206) (pc2 := 208) (E_iln d_R_takeOf_205 rfl) (E_bi d_R_takeOf_206 rfl) d_R_takeOf_208) A_n) d_R_takeOf_209)) A_n) d_R_takeOf_212)) d_R_takeOf_215))))))))
theorem d_R_readText_0 : decode prog_12_method_22_code 0 = .ok (.aload_n 0, 1) := by decide +kernel
theorem d_R_readText_1 : decode prog_12_method_22_code 1 = .ok (.iconst 0, 1) := by decide +kernel
theorem d_R_readText_2 : decode prog_12_method_22_code 2 = .ok (.putfield 114, 3) := by decide +kernel
theorem d_R_readText_5 : decode prog_12_method_22_code 5 = .ok (.aload_n 0, 1) := by decide +kernel
theorem d_R_readText_6 : decode prog_12_method_22_code 6 = .ok (.iconst 1, 1) := by decide +kernel
theorem d_R_readText_7 : decode prog_12_method_22_code 7 = .ok (.putfield 131, 3) := by decide +kernel
theorem d_R_readText_10 : decode prog_12_method_22_code 10 = .ok (.aload_n 0, 1) := by decide +kernel
theorem d_R_readText_11 : decode prog_12_method_22_code 11 = .ok (.iconst 0, 1) := by decide +kernel
theorem d_R_readText_12 : decode prog_12_method_22_code 12 = .ok (.putfield 117, 3) := by decide +kernel
theorem d_R_readText_15 : decode prog_12_method_22_code 15 = .ok (.aload_n 0, 1) := by decide +kernel
theorem d_R_readText_16 : decode prog_12_method_22_code 16 = .ok (.getfield 111, 3) := by decide +kernel
theorem d_R_readText_19 : decode prog_12_method_22_code 19 = .ok (.ifCond .eq 14, 3) := by decide +kernel
theorem d_R_readText_22 : decode prog_12_method_22_code 22 = .ok (.aload_n 0, 1) := by decide +kernel
theorem d_R_readText_23 : decode prog_12_method_22_code 23 = .ok (.getfield 7, 3) := by decide +kernel
theorem d_R_readText_26 : decode prog_12_method_22_code 26 = .ok (.iconst 0, 1) := by decide +kernel
theorem d_R_readText_27 : decode prog_12_method_22_code 27 = .ok (.iaload, 1) := by decide +kernel
theorem d_R_readText_28 : decode prog_12_method_22_code 28 = .ok (.bipush 86, 2) := by decide +kernel
theorem d_R_readText_30 : decode prog_12_method_22_code 30 = .ok (.if_icmp .eq 5, 3) := by decide +kernel
theorem d_R_readText_33 : decode prog_12_method_22_code 33 = .ok (.iconst 0, 1) := by decide +kernel
theorem d_R_readText_34 : decode prog_12_method_22_code 34 = .ok (.ireturn, 1) := by decide +kernel
theorem d_R_readText_35 : decode prog_12_method_22_code 35 = .ok (.iconst 1, 1) := by decide +kernel
theorem d_R_readText_36 : decode prog_12_method_22_code 36 = .ok (.istore_n 1, 1) := by decide +kernel
theorem d_R_readText_37 : decode prog_12_method_22_code 37 = .ok (.iload_n 1, 1) := by decide +kernel
theorem d_R_readText_38 : decode prog_12_method_22_code 38 = .ok (.aload_n 0, 1) := by decide +kernel
theorem d_R_readText_39 : decode prog_12_method_22_code 39 = .ok (.getfield 111, 3) := by decide +kernel
theorem d_R_readText_42 : decode prog_12_method_22_code 42 = .ok (.if_icmp .ge 70, 3) := by decide +kernel
theorem d_R_readText_45 : decode prog_12_method_22_code 45 = .ok (.aload_n 0, 1) := by decide +kernel
theorem d_R_readText_46 : decode prog_12_method_22_code 46 = .ok (.getfield 131, 3) := by decide +kernel
theorem d_R_readText_49 : decode prog_12_method_22_code 49 = .ok (.iconst 1, 1) := by decide +kernel
theorem d_R_readText_50 : decode prog_12_method_22_code 50 = .ok (.if_icmp .ne 19, 3) := by decide +kernel
theorem d_R_readText_53 : decode prog_12_method_22_code 53 = .ok (.aload_n 0, 1) := by decide +kernel
theorem d_R_readText_54 : decode prog_12_method_22_code 54 = .ok (.aload_n 0, 1) := by decide +kernel
theorem d_R_readText_55 : decode prog_12_method_22_code 55 = .ok (.getfield 7, 3) := by decide +kernel
theorem d_R_readText_58 : decode prog_12_method_22_code 58 = .ok (.iload_n 1, 1) := by decide +kernel
theorem d_R_readText_59 : decode prog_12_method_22_code 59 = .ok (.iaload, 1) := by decide +kernel
theorem d_R_readText_60 : decode prog_12_method_22_code 60 = .ok (.bipush 48, 2) := by decide +kernel
theorem d_R_readText_62 : decode prog_12_method_22_code 62 = .ok (.isub, 1) := by decide +kernel
theorem d_R_readText_63 : decode prog_12_method_22_code 63 = .ok (.invokevirtual 160, 3) := by decide +kernel
theorem d_R_readText_66 : decode prog_12_method_22_code 66 = .ok (.goto 33, 3) := by decide +kernel
theorem d_R_readText_69 : decode prog_12_method_22_code 69 = .ok (.aload_n 0, 1) := by decide +kernel
theorem d_R_readText_70 : decode prog_12_method_22_code 70 = .ok (.getfield 131, 3) := by decide +kernel
theorem d_R_readText_73 : decode prog_12_method_22_code 73 = .ok (.ifCond .ne 16, 3) := by decide +kernel
theorem d_R_readText_76 : decode prog_12_method_22_code 76 = .ok (.aload_n 0, 1) := by decide +kernel
theorem d_R_readText_77 : decode prog_12_method_22_code 77 = .ok (.aload_n 0, 1) := by decide +kernel
theorem d_R_readText_78 : decode prog_12_method_22_code 78 = .ok (.getfield 7, 3) := by decide +kernel
theorem d_R_readText_81 : decode prog_12_method_22_code 81 = .ok (.iload_n 1, 1) := by decide +kernel
theorem d_R_readText_82 : decode prog_12_method_22_code 82 = .ok (.iaload, 1) := by decide +kernel
theorem d_R_readText_83 : decode prog_12_method_22_code 83 = .ok (.invokevirtual 163, 3) := by decide +kernel
theorem d_R_readText_86 : decode prog_12_method_22_code 86 = .ok (.goto 13, 3) := by decide +kernel
theorem d_R_readText_89 : decode prog_12_method_22_code 89 = .ok (.aload_n 0, 1) := by decide +kernel
theorem d_R_readText_90 : decode prog_12_method_22_code 90 = .ok (.aload_n 0, 1) := by decide +kernel
theorem d_R_readText_91 : decode prog_12_method_22_code 91 = .ok (.getfield 7, 3) := by decide +kernel
theorem d_R_readText_94 : decode prog_12_method_22_code 94 = .ok (.iload_n 1, 1) := by decide +kernel
theorem d_R_readText_95 : decode prog_12_method_22_code 95 = .ok (.iaload, 1) := by decide +kernel
theorem d_R_readText_96 : decode prog_12_method_22_code 96 = .ok (.invokevirtual 166, 3) := by decide +kernel
theorem d_R_readText_99 : decode prog_12_method_22_code 99 = .ok (.istore_n 2, 1) := by decide +kernel
theorem d_R_readText_100 : decode prog_12_method_22_code 100 = .ok (.iload_n 2, 1) := by decide +kernel
theorem d_R_readText_101 : decode prog_12_method_22_code 101 = .ok (.ifCond .ne 5, 3) := by decide +kernel
theorem d_R_readText_104 : decode prog_12_method_22_code 104 = .ok (.iload_n 1, 1) := by decide +kernel
theorem d_R_readText_105 : decode prog_12_method_22_code 105 = .ok (.ireturn, 1) := by decide +kernel
theorem d_R_readText_106 : decode prog_12_method_22_code 106 = .ok (.iinc 1 1, 3) := by decide +kernel
theorem d_R_readText_109 : decode prog_12_method_22_code 109 = .ok (.goto (-72), 3) := by decide +kernel
theorem d_R_readText_112 : decode prog_12_method_22_code 112 = .ok (.aload_n 0, 1) := by decide +kernel
theorem d_R_readText_113 : decode prog_12_method_22_code 113 = .ok (.getfield 131, 3) := by decide +kernel
theorem d_R_readText_116 : decode prog_12_method_22_code 116 = .ok (.ifCond .ne 8, 3) := by decide +kernel
theorem d_R_readText_119 : decode prog_12_method_22_code 119 = .ok (.bipush (-9), 2) := by decide +kernel
theorem d_R_readText_121 : decode prog_12_method_22_code 121 = .ok (.goto 7, 3) := by decide +kernel
theorem d_R_readText_124 : decode prog_12_method_22_code 124 = .ok (.aload_n 0, 1) := by decide +kernel
theorem d_R_readText_125 : decode prog_12_method_22_code 125 = .ok (.getfield 111, 3) := by decide +kernel
theorem d_R_readText_128 : decode prog_12_method_22_code 128 = .ok (.ireturn, 1) := by decide +kernel
def B_R_readText (_ : Nat × Nat) : PS :=
  (sSq (sF .int 10 43 (eR 0) (eV (0 : Int32)))
    (sSq (sF .int 10 48 (eR 0) (eV (1 : Int32)))
    (sSq (sF .int 10 49 (eR 0) (eV (0 : Int32)))
    (sSq (sIf (cO (e1 (fun x : Int32 => decide (x = 0)) (eFI 10 1 (eR 0))) (e2 (fun x y : Int32 => decide (¬ x = y)) (eAI (eFR 10 0 (eR 0)) (eV (0 : Int32))) (eV (86 : Int32)))) (sRt .int (eV (0 : Int32))) sSk)
    (sSq (sCut 1 (sSq (sI 1 (eV (1 : Int32)))
    (sLp 2 (e2 (fun x y : Int32 => decide (x < y)) (eI 1) (eFI 10 1 (eR 0)))
    (sCut 2 (sSq (sI 2 (eIf (e2 (fun x y : Int32 => decide (x = y)) (eFI 10 48 (eR 0)) (eV (1 : Int32))) (eX .int (xV 10 1 X_R_takeHead (eR 0) (aC .int (e2 (fun x y : Int32 => x - y) (eAI (eFR 10 0 (eR 0)) (eI 1)) (eV (48 : Int32))) aN))) (eIf (e1 (fun x : Int32 => decide (x = 0)) (eFI 10 48 (eR 0))) (eX .int (xV 10 1 X_R_takeSign (eR 0) (aC .int (eAI (eFR 10 0 (eR 0)) (eI 1)) aN))) (eX .int (xV 10 1 X_R_takeOf (eR 0) (aC .int (eAI (eFR 10 0 (eR 0)) (eI 1)) aN))))))
    (sIf (cN (e1 (fun x : Int32 => decide (¬ x = 0)) (eI 2))) (sRt .int (eI 1)) sSk)))
    (sInc 1 (1)))))
    (sRt .int (eIf (e1 (fun x : Int32 => decide (x = 0)) (eFI 10 48 (eR 0))) (eV (-9 : Int32)) (eFI 10 1 (eR 0)))))))))
def X_R_readText : PM := fun vs h Q => (lx vs).length ≤ 3 ∧ B_R_readText (h.length + 0, hsz h + 0) (fun _ _ => False) (fun _ _ => False) (fun _ _ => False) Q (lini 3 vs) h
theorem v_R_readText (l : Launch) : Ctr l y_R_readText prog_12_method_22_code 3 (some .int) rm_R_readText X_R_readText := by
  refine Ctr_of (own := "PackLanesModel") (B := B_R_readText) (KR := fun _ Q => Q) (by decide) rfl (fun _ _ _ z => z) (fun _ _ _ _ z => ⟨Or.inl ⟨rfl, rfl⟩, z⟩) (Or.inr (Or.inl rfl)) (fun κ hl ho hR hrt hn0 => ?_)
  subst hl
  unfold B_R_readText
  exact (S_sq (pc1 := 5) (S_FI f_R_114 ho (pc1 := 1) (pc2 := 2) (E_aln d_R_readText_0 rfl) (E_ic d_R_readText_1 rfl) d_R_readText_2)
    (S_sq (pc1 := 10) (S_FI f_R_131 ho (pc1 := 6) (pc2 := 7) (E_aln d_R_readText_5 rfl) (E_ic d_R_readText_6 rfl) d_R_readText_7)
    (S_sq (pc1 := 15) (S_FI f_R_117 ho (pc1 := 11) (pc2 := 12) (E_aln d_R_readText_10 rfl) (E_ic d_R_readText_11 rfl) d_R_readText_12)
    (S_sq (pc1 := 35) (S_if1 (pT := 33) (pF := 35) (C_or (pc1 := 22) (T1_eq (pT := 33) (pc2 := 19) (E_fI f_R_111 ho (pc1 := 16) (E_aln d_R_readText_15 rfl) d_R_readText_16) d_R_readText_19 rfl) (J2_ne (pF := 35) (pc1 := 28) (pc2 := 30) (E_aI (pc1 := 26) (pc2 := 27) (E_fR f_R_7 ho (pc1 := 23) (E_aln d_R_readText_22 rfl) d_R_readText_23) (E_ic d_R_readText_26 rfl) d_R_readText_27) (E_bi d_R_readText_28 rfl) d_R_readText_30 rfl)) (S_ri hrt (pc1 := 34) (E_ic d_R_readText_33 rfl) d_R_readText_34))
    (S_sq (pc1 := 112) (S_cut (S_sq (pc1 := 37) (S_In (pc1 := 36) (E_ic d_R_readText_35 rfl) d_R_readText_36 rfl)
    (S_lp (pT := 45) (pF := 112) (pS := 106) (pG := 109) (J2_lt (pF := 112) (pc1 := 38) (pc2 := 42) (E_iln d_R_readText_37 rfl) (E_fI f_R_111 ho (pc1 := 39) (E_aln d_R_readText_38 rfl) d_R_readText_39) d_R_readText_42 rfl)
    (S_cut (S_sq (pc1 := 100) (S_In (pc1 := 99) (E_if (pT := 53) (pF := 69) (pc1 := 66) (pc2 := 99) (J2_eq (pF := 69) (pc1 := 49) (pc2 := 50) (E_fI f_R_131 ho (pc1 := 46) (E_aln d_R_readText_45 rfl) d_R_readText_46) (E_ic d_R_readText_49 rfl) d_R_readText_50 rfl) (E_x (O_V k_R_160 (v_R_takeHead _) ⟨rfl, rfl⟩ ho (rk hR rfl) (by decide) (T := KT10) (N := 50) rfl (by decide) (pc1 := 54) (pc2 := 63) (E_aln d_R_readText_53 rfl) (A_c catI (pc1 := 63) (E_isub (pc1 := 60) (pc2 := 62) (E_aI (pc1 := 58) (pc2 := 59) (E_fR f_R_7 ho (pc1 := 55) (E_aln d_R_readText_54 rfl) d_R_readText_55) (E_iln d_R_readText_58 rfl) d_R_readText_59) (E_bi d_R_readText_60 rfl) d_R_readText_62) A_n) d_R_readText_63)) d_R_readText_66 rfl (E_if (pT := 76) (pF := 89) (pc1 := 86) (pc2 := 99) (J1_eq (pF := 89) (pc2 := 73) (E_fI f_R_131 ho (pc1 := 70) (E_aln d_R_readText_69 rfl) d_R_readText_70) d_R_readText_73 rfl) (E_x (O_V k_R_163 (v_R_takeSign _) ⟨rfl, rfl⟩ ho (rk hR rfl) (by decide) (T := KT10) (N := 50) rfl (by decide) (pc1 := 77) (pc2 := 83) (E_aln d_R_readText_76 rfl) (A_c catI (pc1 := 83) (E_aI (pc1 := 81) (pc2 := 82) (E_fR f_R_7 ho (pc1 := 78) (E_aln d_R_readText_77 rfl) d_R_readText_78) (E_iln d_R_readText_81 rfl) d_R_readText_82) A_n) d_R_readText_83)) d_R_readText_86 rfl (E_x (O_V k_R_166 (v_R_takeOf _) ⟨rfl, rfl⟩ ho (rk hR rfl) (by decide) (T := KT10) (N := 50) rfl (by decide) (pc1 := 90) (pc2 := 96) (E_aln d_R_readText_89 rfl) (A_c catI (pc1 := 96) (E_aI (pc1 := 94) (pc2 := 95) (E_fR f_R_7 ho (pc1 := 91) (E_aln d_R_readText_90 rfl) d_R_readText_91) (E_iln d_R_readText_94 rfl) d_R_readText_95) A_n) d_R_readText_96)))) d_R_readText_99 rfl)
    (S_if1 (pT := 104) (pF := 106) (C_not (T1_ne (pT := 106) (pc2 := 101) (E_iln d_R_readText_100 rfl) d_R_readText_101 rfl)) (S_ri hrt (pc1 := 105) (E_iln d_R_readText_104 rfl) d_R_readText_105))))
    (S_Inc d_R_readText_106 rfl) d_R_readText_109 rfl)))
    (S_ri hrt (pc1 := 128) (E_if (pT := 119) (pF := 124) (pc1 := 121) (pc2 := 128) (J1_eq (pF := 124) (pc2 := 116) (E_fI f_R_131 ho (pc1 := 113) (E_aln d_R_readText_112 rfl) d_R_readText_113) d_R_readText_116 rfl) (E_bi d_R_readText_119 rfl) d_R_readText_121 rfl (E_fI f_R_111 ho (pc1 := 125) (E_aln d_R_readText_124 rfl) d_R_readText_125)) d_R_readText_128))))))
theorem d_R_fault_0 : decode prog_12_method_23_code 0 = .ok (.aload_n 0, 1) := by decide +kernel
theorem d_R_fault_1 : decode prog_12_method_23_code 1 = .ok (.invokevirtual 169, 3) := by decide +kernel
theorem d_R_fault_4 : decode prog_12_method_23_code 4 = .ok (.ireturn, 1) := by decide +kernel
def B_R_fault (_ : Nat × Nat) : PS :=
  (sRt .int (eX .int (xV 10 0 X_R_readText (eR 0) aN)))
def X_R_fault : PM := fun vs h Q => (lx vs).length ≤ 1 ∧ B_R_fault (h.length + 0, hsz h + 0) (fun _ _ => False) (fun _ _ => False) (fun _ _ => False) Q (lini 1 vs) h
theorem v_R_fault (l : Launch) : Ctr l y_R_fault prog_12_method_23_code 1 (some .int) rm_R_fault X_R_fault := by
  refine Ctr_of (own := "PackLanesModel") (B := B_R_fault) (KR := fun _ Q => Q) (by decide) rfl (fun _ _ _ z => z) (fun _ _ _ _ z => ⟨Or.inl ⟨rfl, rfl⟩, z⟩) (Or.inr (Or.inl rfl)) (fun κ hl ho hR hrt hn0 => ?_)
  subst hl
  unfold B_R_fault
  exact (S_ri hrt (pc1 := 4) (E_x (O_V k_R_169 (v_R_readText _) ⟨rfl, rfl⟩ ho (rk hR rfl) (by decide) (T := KT10) (N := 50) rfl (by decide) (pc1 := 1) (pc2 := 1) (E_aln d_R_fault_0 rfl) A_n d_R_fault_1)) d_R_fault_4)
theorem d_R_block_0 : decode prog_12_method_24_code 0 = .ok (.aload_n 0, 1) := by decide +kernel
theorem d_R_block_1 : decode prog_12_method_24_code 1 = .ok (.invokevirtual 169, 3) := by decide +kernel
theorem d_R_block_4 : decode prog_12_method_24_code 4 = .ok (.bipush (-9), 2) := by decide +kernel
theorem d_R_block_6 : decode prog_12_method_24_code 6 = .ok (.if_icmp .eq 6, 3) := by decide +kernel
theorem d_R_block_9 : decode prog_12_method_24_code 9 = .ok (.bipush (-3), 2) := by decide +kernel
theorem d_R_block_11 : decode prog_12_method_24_code 11 = .ok (.ireturn, 1) := by decide +kernel
theorem d_R_block_12 : decode prog_12_method_24_code 12 = .ok (.aload_n 0, 1) := by decide +kernel
theorem d_R_block_13 : decode prog_12_method_24_code 13 = .ok (.getfield 25, 3) := by decide +kernel
theorem d_R_block_16 : decode prog_12_method_24_code 16 = .ok (.invokestatic 95, 3) := by decide +kernel
theorem d_R_block_19 : decode prog_12_method_24_code 19 = .ok (.aload_n 0, 1) := by decide +kernel
theorem d_R_block_20 : decode prog_12_method_24_code 20 = .ok (.getfield 25, 3) := by decide +kernel
theorem d_R_block_23 : decode prog_12_method_24_code 23 = .ok (.bipush 16, 2) := by decide +kernel
theorem d_R_block_25 : decode prog_12_method_24_code 25 = .ok (.aload_n 0, 1) := by decide +kernel
theorem d_R_block_26 : decode prog_12_method_24_code 26 = .ok (.getfield 120, 3) := by decide +kernel
theorem d_R_block_29 : decode prog_12_method_24_code 29 = .ok (.iastore, 1) := by decide +kernel
theorem d_R_block_30 : decode prog_12_method_24_code 30 = .ok (.aload_n 0, 1) := by decide +kernel
theorem d_R_block_31 : decode prog_12_method_24_code 31 = .ok (.getfield 25, 3) := by decide +kernel
theorem d_R_block_34 : decode prog_12_method_24_code 34 = .ok (.bipush 17, 2) := by decide +kernel
theorem d_R_block_36 : decode prog_12_method_24_code 36 = .ok (.aload_n 0, 1) := by decide +kernel
theorem d_R_block_37 : decode prog_12_method_24_code 37 = .ok (.getfield 125, 3) := by decide +kernel
theorem d_R_block_40 : decode prog_12_method_24_code 40 = .ok (.iastore, 1) := by decide +kernel
theorem d_R_block_41 : decode prog_12_method_24_code 41 = .ok (.aload_n 0, 1) := by decide +kernel
theorem d_R_block_42 : decode prog_12_method_24_code 42 = .ok (.getfield 25, 3) := by decide +kernel
theorem d_R_block_45 : decode prog_12_method_24_code 45 = .ok (.bipush 18, 2) := by decide +kernel
theorem d_R_block_47 : decode prog_12_method_24_code 47 = .ok (.aload_n 0, 1) := by decide +kernel
theorem d_R_block_48 : decode prog_12_method_24_code 48 = .ok (.getfield 128, 3) := by decide +kernel
theorem d_R_block_51 : decode prog_12_method_24_code 51 = .ok (.iastore, 1) := by decide +kernel
theorem d_R_block_52 : decode prog_12_method_24_code 52 = .ok (.aload_n 0, 1) := by decide +kernel
theorem d_R_block_53 : decode prog_12_method_24_code 53 = .ok (.aload_n 0, 1) := by decide +kernel
theorem d_R_block_54 : decode prog_12_method_24_code 54 = .ok (.getfield 114, 3) := by decide +kernel
theorem d_R_block_57 : decode prog_12_method_24_code 57 = .ok (.putfield 99, 3) := by decide +kernel
theorem d_R_block_60 : decode prog_12_method_24_code 60 = .ok (.iconst 0, 1) := by decide +kernel
theorem d_R_block_61 : decode prog_12_method_24_code 61 = .ok (.istore_n 1, 1) := by decide +kernel
theorem d_R_block_62 : decode prog_12_method_24_code 62 = .ok (.iload_n 1, 1) := by decide +kernel
theorem d_R_block_63 : decode prog_12_method_24_code 63 = .ok (.aload_n 0, 1) := by decide +kernel
theorem d_R_block_64 : decode prog_12_method_24_code 64 = .ok (.getfield 99, 3) := by decide +kernel
theorem d_R_block_67 : decode prog_12_method_24_code 67 = .ok (.if_icmp .ge 57, 3) := by decide +kernel
theorem d_R_block_70 : decode prog_12_method_24_code 70 = .ok (.aload_n 0, 1) := by decide +kernel
theorem d_R_block_71 : decode prog_12_method_24_code 71 = .ok (.getfield 13, 3) := by decide +kernel
theorem d_R_block_74 : decode prog_12_method_24_code 74 = .ok (.iload_n 1, 1) := by decide +kernel
theorem d_R_block_75 : decode prog_12_method_24_code 75 = .ok (.aload_n 0, 1) := by decide +kernel
theorem d_R_block_76 : decode prog_12_method_24_code 76 = .ok (.getfield 83, 3) := by decide +kernel
theorem d_R_block_79 : decode prog_12_method_24_code 79 = .ok (.iload_n 1, 1) := by decide +kernel
theorem d_R_block_80 : decode prog_12_method_24_code 80 = .ok (.iaload, 1) := by decide +kernel
theorem d_R_block_81 : decode prog_12_method_24_code 81 = .ok (.iastore, 1) := by decide +kernel
theorem d_R_block_82 : decode prog_12_method_24_code 82 = .ok (.aload_n 0, 1) := by decide +kernel
theorem d_R_block_83 : decode prog_12_method_24_code 83 = .ok (.getfield 16, 3) := by decide +kernel
theorem d_R_block_86 : decode prog_12_method_24_code 86 = .ok (.iload_n 1, 1) := by decide +kernel
theorem d_R_block_87 : decode prog_12_method_24_code 87 = .ok (.aload_n 0, 1) := by decide +kernel
theorem d_R_block_88 : decode prog_12_method_24_code 88 = .ok (.getfield 86, 3) := by decide +kernel
theorem d_R_block_91 : decode prog_12_method_24_code 91 = .ok (.iload_n 1, 1) := by decide +kernel
theorem d_R_block_92 : decode prog_12_method_24_code 92 = .ok (.iaload, 1) := by decide +kernel
theorem d_R_block_93 : decode prog_12_method_24_code 93 = .ok (.iastore, 1) := by decide +kernel
theorem d_R_block_94 : decode prog_12_method_24_code 94 = .ok (.aload_n 0, 1) := by decide +kernel
theorem d_R_block_95 : decode prog_12_method_24_code 95 = .ok (.getfield 19, 3) := by decide +kernel
theorem d_R_block_98 : decode prog_12_method_24_code 98 = .ok (.iload_n 1, 1) := by decide +kernel
theorem d_R_block_99 : decode prog_12_method_24_code 99 = .ok (.aload_n 0, 1) := by decide +kernel
theorem d_R_block_100 : decode prog_12_method_24_code 100 = .ok (.getfield 89, 3) := by decide +kernel
theorem d_R_block_103 : decode prog_12_method_24_code 103 = .ok (.iload_n 1, 1) := by decide +kernel
theorem d_R_block_104 : decode prog_12_method_24_code 104 = .ok (.iaload, 1) := by decide +kernel
theorem d_R_block_105 : decode prog_12_method_24_code 105 = .ok (.iastore, 1) := by decide +kernel
theorem d_R_block_106 : decode prog_12_method_24_code 106 = .ok (.aload_n 0, 1) := by decide +kernel
theorem d_R_block_107 : decode prog_12_method_24_code 107 = .ok (.getfield 22, 3) := by decide +kernel
theorem d_R_block_110 : decode prog_12_method_24_code 110 = .ok (.iload_n 1, 1) := by decide +kernel
theorem d_R_block_111 : decode prog_12_method_24_code 111 = .ok (.aload_n 0, 1) := by decide +kernel
theorem d_R_block_112 : decode prog_12_method_24_code 112 = .ok (.getfield 92, 3) := by decide +kernel
theorem d_R_block_115 : decode prog_12_method_24_code 115 = .ok (.iload_n 1, 1) := by decide +kernel
theorem d_R_block_116 : decode prog_12_method_24_code 116 = .ok (.iaload, 1) := by decide +kernel
theorem d_R_block_117 : decode prog_12_method_24_code 117 = .ok (.iastore, 1) := by decide +kernel
theorem d_R_block_118 : decode prog_12_method_24_code 118 = .ok (.iinc 1 1, 3) := by decide +kernel
theorem d_R_block_121 : decode prog_12_method_24_code 121 = .ok (.goto (-59), 3) := by decide +kernel
theorem d_R_block_124 : decode prog_12_method_24_code 124 = .ok (.aload_n 0, 1) := by decide +kernel
theorem d_R_block_125 : decode prog_12_method_24_code 125 = .ok (.iconst 0, 1) := by decide +kernel
theorem d_R_block_126 : decode prog_12_method_24_code 126 = .ok (.putfield 173, 3) := by decide +kernel
theorem d_R_block_129 : decode prog_12_method_24_code 129 = .ok (.aload_n 0, 1) := by decide +kernel
theorem d_R_block_130 : decode prog_12_method_24_code 130 = .ok (.getfield 37, 3) := by decide +kernel
theorem d_R_block_133 : decode prog_12_method_24_code 133 = .ok (.iconst 0, 1) := by decide +kernel
theorem d_R_block_134 : decode prog_12_method_24_code 134 = .ok (.iconst 0, 1) := by decide +kernel
theorem d_R_block_135 : decode prog_12_method_24_code 135 = .ok (.bastore, 1) := by decide +kernel
theorem d_R_block_136 : decode prog_12_method_24_code 136 = .ok (.aload_n 0, 1) := by decide +kernel
theorem d_R_block_137 : decode prog_12_method_24_code 137 = .ok (.getfield 37, 3) := by decide +kernel
theorem d_R_block_140 : decode prog_12_method_24_code 140 = .ok (.iconst 1, 1) := by decide +kernel
theorem d_R_block_141 : decode prog_12_method_24_code 141 = .ok (.iconst 0, 1) := by decide +kernel
theorem d_R_block_142 : decode prog_12_method_24_code 142 = .ok (.bastore, 1) := by decide +kernel
theorem d_R_block_143 : decode prog_12_method_24_code 143 = .ok (.aload_n 0, 1) := by decide +kernel
theorem d_R_block_144 : decode prog_12_method_24_code 144 = .ok (.getfield 99, 3) := by decide +kernel
theorem d_R_block_147 : decode prog_12_method_24_code 147 = .ok (.ireturn, 1) := by decide +kernel
def B_R_block (_ : Nat × Nat) : PS :=
  (sSq (sIf (e2 (fun x y : Int32 => decide (¬ x = y)) (eX .int (xV 10 0 X_R_readText (eR 0) aN)) (eV (-9 : Int32))) (sRt .int (eV (-3 : Int32))) sSk)
    (sSq (sX (xS 1 X_R_first (aC .ref (eFR 10 7 (eR 0)) aN)))
    (sSq (sAI (eFR 10 7 (eR 0)) (eV (16 : Int32)) (eFI 10 40 (eR 0)))
    (sSq (sAI (eFR 10 7 (eR 0)) (eV (17 : Int32)) (eFI 10 41 (eR 0)))
    (sSq (sAI (eFR 10 7 (eR 0)) (eV (18 : Int32)) (eFI 10 42 (eR 0)))
    (sSq (sF .int 10 2 (eR 0) (eFI 10 43 (eR 0)))
    (sSq (sCut 1 (sSq (sI 1 (eV (0 : Int32)))
    (sLp 2 (e2 (fun x y : Int32 => decide (x < y)) (eI 1) (eFI 10 2 (eR 0)))
    (sSq (sAI (eFR 10 3 (eR 0)) (eI 1) (eAI (eFR 10 44 (eR 0)) (eI 1)))
    (sSq (sAI (eFR 10 4 (eR 0)) (eI 1) (eAI (eFR 10 45 (eR 0)) (eI 1)))
    (sSq (sAI (eFR 10 5 (eR 0)) (eI 1) (eAI (eFR 10 46 (eR 0)) (eI 1)))
    (sAI (eFR 10 6 (eR 0)) (eI 1) (eAI (eFR 10 47 (eR 0)) (eI 1))))))
    (sInc 1 (1)))))
    (sSq (sF .int 10 10 (eR 0) (eV (0 : Int32)))
    (sSq (sAZ (eFR 10 13 (eR 0)) (eV (0 : Int32)) (eV (0 : Int32)))
    (sSq (sAZ (eFR 10 13 (eR 0)) (eV (1 : Int32)) (eV (0 : Int32)))
    (sRt .int (eFI 10 2 (eR 0)))))))))))))
def X_R_block : PM := fun vs h Q => (lx vs).length ≤ 2 ∧ B_R_block (h.length + 0, hsz h + 0) (fun _ _ => False) (fun _ _ => False) (fun _ _ => False) Q (lini 2 vs) h
theorem v_R_block (l : Launch) : Ctr l y_R_block prog_12_method_24_code 2 (some .int) rm_R_block X_R_block := by
  refine Ctr_of (own := "PackLanesModel") (B := B_R_block) (KR := fun _ Q => Q) (by decide) rfl (fun _ _ _ z => z) (fun _ _ _ _ z => ⟨Or.inl ⟨rfl, rfl⟩, z⟩) (Or.inr (Or.inl rfl)) (fun κ hl ho hR hrt hn0 => ?_)
  subst hl
  unfold B_R_block
  exact (S_sq (pc1 := 12) (S_if1 (pT := 9) (pF := 12) (J2_ne (pF := 12) (pc1 := 4) (pc2 := 6) (E_x (O_V k_R_169 (v_R_readText _) ⟨rfl, rfl⟩ ho (rk hR rfl) (by decide) (T := KT10) (N := 50) rfl (by decide) (pc1 := 1) (pc2 := 1) (E_aln d_R_block_0 rfl) A_n d_R_block_1)) (E_bi d_R_block_4 rfl) d_R_block_6 rfl) (S_ri hrt (pc1 := 11) (E_bi d_R_block_9 rfl) d_R_block_11))
    (S_sq (pc1 := 19) (S_X (O_S k_R_95 (v_R_first _) ⟨rfl, rfl⟩ ho (rk hR rfl) (by decide) (pc2 := 16) (A_c catR (pc1 := 16) (E_fR f_R_25 ho (pc1 := 13) (E_aln d_R_block_12 rfl) d_R_block_13) A_n) d_R_block_16))
    (S_sq (pc1 := 30) (S_AI (pc1 := 23) (pc2 := 25) (pc3 := 29) (E_fR f_R_25 ho (pc1 := 20) (E_aln d_R_block_19 rfl) d_R_block_20) (E_bi d_R_block_23 rfl) (E_fI f_R_120 ho (pc1 := 26) (E_aln d_R_block_25 rfl) d_R_block_26) d_R_block_29)
    (S_sq (pc1 := 41) (S_AI (pc1 := 34) (pc2 := 36) (pc3 := 40) (E_fR f_R_25 ho (pc1 := 31) (E_aln d_R_block_30 rfl) d_R_block_31) (E_bi d_R_block_34 rfl) (E_fI f_R_125 ho (pc1 := 37) (E_aln d_R_block_36 rfl) d_R_block_37) d_R_block_40)
    (S_sq (pc1 := 52) (S_AI (pc1 := 45) (pc2 := 47) (pc3 := 51) (E_fR f_R_25 ho (pc1 := 42) (E_aln d_R_block_41 rfl) d_R_block_42) (E_bi d_R_block_45 rfl) (E_fI f_R_128 ho (pc1 := 48) (E_aln d_R_block_47 rfl) d_R_block_48) d_R_block_51)
    (S_sq (pc1 := 60) (S_FI f_R_99 ho (pc1 := 53) (pc2 := 57) (E_aln d_R_block_52 rfl) (E_fI f_R_114 ho (pc1 := 54) (E_aln d_R_block_53 rfl) d_R_block_54) d_R_block_57)
    (S_sq (pc1 := 124) (S_cut (S_sq (pc1 := 62) (S_In (pc1 := 61) (E_ic d_R_block_60 rfl) d_R_block_61 rfl)
    (S_lp (pT := 70) (pF := 124) (pS := 118) (pG := 121) (J2_lt (pF := 124) (pc1 := 63) (pc2 := 67) (E_iln d_R_block_62 rfl) (E_fI f_R_99 ho (pc1 := 64) (E_aln d_R_block_63 rfl) d_R_block_64) d_R_block_67 rfl)
    (S_sq (pc1 := 82) (S_AI (pc1 := 74) (pc2 := 75) (pc3 := 81) (E_fR f_R_13 ho (pc1 := 71) (E_aln d_R_block_70 rfl) d_R_block_71) (E_iln d_R_block_74 rfl) (E_aI (pc1 := 79) (pc2 := 80) (E_fR f_R_83 ho (pc1 := 76) (E_aln d_R_block_75 rfl) d_R_block_76) (E_iln d_R_block_79 rfl) d_R_block_80) d_R_block_81)
    (S_sq (pc1 := 94) (S_AI (pc1 := 86) (pc2 := 87) (pc3 := 93) (E_fR f_R_16 ho (pc1 := 83) (E_aln d_R_block_82 rfl) d_R_block_83) (E_iln d_R_block_86 rfl) (E_aI (pc1 := 91) (pc2 := 92) (E_fR f_R_86 ho (pc1 := 88) (E_aln d_R_block_87 rfl) d_R_block_88) (E_iln d_R_block_91 rfl) d_R_block_92) d_R_block_93)
    (S_sq (pc1 := 106) (S_AI (pc1 := 98) (pc2 := 99) (pc3 := 105) (E_fR f_R_19 ho (pc1 := 95) (E_aln d_R_block_94 rfl) d_R_block_95) (E_iln d_R_block_98 rfl) (E_aI (pc1 := 103) (pc2 := 104) (E_fR f_R_89 ho (pc1 := 100) (E_aln d_R_block_99 rfl) d_R_block_100) (E_iln d_R_block_103 rfl) d_R_block_104) d_R_block_105)
    (S_AI (pc1 := 110) (pc2 := 111) (pc3 := 117) (E_fR f_R_22 ho (pc1 := 107) (E_aln d_R_block_106 rfl) d_R_block_107) (E_iln d_R_block_110 rfl) (E_aI (pc1 := 115) (pc2 := 116) (E_fR f_R_92 ho (pc1 := 112) (E_aln d_R_block_111 rfl) d_R_block_112) (E_iln d_R_block_115 rfl) d_R_block_116) d_R_block_117))))
    (S_Inc d_R_block_118 rfl) d_R_block_121 rfl)))
    (S_sq (pc1 := 129) (S_FI f_R_173 ho (pc1 := 125) (pc2 := 126) (E_aln d_R_block_124 rfl) (E_ic d_R_block_125 rfl) d_R_block_126)
    (S_sq (pc1 := 136) (S_AZ (pc1 := 133) (pc2 := 134) (pc3 := 135) (E_fR f_R_37 ho (pc1 := 130) (E_aln d_R_block_129 rfl) d_R_block_130) (E_ic d_R_block_133 rfl) (E_ic d_R_block_134 rfl) d_R_block_135)
    (S_sq (pc1 := 143) (S_AZ (pc1 := 140) (pc2 := 141) (pc3 := 142) (E_fR f_R_37 ho (pc1 := 137) (E_aln d_R_block_136 rfl) d_R_block_137) (E_ic d_R_block_140 rfl) (E_ic d_R_block_141 rfl) d_R_block_142)
    (S_ri hrt (pc1 := 147) (E_fI f_R_99 ho (pc1 := 144) (E_aln d_R_block_143 rfl) d_R_block_144) d_R_block_147)))))))))))
theorem d_R_isMemory_0 : decode prog_12_method_25_code 0 = .ok (.aload_n 0, 1) := by decide +kernel
theorem d_R_isMemory_1 : decode prog_12_method_25_code 1 = .ok (.getfield 13, 3) := by decide +kernel
theorem d_R_isMemory_4 : decode prog_12_method_25_code 4 = .ok (.iload_n 1, 1) := by decide +kernel
theorem d_R_isMemory_5 : decode prog_12_method_25_code 5 = .ok (.iaload, 1) := by decide +kernel
theorem d_R_isMemory_6 : decode prog_12_method_25_code 6 = .ok (.ifCond .eq 14, 3) := by decide +kernel
theorem d_R_isMemory_9 : decode prog_12_method_25_code 9 = .ok (.aload_n 0, 1) := by decide +kernel
theorem d_R_isMemory_10 : decode prog_12_method_25_code 10 = .ok (.getfield 13, 3) := by decide +kernel
theorem d_R_isMemory_13 : decode prog_12_method_25_code 13 = .ok (.iload_n 1, 1) := by decide +kernel
theorem d_R_isMemory_14 : decode prog_12_method_25_code 14 = .ok (.iaload, 1) := by decide +kernel
theorem d_R_isMemory_15 : decode prog_12_method_25_code 15 = .ok (.bipush 6, 2) := by decide +kernel
theorem d_R_isMemory_17 : decode prog_12_method_25_code 17 = .ok (.if_icmp .ne 7, 3) := by decide +kernel
theorem d_R_isMemory_20 : decode prog_12_method_25_code 20 = .ok (.iconst 1, 1) := by decide +kernel
theorem d_R_isMemory_21 : decode prog_12_method_25_code 21 = .ok (.goto 4, 3) := by decide +kernel
theorem d_R_isMemory_24 : decode prog_12_method_25_code 24 = .ok (.iconst 0, 1) := by decide +kernel
theorem d_R_isMemory_25 : decode prog_12_method_25_code 25 = .ok (.ireturn, 1) := by decide +kernel
def B_R_isMemory (_ : Nat × Nat) : PS :=
  (sRz (eC (cO (e1 (fun x : Int32 => decide (x = 0)) (eAI (eFR 10 3 (eR 0)) (eI 1))) (e2 (fun x y : Int32 => decide (x = y)) (eAI (eFR 10 3 (eR 0)) (eI 1)) (eV (6 : Int32))))))
def X_R_isMemory : PM := fun vs h Q => (lx vs).length ≤ 2 ∧ B_R_isMemory (h.length + 0, hsz h + 0) (fun _ _ => False) (fun _ _ => False) (fun _ _ => False) Q (lini 2 vs) h
theorem v_R_isMemory (l : Launch) : Ctr l y_R_isMemory prog_12_method_25_code 2 (some .boolean) rm_R_isMemory X_R_isMemory := by
  refine Ctr_of (own := "PackLanesModel") (B := B_R_isMemory) (KR := fun _ Q => Q) (by decide) rfl (fun _ _ _ z => z) (fun _ _ _ _ z => ⟨Or.inl ⟨rfl, rfl⟩, z⟩) (Or.inr (Or.inr (Or.inl rfl))) (fun κ hl ho hR hrt hn0 => ?_)
  subst hl
  unfold B_R_isMemory
  exact (S_rz hrt (pc1 := 25) (E_C (pT := 20) (pF := 24) (pc2 := 25) (C_or (pc1 := 9) (T1_eq (pT := 20) (pc2 := 6) (E_aI (pc1 := 4) (pc2 := 5) (E_fR f_R_13 ho (pc1 := 1) (E_aln d_R_isMemory_0 rfl) d_R_isMemory_1) (E_iln d_R_isMemory_4 rfl) d_R_isMemory_5) d_R_isMemory_6 rfl) (J2_eq (pF := 24) (pc1 := 15) (pc2 := 17) (E_aI (pc1 := 13) (pc2 := 14) (E_fR f_R_13 ho (pc1 := 10) (E_aln d_R_isMemory_9 rfl) d_R_isMemory_10) (E_iln d_R_isMemory_13 rfl) d_R_isMemory_14) (E_bi d_R_isMemory_15 rfl) d_R_isMemory_17 rfl)) d_R_isMemory_20 d_R_isMemory_21 rfl d_R_isMemory_24 rfl) d_R_isMemory_25)
theorem d_R_isBinary_0 : decode prog_12_method_26_code 0 = .ok (.aload_n 0, 1) := by decide +kernel
theorem d_R_isBinary_1 : decode prog_12_method_26_code 1 = .ok (.getfield 13, 3) := by decide +kernel
theorem d_R_isBinary_4 : decode prog_12_method_26_code 4 = .ok (.iload_n 1, 1) := by decide +kernel
theorem d_R_isBinary_5 : decode prog_12_method_26_code 5 = .ok (.iaload, 1) := by decide +kernel
theorem d_R_isBinary_6 : decode prog_12_method_26_code 6 = .ok (.i2l, 1) := by decide +kernel
theorem d_R_isBinary_7 : decode prog_12_method_26_code 7 = .ok (.ldc2_w 176, 3) := by decide +kernel
theorem d_R_isBinary_10 : decode prog_12_method_26_code 10 = .ok (.ldc2_w 178, 3) := by decide +kernel
theorem d_R_isBinary_13 : decode prog_12_method_26_code 13 = .ok (.invokestatic 103, 3) := by decide +kernel
theorem d_R_isBinary_16 : decode prog_12_method_26_code 16 = .ok (.ireturn, 1) := by decide +kernel
def B_R_isBinary (_ : Nat × Nat) : PS :=
  (sRz (eX .int (xS 3 X_R_in (aC .long (e1 (fun x : Int32 => x.toInt64) (eAI (eFR 10 3 (eR 0)) (eI 1))) (aC .long (eV (2 : Int64)) (aC .long (eV (5 : Int64)) aN))))))
def X_R_isBinary : PM := fun vs h Q => (lx vs).length ≤ 2 ∧ B_R_isBinary (h.length + 0, hsz h + 0) (fun _ _ => False) (fun _ _ => False) (fun _ _ => False) Q (lini 2 vs) h
theorem v_R_isBinary (l : Launch) : Ctr l y_R_isBinary prog_12_method_26_code 2 (some .boolean) rm_R_isBinary X_R_isBinary := by
  refine Ctr_of (own := "PackLanesModel") (B := B_R_isBinary) (KR := fun _ Q => Q) (by decide) rfl (fun _ _ _ z => z) (fun _ _ _ _ z => ⟨Or.inl ⟨rfl, rfl⟩, z⟩) (Or.inr (Or.inr (Or.inl rfl))) (fun κ hl ho hR hrt hn0 => ?_)
  subst hl
  unfold B_R_isBinary
  exact (S_rz hrt (pc1 := 16) (E_x (O_S k_R_103 (v_R_in _) ⟨rfl, rfl⟩ ho (rk hR rfl) (by decide) (pc2 := 13) (A_c catL (pc1 := 7) (E_i2l (pc1 := 6) (E_aI (pc1 := 4) (pc2 := 5) (E_fR f_R_13 ho (pc1 := 1) (E_aln d_R_isBinary_0 rfl) d_R_isBinary_1) (E_iln d_R_isBinary_4 rfl) d_R_isBinary_5) d_R_isBinary_6) (A_c catL (pc1 := 10) (E_ldc2 ho w_cl_R_176 d_R_isBinary_7) (A_c catL (pc1 := 13) (E_ldc2 ho w_cl_R_178 d_R_isBinary_10) A_n))) d_R_isBinary_13)) d_R_isBinary_16)
theorem d_R_addressOf_0 : decode prog_12_method_27_code 0 = .ok (.iload_n 1, 1) := by decide +kernel
theorem d_R_addressOf_1 : decode prog_12_method_27_code 1 = .ok (.ifCond .ne 7, 3) := by decide +kernel
theorem d_R_addressOf_4 : decode prog_12_method_27_code 4 = .ok (.iload_n 2, 1) := by decide +kernel
theorem d_R_addressOf_5 : decode prog_12_method_27_code 5 = .ok (.goto 9, 3) := by decide +kernel
theorem d_R_addressOf_8 : decode prog_12_method_27_code 8 = .ok (.aload_n 0, 1) := by decide +kernel
theorem d_R_addressOf_9 : decode prog_12_method_27_code 9 = .ok (.bipush 16, 2) := by decide +kernel
theorem d_R_addressOf_11 : decode prog_12_method_27_code 11 = .ok (.iaload, 1) := by decide +kernel
theorem d_R_addressOf_12 : decode prog_12_method_27_code 12 = .ok (.iload_n 2, 1) := by decide +kernel
theorem d_R_addressOf_13 : decode prog_12_method_27_code 13 = .ok (.iadd, 1) := by decide +kernel
theorem d_R_addressOf_14 : decode prog_12_method_27_code 14 = .ok (.ireturn, 1) := by decide +kernel
def B_R_addressOf (_ : Nat × Nat) : PS :=
  (sRt .int (eIf (e1 (fun x : Int32 => decide (x = 0)) (eI 1)) (eI 2) (e2 (fun x y : Int32 => x + y) (eAI (eR 0) (eV (16 : Int32))) (eI 2))))
def X_R_addressOf : PM := fun vs h Q => (lx vs).length ≤ 3 ∧ B_R_addressOf (h.length + 0, hsz h + 0) (fun _ _ => False) (fun _ _ => False) (fun _ _ => False) Q (lini 3 vs) h
theorem v_R_addressOf (l : Launch) : Ctr l y_R_addressOf prog_12_method_27_code 3 (some .int) rm_R_addressOf X_R_addressOf := by
  refine Ctr_of (own := "PackLanesModel") (B := B_R_addressOf) (KR := fun _ Q => Q) (by decide) rfl (fun _ _ _ z => z) (fun _ _ _ _ z => ⟨Or.inl ⟨rfl, rfl⟩, z⟩) (Or.inr (Or.inl rfl)) (fun κ hl ho hR hrt hn0 => ?_)
  subst hl
  unfold B_R_addressOf
  exact (S_ri hrt (pc1 := 14) (E_if (pT := 4) (pF := 8) (pc1 := 5) (pc2 := 14) (J1_eq (pF := 8) (pc2 := 1) (E_iln d_R_addressOf_0 rfl) d_R_addressOf_1 rfl) (E_iln d_R_addressOf_4 rfl) d_R_addressOf_5 rfl (E_iadd (pc1 := 12) (pc2 := 13) (E_aI (pc1 := 9) (pc2 := 11) (E_aln d_R_addressOf_8 rfl) (E_bi d_R_addressOf_9 rfl) d_R_addressOf_11) (E_iln d_R_addressOf_12 rfl) d_R_addressOf_13)) d_R_addressOf_14)
theorem d_R_uses_0 : decode prog_12_method_28_code 0 = .ok (.aload_n 0, 1) := by decide +kernel
theorem d_R_uses_1 : decode prog_12_method_28_code 1 = .ok (.iload_n 1, 1) := by decide +kernel
theorem d_R_uses_2 : decode prog_12_method_28_code 2 = .ok (.invokevirtual 180, 3) := by decide +kernel
theorem d_R_uses_5 : decode prog_12_method_28_code 5 = .ok (.ifCond .eq 23, 3) := by decide +kernel
theorem d_R_uses_8 : decode prog_12_method_28_code 8 = .ok (.aload_n 0, 1) := by decide +kernel
theorem d_R_uses_9 : decode prog_12_method_28_code 9 = .ok (.getfield 16, 3) := by decide +kernel
theorem d_R_uses_12 : decode prog_12_method_28_code 12 = .ok (.iload_n 1, 1) := by decide +kernel
theorem d_R_uses_13 : decode prog_12_method_28_code 13 = .ok (.iaload, 1) := by decide +kernel
theorem d_R_uses_14 : decode prog_12_method_28_code 14 = .ok (.iload_n 2, 1) := by decide +kernel
theorem d_R_uses_15 : decode prog_12_method_28_code 15 = .ok (.if_icmp .eq 34, 3) := by decide +kernel
theorem d_R_uses_18 : decode prog_12_method_28_code 18 = .ok (.aload_n 0, 1) := by decide +kernel
theorem d_R_uses_19 : decode prog_12_method_28_code 19 = .ok (.getfield 19, 3) := by decide +kernel
theorem d_R_uses_22 : decode prog_12_method_28_code 22 = .ok (.iload_n 1, 1) := by decide +kernel
theorem d_R_uses_23 : decode prog_12_method_28_code 23 = .ok (.iaload, 1) := by decide +kernel
theorem d_R_uses_24 : decode prog_12_method_28_code 24 = .ok (.iload_n 2, 1) := by decide +kernel
theorem d_R_uses_25 : decode prog_12_method_28_code 25 = .ok (.if_icmp .eq 24, 3) := by decide +kernel
theorem d_R_uses_28 : decode prog_12_method_28_code 28 = .ok (.aload_n 0, 1) := by decide +kernel
theorem d_R_uses_29 : decode prog_12_method_28_code 29 = .ok (.getfield 13, 3) := by decide +kernel
theorem d_R_uses_32 : decode prog_12_method_28_code 32 = .ok (.iload_n 1, 1) := by decide +kernel
theorem d_R_uses_33 : decode prog_12_method_28_code 33 = .ok (.iaload, 1) := by decide +kernel
theorem d_R_uses_34 : decode prog_12_method_28_code 34 = .ok (.bipush 6, 2) := by decide +kernel
theorem d_R_uses_36 : decode prog_12_method_28_code 36 = .ok (.if_icmp .ne 17, 3) := by decide +kernel
theorem d_R_uses_39 : decode prog_12_method_28_code 39 = .ok (.aload_n 0, 1) := by decide +kernel
theorem d_R_uses_40 : decode prog_12_method_28_code 40 = .ok (.getfield 22, 3) := by decide +kernel
theorem d_R_uses_43 : decode prog_12_method_28_code 43 = .ok (.iload_n 1, 1) := by decide +kernel
theorem d_R_uses_44 : decode prog_12_method_28_code 44 = .ok (.iaload, 1) := by decide +kernel
theorem d_R_uses_45 : decode prog_12_method_28_code 45 = .ok (.iload_n 2, 1) := by decide +kernel
theorem d_R_uses_46 : decode prog_12_method_28_code 46 = .ok (.if_icmp .ne 7, 3) := by decide +kernel
theorem d_R_uses_49 : decode prog_12_method_28_code 49 = .ok (.iconst 1, 1) := by decide +kernel
theorem d_R_uses_50 : decode prog_12_method_28_code 50 = .ok (.goto 4, 3) := by decide +kernel
theorem d_R_uses_53 : decode prog_12_method_28_code 53 = .ok (.iconst 0, 1) := by decide +kernel
theorem d_R_uses_54 : decode prog_12_method_28_code 54 = .ok (.ireturn, 1) := by decide +kernel
def B_R_uses (_ : Nat × Nat) : PS :=
  (sRz (eC (cO (cA (e1 (fun x : Int32 => decide (¬ x = 0)) (eX .int (xV 10 1 X_R_isBinary (eR 0) (aC .int (eI 1) aN)))) (cO (e2 (fun x y : Int32 => decide (x = y)) (eAI (eFR 10 4 (eR 0)) (eI 1)) (eI 2)) (e2 (fun x y : Int32 => decide (x = y)) (eAI (eFR 10 5 (eR 0)) (eI 1)) (eI 2)))) (cA (e2 (fun x y : Int32 => decide (x = y)) (eAI (eFR 10 3 (eR 0)) (eI 1)) (eV (6 : Int32))) (e2 (fun x y : Int32 => decide (x = y)) (eAI (eFR 10 6 (eR 0)) (eI 1)) (eI 2))))))
def X_R_uses : PM := fun vs h Q => (lx vs).length ≤ 3 ∧ B_R_uses (h.length + 0, hsz h + 0) (fun _ _ => False) (fun _ _ => False) (fun _ _ => False) Q (lini 3 vs) h
theorem v_R_uses (l : Launch) : Ctr l y_R_uses prog_12_method_28_code 3 (some .boolean) rm_R_uses X_R_uses := by
  refine Ctr_of (own := "PackLanesModel") (B := B_R_uses) (KR := fun _ Q => Q) (by decide) rfl (fun _ _ _ z => z) (fun _ _ _ _ z => ⟨Or.inl ⟨rfl, rfl⟩, z⟩) (Or.inr (Or.inr (Or.inl rfl))) (fun κ hl ho hR hrt hn0 => ?_)
  subst hl
  unfold B_R_uses
  exact (S_rz hrt (pc1 := 54) (E_C (pT := 49) (pF := 53) (pc2 := 54) (C_or (pc1 := 28) (C_and (pc1 := 8) (J1_ne (pF := 28) (pc2 := 5) (E_x (O_V k_R_180 (v_R_isBinary _) ⟨rfl, rfl⟩ ho (rk hR rfl) (by decide) (T := KT10) (N := 50) rfl (by decide) (pc1 := 1) (pc2 := 2) (E_aln d_R_uses_0 rfl) (A_c catI (pc1 := 2) (E_iln d_R_uses_1 rfl) A_n) d_R_uses_2)) d_R_uses_5 rfl) (C_or (pc1 := 18) (T2_eq (pT := 49) (pc1 := 14) (pc2 := 15) (E_aI (pc1 := 12) (pc2 := 13) (E_fR f_R_16 ho (pc1 := 9) (E_aln d_R_uses_8 rfl) d_R_uses_9) (E_iln d_R_uses_12 rfl) d_R_uses_13) (E_iln d_R_uses_14 rfl) d_R_uses_15 rfl) (T2_eq (pT := 49) (pc1 := 24) (pc2 := 25) (E_aI (pc1 := 22) (pc2 := 23) (E_fR f_R_19 ho (pc1 := 19) (E_aln d_R_uses_18 rfl) d_R_uses_19) (E_iln d_R_uses_22 rfl) d_R_uses_23) (E_iln d_R_uses_24 rfl) d_R_uses_25 rfl))) (C_and (pc1 := 39) (J2_eq (pF := 53) (pc1 := 34) (pc2 := 36) (E_aI (pc1 := 32) (pc2 := 33) (E_fR f_R_13 ho (pc1 := 29) (E_aln d_R_uses_28 rfl) d_R_uses_29) (E_iln d_R_uses_32 rfl) d_R_uses_33) (E_bi d_R_uses_34 rfl) d_R_uses_36 rfl) (J2_eq (pF := 53) (pc1 := 45) (pc2 := 46) (E_aI (pc1 := 43) (pc2 := 44) (E_fR f_R_22 ho (pc1 := 40) (E_aln d_R_uses_39 rfl) d_R_uses_40) (E_iln d_R_uses_43 rfl) d_R_uses_44) (E_iln d_R_uses_45 rfl) d_R_uses_46 rfl))) d_R_uses_49 d_R_uses_50 rfl d_R_uses_53 rfl) d_R_uses_54)
theorem d_R_meet_0 : decode prog_12_method_29_code 0 = .ok (.aload_n 0, 1) := by decide +kernel
theorem d_R_meet_1 : decode prog_12_method_29_code 1 = .ok (.getfield 16, 3) := by decide +kernel
theorem d_R_meet_4 : decode prog_12_method_29_code 4 = .ok (.iload_n 2, 1) := by decide +kernel
theorem d_R_meet_5 : decode prog_12_method_29_code 5 = .ok (.iaload, 1) := by decide +kernel
theorem d_R_meet_6 : decode prog_12_method_29_code 6 = .ok (.aload_n 0, 1) := by decide +kernel
theorem d_R_meet_7 : decode prog_12_method_29_code 7 = .ok (.getfield 16, 3) := by decide +kernel
theorem d_R_meet_10 : decode prog_12_method_29_code 10 = .ok (.iload_n 3, 1) := by decide +kernel
theorem d_R_meet_11 : decode prog_12_method_29_code 11 = .ok (.iaload, 1) := by decide +kernel
theorem d_R_meet_12 : decode prog_12_method_29_code 12 = .ok (.if_icmp .ne 24, 3) := by decide +kernel
theorem d_R_meet_15 : decode prog_12_method_29_code 15 = .ok (.aload_n 0, 1) := by decide +kernel
theorem d_R_meet_16 : decode prog_12_method_29_code 16 = .ok (.getfield 19, 3) := by decide +kernel
theorem d_R_meet_19 : decode prog_12_method_29_code 19 = .ok (.iload_n 2, 1) := by decide +kernel
theorem d_R_meet_20 : decode prog_12_method_29_code 20 = .ok (.iaload, 1) := by decide +kernel
theorem d_R_meet_21 : decode prog_12_method_29_code 21 = .ok (.aload_n 0, 1) := by decide +kernel
theorem d_R_meet_22 : decode prog_12_method_29_code 22 = .ok (.getfield 19, 3) := by decide +kernel
theorem d_R_meet_25 : decode prog_12_method_29_code 25 = .ok (.iload_n 3, 1) := by decide +kernel
theorem d_R_meet_26 : decode prog_12_method_29_code 26 = .ok (.iaload, 1) := by decide +kernel
theorem d_R_meet_27 : decode prog_12_method_29_code 27 = .ok (.if_icmp .ne 7, 3) := by decide +kernel
theorem d_R_meet_30 : decode prog_12_method_29_code 30 = .ok (.iconst 1, 1) := by decide +kernel
theorem d_R_meet_31 : decode prog_12_method_29_code 31 = .ok (.goto 4, 3) := by decide +kernel
theorem d_R_meet_34 : decode prog_12_method_29_code 34 = .ok (.iconst 0, 1) := by decide +kernel
theorem d_R_meet_35 : decode prog_12_method_29_code 35 = .ok (.ireturn, 1) := by decide +kernel
theorem d_R_meet_36 : decode prog_12_method_29_code 36 = .ok (.aload_n 1, 1) := by decide +kernel
theorem d_R_meet_37 : decode prog_12_method_29_code 37 = .ok (.bipush 17, 2) := by decide +kernel
theorem d_R_meet_39 : decode prog_12_method_29_code 39 = .ok (.iaload, 1) := by decide +kernel
theorem d_R_meet_40 : decode prog_12_method_29_code 40 = .ok (.ifCond .eq 38, 3) := by decide +kernel
theorem d_R_meet_43 : decode prog_12_method_29_code 43 = .ok (.aload_n 1, 1) := by decide +kernel
theorem d_R_meet_44 : decode prog_12_method_29_code 44 = .ok (.aload_n 0, 1) := by decide +kernel
theorem d_R_meet_45 : decode prog_12_method_29_code 45 = .ok (.getfield 16, 3) := by decide +kernel
theorem d_R_meet_48 : decode prog_12_method_29_code 48 = .ok (.iload_n 2, 1) := by decide +kernel
theorem d_R_meet_49 : decode prog_12_method_29_code 49 = .ok (.iaload, 1) := by decide +kernel
theorem d_R_meet_50 : decode prog_12_method_29_code 50 = .ok (.aload_n 0, 1) := by decide +kernel
theorem d_R_meet_51 : decode prog_12_method_29_code 51 = .ok (.getfield 19, 3) := by decide +kernel
theorem d_R_meet_54 : decode prog_12_method_29_code 54 = .ok (.iload_n 2, 1) := by decide +kernel
theorem d_R_meet_55 : decode prog_12_method_29_code 55 = .ok (.iaload, 1) := by decide +kernel
theorem d_R_meet_56 : decode prog_12_method_29_code 56 = .ok (.invokestatic 183, 3) := by decide +kernel
theorem d_R_meet_59 : decode prog_12_method_29_code 59 = .ok (.aload_n 1, 1) := by decide +kernel
theorem d_R_meet_60 : decode prog_12_method_29_code 60 = .ok (.aload_n 0, 1) := by decide +kernel
theorem d_R_meet_61 : decode prog_12_method_29_code 61 = .ok (.getfield 16, 3) := by decide +kernel
theorem d_R_meet_64 : decode prog_12_method_29_code 64 = .ok (.iload_n 3, 1) := by decide +kernel
theorem d_R_meet_65 : decode prog_12_method_29_code 65 = .ok (.iaload, 1) := by decide +kernel
theorem d_R_meet_66 : decode prog_12_method_29_code 66 = .ok (.aload_n 0, 1) := by decide +kernel
theorem d_R_meet_67 : decode prog_12_method_29_code 67 = .ok (.getfield 19, 3) := by decide +kernel
theorem d_R_meet_70 : decode prog_12_method_29_code 70 = .ok (.iload_n 3, 1) := by decide +kernel
theorem d_R_meet_71 : decode prog_12_method_29_code 71 = .ok (.iaload, 1) := by decide +kernel
theorem d_R_meet_72 : decode prog_12_method_29_code 72 = .ok (.invokestatic 183, 3) := by decide +kernel
theorem d_R_meet_75 : decode prog_12_method_29_code 75 = .ok (.if_icmp .ne 7, 3) := by decide +kernel
theorem d_R_meet_78 : decode prog_12_method_29_code 78 = .ok (.iconst 1, 1) := by decide +kernel
theorem d_R_meet_79 : decode prog_12_method_29_code 79 = .ok (.goto 4, 3) := by decide +kernel
theorem d_R_meet_82 : decode prog_12_method_29_code 82 = .ok (.iconst 0, 1) := by decide +kernel
theorem d_R_meet_83 : decode prog_12_method_29_code 83 = .ok (.ireturn, 1) := by decide +kernel
def B_R_meet (_ : Nat × Nat) : PS :=
  (sSq (sIf (e2 (fun x y : Int32 => decide (x = y)) (eAI (eFR 10 4 (eR 0)) (eI 2)) (eAI (eFR 10 4 (eR 0)) (eI 3))) (sRz (eC (e2 (fun x y : Int32 => decide (x = y)) (eAI (eFR 10 5 (eR 0)) (eI 2)) (eAI (eFR 10 5 (eR 0)) (eI 3))))) sSk)
    (sRz (eC (cO (e1 (fun x : Int32 => decide (x = 0)) (eAI (eR 1) (eV (17 : Int32)))) (e2 (fun x y : Int32 => decide (x = y)) (eX .int (xS 3 X_R_addressOf (aC .ref (eR 1) (aC .int (eAI (eFR 10 4 (eR 0)) (eI 2)) (aC .int (eAI (eFR 10 5 (eR 0)) (eI 2)) aN))))) (eX .int (xS 3 X_R_addressOf (aC .ref (eR 1) (aC .int (eAI (eFR 10 4 (eR 0)) (eI 3)) (aC .int (eAI (eFR 10 5 (eR 0)) (eI 3)) aN))))))))))
def X_R_meet : PM := fun vs h Q => (lx vs).length ≤ 4 ∧ B_R_meet (h.length + 0, hsz h + 0) (fun _ _ => False) (fun _ _ => False) (fun _ _ => False) Q (lini 4 vs) h
theorem v_R_meet (l : Launch) : Ctr l y_R_meet prog_12_method_29_code 4 (some .boolean) rm_R_meet X_R_meet := by
  refine Ctr_of (own := "PackLanesModel") (B := B_R_meet) (KR := fun _ Q => Q) (by decide) rfl (fun _ _ _ z => z) (fun _ _ _ _ z => ⟨Or.inl ⟨rfl, rfl⟩, z⟩) (Or.inr (Or.inr (Or.inl rfl))) (fun κ hl ho hR hrt hn0 => ?_)
  subst hl
  unfold B_R_meet
  exact (S_sq (pc1 := 36) (S_if1 (pT := 15) (pF := 36) (J2_eq (pF := 36) (pc1 := 6) (pc2 := 12) (E_aI (pc1 := 4) (pc2 := 5) (E_fR f_R_16 ho (pc1 := 1) (E_aln d_R_meet_0 rfl) d_R_meet_1) (E_iln d_R_meet_4 rfl) d_R_meet_5) (E_aI (pc1 := 10) (pc2 := 11) (E_fR f_R_16 ho (pc1 := 7) (E_aln d_R_meet_6 rfl) d_R_meet_7) (E_iln d_R_meet_10 rfl) d_R_meet_11) d_R_meet_12 rfl) (S_rz hrt (pc1 := 35) (E_C (pT := 30) (pF := 34) (pc2 := 35) (J2_eq (pF := 34) (pc1 := 21) (pc2 := 27) (E_aI (pc1 := 19) (pc2 := 20) (E_fR f_R_19 ho (pc1 := 16) (E_aln d_R_meet_15 rfl) d_R_meet_16) (E_iln d_R_meet_19 rfl) d_R_meet_20) (E_aI (pc1 := 25) (pc2 := 26) (E_fR f_R_19 ho (pc1 := 22) (E_aln d_R_meet_21 rfl) d_R_meet_22) (E_iln d_R_meet_25 rfl) d_R_meet_26) d_R_meet_27 rfl) d_R_meet_30 d_R_meet_31 rfl d_R_meet_34 rfl) d_R_meet_35))
    (S_rz hrt (pc1 := 83) (E_C (pT := 78) (pF := 82) (pc2 := 83) (C_or (pc1 := 43) (T1_eq (pT := 78) (pc2 := 40) (E_aI (pc1 := 37) (pc2 := 39) (E_aln d_R_meet_36 rfl) (E_bi d_R_meet_37 rfl) d_R_meet_39) d_R_meet_40 rfl) (J2_eq (pF := 82) (pc1 := 59) (pc2 := 75) (E_x (O_S k_R_183 (v_R_addressOf _) ⟨rfl, rfl⟩ ho (rk hR rfl) (by decide) (pc2 := 56) (A_c catR (pc1 := 44) (E_aln d_R_meet_43 rfl) (A_c catI (pc1 := 50) (E_aI (pc1 := 48) (pc2 := 49) (E_fR f_R_16 ho (pc1 := 45) (E_aln d_R_meet_44 rfl) d_R_meet_45) (E_iln d_R_meet_48 rfl) d_R_meet_49) (A_c catI (pc1 := 56) (E_aI (pc1 := 54) (pc2 := 55) (E_fR f_R_19 ho (pc1 := 51) (E_aln d_R_meet_50 rfl) d_R_meet_51) (E_iln d_R_meet_54 rfl) d_R_meet_55) A_n))) d_R_meet_56)) (E_x (O_S k_R_183 (v_R_addressOf _) ⟨rfl, rfl⟩ ho (rk hR rfl) (by decide) (pc2 := 72) (A_c catR (pc1 := 60) (E_aln d_R_meet_59 rfl) (A_c catI (pc1 := 66) (E_aI (pc1 := 64) (pc2 := 65) (E_fR f_R_16 ho (pc1 := 61) (E_aln d_R_meet_60 rfl) d_R_meet_61) (E_iln d_R_meet_64 rfl) d_R_meet_65) (A_c catI (pc1 := 72) (E_aI (pc1 := 70) (pc2 := 71) (E_fR f_R_19 ho (pc1 := 67) (E_aln d_R_meet_66 rfl) d_R_meet_67) (E_iln d_R_meet_70 rfl) d_R_meet_71) A_n))) d_R_meet_72)) d_R_meet_75 rfl)) d_R_meet_78 d_R_meet_79 rfl d_R_meet_82 rfl) d_R_meet_83))
theorem d_R_doesFollow_0 : decode prog_12_method_30_code 0 = .ok (.aload_n 0, 1) := by decide +kernel
theorem d_R_doesFollow_1 : decode prog_12_method_30_code 1 = .ok (.getfield 187, 3) := by decide +kernel
theorem d_R_doesFollow_4 : decode prog_12_method_30_code 4 = .ok (.iload_n 3, 1) := by decide +kernel
theorem d_R_doesFollow_5 : decode prog_12_method_30_code 5 = .ok (.invokestatic 190, 3) := by decide +kernel
theorem d_R_doesFollow_8 : decode prog_12_method_30_code 8 = .ok (.ifCond .ne 14, 3) := by decide +kernel
theorem d_R_doesFollow_11 : decode prog_12_method_30_code 11 = .ok (.aload_n 0, 1) := by decide +kernel
theorem d_R_doesFollow_12 : decode prog_12_method_30_code 12 = .ok (.getfield 187, 3) := by decide +kernel
theorem d_R_doesFollow_15 : decode prog_12_method_30_code 15 = .ok (.iload_n 2, 1) := by decide +kernel
theorem d_R_doesFollow_16 : decode prog_12_method_30_code 16 = .ok (.invokestatic 190, 3) := by decide +kernel
theorem d_R_doesFollow_19 : decode prog_12_method_30_code 19 = .ok (.ifCond .eq 5, 3) := by decide +kernel
theorem d_R_doesFollow_22 : decode prog_12_method_30_code 22 = .ok (.iconst 0, 1) := by decide +kernel
theorem d_R_doesFollow_23 : decode prog_12_method_30_code 23 = .ok (.ireturn, 1) := by decide +kernel
theorem d_R_doesFollow_24 : decode prog_12_method_30_code 24 = .ok (.aload_n 0, 1) := by decide +kernel
theorem d_R_doesFollow_25 : decode prog_12_method_30_code 25 = .ok (.iload_n 3, 1) := by decide +kernel
theorem d_R_doesFollow_26 : decode prog_12_method_30_code 26 = .ok (.invokevirtual 194, 3) := by decide +kernel
theorem d_R_doesFollow_29 : decode prog_12_method_30_code 29 = .ok (.ifCond .eq 47, 3) := by decide +kernel
theorem d_R_doesFollow_32 : decode prog_12_method_30_code 32 = .ok (.aload_n 0, 1) := by decide +kernel
theorem d_R_doesFollow_33 : decode prog_12_method_30_code 33 = .ok (.iload_n 2, 1) := by decide +kernel
theorem d_R_doesFollow_34 : decode prog_12_method_30_code 34 = .ok (.invokevirtual 194, 3) := by decide +kernel
theorem d_R_doesFollow_37 : decode prog_12_method_30_code 37 = .ok (.ifCond .eq 39, 3) := by decide +kernel
theorem d_R_doesFollow_40 : decode prog_12_method_30_code 40 = .ok (.aload_n 0, 1) := by decide +kernel
theorem d_R_doesFollow_41 : decode prog_12_method_30_code 41 = .ok (.getfield 13, 3) := by decide +kernel
theorem d_R_doesFollow_44 : decode prog_12_method_30_code 44 = .ok (.iload_n 3, 1) := by decide +kernel
theorem d_R_doesFollow_45 : decode prog_12_method_30_code 45 = .ok (.iaload, 1) := by decide +kernel
theorem d_R_doesFollow_46 : decode prog_12_method_30_code 46 = .ok (.bipush 6, 2) := by decide +kernel
theorem d_R_doesFollow_48 : decode prog_12_method_30_code 48 = .ok (.if_icmp .eq 14, 3) := by decide +kernel
theorem d_R_doesFollow_51 : decode prog_12_method_30_code 51 = .ok (.aload_n 0, 1) := by decide +kernel
theorem d_R_doesFollow_52 : decode prog_12_method_30_code 52 = .ok (.getfield 13, 3) := by decide +kernel
theorem d_R_doesFollow_55 : decode prog_12_method_30_code 55 = .ok (.iload_n 2, 1) := by decide +kernel
theorem d_R_doesFollow_56 : decode prog_12_method_30_code 56 = .ok (.iaload, 1) := by decide +kernel
theorem d_R_doesFollow_57 : decode prog_12_method_30_code 57 = .ok (.bipush 6, 2) := by decide +kernel
theorem d_R_doesFollow_59 : decode prog_12_method_30_code 59 = .ok (.if_icmp .ne 17, 3) := by decide +kernel
theorem d_R_doesFollow_62 : decode prog_12_method_30_code 62 = .ok (.aload_n 0, 1) := by decide +kernel
theorem d_R_doesFollow_63 : decode prog_12_method_30_code 63 = .ok (.aload_n 1, 1) := by decide +kernel
theorem d_R_doesFollow_64 : decode prog_12_method_30_code 64 = .ok (.iload_n 3, 1) := by decide +kernel
theorem d_R_doesFollow_65 : decode prog_12_method_30_code 65 = .ok (.iload_n 2, 1) := by decide +kernel
theorem d_R_doesFollow_66 : decode prog_12_method_30_code 66 = .ok (.invokevirtual 197, 3) := by decide +kernel
theorem d_R_doesFollow_69 : decode prog_12_method_30_code 69 = .ok (.ifCond .eq 7, 3) := by decide +kernel
theorem d_R_doesFollow_72 : decode prog_12_method_30_code 72 = .ok (.iconst 1, 1) := by decide +kernel
theorem d_R_doesFollow_73 : decode prog_12_method_30_code 73 = .ok (.goto 4, 3) := by decide +kernel
theorem d_R_doesFollow_76 : decode prog_12_method_30_code 76 = .ok (.iconst 0, 1) := by decide +kernel
theorem d_R_doesFollow_77 : decode prog_12_method_30_code 77 = .ok (.istore 4, 2) := by decide +kernel
theorem d_R_doesFollow_79 : decode prog_12_method_30_code 79 = .ok (.aload_n 0, 1) := by decide +kernel
theorem d_R_doesFollow_80 : decode prog_12_method_30_code 80 = .ok (.getfield 13, 3) := by decide +kernel
theorem d_R_doesFollow_83 : decode prog_12_method_30_code 83 = .ok (.iload_n 3, 1) := by decide +kernel
theorem d_R_doesFollow_84 : decode prog_12_method_30_code 84 = .ok (.iaload, 1) := by decide +kernel
theorem d_R_doesFollow_85 : decode prog_12_method_30_code 85 = .ok (.iconst 5, 1) := by decide +kernel
theorem d_R_doesFollow_86 : decode prog_12_method_30_code 86 = .ok (.if_icmp .ne 28, 3) := by decide +kernel
theorem d_R_doesFollow_89 : decode prog_12_method_30_code 89 = .ok (.aload_n 0, 1) := by decide +kernel
theorem d_R_doesFollow_90 : decode prog_12_method_30_code 90 = .ok (.getfield 13, 3) := by decide +kernel
theorem d_R_doesFollow_93 : decode prog_12_method_30_code 93 = .ok (.iload_n 2, 1) := by decide +kernel
theorem d_R_doesFollow_94 : decode prog_12_method_30_code 94 = .ok (.iaload, 1) := by decide +kernel
theorem d_R_doesFollow_95 : decode prog_12_method_30_code 95 = .ok (.iconst 5, 1) := by decide +kernel
theorem d_R_doesFollow_96 : decode prog_12_method_30_code 96 = .ok (.if_icmp .eq 14, 3) := by decide +kernel
theorem d_R_doesFollow_99 : decode prog_12_method_30_code 99 = .ok (.aload_n 0, 1) := by decide +kernel
theorem d_R_doesFollow_100 : decode prog_12_method_30_code 100 = .ok (.getfield 13, 3) := by decide +kernel
theorem d_R_doesFollow_103 : decode prog_12_method_30_code 103 = .ok (.iload_n 2, 1) := by decide +kernel
theorem d_R_doesFollow_104 : decode prog_12_method_30_code 104 = .ok (.iaload, 1) := by decide +kernel
theorem d_R_doesFollow_105 : decode prog_12_method_30_code 105 = .ok (.bipush 6, 2) := by decide +kernel
theorem d_R_doesFollow_107 : decode prog_12_method_30_code 107 = .ok (.if_icmp .ne 7, 3) := by decide +kernel
theorem d_R_doesFollow_110 : decode prog_12_method_30_code 110 = .ok (.iconst 1, 1) := by decide +kernel
theorem d_R_doesFollow_111 : decode prog_12_method_30_code 111 = .ok (.goto 4, 3) := by decide +kernel
theorem d_R_doesFollow_114 : decode prog_12_method_30_code 114 = .ok (.iconst 0, 1) := by decide +kernel
theorem d_R_doesFollow_115 : decode prog_12_method_30_code 115 = .ok (.istore 5, 2) := by decide +kernel
theorem d_R_doesFollow_117 : decode prog_12_method_30_code 117 = .ok (.aload_n 0, 1) := by decide +kernel
theorem d_R_doesFollow_118 : decode prog_12_method_30_code 118 = .ok (.getfield 13, 3) := by decide +kernel
theorem d_R_doesFollow_121 : decode prog_12_method_30_code 121 = .ok (.iload_n 2, 1) := by decide +kernel
theorem d_R_doesFollow_122 : decode prog_12_method_30_code 122 = .ok (.iaload, 1) := by decide +kernel
theorem d_R_doesFollow_123 : decode prog_12_method_30_code 123 = .ok (.iconst 5, 1) := by decide +kernel
theorem d_R_doesFollow_124 : decode prog_12_method_30_code 124 = .ok (.if_icmp .ne 28, 3) := by decide +kernel
theorem d_R_doesFollow_127 : decode prog_12_method_30_code 127 = .ok (.aload_n 0, 1) := by decide +kernel
theorem d_R_doesFollow_128 : decode prog_12_method_30_code 128 = .ok (.getfield 13, 3) := by decide +kernel
theorem d_R_doesFollow_131 : decode prog_12_method_30_code 131 = .ok (.iload_n 3, 1) := by decide +kernel
theorem d_R_doesFollow_132 : decode prog_12_method_30_code 132 = .ok (.iaload, 1) := by decide +kernel
theorem d_R_doesFollow_133 : decode prog_12_method_30_code 133 = .ok (.iconst 5, 1) := by decide +kernel
theorem d_R_doesFollow_134 : decode prog_12_method_30_code 134 = .ok (.if_icmp .eq 14, 3) := by decide +kernel
theorem d_R_doesFollow_137 : decode prog_12_method_30_code 137 = .ok (.aload_n 0, 1) := by decide +kernel
theorem d_R_doesFollow_138 : decode prog_12_method_30_code 138 = .ok (.getfield 13, 3) := by decide +kernel
theorem d_R_doesFollow_141 : decode prog_12_method_30_code 141 = .ok (.iload_n 3, 1) := by decide +kernel
theorem d_R_doesFollow_142 : decode prog_12_method_30_code 142 = .ok (.iaload, 1) := by decide +kernel
theorem d_R_doesFollow_143 : decode prog_12_method_30_code 143 = .ok (.bipush 6, 2) := by decide +kernel
theorem d_R_doesFollow_145 : decode prog_12_method_30_code 145 = .ok (.if_icmp .ne 7, 3) := by decide +kernel
theorem d_R_doesFollow_148 : decode prog_12_method_30_code 148 = .ok (.iconst 1, 1) := by decide +kernel
theorem d_R_doesFollow_149 : decode prog_12_method_30_code 149 = .ok (.goto 4, 3) := by decide +kernel
theorem d_R_doesFollow_152 : decode prog_12_method_30_code 152 = .ok (.iconst 0, 1) := by decide +kernel
theorem d_R_doesFollow_153 : decode prog_12_method_30_code 153 = .ok (.istore 6, 2) := by decide +kernel
theorem d_R_doesFollow_155 : decode prog_12_method_30_code 155 = .ok (.aload_n 0, 1) := by decide +kernel
theorem d_R_doesFollow_156 : decode prog_12_method_30_code 156 = .ok (.iload_n 2, 1) := by decide +kernel
theorem d_R_doesFollow_157 : decode prog_12_method_30_code 157 = .ok (.iload_n 3, 1) := by decide +kernel
theorem d_R_doesFollow_158 : decode prog_12_method_30_code 158 = .ok (.invokevirtual 201, 3) := by decide +kernel
theorem d_R_doesFollow_161 : decode prog_12_method_30_code 161 = .ok (.ifCond .ne 18, 3) := by decide +kernel
theorem d_R_doesFollow_164 : decode prog_12_method_30_code 164 = .ok (.iload 4, 2) := by decide +kernel
theorem d_R_doesFollow_166 : decode prog_12_method_30_code 166 = .ok (.ifCond .ne 13, 3) := by decide +kernel
theorem d_R_doesFollow_169 : decode prog_12_method_30_code 169 = .ok (.iload 5, 2) := by decide +kernel
theorem d_R_doesFollow_171 : decode prog_12_method_30_code 171 = .ok (.ifCond .ne 8, 3) := by decide +kernel
theorem d_R_doesFollow_174 : decode prog_12_method_30_code 174 = .ok (.iload 6, 2) := by decide +kernel
theorem d_R_doesFollow_176 : decode prog_12_method_30_code 176 = .ok (.ifCond .eq 7, 3) := by decide +kernel
theorem d_R_doesFollow_179 : decode prog_12_method_30_code 179 = .ok (.iconst 1, 1) := by decide +kernel
theorem d_R_doesFollow_180 : decode prog_12_method_30_code 180 = .ok (.goto 4, 3) := by decide +kernel
theorem d_R_doesFollow_183 : decode prog_12_method_30_code 183 = .ok (.iconst 0, 1) := by decide +kernel
theorem d_R_doesFollow_184 : decode prog_12_method_30_code 184 = .ok (.ireturn, 1) := by decide +kernel
def B_R_doesFollow (_ : Nat × Nat) : PS :=
  (sSq (sIf (cO (e1 (fun x : Int32 => decide (¬ x = 0)) (eX .int (xS 2 X_R_has (aC .int (eFI 10 18 (eR 0)) (aC .int (eI 3) aN))))) (e1 (fun x : Int32 => decide (¬ x = 0)) (eX .int (xS 2 X_R_has (aC .int (eFI 10 18 (eR 0)) (aC .int (eI 2) aN)))))) (sRz (eV (0 : Int32))) sSk)
    (sSq (sI 4 (eC (cA (cA (cA (e1 (fun x : Int32 => decide (¬ x = 0)) (eX .int (xV 10 1 X_R_isMemory (eR 0) (aC .int (eI 3) aN)))) (e1 (fun x : Int32 => decide (¬ x = 0)) (eX .int (xV 10 1 X_R_isMemory (eR 0) (aC .int (eI 2) aN))))) (cO (e2 (fun x y : Int32 => decide (x = y)) (eAI (eFR 10 3 (eR 0)) (eI 3)) (eV (6 : Int32))) (e2 (fun x y : Int32 => decide (x = y)) (eAI (eFR 10 3 (eR 0)) (eI 2)) (eV (6 : Int32))))) (e1 (fun x : Int32 => decide (¬ x = 0)) (eX .int (xV 10 3 X_R_meet (eR 0) (aC .ref (eR 1) (aC .int (eI 3) (aC .int (eI 2) aN)))))))))
    (sSq (sI 5 (eC (cA (e2 (fun x y : Int32 => decide (x = y)) (eAI (eFR 10 3 (eR 0)) (eI 3)) (eV (5 : Int32))) (cO (e2 (fun x y : Int32 => decide (x = y)) (eAI (eFR 10 3 (eR 0)) (eI 2)) (eV (5 : Int32))) (e2 (fun x y : Int32 => decide (x = y)) (eAI (eFR 10 3 (eR 0)) (eI 2)) (eV (6 : Int32)))))))
    (sSq (sI 6 (eC (cA (e2 (fun x y : Int32 => decide (x = y)) (eAI (eFR 10 3 (eR 0)) (eI 2)) (eV (5 : Int32))) (cO (e2 (fun x y : Int32 => decide (x = y)) (eAI (eFR 10 3 (eR 0)) (eI 3)) (eV (5 : Int32))) (e2 (fun x y : Int32 => decide (x = y)) (eAI (eFR 10 3 (eR 0)) (eI 3)) (eV (6 : Int32)))))))
    (sRz (eC (cO (cO (cO (e1 (fun x : Int32 => decide (¬ x = 0)) (eX .int (xV 10 2 X_R_uses (eR 0) (aC .int (eI 2) (aC .int (eI 3) aN))))) (e1 (fun x : Int32 => decide (¬ x = 0)) (eI 4))) (e1 (fun x : Int32 => decide (¬ x = 0)) (eI 5))) (e1 (fun x : Int32 => decide (¬ x = 0)) (eI 6)))))))))
def X_R_doesFollow : PM := fun vs h Q => (lx vs).length ≤ 7 ∧ B_R_doesFollow (h.length + 0, hsz h + 0) (fun _ _ => False) (fun _ _ => False) (fun _ _ => False) Q (lini 7 vs) h
theorem v_R_doesFollow (l : Launch) : Ctr l y_R_doesFollow prog_12_method_30_code 7 (some .boolean) rm_R_doesFollow X_R_doesFollow := by
  refine Ctr_of (own := "PackLanesModel") (B := B_R_doesFollow) (KR := fun _ Q => Q) (by decide) rfl (fun _ _ _ z => z) (fun _ _ _ _ z => ⟨Or.inl ⟨rfl, rfl⟩, z⟩) (Or.inr (Or.inr (Or.inl rfl))) (fun κ hl ho hR hrt hn0 => ?_)
  subst hl
  unfold B_R_doesFollow
  exact (S_sq (pc1 := 24) (S_if1 (pT := 22) (pF := 24) (C_or (pc1 := 11) (T1_ne (pT := 22) (pc2 := 8) (E_x (O_S k_R_190 (v_R_has _) ⟨rfl, rfl⟩ ho (rk hR rfl) (by decide) (pc2 := 5) (A_c catI (pc1 := 4) (E_fI f_R_187 ho (pc1 := 1) (E_aln d_R_doesFollow_0 rfl) d_R_doesFollow_1) (A_c catI (pc1 := 5) (E_iln d_R_doesFollow_4 rfl) A_n)) d_R_doesFollow_5)) d_R_doesFollow_8 rfl) (J1_ne (pF := 24) (pc2 := 19) (E_x (O_S k_R_190 (v_R_has _) ⟨rfl, rfl⟩ ho (rk hR rfl) (by decide) (pc2 := 16) (A_c catI (pc1 := 15) (E_fI f_R_187 ho (pc1 := 12) (E_aln d_R_doesFollow_11 rfl) d_R_doesFollow_12) (A_c catI (pc1 := 16) (E_iln d_R_doesFollow_15 rfl) A_n)) d_R_doesFollow_16)) d_R_doesFollow_19 rfl)) (S_rz hrt (pc1 := 23) (E_ic d_R_doesFollow_22 rfl) d_R_doesFollow_23))
    (S_sq (pc1 := 79) (S_I (pc1 := 77) (E_C (pT := 72) (pF := 76) (pc2 := 77) (C_and (pc1 := 62) (C_and (pc1 := 40) (C_and (pc1 := 32) (J1_ne (pF := 76) (pc2 := 29) (E_x (O_V k_R_194 (v_R_isMemory _) ⟨rfl, rfl⟩ ho (rk hR rfl) (by decide) (T := KT10) (N := 50) rfl (by decide) (pc1 := 25) (pc2 := 26) (E_aln d_R_doesFollow_24 rfl) (A_c catI (pc1 := 26) (E_iln d_R_doesFollow_25 rfl) A_n) d_R_doesFollow_26)) d_R_doesFollow_29 rfl) (J1_ne (pF := 76) (pc2 := 37) (E_x (O_V k_R_194 (v_R_isMemory _) ⟨rfl, rfl⟩ ho (rk hR rfl) (by decide) (T := KT10) (N := 50) rfl (by decide) (pc1 := 33) (pc2 := 34) (E_aln d_R_doesFollow_32 rfl) (A_c catI (pc1 := 34) (E_iln d_R_doesFollow_33 rfl) A_n) d_R_doesFollow_34)) d_R_doesFollow_37 rfl)) (C_or (pc1 := 51) (T2_eq (pT := 62) (pc1 := 46) (pc2 := 48) (E_aI (pc1 := 44) (pc2 := 45) (E_fR f_R_13 ho (pc1 := 41) (E_aln d_R_doesFollow_40 rfl) d_R_doesFollow_41) (E_iln d_R_doesFollow_44 rfl) d_R_doesFollow_45) (E_bi d_R_doesFollow_46 rfl) d_R_doesFollow_48 rfl) (J2_eq (pF := 76) (pc1 := 57) (pc2 := 59) (E_aI (pc1 := 55) (pc2 := 56) (E_fR f_R_13 ho (pc1 := 52) (E_aln d_R_doesFollow_51 rfl) d_R_doesFollow_52) (E_iln d_R_doesFollow_55 rfl) d_R_doesFollow_56) (E_bi d_R_doesFollow_57 rfl) d_R_doesFollow_59 rfl))) (J1_ne (pF := 76) (pc2 := 69) (E_x (O_V k_R_197 (v_R_meet _) ⟨rfl, rfl⟩ ho (rk hR rfl) (by decide) (T := KT10) (N := 50) rfl (by decide) (pc1 := 63) (pc2 := 66) (E_aln d_R_doesFollow_62 rfl) (A_c catR (pc1 := 64) (E_aln d_R_doesFollow_63 rfl) (A_c catI (pc1 := 65) (E_iln d_R_doesFollow_64 rfl) (A_c catI (pc1 := 66) (E_iln d_R_doesFollow_65 rfl) A_n))) d_R_doesFollow_66)) d_R_doesFollow_69 rfl)) d_R_doesFollow_72 d_R_doesFollow_73 rfl d_R_doesFollow_76 rfl) d_R_doesFollow_77)
    (S_sq (pc1 := 117) (S_I (pc1 := 115) (E_C (pT := 110) (pF := 114) (pc2 := 115) (C_and (pc1 := 89) (J2_eq (pF := 114) (pc1 := 85) (pc2 := 86) (E_aI (pc1 := 83) (pc2 := 84) (E_fR f_R_13 ho (pc1 := 80) (E_aln d_R_doesFollow_79 rfl) d_R_doesFollow_80) (E_iln d_R_doesFollow_83 rfl) d_R_doesFollow_84) (E_ic d_R_doesFollow_85 rfl) d_R_doesFollow_86 rfl) (C_or (pc1 := 99) (T2_eq (pT := 110) (pc1 := 95) (pc2 := 96) (E_aI (pc1 := 93) (pc2 := 94) (E_fR f_R_13 ho (pc1 := 90) (E_aln d_R_doesFollow_89 rfl) d_R_doesFollow_90) (E_iln d_R_doesFollow_93 rfl) d_R_doesFollow_94) (E_ic d_R_doesFollow_95 rfl) d_R_doesFollow_96 rfl) (J2_eq (pF := 114) (pc1 := 105) (pc2 := 107) (E_aI (pc1 := 103) (pc2 := 104) (E_fR f_R_13 ho (pc1 := 100) (E_aln d_R_doesFollow_99 rfl) d_R_doesFollow_100) (E_iln d_R_doesFollow_103 rfl) d_R_doesFollow_104) (E_bi d_R_doesFollow_105 rfl) d_R_doesFollow_107 rfl))) d_R_doesFollow_110 d_R_doesFollow_111 rfl d_R_doesFollow_114 rfl) d_R_doesFollow_115)
    (S_sq (pc1 := 155) (S_I (pc1 := 153) (E_C (pT := 148) (pF := 152) (pc2 := 153) (C_and (pc1 := 127) (J2_eq (pF := 152) (pc1 := 123) (pc2 := 124) (E_aI (pc1 := 121) (pc2 := 122) (E_fR f_R_13 ho (pc1 := 118) (E_aln d_R_doesFollow_117 rfl) d_R_doesFollow_118) (E_iln d_R_doesFollow_121 rfl) d_R_doesFollow_122) (E_ic d_R_doesFollow_123 rfl) d_R_doesFollow_124 rfl) (C_or (pc1 := 137) (T2_eq (pT := 148) (pc1 := 133) (pc2 := 134) (E_aI (pc1 := 131) (pc2 := 132) (E_fR f_R_13 ho (pc1 := 128) (E_aln d_R_doesFollow_127 rfl) d_R_doesFollow_128) (E_iln d_R_doesFollow_131 rfl) d_R_doesFollow_132) (E_ic d_R_doesFollow_133 rfl) d_R_doesFollow_134 rfl) (J2_eq (pF := 152) (pc1 := 143) (pc2 := 145) (E_aI (pc1 := 141) (pc2 := 142) (E_fR f_R_13 ho (pc1 := 138) (E_aln d_R_doesFollow_137 rfl) d_R_doesFollow_138) (E_iln d_R_doesFollow_141 rfl) d_R_doesFollow_142) (E_bi d_R_doesFollow_143 rfl) d_R_doesFollow_145 rfl))) d_R_doesFollow_148 d_R_doesFollow_149 rfl d_R_doesFollow_152 rfl) d_R_doesFollow_153)
    (S_rz hrt (pc1 := 184) (E_C (pT := 179) (pF := 183) (pc2 := 184) (C_or (pc1 := 174) (C_or (pc1 := 169) (C_or (pc1 := 164) (T1_ne (pT := 179) (pc2 := 161) (E_x (O_V k_R_201 (v_R_uses _) ⟨rfl, rfl⟩ ho (rk hR rfl) (by decide) (T := KT10) (N := 50) rfl (by decide) (pc1 := 156) (pc2 := 158) (E_aln d_R_doesFollow_155 rfl) (A_c catI (pc1 := 157) (E_iln d_R_doesFollow_156 rfl) (A_c catI (pc1 := 158) (E_iln d_R_doesFollow_157 rfl) A_n)) d_R_doesFollow_158)) d_R_doesFollow_161 rfl) (T1_ne (pT := 179) (pc2 := 166) (E_il d_R_doesFollow_164) d_R_doesFollow_166 rfl)) (T1_ne (pT := 179) (pc2 := 171) (E_il d_R_doesFollow_169) d_R_doesFollow_171 rfl)) (J1_ne (pF := 183) (pc2 := 176) (E_il d_R_doesFollow_174) d_R_doesFollow_176 rfl)) d_R_doesFollow_179 d_R_doesFollow_180 rfl d_R_doesFollow_183 rfl) d_R_doesFollow_184)))))
theorem d_R_layFollows_0 : decode prog_12_method_31_code 0 = .ok (.iconst 0, 1) := by decide +kernel
theorem d_R_layFollows_1 : decode prog_12_method_31_code 1 = .ok (.istore_n 2, 1) := by decide +kernel
theorem d_R_layFollows_2 : decode prog_12_method_31_code 2 = .ok (.iload_n 2, 1) := by decide +kernel
theorem d_R_layFollows_3 : decode prog_12_method_31_code 3 = .ok (.aload_n 0, 1) := by decide +kernel
theorem d_R_layFollows_4 : decode prog_12_method_31_code 4 = .ok (.getfield 99, 3) := by decide +kernel
theorem d_R_layFollows_7 : decode prog_12_method_31_code 7 = .ok (.if_icmp .ge 77, 3) := by decide +kernel
theorem d_R_layFollows_10 : decode prog_12_method_31_code 10 = .ok (.aload_n 0, 1) := by decide +kernel
theorem d_R_layFollows_11 : decode prog_12_method_31_code 11 = .ok (.getfield 47, 3) := by decide +kernel
theorem d_R_layFollows_14 : decode prog_12_method_31_code 14 = .ok (.iload_n 2, 1) := by decide +kernel
theorem d_R_layFollows_15 : decode prog_12_method_31_code 15 = .ok (.iconst 0, 1) := by decide +kernel
theorem d_R_layFollows_16 : decode prog_12_method_31_code 16 = .ok (.iastore, 1) := by decide +kernel
theorem d_R_layFollows_17 : decode prog_12_method_31_code 17 = .ok (.aload_n 0, 1) := by decide +kernel
theorem d_R_layFollows_18 : decode prog_12_method_31_code 18 = .ok (.getfield 50, 3) := by decide +kernel
theorem d_R_layFollows_21 : decode prog_12_method_31_code 21 = .ok (.iload_n 2, 1) := by decide +kernel
theorem d_R_layFollows_22 : decode prog_12_method_31_code 22 = .ok (.iconst 0, 1) := by decide +kernel
theorem d_R_layFollows_23 : decode prog_12_method_31_code 23 = .ok (.iastore, 1) := by decide +kernel
theorem d_R_layFollows_24 : decode prog_12_method_31_code 24 = .ok (.iconst 0, 1) := by decide +kernel
theorem d_R_layFollows_25 : decode prog_12_method_31_code 25 = .ok (.istore_n 3, 1) := by decide +kernel
theorem d_R_layFollows_26 : decode prog_12_method_31_code 26 = .ok (.iload_n 3, 1) := by decide +kernel
theorem d_R_layFollows_27 : decode prog_12_method_31_code 27 = .ok (.iload_n 2, 1) := by decide +kernel
theorem d_R_layFollows_28 : decode prog_12_method_31_code 28 = .ok (.if_icmp .ge 50, 3) := by decide +kernel
theorem d_R_layFollows_31 : decode prog_12_method_31_code 31 = .ok (.aload_n 0, 1) := by decide +kernel
theorem d_R_layFollows_32 : decode prog_12_method_31_code 32 = .ok (.aload_n 1, 1) := by decide +kernel
theorem d_R_layFollows_33 : decode prog_12_method_31_code 33 = .ok (.iload_n 2, 1) := by decide +kernel
theorem d_R_layFollows_34 : decode prog_12_method_31_code 34 = .ok (.iload_n 3, 1) := by decide +kernel
theorem d_R_layFollows_35 : decode prog_12_method_31_code 35 = .ok (.invokevirtual 204, 3) := by decide +kernel
theorem d_R_layFollows_38 : decode prog_12_method_31_code 38 = .ok (.ifCond .eq 34, 3) := by decide +kernel
theorem d_R_layFollows_41 : decode prog_12_method_31_code 41 = .ok (.aload_n 0, 1) := by decide +kernel
theorem d_R_layFollows_42 : decode prog_12_method_31_code 42 = .ok (.getfield 47, 3) := by decide +kernel
theorem d_R_layFollows_45 : decode prog_12_method_31_code 45 = .ok (.iload_n 2, 1) := by decide +kernel
theorem d_R_layFollows_46 : decode prog_12_method_31_code 46 = .ok (.dup2, 1) := by decide +kernel
theorem d_R_layFollows_47 : decode prog_12_method_31_code 47 = .ok (.iaload, 1) := by decide +kernel
theorem d_R_layFollows_48 : decode prog_12_method_31_code 48 = .ok (.iconst 1, 1) := by decide +kernel
theorem d_R_layFollows_49 : decode prog_12_method_31_code 49 = .ok (.iload_n 3, 1) := by decide +kernel
theorem d_R_layFollows_50 : decode prog_12_method_31_code 50 = .ok (.ishl, 1) := by decide +kernel
theorem d_R_layFollows_51 : decode prog_12_method_31_code 51 = .ok (.ior, 1) := by decide +kernel
theorem d_R_layFollows_52 : decode prog_12_method_31_code 52 = .ok (.iastore, 1) := by decide +kernel
theorem d_R_layFollows_53 : decode prog_12_method_31_code 53 = .ok (.aload_n 0, 1) := by decide +kernel
theorem d_R_layFollows_54 : decode prog_12_method_31_code 54 = .ok (.getfield 50, 3) := by decide +kernel
theorem d_R_layFollows_57 : decode prog_12_method_31_code 57 = .ok (.iload_n 2, 1) := by decide +kernel
theorem d_R_layFollows_58 : decode prog_12_method_31_code 58 = .ok (.dup2, 1) := by decide +kernel
theorem d_R_layFollows_59 : decode prog_12_method_31_code 59 = .ok (.iaload, 1) := by decide +kernel
theorem d_R_layFollows_60 : decode prog_12_method_31_code 60 = .ok (.iconst 1, 1) := by decide +kernel
theorem d_R_layFollows_61 : decode prog_12_method_31_code 61 = .ok (.iload_n 3, 1) := by decide +kernel
theorem d_R_layFollows_62 : decode prog_12_method_31_code 62 = .ok (.ishl, 1) := by decide +kernel
theorem d_R_layFollows_63 : decode prog_12_method_31_code 63 = .ok (.aload_n 0, 1) := by decide +kernel
theorem d_R_layFollows_64 : decode prog_12_method_31_code 64 = .ok (.getfield 50, 3) := by decide +kernel
theorem d_R_layFollows_67 : decode prog_12_method_31_code 67 = .ok (.iload_n 3, 1) := by decide +kernel
theorem d_R_layFollows_68 : decode prog_12_method_31_code 68 = .ok (.iaload, 1) := by decide +kernel
theorem d_R_layFollows_69 : decode prog_12_method_31_code 69 = .ok (.ior, 1) := by decide +kernel
theorem d_R_layFollows_70 : decode prog_12_method_31_code 70 = .ok (.ior, 1) := by decide +kernel
theorem d_R_layFollows_71 : decode prog_12_method_31_code 71 = .ok (.iastore, 1) := by decide +kernel
theorem d_R_layFollows_72 : decode prog_12_method_31_code 72 = .ok (.iinc 3 1, 3) := by decide +kernel
theorem d_R_layFollows_75 : decode prog_12_method_31_code 75 = .ok (.goto (-49), 3) := by decide +kernel
theorem d_R_layFollows_78 : decode prog_12_method_31_code 78 = .ok (.iinc 2 1, 3) := by decide +kernel
theorem d_R_layFollows_81 : decode prog_12_method_31_code 81 = .ok (.goto (-79), 3) := by decide +kernel
theorem d_R_layFollows_84 : decode prog_12_method_31_code 84 = .ok (.return_, 1) := by decide +kernel
def B_R_layFollows (_ : Nat × Nat) : PS :=
  (sSq (sCut 2 (sSq (sI 2 (eV (0 : Int32)))
    (sLp 3 (e2 (fun x y : Int32 => decide (x < y)) (eI 2) (eFI 10 2 (eR 0)))
    (sSq (sAI (eFR 10 20 (eR 0)) (eI 2) (eV (0 : Int32)))
    (sSq (sAI (eFR 10 21 (eR 0)) (eI 2) (eV (0 : Int32)))
    (sCut 3 (sSq (sI 3 (eV (0 : Int32)))
    (sLp 4 (e2 (fun x y : Int32 => decide (x < y)) (eI 3) (eI 2))
    (sIf (e1 (fun x : Int32 => decide (¬ x = 0)) (eX .int (xV 10 3 X_R_doesFollow (eR 0) (aC .ref (eR 1) (aC .int (eI 2) (aC .int (eI 3) aN)))))) (sSq (sAO (fun x y : Int32 => x ||| y) (eFR 10 20 (eR 0)) (eI 2) (e2 (fun x y : Int32 => x <<< (y &&& 31)) (eV (1 : Int32)) (eI 3)))
    (sAO (fun x y : Int32 => x ||| y) (eFR 10 21 (eR 0)) (eI 2) (e2 (fun x y : Int32 => x ||| y) (e2 (fun x y : Int32 => x <<< (y &&& 31)) (eV (1 : Int32)) (eI 3)) (eAI (eFR 10 21 (eR 0)) (eI 3))))) sSk)
    (sInc 3 (1)))))))
    (sInc 2 (1)))))
    sRv)
def X_R_layFollows : PM := fun vs h Q => (lx vs).length ≤ 4 ∧ B_R_layFollows (h.length + 0, hsz h + 0) (fun _ _ => False) (fun _ _ => False) (fun _ _ => False) Q (lini 4 vs) h
theorem v_R_layFollows (l : Launch) : Ctr l y_R_layFollows prog_12_method_31_code 4 none rm_R_layFollows X_R_layFollows := by
  refine Ctr_of (own := "PackLanesModel") (B := B_R_layFollows) (KR := fun _ Q => Q) (by decide) rfl (fun _ _ _ z => z) (fun _ _ _ _ z => ⟨Or.inl ⟨rfl, rfl⟩, z⟩) (Or.inl rfl) (fun κ hl ho hR hrt hn0 => ?_)
  subst hl
  unfold B_R_layFollows
  exact (S_sq (pc1 := 84) (S_cut (S_sq (pc1 := 2) (S_In (pc1 := 1) (E_ic d_R_layFollows_0 rfl) d_R_layFollows_1 rfl)
    (S_lp (pT := 10) (pF := 84) (pS := 78) (pG := 81) (J2_lt (pF := 84) (pc1 := 3) (pc2 := 7) (E_iln d_R_layFollows_2 rfl) (E_fI f_R_99 ho (pc1 := 4) (E_aln d_R_layFollows_3 rfl) d_R_layFollows_4) d_R_layFollows_7 rfl)
    (S_sq (pc1 := 17) (S_AI (pc1 := 14) (pc2 := 15) (pc3 := 16) (E_fR f_R_47 ho (pc1 := 11) (E_aln d_R_layFollows_10 rfl) d_R_layFollows_11) (E_iln d_R_layFollows_14 rfl) (E_ic d_R_layFollows_15 rfl) d_R_layFollows_16)
    (S_sq (pc1 := 24) (S_AI (pc1 := 21) (pc2 := 22) (pc3 := 23) (E_fR f_R_50 ho (pc1 := 18) (E_aln d_R_layFollows_17 rfl) d_R_layFollows_18) (E_iln d_R_layFollows_21 rfl) (E_ic d_R_layFollows_22 rfl) d_R_layFollows_23)
    (S_cut (S_sq (pc1 := 26) (S_In (pc1 := 25) (E_ic d_R_layFollows_24 rfl) d_R_layFollows_25 rfl)
    (S_lp (pT := 31) (pF := 78) (pS := 72) (pG := 75) (J2_lt (pF := 78) (pc1 := 27) (pc2 := 28) (E_iln d_R_layFollows_26 rfl) (E_iln d_R_layFollows_27 rfl) d_R_layFollows_28 rfl)
    (S_if1 (pT := 41) (pF := 72) (J1_ne (pF := 72) (pc2 := 38) (E_x (O_V k_R_204 (v_R_doesFollow _) ⟨rfl, rfl⟩ ho (rk hR rfl) (by decide) (T := KT10) (N := 50) rfl (by decide) (pc1 := 32) (pc2 := 35) (E_aln d_R_layFollows_31 rfl) (A_c catR (pc1 := 33) (E_aln d_R_layFollows_32 rfl) (A_c catI (pc1 := 34) (E_iln d_R_layFollows_33 rfl) (A_c catI (pc1 := 35) (E_iln d_R_layFollows_34 rfl) A_n))) d_R_layFollows_35)) d_R_layFollows_38 rfl) (S_sq (pc1 := 53) (S_AO (pc1 := 45) (pc2 := 46) (pc3 := 51) (E_fR f_R_47 ho (pc1 := 42) (E_aln d_R_layFollows_41 rfl) d_R_layFollows_42) (E_iln d_R_layFollows_45 rfl) d_R_layFollows_46 d_R_layFollows_47 (E_ishl (pc1 := 49) (pc2 := 50) (E_ic d_R_layFollows_48 rfl) (E_iln d_R_layFollows_49 rfl) d_R_layFollows_50) (fun _ _ _ _ _ k => r_ior d_R_layFollows_51 k) d_R_layFollows_52)
    (S_AO (pc1 := 57) (pc2 := 58) (pc3 := 70) (E_fR f_R_50 ho (pc1 := 54) (E_aln d_R_layFollows_53 rfl) d_R_layFollows_54) (E_iln d_R_layFollows_57 rfl) d_R_layFollows_58 d_R_layFollows_59 (E_ior (pc1 := 63) (pc2 := 69) (E_ishl (pc1 := 61) (pc2 := 62) (E_ic d_R_layFollows_60 rfl) (E_iln d_R_layFollows_61 rfl) d_R_layFollows_62) (E_aI (pc1 := 67) (pc2 := 68) (E_fR f_R_50 ho (pc1 := 64) (E_aln d_R_layFollows_63 rfl) d_R_layFollows_64) (E_iln d_R_layFollows_67 rfl) d_R_layFollows_68) d_R_layFollows_69) (fun _ _ _ _ _ k => r_ior d_R_layFollows_70 k) d_R_layFollows_71)))
    (S_Inc d_R_layFollows_72 rfl) d_R_layFollows_75 rfl)))))
    (S_Inc d_R_layFollows_78 rfl) d_R_layFollows_81 rfl)))
    (S_rv hrt d_R_layFollows_84))
theorem d_R_isPack_0 : decode prog_12_method_32_code 0 = .ok (.aload_n 0, 1) := by decide +kernel
theorem d_R_isPack_1 : decode prog_12_method_32_code 1 = .ok (.getfield 65, 3) := by decide +kernel
theorem d_R_isPack_4 : decode prog_12_method_32_code 4 = .ok (.iload_n 1, 1) := by decide +kernel
theorem d_R_isPack_5 : decode prog_12_method_32_code 5 = .ok (.iaload, 1) := by decide +kernel
theorem d_R_isPack_6 : decode prog_12_method_32_code 6 = .ok (.istore_n 2, 1) := by decide +kernel
theorem d_R_isPack_7 : decode prog_12_method_32_code 7 = .ok (.aload_n 0, 1) := by decide +kernel
theorem d_R_isPack_8 : decode prog_12_method_32_code 8 = .ok (.getfield 13, 3) := by decide +kernel
theorem d_R_isPack_11 : decode prog_12_method_32_code 11 = .ok (.iload_n 2, 1) := by decide +kernel
theorem d_R_isPack_12 : decode prog_12_method_32_code 12 = .ok (.iaload, 1) := by decide +kernel
theorem d_R_isPack_13 : decode prog_12_method_32_code 13 = .ok (.iconst 1, 1) := by decide +kernel
theorem d_R_isPack_14 : decode prog_12_method_32_code 14 = .ok (.if_icmp .eq 17, 3) := by decide +kernel
theorem d_R_isPack_17 : decode prog_12_method_32_code 17 = .ok (.aload_n 0, 1) := by decide +kernel
theorem d_R_isPack_18 : decode prog_12_method_32_code 18 = .ok (.getfield 13, 3) := by decide +kernel
theorem d_R_isPack_21 : decode prog_12_method_32_code 21 = .ok (.iload_n 2, 1) := by decide +kernel
theorem d_R_isPack_22 : decode prog_12_method_32_code 22 = .ok (.iaload, 1) := by decide +kernel
theorem d_R_isPack_23 : decode prog_12_method_32_code 23 = .ok (.iconst 5, 1) := by decide +kernel
theorem d_R_isPack_24 : decode prog_12_method_32_code 24 = .ok (.if_icmp .eq 7, 3) := by decide +kernel
theorem d_R_isPack_27 : decode prog_12_method_32_code 27 = .ok (.iconst 1, 1) := by decide +kernel
theorem d_R_isPack_28 : decode prog_12_method_32_code 28 = .ok (.goto 4, 3) := by decide +kernel
theorem d_R_isPack_31 : decode prog_12_method_32_code 31 = .ok (.iconst 0, 1) := by decide +kernel
theorem d_R_isPack_32 : decode prog_12_method_32_code 32 = .ok (.istore_n 3, 1) := by decide +kernel
theorem d_R_isPack_33 : decode prog_12_method_32_code 33 = .ok (.iconst 1, 1) := by decide +kernel
theorem d_R_isPack_34 : decode prog_12_method_32_code 34 = .ok (.istore 4, 2) := by decide +kernel
theorem d_R_isPack_36 : decode prog_12_method_32_code 36 = .ok (.iload 4, 2) := by decide +kernel
theorem d_R_isPack_38 : decode prog_12_method_32_code 38 = .ok (.aload_n 0, 1) := by decide +kernel
theorem d_R_isPack_39 : decode prog_12_method_32_code 39 = .ok (.getfield 207, 3) := by decide +kernel
theorem d_R_isPack_42 : decode prog_12_method_32_code 42 = .ok (.if_icmp .ge 174, 3) := by decide +kernel
theorem d_R_isPack_45 : decode prog_12_method_32_code 45 = .ok (.iload_n 3, 1) := by decide +kernel
theorem d_R_isPack_46 : decode prog_12_method_32_code 46 = .ok (.ifCond .eq 170, 3) := by decide +kernel
theorem d_R_isPack_49 : decode prog_12_method_32_code 49 = .ok (.aload_n 0, 1) := by decide +kernel
theorem d_R_isPack_50 : decode prog_12_method_32_code 50 = .ok (.getfield 65, 3) := by decide +kernel
theorem d_R_isPack_53 : decode prog_12_method_32_code 53 = .ok (.iload_n 1, 1) := by decide +kernel
theorem d_R_isPack_54 : decode prog_12_method_32_code 54 = .ok (.iload 4, 2) := by decide +kernel
theorem d_R_isPack_56 : decode prog_12_method_32_code 56 = .ok (.iadd, 1) := by decide +kernel
theorem d_R_isPack_57 : decode prog_12_method_32_code 57 = .ok (.iaload, 1) := by decide +kernel
theorem d_R_isPack_58 : decode prog_12_method_32_code 58 = .ok (.istore 5, 2) := by decide +kernel
theorem d_R_isPack_60 : decode prog_12_method_32_code 60 = .ok (.aload_n 0, 1) := by decide +kernel
theorem d_R_isPack_61 : decode prog_12_method_32_code 61 = .ok (.getfield 13, 3) := by decide +kernel
theorem d_R_isPack_64 : decode prog_12_method_32_code 64 = .ok (.iload 5, 2) := by decide +kernel
theorem d_R_isPack_66 : decode prog_12_method_32_code 66 = .ok (.iaload, 1) := by decide +kernel
theorem d_R_isPack_67 : decode prog_12_method_32_code 67 = .ok (.aload_n 0, 1) := by decide +kernel
theorem d_R_isPack_68 : decode prog_12_method_32_code 68 = .ok (.getfield 13, 3) := by decide +kernel
theorem d_R_isPack_71 : decode prog_12_method_32_code 71 = .ok (.iload_n 2, 1) := by decide +kernel
theorem d_R_isPack_72 : decode prog_12_method_32_code 72 = .ok (.iaload, 1) := by decide +kernel
theorem d_R_isPack_73 : decode prog_12_method_32_code 73 = .ok (.if_icmp .ne 7, 3) := by decide +kernel
theorem d_R_isPack_76 : decode prog_12_method_32_code 76 = .ok (.iconst 1, 1) := by decide +kernel
theorem d_R_isPack_77 : decode prog_12_method_32_code 77 = .ok (.goto 4, 3) := by decide +kernel
theorem d_R_isPack_80 : decode prog_12_method_32_code 80 = .ok (.iconst 0, 1) := by decide +kernel
theorem d_R_isPack_81 : decode prog_12_method_32_code 81 = .ok (.istore_n 3, 1) := by decide +kernel
theorem d_R_isPack_82 : decode prog_12_method_32_code 82 = .ok (.iconst 0, 1) := by decide +kernel
theorem d_R_isPack_83 : decode prog_12_method_32_code 83 = .ok (.istore 6, 2) := by decide +kernel
theorem d_R_isPack_85 : decode prog_12_method_32_code 85 = .ok (.iload 6, 2) := by decide +kernel
theorem d_R_isPack_87 : decode prog_12_method_32_code 87 = .ok (.iload 4, 2) := by decide +kernel
theorem d_R_isPack_89 : decode prog_12_method_32_code 89 = .ok (.if_icmp .ge 67, 3) := by decide +kernel
theorem d_R_isPack_92 : decode prog_12_method_32_code 92 = .ok (.iload_n 3, 1) := by decide +kernel
theorem d_R_isPack_93 : decode prog_12_method_32_code 93 = .ok (.ifCond .eq 63, 3) := by decide +kernel
theorem d_R_isPack_96 : decode prog_12_method_32_code 96 = .ok (.aload_n 0, 1) := by decide +kernel
theorem d_R_isPack_97 : decode prog_12_method_32_code 97 = .ok (.getfield 65, 3) := by decide +kernel
theorem d_R_isPack_100 : decode prog_12_method_32_code 100 = .ok (.iload_n 1, 1) := by decide +kernel
theorem d_R_isPack_101 : decode prog_12_method_32_code 101 = .ok (.iload 6, 2) := by decide +kernel
theorem d_R_isPack_103 : decode prog_12_method_32_code 103 = .ok (.iadd, 1) := by decide +kernel
theorem d_R_isPack_104 : decode prog_12_method_32_code 104 = .ok (.iaload, 1) := by decide +kernel
theorem d_R_isPack_105 : decode prog_12_method_32_code 105 = .ok (.istore 7, 2) := by decide +kernel
theorem d_R_isPack_107 : decode prog_12_method_32_code 107 = .ok (.iload 7, 2) := by decide +kernel
theorem d_R_isPack_109 : decode prog_12_method_32_code 109 = .ok (.iload 5, 2) := by decide +kernel
theorem d_R_isPack_111 : decode prog_12_method_32_code 111 = .ok (.if_icmp .eq 37, 3) := by decide +kernel
theorem d_R_isPack_114 : decode prog_12_method_32_code 114 = .ok (.aload_n 0, 1) := by decide +kernel
theorem d_R_isPack_115 : decode prog_12_method_32_code 115 = .ok (.getfield 50, 3) := by decide +kernel
theorem d_R_isPack_118 : decode prog_12_method_32_code 118 = .ok (.iload 5, 2) := by decide +kernel
theorem d_R_isPack_120 : decode prog_12_method_32_code 120 = .ok (.iaload, 1) := by decide +kernel
theorem d_R_isPack_121 : decode prog_12_method_32_code 121 = .ok (.iload 7, 2) := by decide +kernel
theorem d_R_isPack_123 : decode prog_12_method_32_code 123 = .ok (.invokestatic 190, 3) := by decide +kernel
theorem d_R_isPack_126 : decode prog_12_method_32_code 126 = .ok (.ifCond .ne 22, 3) := by decide +kernel
theorem d_R_isPack_129 : decode prog_12_method_32_code 129 = .ok (.aload_n 0, 1) := by decide +kernel
theorem d_R_isPack_130 : decode prog_12_method_32_code 130 = .ok (.getfield 50, 3) := by decide +kernel
theorem d_R_isPack_133 : decode prog_12_method_32_code 133 = .ok (.iload 7, 2) := by decide +kernel
theorem d_R_isPack_135 : decode prog_12_method_32_code 135 = .ok (.iaload, 1) := by decide +kernel
theorem d_R_isPack_136 : decode prog_12_method_32_code 136 = .ok (.iload 5, 2) := by decide +kernel
theorem d_R_isPack_138 : decode prog_12_method_32_code 138 = .ok (.invokestatic 190, 3) := by decide +kernel
theorem d_R_isPack_141 : decode prog_12_method_32_code 141 = .ok (.ifCond .ne 7, 3) := by decide +kernel
theorem d_R_isPack_144 : decode prog_12_method_32_code 144 = .ok (.iconst 1, 1) := by decide +kernel
theorem d_R_isPack_145 : decode prog_12_method_32_code 145 = .ok (.goto 4, 3) := by decide +kernel
theorem d_R_isPack_148 : decode prog_12_method_32_code 148 = .ok (.iconst 0, 1) := by decide +kernel
theorem d_R_isPack_149 : decode prog_12_method_32_code 149 = .ok (.istore_n 3, 1) := by decide +kernel
theorem d_R_isPack_150 : decode prog_12_method_32_code 150 = .ok (.iinc 6 1, 3) := by decide +kernel
theorem d_R_isPack_153 : decode prog_12_method_32_code 153 = .ok (.goto (-68), 3) := by decide +kernel
theorem d_R_isPack_156 : decode prog_12_method_32_code 156 = .ok (.iload_n 3, 1) := by decide +kernel
theorem d_R_isPack_157 : decode prog_12_method_32_code 157 = .ok (.ifCond .eq 53, 3) := by decide +kernel
theorem d_R_isPack_160 : decode prog_12_method_32_code 160 = .ok (.aload_n 0, 1) := by decide +kernel
theorem d_R_isPack_161 : decode prog_12_method_32_code 161 = .ok (.iload 5, 2) := by decide +kernel
theorem d_R_isPack_163 : decode prog_12_method_32_code 163 = .ok (.invokevirtual 194, 3) := by decide +kernel
theorem d_R_isPack_166 : decode prog_12_method_32_code 166 = .ok (.ifCond .eq 44, 3) := by decide +kernel
theorem d_R_isPack_169 : decode prog_12_method_32_code 169 = .ok (.aload_n 0, 1) := by decide +kernel
theorem d_R_isPack_170 : decode prog_12_method_32_code 170 = .ok (.getfield 16, 3) := by decide +kernel
theorem d_R_isPack_173 : decode prog_12_method_32_code 173 = .ok (.iload 5, 2) := by decide +kernel
theorem d_R_isPack_175 : decode prog_12_method_32_code 175 = .ok (.iaload, 1) := by decide +kernel
theorem d_R_isPack_176 : decode prog_12_method_32_code 176 = .ok (.aload_n 0, 1) := by decide +kernel
theorem d_R_isPack_177 : decode prog_12_method_32_code 177 = .ok (.getfield 16, 3) := by decide +kernel
theorem d_R_isPack_180 : decode prog_12_method_32_code 180 = .ok (.iload_n 2, 1) := by decide +kernel
theorem d_R_isPack_181 : decode prog_12_method_32_code 181 = .ok (.iaload, 1) := by decide +kernel
theorem d_R_isPack_182 : decode prog_12_method_32_code 182 = .ok (.if_icmp .ne 26, 3) := by decide +kernel
theorem d_R_isPack_185 : decode prog_12_method_32_code 185 = .ok (.aload_n 0, 1) := by decide +kernel
theorem d_R_isPack_186 : decode prog_12_method_32_code 186 = .ok (.getfield 19, 3) := by decide +kernel
theorem d_R_isPack_189 : decode prog_12_method_32_code 189 = .ok (.iload 5, 2) := by decide +kernel
theorem d_R_isPack_191 : decode prog_12_method_32_code 191 = .ok (.iaload, 1) := by decide +kernel
theorem d_R_isPack_192 : decode prog_12_method_32_code 192 = .ok (.aload_n 0, 1) := by decide +kernel
theorem d_R_isPack_193 : decode prog_12_method_32_code 193 = .ok (.getfield 19, 3) := by decide +kernel
theorem d_R_isPack_196 : decode prog_12_method_32_code 196 = .ok (.iload_n 2, 1) := by decide +kernel
theorem d_R_isPack_197 : decode prog_12_method_32_code 197 = .ok (.iaload, 1) := by decide +kernel
theorem d_R_isPack_198 : decode prog_12_method_32_code 198 = .ok (.iload 4, 2) := by decide +kernel
theorem d_R_isPack_200 : decode prog_12_method_32_code 200 = .ok (.iadd, 1) := by decide +kernel
theorem d_R_isPack_201 : decode prog_12_method_32_code 201 = .ok (.if_icmp .ne 7, 3) := by decide +kernel
theorem d_R_isPack_204 : decode prog_12_method_32_code 204 = .ok (.iconst 1, 1) := by decide +kernel
theorem d_R_isPack_205 : decode prog_12_method_32_code 205 = .ok (.goto 4, 3) := by decide +kernel
theorem d_R_isPack_208 : decode prog_12_method_32_code 208 = .ok (.iconst 0, 1) := by decide +kernel
theorem d_R_isPack_209 : decode prog_12_method_32_code 209 = .ok (.istore_n 3, 1) := by decide +kernel
theorem d_R_isPack_210 : decode prog_12_method_32_code 210 = .ok (.iinc 4 1, 3) := by decide +kernel
theorem d_R_isPack_213 : decode prog_12_method_32_code 213 = .ok (.goto (-177), 3) := by decide +kernel
theorem d_R_isPack_216 : decode prog_12_method_32_code 216 = .ok (.iload_n 3, 1) := by decide +kernel
theorem d_R_isPack_217 : decode prog_12_method_32_code 217 = .ok (.ireturn, 1) := by decide +kernel
def B_R_isPack (_ : Nat × Nat) : PS :=
  (sSq (sI 2 (eAI (eFR 10 30 (eR 0)) (eI 1)))
    (sSq (sI 3 (eC (cA (e2 (fun x y : Int32 => decide (¬ x = y)) (eAI (eFR 10 3 (eR 0)) (eI 2)) (eV (1 : Int32))) (e2 (fun x y : Int32 => decide (¬ x = y)) (eAI (eFR 10 3 (eR 0)) (eI 2)) (eV (5 : Int32))))))
    (sSq (sCut 4 (sSq (sI 4 (eV (1 : Int32)))
    (sLp 5 (cA (e2 (fun x y : Int32 => decide (x < y)) (eI 4) (eFI 10 19 (eR 0))) (e1 (fun x : Int32 => decide (¬ x = 0)) (eI 3)))
    (sCut 5 (sSq (sI 5 (eAI (eFR 10 30 (eR 0)) (e2 (fun x y : Int32 => x + y) (eI 1) (eI 4))))
    (sSq (sI 3 (eC (e2 (fun x y : Int32 => decide (x = y)) (eAI (eFR 10 3 (eR 0)) (eI 5)) (eAI (eFR 10 3 (eR 0)) (eI 2)))))
    (sSq (sCut 6 (sSq (sI 6 (eV (0 : Int32)))
    (sLp 7 (cA (e2 (fun x y : Int32 => decide (x < y)) (eI 6) (eI 4)) (e1 (fun x : Int32 => decide (¬ x = 0)) (eI 3)))
    (sCut 7 (sSq (sI 7 (eAI (eFR 10 30 (eR 0)) (e2 (fun x y : Int32 => x + y) (eI 1) (eI 6))))
    (sI 3 (eC (cA (cA (e2 (fun x y : Int32 => decide (¬ x = y)) (eI 7) (eI 5)) (cN (e1 (fun x : Int32 => decide (¬ x = 0)) (eX .int (xS 2 X_R_has (aC .int (eAI (eFR 10 21 (eR 0)) (eI 5)) (aC .int (eI 7) aN))))))) (cN (e1 (fun x : Int32 => decide (¬ x = 0)) (eX .int (xS 2 X_R_has (aC .int (eAI (eFR 10 21 (eR 0)) (eI 7)) (aC .int (eI 5) aN)))))))))))
    (sInc 6 (1)))))
    (sIf (cA (e1 (fun x : Int32 => decide (¬ x = 0)) (eI 3)) (e1 (fun x : Int32 => decide (¬ x = 0)) (eX .int (xV 10 1 X_R_isMemory (eR 0) (aC .int (eI 5) aN))))) (sI 3 (eC (cA (e2 (fun x y : Int32 => decide (x = y)) (eAI (eFR 10 4 (eR 0)) (eI 5)) (eAI (eFR 10 4 (eR 0)) (eI 2))) (e2 (fun x y : Int32 => decide (x = y)) (eAI (eFR 10 5 (eR 0)) (eI 5)) (e2 (fun x y : Int32 => x + y) (eAI (eFR 10 5 (eR 0)) (eI 2)) (eI 4)))))) sSk)))))
    (sInc 4 (1)))))
    (sRz (eI 3)))))
def X_R_isPack : PM := fun vs h Q => (lx vs).length ≤ 8 ∧ B_R_isPack (h.length + 0, hsz h + 0) (fun _ _ => False) (fun _ _ => False) (fun _ _ => False) Q (lini 8 vs) h
theorem v_R_isPack (l : Launch) : Ctr l y_R_isPack prog_12_method_32_code 8 (some .boolean) rm_R_isPack X_R_isPack := by
  refine Ctr_of (own := "PackLanesModel") (B := B_R_isPack) (KR := fun _ Q => Q) (by decide) rfl (fun _ _ _ z => z) (fun _ _ _ _ z => ⟨Or.inl ⟨rfl, rfl⟩, z⟩) (Or.inr (Or.inr (Or.inl rfl))) (fun κ hl ho hR hrt hn0 => ?_)
  subst hl
  unfold B_R_isPack
  exact (S_sq (pc1 := 7) (S_In (pc1 := 6) (E_aI (pc1 := 4) (pc2 := 5) (E_fR f_R_65 ho (pc1 := 1) (E_aln d_R_isPack_0 rfl) d_R_isPack_1) (E_iln d_R_isPack_4 rfl) d_R_isPack_5) d_R_isPack_6 rfl)
    (S_sq (pc1 := 33) (S_In (pc1 := 32) (E_C (pT := 27) (pF := 31) (pc2 := 32) (C_and (pc1 := 17) (J2_ne (pF := 31) (pc1 := 13) (pc2 := 14) (E_aI (pc1 := 11) (pc2 := 12) (E_fR f_R_13 ho (pc1 := 8) (E_aln d_R_isPack_7 rfl) d_R_isPack_8) (E_iln d_R_isPack_11 rfl) d_R_isPack_12) (E_ic d_R_isPack_13 rfl) d_R_isPack_14 rfl) (J2_ne (pF := 31) (pc1 := 23) (pc2 := 24) (E_aI (pc1 := 21) (pc2 := 22) (E_fR f_R_13 ho (pc1 := 18) (E_aln d_R_isPack_17 rfl) d_R_isPack_18) (E_iln d_R_isPack_21 rfl) d_R_isPack_22) (E_ic d_R_isPack_23 rfl) d_R_isPack_24 rfl)) d_R_isPack_27 d_R_isPack_28 rfl d_R_isPack_31 rfl) d_R_isPack_32 rfl)
    (S_sq (pc1 := 216) (S_cut (S_sq (pc1 := 36) (S_I (pc1 := 34) (E_ic d_R_isPack_33 rfl) d_R_isPack_34)
    (S_lp (pT := 49) (pF := 216) (pS := 210) (pG := 213) (C_and (pc1 := 45) (J2_lt (pF := 216) (pc1 := 38) (pc2 := 42) (E_il d_R_isPack_36) (E_fI f_R_207 ho (pc1 := 39) (E_aln d_R_isPack_38 rfl) d_R_isPack_39) d_R_isPack_42 rfl) (J1_ne (pF := 216) (pc2 := 46) (E_iln d_R_isPack_45 rfl) d_R_isPack_46 rfl))
    (S_cut (S_sq (pc1 := 60) (S_I (pc1 := 58) (E_aI (pc1 := 53) (pc2 := 57) (E_fR f_R_65 ho (pc1 := 50) (E_aln d_R_isPack_49 rfl) d_R_isPack_50) (E_iadd (pc1 := 54) (pc2 := 56) (E_iln d_R_isPack_53 rfl) (E_il d_R_isPack_54) d_R_isPack_56) d_R_isPack_57) d_R_isPack_58)
    (S_sq (pc1 := 82) (S_In (pc1 := 81) (E_C (pT := 76) (pF := 80) (pc2 := 81) (J2_eq (pF := 80) (pc1 := 67) (pc2 := 73) (E_aI (pc1 := 64) (pc2 := 66) (E_fR f_R_13 ho (pc1 := 61) (E_aln d_R_isPack_60 rfl) d_R_isPack_61) (E_il d_R_isPack_64) d_R_isPack_66) (E_aI (pc1 := 71) (pc2 := 72) (E_fR f_R_13 ho (pc1 := 68) (E_aln d_R_isPack_67 rfl) d_R_isPack_68) (E_iln d_R_isPack_71 rfl) d_R_isPack_72) d_R_isPack_73 rfl) d_R_isPack_76 d_R_isPack_77 rfl d_R_isPack_80 rfl) d_R_isPack_81 rfl)
    (S_sq (pc1 := 156) (S_cut (S_sq (pc1 := 85) (S_I (pc1 := 83) (E_ic d_R_isPack_82 rfl) d_R_isPack_83)
    (S_lp (pT := 96) (pF := 156) (pS := 150) (pG := 153) (C_and (pc1 := 92) (J2_lt (pF := 156) (pc1 := 87) (pc2 := 89) (E_il d_R_isPack_85) (E_il d_R_isPack_87) d_R_isPack_89 rfl) (J1_ne (pF := 156) (pc2 := 93) (E_iln d_R_isPack_92 rfl) d_R_isPack_93 rfl))
    (S_cut (S_sq (pc1 := 107) (S_I (pc1 := 105) (E_aI (pc1 := 100) (pc2 := 104) (E_fR f_R_65 ho (pc1 := 97) (E_aln d_R_isPack_96 rfl) d_R_isPack_97) (E_iadd (pc1 := 101) (pc2 := 103) (E_iln d_R_isPack_100 rfl) (E_il d_R_isPack_101) d_R_isPack_103) d_R_isPack_104) d_R_isPack_105)
    (S_In (pc1 := 149) (E_C (pT := 144) (pF := 148) (pc2 := 149) (C_and (pc1 := 129) (C_and (pc1 := 114) (J2_ne (pF := 148) (pc1 := 109) (pc2 := 111) (E_il d_R_isPack_107) (E_il d_R_isPack_109) d_R_isPack_111 rfl) (C_not (T1_ne (pT := 148) (pc2 := 126) (E_x (O_S k_R_190 (v_R_has _) ⟨rfl, rfl⟩ ho (rk hR rfl) (by decide) (pc2 := 123) (A_c catI (pc1 := 121) (E_aI (pc1 := 118) (pc2 := 120) (E_fR f_R_50 ho (pc1 := 115) (E_aln d_R_isPack_114 rfl) d_R_isPack_115) (E_il d_R_isPack_118) d_R_isPack_120) (A_c catI (pc1 := 123) (E_il d_R_isPack_121) A_n)) d_R_isPack_123)) d_R_isPack_126 rfl))) (C_not (T1_ne (pT := 148) (pc2 := 141) (E_x (O_S k_R_190 (v_R_has _) ⟨rfl, rfl⟩ ho (rk hR rfl) (by decide) (pc2 := 138) (A_c catI (pc1 := 136) (E_aI (pc1 := 133) (pc2 := 135) (E_fR f_R_50 ho (pc1 := 130) (E_aln d_R_isPack_129 rfl) d_R_isPack_130) (E_il d_R_isPack_133) d_R_isPack_135) (A_c catI (pc1 := 138) (E_il d_R_isPack_136) A_n)) d_R_isPack_138)) d_R_isPack_141 rfl))) d_R_isPack_144 d_R_isPack_145 rfl d_R_isPack_148 rfl) d_R_isPack_149 rfl)))
    (S_Inc d_R_isPack_150 rfl) d_R_isPack_153 rfl)))
    (S_if1 (pT := 169) (pF := 210) (C_and (pc1 := 160) (J1_ne (pF := 210) (pc2 := 157) (E_iln d_R_isPack_156 rfl) d_R_isPack_157 rfl) (J1_ne (pF := 210) (pc2 := 166) (E_x (O_V k_R_194 (v_R_isMemory _) ⟨rfl, rfl⟩ ho (rk hR rfl) (by decide) (T := KT10) (N := 50) rfl (by decide) (pc1 := 161) (pc2 := 163) (E_aln d_R_isPack_160 rfl) (A_c catI (pc1 := 163) (E_il d_R_isPack_161) A_n) d_R_isPack_163)) d_R_isPack_166 rfl)) (S_In (pc1 := 209) (E_C (pT := 204) (pF := 208) (pc2 := 209) (C_and (pc1 := 185) (J2_eq (pF := 208) (pc1 := 176) (pc2 := 182) (E_aI (pc1 := 173) (pc2 := 175) (E_fR f_R_16 ho (pc1 := 170) (E_aln d_R_isPack_169 rfl) d_R_isPack_170) (E_il d_R_isPack_173) d_R_isPack_175) (E_aI (pc1 := 180) (pc2 := 181) (E_fR f_R_16 ho (pc1 := 177) (E_aln d_R_isPack_176 rfl) d_R_isPack_177) (E_iln d_R_isPack_180 rfl) d_R_isPack_181) d_R_isPack_182 rfl) (J2_eq (pF := 208) (pc1 := 192) (pc2 := 201) (E_aI (pc1 := 189) (pc2 := 191) (E_fR f_R_19 ho (pc1 := 186) (E_aln d_R_isPack_185 rfl) d_R_isPack_186) (E_il d_R_isPack_189) d_R_isPack_191) (E_iadd (pc1 := 198) (pc2 := 200) (E_aI (pc1 := 196) (pc2 := 197) (E_fR f_R_19 ho (pc1 := 193) (E_aln d_R_isPack_192 rfl) d_R_isPack_193) (E_iln d_R_isPack_196 rfl) d_R_isPack_197) (E_il d_R_isPack_198) d_R_isPack_200) d_R_isPack_201 rfl)) d_R_isPack_204 d_R_isPack_205 rfl d_R_isPack_208 rfl) d_R_isPack_209 rfl))))))
    (S_Inc d_R_isPack_210 rfl) d_R_isPack_213 rfl)))
    (S_rz hrt (pc1 := 217) (E_iln d_R_isPack_216 rfl) d_R_isPack_217))))
