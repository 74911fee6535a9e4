/-! the law: its script is read by rows of its own -/
section LW
variable {α : Type} {cc : ByteArray} {κ : KT} {d pc pc1 pc2 : Nat}
def eSA (scr : List Int32) (a : PX Nat) (i : PX Int32) : PX Int32 := fun ls h K => a ls h fun r h1 => i ls h1 fun j h2 => r = 1 ∧ 0 ≤ j ∧ ∃ x, scr[j.toNatClampNeg]? = some x ∧ K x h2
def eSL (scr : List Int32) (a : PX Nat) : PX Int32 := fun ls h K => a ls h fun r h1 => r = 1 ∧ K (Int32.ofNat scr.length) h1
def SC (cc : ByteArray) (κ : KT) (scr : List Int32) : Prop := KO cc κ → va_X (g_b (k_G κ)) scr.length (fun j => scr.getD j 0) (k_s κ) (k_s κ).heap ∧ g_b (k_G κ) < (k_s κ).heap.size ∧ ¬ g_A (k_G κ) (g_b (k_G κ))
theorem g_mu1 (G : GT) : g_mu G 1 = g_b G := by simp [g_mu]
theorem E_sA {scr : List Int32} {a : PX Nat} {i : PX Int32} (hsc : SC cc κ scr) (h1 : Ev cc κ d pc pc1 .ref a) (h2 : Ev cc κ (1 + d) pc1 pc2 .int i) (hd : decode cc pc2 = .ok (.iaload, 1)) : Ev cc κ d pc (pc2 + 1) .int (eSA scr a i) :=
  fun ls st h K hs q z => h1 ls st h _ hs (fun r h' z => h2 ls (.ref r :: st) h' _ (by rw [stw_cons, catR]; omega) (fun j h2 ⟨z1, z2, x, z3, z4⟩ => by
    subst z1
    intro O mls H locs cells slots hL hW
    obtain ⟨s1, s2, s3⟩ := hsc O
    have hlt := (List.getElem?_eq_some_iff.mp z3).1
    show kW κ H locs cells slots pc2 mls (.int j :: .ref (g_mu (k_G κ) 1) :: st.map (cv (k_G κ)))
    rw [g_mu1]
    refine va_sld O.1 O.2.1 s1 s2 s3 hW.2.1 (i := j) (by
      rintro (q | q)
      · exact absurd q (Int32.not_lt.mpr z2)
      · omega) hd ?_
    have ex : scr.getD j.toNatClampNeg 0 = x := by rw [List.getD_eq_getElem?_getD, z3]; rfl
    show kW κ H locs cells slots (pc2 + 1) mls (.int (scr.getD j.toNatClampNeg 0) :: st.map (cv (k_G κ)))
    rw [ex]
    exact q _ _ z4 O mls H locs cells slots hL hW) z) z
theorem E_sL {scr : List Int32} {a : PX Nat} (hsc : SC cc κ scr) (h1 : Ev cc κ d pc pc1 .ref a) (hd : decode cc pc1 = .ok (.arraylength, 1)) : Ev cc κ d pc (pc1 + 1) .int (eSL scr a) :=
  fun ls st h K hs q z => h1 ls st h _ hs (fun r h' ⟨z1, z2⟩ => by
    subst z1
    intro O mls H locs cells slots hL hW
    obtain ⟨s1, s2, s3⟩ := hsc O
    show kW κ H locs cells slots pc1 mls (.ref (g_mu (k_G κ) 1) :: st.map (cv (k_G κ)))
    rw [g_mu1]
    exact va_slen O.1 O.2.1 s1 s2 s3 hW.2.1 hd (q _ _ z2 O mls H locs cells slots hL hW)) z
end LW
theorem k_Law_12 : CallI "PackLanesLaw" 12 y_R_init prog_12_method_1_code 1 0 := ⟨Or.inl (big_t 744 (by decide +kernel) (by decide +kernel)), (big_t 745 (by decide +kernel) (by decide +kernel)), (big_t 12 (by decide +kernel) (by decide +kernel)), (big_t 746 (by decide +kernel) (by decide +kernel)), rfl, ⟨by decide, by decide, by decide +kernel⟩⟩
theorem k_Law_9 : CallI "PackLanesLaw" 9 y_PL_init prog_1_method_1_code 1 0 := ⟨Or.inl (big_t 17 (by decide +kernel) (by decide +kernel)), (big_t 18 (by decide +kernel) (by decide +kernel)), (big_t 1 (by decide +kernel) (by decide +kernel)), (big_t 19 (by decide +kernel) (by decide +kernel)), rfl, ⟨by decide, by decide, by decide +kernel⟩⟩
theorem k_Law_101 : CallV "PackLanesLaw" 101 y_R_drawn prog_12_method_83_code 6 (some .int) 1 := ⟨(big_t 1221 (by decide +kernel) (by decide +kernel)), (big_t 1222 (by decide +kernel) (by decide +kernel)), (big_t 1223 (by decide +kernel) (by decide +kernel)), (big_t 12 (by decide +kernel) (by decide +kernel)), (big_t 1224 (by decide +kernel) (by decide +kernel)), ⟨rfl, by decide, by decide, by decide +kernel⟩⟩
theorem k_Law_102 : CallV "PackLanesLaw" 102 y_PL_keep prog_1_method_22_code 2 (some .int) 1 := ⟨(big_t 725 (by decide +kernel) (by decide +kernel)), (big_t 726 (by decide +kernel) (by decide +kernel)), (big_t 727 (by decide +kernel) (by decide +kernel)), (big_t 1 (by decide +kernel) (by decide +kernel)), (big_t 728 (by decide +kernel) (by decide +kernel)), ⟨rfl, by decide, by decide, by decide +kernel⟩⟩
theorem k_Law_105 : CallV "PackLanesLaw" 105 y_R_keep prog_12_method_84_code 3 (some .int) 1 := ⟨(big_t 1227 (by decide +kernel) (by decide +kernel)), (big_t 1228 (by decide +kernel) (by decide +kernel)), (big_t 1229 (by decide +kernel) (by decide +kernel)), (big_t 12 (by decide +kernel) (by decide +kernel)), (big_t 1230 (by decide +kernel) (by decide +kernel)), ⟨rfl, by decide, by decide, by decide +kernel⟩⟩
theorem k_Law_106 : CallV "PackLanesLaw" 106 y_PL_again prog_1_method_23_code 2 (some .int) 1 := ⟨(big_t 734 (by decide +kernel) (by decide +kernel)), (big_t 735 (by decide +kernel) (by decide +kernel)), (big_t 736 (by decide +kernel) (by decide +kernel)), (big_t 1 (by decide +kernel) (by decide +kernel)), (big_t 737 (by decide +kernel) (by decide +kernel)), ⟨rfl, by decide, by decide, by decide +kernel⟩⟩
theorem k_Law_109 : CallV "PackLanesLaw" 109 y_R_again prog_12_method_85_code 3 (some .int) 1 := ⟨(big_t 1231 (by decide +kernel) (by decide +kernel)), (big_t 1232 (by decide +kernel) (by decide +kernel)), (big_t 1233 (by decide +kernel) (by decide +kernel)), (big_t 12 (by decide +kernel) (by decide +kernel)), (big_t 1234 (by decide +kernel) (by decide +kernel)), ⟨rfl, by decide, by decide, by decide +kernel⟩⟩
theorem k_Law_13 : CallV "PackLanesLaw" 13 y_PL_write prog_1_method_2_code 2 (some .int) 1 := ⟨(big_t 489 (by decide +kernel) (by decide +kernel)), (big_t 490 (by decide +kernel) (by decide +kernel)), (big_t 491 (by decide +kernel) (by decide +kernel)), (big_t 1 (by decide +kernel) (by decide +kernel)), (big_t 492 (by decide +kernel) (by decide +kernel)), ⟨rfl, by decide, by decide, by decide +kernel⟩⟩
theorem k_Law_17 : CallV "PackLanesLaw" 17 y_R_write prog_12_method_13_code 2 (some .int) 1 := ⟨(big_t 902 (by decide +kernel) (by decide +kernel)), (big_t 903 (by decide +kernel) (by decide +kernel)), (big_t 904 (by decide +kernel) (by decide +kernel)), (big_t 12 (by decide +kernel) (by decide +kernel)), (big_t 905 (by decide +kernel) (by decide +kernel)), ⟨rfl, by decide, by decide, by decide +kernel⟩⟩
theorem k_Law_18 : CallV "PackLanesLaw" 18 y_PL_wipe prog_1_method_3_code 1 (some .int) 0 := ⟨(big_t 497 (by decide +kernel) (by decide +kernel)), (big_t 498 (by decide +kernel) (by decide +kernel)), (big_t 499 (by decide +kernel) (by decide +kernel)), (big_t 1 (by decide +kernel) (by decide +kernel)), (big_t 500 (by decide +kernel) (by decide +kernel)), ⟨rfl, by decide, by decide, by decide +kernel⟩⟩
theorem k_Law_22 : CallV "PackLanesLaw" 22 y_R_wipe prog_12_method_14_code 2 (some .int) 0 := ⟨(big_t 910 (by decide +kernel) (by decide +kernel)), (big_t 911 (by decide +kernel) (by decide +kernel)), (big_t 912 (by decide +kernel) (by decide +kernel)), (big_t 12 (by decide +kernel) (by decide +kernel)), (big_t 913 (by decide +kernel) (by decide +kernel)), ⟨rfl, by decide, by decide, by decide +kernel⟩⟩
theorem k_Law_23 : CallV "PackLanesLaw" 23 y_PL_fault prog_1_method_4_code 1 (some .int) 0 := ⟨(big_t 505 (by decide +kernel) (by decide +kernel)), (big_t 506 (by decide +kernel) (by decide +kernel)), (big_t 507 (by decide +kernel) (by decide +kernel)), (big_t 1 (by decide +kernel) (by decide +kernel)), (big_t 508 (by decide +kernel) (by decide +kernel)), ⟨rfl, by decide, by decide, by decide +kernel⟩⟩
theorem k_Law_26 : CallV "PackLanesLaw" 26 y_R_fault prog_12_method_23_code 1 (some .int) 0 := ⟨(big_t 914 (by decide +kernel) (by decide +kernel)), (big_t 915 (by decide +kernel) (by decide +kernel)), (big_t 916 (by decide +kernel) (by decide +kernel)), (big_t 12 (by decide +kernel) (by decide +kernel)), (big_t 917 (by decide +kernel) (by decide +kernel)), ⟨rfl, by decide, by decide, by decide +kernel⟩⟩
theorem k_Law_27 : CallV "PackLanesLaw" 27 y_PL_block prog_1_method_5_code 1 (some .int) 0 := ⟨(big_t 553 (by decide +kernel) (by decide +kernel)), (big_t 554 (by decide +kernel) (by decide +kernel)), (big_t 555 (by decide +kernel) (by decide +kernel)), (big_t 1 (by decide +kernel) (by decide +kernel)), (big_t 556 (by decide +kernel) (by decide +kernel)), ⟨rfl, by decide, by decide, by decide +kernel⟩⟩
theorem k_Law_30 : CallV "PackLanesLaw" 30 y_R_block prog_12_method_24_code 2 (some .int) 0 := ⟨(big_t 955 (by decide +kernel) (by decide +kernel)), (big_t 956 (by decide +kernel) (by decide +kernel)), (big_t 957 (by decide +kernel) (by decide +kernel)), (big_t 12 (by decide +kernel) (by decide +kernel)), (big_t 958 (by decide +kernel) (by decide +kernel)), ⟨rfl, by decide, by decide, by decide +kernel⟩⟩
theorem k_Law_31 : CallV "PackLanesLaw" 31 y_PL_about prog_1_method_6_code 2 (some .int) 1 := ⟨(big_t 561 (by decide +kernel) (by decide +kernel)), (big_t 562 (by decide +kernel) (by decide +kernel)), (big_t 563 (by decide +kernel) (by decide +kernel)), (big_t 1 (by decide +kernel) (by decide +kernel)), (big_t 564 (by decide +kernel) (by decide +kernel)), ⟨rfl, by decide, by decide, by decide +kernel⟩⟩
theorem k_Law_34 : CallV "PackLanesLaw" 34 y_R_about prog_12_method_60_code 2 (some .int) 1 := ⟨(big_t 959 (by decide +kernel) (by decide +kernel)), (big_t 960 (by decide +kernel) (by decide +kernel)), (big_t 961 (by decide +kernel) (by decide +kernel)), (big_t 12 (by decide +kernel) (by decide +kernel)), (big_t 962 (by decide +kernel) (by decide +kernel)), ⟨rfl, by decide, by decide, by decide +kernel⟩⟩
theorem k_Law_35 : CallV "PackLanesLaw" 35 y_PL_instruction prog_1_method_7_code 3 (some .int) 2 := ⟨(big_t 594 (by decide +kernel) (by decide +kernel)), (big_t 595 (by decide +kernel) (by decide +kernel)), (big_t 596 (by decide +kernel) (by decide +kernel)), (big_t 1 (by decide +kernel) (by decide +kernel)), (big_t 597 (by decide +kernel) (by decide +kernel)), ⟨rfl, by decide, by decide, by decide +kernel⟩⟩
theorem k_Law_39 : CallV "PackLanesLaw" 39 y_R_instruction prog_12_method_61_code 3 (some .int) 2 := ⟨(big_t 1110 (by decide +kernel) (by decide +kernel)), (big_t 1111 (by decide +kernel) (by decide +kernel)), (big_t 1112 (by decide +kernel) (by decide +kernel)), (big_t 12 (by decide +kernel) (by decide +kernel)), (big_t 1113 (by decide +kernel) (by decide +kernel)), ⟨rfl, by decide, by decide, by decide +kernel⟩⟩
theorem k_Law_40 : CallV "PackLanesLaw" 40 y_PL_address prog_1_method_8_code 3 (some .int) 2 := ⟨(big_t 600 (by decide +kernel) (by decide +kernel)), (big_t 601 (by decide +kernel) (by decide +kernel)), (big_t 602 (by decide +kernel) (by decide +kernel)), (big_t 1 (by decide +kernel) (by decide +kernel)), (big_t 603 (by decide +kernel) (by decide +kernel)), ⟨rfl, by decide, by decide, by decide +kernel⟩⟩
theorem k_Law_43 : CallV "PackLanesLaw" 43 y_R_address prog_12_method_62_code 3 (some .int) 2 := ⟨(big_t 1121 (by decide +kernel) (by decide +kernel)), (big_t 1122 (by decide +kernel) (by decide +kernel)), (big_t 1123 (by decide +kernel) (by decide +kernel)), (big_t 12 (by decide +kernel) (by decide +kernel)), (big_t 1124 (by decide +kernel) (by decide +kernel)), ⟨rfl, by decide, by decide, by decide +kernel⟩⟩
theorem k_Law_44 : CallV "PackLanesLaw" 44 y_PL_depends prog_1_method_9_code 3 (some .int) 2 := ⟨(big_t 604 (by decide +kernel) (by decide +kernel)), (big_t 605 (by decide +kernel) (by decide +kernel)), (big_t 606 (by decide +kernel) (by decide +kernel)), (big_t 1 (by decide +kernel) (by decide +kernel)), (big_t 607 (by decide +kernel) (by decide +kernel)), ⟨rfl, by decide, by decide, by decide +kernel⟩⟩
theorem k_Law_47 : CallV "PackLanesLaw" 47 y_R_depends prog_12_method_63_code 3 (some .int) 2 := ⟨(big_t 1129 (by decide +kernel) (by decide +kernel)), (big_t 1130 (by decide +kernel) (by decide +kernel)), (big_t 1131 (by decide +kernel) (by decide +kernel)), (big_t 12 (by decide +kernel) (by decide +kernel)), (big_t 1132 (by decide +kernel) (by decide +kernel)), ⟨rfl, by decide, by decide, by decide +kernel⟩⟩
theorem k_Law_48 : CallV "PackLanesLaw" 48 y_PL_start prog_1_method_10_code 4 (some .int) 2 := ⟨(big_t 609 (by decide +kernel) (by decide +kernel)), (big_t 610 (by decide +kernel) (by decide +kernel)), (big_t 611 (by decide +kernel) (by decide +kernel)), (big_t 1 (by decide +kernel) (by decide +kernel)), (big_t 612 (by decide +kernel) (by decide +kernel)), ⟨rfl, by decide, by decide, by decide +kernel⟩⟩
theorem k_Law_51 : CallV "PackLanesLaw" 51 y_R_start prog_12_method_65_code 4 (some .int) 2 := ⟨(big_t 1133 (by decide +kernel) (by decide +kernel)), (big_t 1134 (by decide +kernel) (by decide +kernel)), (big_t 1135 (by decide +kernel) (by decide +kernel)), (big_t 12 (by decide +kernel) (by decide +kernel)), (big_t 1136 (by decide +kernel) (by decide +kernel)), ⟨rfl, by decide, by decide, by decide +kernel⟩⟩
theorem k_Law_52 : CallV "PackLanesLaw" 52 y_PL_set prog_1_method_11_code 5 (some .int) 2 := ⟨(big_t 618 (by decide +kernel) (by decide +kernel)), (big_t 619 (by decide +kernel) (by decide +kernel)), (big_t 620 (by decide +kernel) (by decide +kernel)), (big_t 1 (by decide +kernel) (by decide +kernel)), (big_t 621 (by decide +kernel) (by decide +kernel)), ⟨rfl, by decide, by decide, by decide +kernel⟩⟩
theorem k_Law_55 : CallV "PackLanesLaw" 55 y_R_set prog_12_method_67_code 4 (some .int) 2 := ⟨(big_t 1143 (by decide +kernel) (by decide +kernel)), (big_t 1144 (by decide +kernel) (by decide +kernel)), (big_t 1145 (by decide +kernel) (by decide +kernel)), (big_t 12 (by decide +kernel) (by decide +kernel)), (big_t 1146 (by decide +kernel) (by decide +kernel)), ⟨rfl, by decide, by decide, by decide +kernel⟩⟩
theorem k_Law_56 : CallV "PackLanesLaw" 56 y_PL_undo prog_1_method_12_code 1 (some .int) 0 := ⟨(big_t 625 (by decide +kernel) (by decide +kernel)), (big_t 626 (by decide +kernel) (by decide +kernel)), (big_t 627 (by decide +kernel) (by decide +kernel)), (big_t 1 (by decide +kernel) (by decide +kernel)), (big_t 628 (by decide +kernel) (by decide +kernel)), ⟨rfl, by decide, by decide, by decide +kernel⟩⟩
theorem k_Law_59 : CallV "PackLanesLaw" 59 y_R_undo prog_12_method_68_code 2 (some .int) 0 := ⟨(big_t 1150 (by decide +kernel) (by decide +kernel)), (big_t 1151 (by decide +kernel) (by decide +kernel)), (big_t 1152 (by decide +kernel) (by decide +kernel)), (big_t 12 (by decide +kernel) (by decide +kernel)), (big_t 1153 (by decide +kernel) (by decide +kernel)), ⟨rfl, by decide, by decide, by decide +kernel⟩⟩
theorem k_Law_60 : CallV "PackLanesLaw" 60 y_PL_tried prog_1_method_13_code 4 (some .int) 2 := ⟨(big_t 633 (by decide +kernel) (by decide +kernel)), (big_t 634 (by decide +kernel) (by decide +kernel)), (big_t 635 (by decide +kernel) (by decide +kernel)), (big_t 1 (by decide +kernel) (by decide +kernel)), (big_t 636 (by decide +kernel) (by decide +kernel)), ⟨rfl, by decide, by decide, by decide +kernel⟩⟩
theorem k_Law_63 : CallV "PackLanesLaw" 63 y_R_tried prog_12_method_69_code 3 (some .int) 2 := ⟨(big_t 1154 (by decide +kernel) (by decide +kernel)), (big_t 1155 (by decide +kernel) (by decide +kernel)), (big_t 1156 (by decide +kernel) (by decide +kernel)), (big_t 12 (by decide +kernel) (by decide +kernel)), (big_t 1157 (by decide +kernel) (by decide +kernel)), ⟨rfl, by decide, by decide, by decide +kernel⟩⟩
theorem k_Law_66 : CallV "PackLanesLaw" 66 y_PL_judge prog_1_method_14_code 7 (some .int) 2 := ⟨(big_t 643 (by decide +kernel) (by decide +kernel)), (big_t 644 (by decide +kernel) (by decide +kernel)), (big_t 645 (by decide +kernel) (by decide +kernel)), (big_t 1 (by decide +kernel) (by decide +kernel)), (big_t 646 (by decide +kernel) (by decide +kernel)), ⟨rfl, by decide, by decide, by decide +kernel⟩⟩
theorem k_Law_70 : CallV "PackLanesLaw" 70 y_R_judge prog_12_method_74_code 6 (some .int) 2 := ⟨(big_t 1158 (by decide +kernel) (by decide +kernel)), (big_t 1159 (by decide +kernel) (by decide +kernel)), (big_t 1160 (by decide +kernel) (by decide +kernel)), (big_t 12 (by decide +kernel) (by decide +kernel)), (big_t 1161 (by decide +kernel) (by decide +kernel)), ⟨rfl, by decide, by decide, by decide +kernel⟩⟩
theorem k_Law_71 : CallV "PackLanesLaw" 71 y_PL_see prog_1_method_15_code 3 (some .int) 2 := ⟨(big_t 652 (by decide +kernel) (by decide +kernel)), (big_t 653 (by decide +kernel) (by decide +kernel)), (big_t 654 (by decide +kernel) (by decide +kernel)), (big_t 1 (by decide +kernel) (by decide +kernel)), (big_t 655 (by decide +kernel) (by decide +kernel)), ⟨rfl, by decide, by decide, by decide +kernel⟩⟩
theorem k_Law_74 : CallV "PackLanesLaw" 74 y_R_see prog_12_method_75_code 3 (some .int) 2 := ⟨(big_t 1179 (by decide +kernel) (by decide +kernel)), (big_t 1180 (by decide +kernel) (by decide +kernel)), (big_t 1181 (by decide +kernel) (by decide +kernel)), (big_t 12 (by decide +kernel) (by decide +kernel)), (big_t 1182 (by decide +kernel) (by decide +kernel)), ⟨rfl, by decide, by decide, by decide +kernel⟩⟩
theorem k_Law_75 : CallV "PackLanesLaw" 75 y_PL_unsee prog_1_method_16_code 1 (some .int) 0 := ⟨(big_t 660 (by decide +kernel) (by decide +kernel)), (big_t 661 (by decide +kernel) (by decide +kernel)), (big_t 662 (by decide +kernel) (by decide +kernel)), (big_t 1 (by decide +kernel) (by decide +kernel)), (big_t 663 (by decide +kernel) (by decide +kernel)), ⟨rfl, by decide, by decide, by decide +kernel⟩⟩
theorem k_Law_78 : CallV "PackLanesLaw" 78 y_R_unsee prog_12_method_76_code 2 (some .int) 0 := ⟨(big_t 1183 (by decide +kernel) (by decide +kernel)), (big_t 1184 (by decide +kernel) (by decide +kernel)), (big_t 1185 (by decide +kernel) (by decide +kernel)), (big_t 12 (by decide +kernel) (by decide +kernel)), (big_t 1186 (by decide +kernel) (by decide +kernel)), ⟨rfl, by decide, by decide, by decide +kernel⟩⟩
theorem k_Law_79 : CallV "PackLanesLaw" 79 y_PL_which prog_1_method_17_code 3 (some .int) 0 := ⟨(big_t 668 (by decide +kernel) (by decide +kernel)), (big_t 669 (by decide +kernel) (by decide +kernel)), (big_t 670 (by decide +kernel) (by decide +kernel)), (big_t 1 (by decide +kernel) (by decide +kernel)), (big_t 671 (by decide +kernel) (by decide +kernel)), ⟨rfl, by decide, by decide, by decide +kernel⟩⟩
theorem k_Law_82 : CallV "PackLanesLaw" 82 y_R_which prog_12_method_77_code 5 (some .int) 0 := ⟨(big_t 1187 (by decide +kernel) (by decide +kernel)), (big_t 1188 (by decide +kernel) (by decide +kernel)), (big_t 1189 (by decide +kernel) (by decide +kernel)), (big_t 12 (by decide +kernel) (by decide +kernel)), (big_t 1190 (by decide +kernel) (by decide +kernel)), ⟨rfl, by decide, by decide, by decide +kernel⟩⟩
theorem k_Law_83 : CallV "PackLanesLaw" 83 y_PL_share prog_1_method_18_code 7 (some .int) 2 := ⟨(big_t 676 (by decide +kernel) (by decide +kernel)), (big_t 677 (by decide +kernel) (by decide +kernel)), (big_t 678 (by decide +kernel) (by decide +kernel)), (big_t 1 (by decide +kernel) (by decide +kernel)), (big_t 679 (by decide +kernel) (by decide +kernel)), ⟨rfl, by decide, by decide, by decide +kernel⟩⟩
theorem k_Law_87 : CallV "PackLanesLaw" 87 y_R_share prog_12_method_80_code 8 (some .int) 2 := ⟨(big_t 1191 (by decide +kernel) (by decide +kernel)), (big_t 1192 (by decide +kernel) (by decide +kernel)), (big_t 1193 (by decide +kernel) (by decide +kernel)), (big_t 12 (by decide +kernel) (by decide +kernel)), (big_t 1194 (by decide +kernel) (by decide +kernel)), ⟨rfl, by decide, by decide, by decide +kernel⟩⟩
theorem k_Law_88 : CallV "PackLanesLaw" 88 y_PL_chance prog_1_method_19_code 9 (some .int) 3 := ⟨(big_t 703 (by decide +kernel) (by decide +kernel)), (big_t 704 (by decide +kernel) (by decide +kernel)), (big_t 705 (by decide +kernel) (by decide +kernel)), (big_t 1 (by decide +kernel) (by decide +kernel)), (big_t 706 (by decide +kernel) (by decide +kernel)), ⟨rfl, by decide, by decide, by decide +kernel⟩⟩
theorem k_Law_92 : CallV "PackLanesLaw" 92 y_R_chance prog_12_method_81_code 7 (some .int) 3 := ⟨(big_t 1209 (by decide +kernel) (by decide +kernel)), (big_t 1210 (by decide +kernel) (by decide +kernel)), (big_t 1211 (by decide +kernel) (by decide +kernel)), (big_t 12 (by decide +kernel) (by decide +kernel)), (big_t 1212 (by decide +kernel) (by decide +kernel)), ⟨rfl, by decide, by decide, by decide +kernel⟩⟩
theorem k_Law_93 : CallV "PackLanesLaw" 93 y_PL_seed prog_1_method_20_code 5 (some .long) 1 := ⟨(big_t 711 (by decide +kernel) (by decide +kernel)), (big_t 712 (by decide +kernel) (by decide +kernel)), (big_t 713 (by decide +kernel) (by decide +kernel)), (big_t 1 (by decide +kernel) (by decide +kernel)), (big_t 714 (by decide +kernel) (by decide +kernel)), ⟨rfl, by decide, by decide, by decide +kernel⟩⟩
theorem k_Law_97 : CallV "PackLanesLaw" 97 y_R_seed prog_12_method_82_code 5 (some .long) 1 := ⟨(big_t 1217 (by decide +kernel) (by decide +kernel)), (big_t 1218 (by decide +kernel) (by decide +kernel)), (big_t 1219 (by decide +kernel) (by decide +kernel)), (big_t 12 (by decide +kernel) (by decide +kernel)), (big_t 1220 (by decide +kernel) (by decide +kernel)), ⟨rfl, by decide, by decide, by decide +kernel⟩⟩
theorem k_Law_98 : CallV "PackLanesLaw" 98 y_PL_drawn prog_1_method_21_code 5 (some .int) 1 := ⟨(big_t 715 (by decide +kernel) (by decide +kernel)), (big_t 716 (by decide +kernel) (by decide +kernel)), (big_t 717 (by decide +kernel) (by decide +kernel)), (big_t 1 (by decide +kernel) (by decide +kernel)), (big_t 718 (by decide +kernel) (by decide +kernel)), ⟨rfl, by decide, by decide, by decide +kernel⟩⟩
theorem w_cl_Law_64 : Cond.constantLong "PackLanesLaw" 64 4294967295 ∈ BIG := (big_t 1235 (by decide +kernel) (by decide +kernel))
theorem n_Law_10 : NewOK "PackLanesLaw" 10 10 [.null, .int 0, .int 0, .null, .null, .null, .null, .null, .null, .null, .int 0, .int 0, .null, .null, .null, .null, .int 0, .long 0, .int 0, .int 0, .null, .null, .null, .null, .int 0, .int 0, .int 0, .null, .null, .int 0, .null, .int 0, .int 0, .int 0, .null, .null, .null, .int 0, .null, .null, .int 0, .int 0, .int 0, .int 0, .null, .null, .null, .null, .int 0, .int 0] := ⟨KR10, KT10, 50, Kt10, by decide, rfl, Ki10, Kp10, (big_t 742 (by decide +kernel) (by decide +kernel)), (big_t 743 (by decide +kernel) (by decide +kernel)), (big_t 12 (by decide +kernel) (by decide +kernel)), fun _ => rfl, rfl, by decide +kernel⟩
theorem n_Law_7 : NewOK "PackLanesLaw" 7 9 [.null, .null, .null, .null, .null, .null, .null, .null, .null, .null, .null, .null, .null, .null, .long 0] := ⟨KR9, KT9, 15, Kt9, by decide, rfl, Ki9, Kp9, (big_t 15 (by decide +kernel) (by decide +kernel)), (big_t 16 (by decide +kernel) (by decide +kernel)), (big_t 1 (by decide +kernel) (by decide +kernel)), fun _ => rfl, rfl, by decide +kernel⟩
theorem d_Law_law_0 : decode code 0 = .ok (.new 7, 3) := by decide +kernel
theorem d_Law_law_3 : decode code 3 = .ok (.dup, 1) := by decide +kernel
theorem d_Law_law_4 : decode code 4 = .ok (.invokespecial 9, 3) := by decide +kernel
theorem d_Law_law_7 : decode code 7 = .ok (.astore_n 1, 1) := by decide +kernel
theorem d_Law_law_8 : decode code 8 = .ok (.new 10, 3) := by decide +kernel
theorem d_Law_law_11 : decode code 11 = .ok (.dup, 1) := by decide +kernel
theorem d_Law_law_12 : decode code 12 = .ok (.invokespecial 12, 3) := by decide +kernel
theorem d_Law_law_15 : decode code 15 = .ok (.astore_n 2, 1) := by decide +kernel
theorem d_Law_law_16 : decode code 16 = .ok (.iconst 0, 1) := by decide +kernel
theorem d_Law_law_17 : decode code 17 = .ok (.istore_n 3, 1) := by decide +kernel
theorem d_Law_law_18 : decode code 18 = .ok (.iload_n 3, 1) := by decide +kernel
theorem d_Law_law_19 : decode code 19 = .ok (.aload_n 0, 1) := by decide +kernel
theorem d_Law_law_20 : decode code 20 = .ok (.arraylength, 1) := by decide +kernel
theorem d_Law_law_21 : decode code 21 = .ok (.iconst 4, 1) := by decide +kernel
theorem d_Law_law_22 : decode code 22 = .ok (.isub, 1) := by decide +kernel
theorem d_Law_law_23 : decode code 23 = .ok (.if_icmp .gt 768, 3) := by decide +kernel
theorem d_Law_law_26 : decode code 26 = .ok (.aload_n 0, 1) := by decide +kernel
theorem d_Law_law_27 : decode code 27 = .ok (.iload_n 3, 1) := by decide +kernel
theorem d_Law_law_28 : decode code 28 = .ok (.iaload, 1) := by decide +kernel
theorem d_Law_law_29 : decode code 29 = .ok (.bipush 31, 2) := by decide +kernel
theorem d_Law_law_31 : decode code 31 = .ok (.iand, 1) := by decide +kernel
theorem d_Law_law_32 : decode code 32 = .ok (.tableswitch 753 0 21 #[104, 127, 140, 153, 166, 189, 222, 255, 288, 321, 354, 367, 400, 463, 496, 509, 522, 571, 630, 684, 707, 730], 104) := by decide +kernel
theorem d_Law_law_136 : decode code 136 = .ok (.aload_n 1, 1) := by decide +kernel
theorem d_Law_law_137 : decode code 137 = .ok (.aload_n 0, 1) := by decide +kernel
theorem d_Law_law_138 : decode code 138 = .ok (.iload_n 3, 1) := by decide +kernel
theorem d_Law_law_139 : decode code 139 = .ok (.iconst 1, 1) := by decide +kernel
theorem d_Law_law_140 : decode code 140 = .ok (.iadd, 1) := by decide +kernel
theorem d_Law_law_141 : decode code 141 = .ok (.iaload, 1) := by decide +kernel
theorem d_Law_law_142 : decode code 142 = .ok (.invokevirtual 13, 3) := by decide +kernel
theorem d_Law_law_145 : decode code 145 = .ok (.aload_n 2, 1) := by decide +kernel
theorem d_Law_law_146 : decode code 146 = .ok (.aload_n 0, 1) := by decide +kernel
theorem d_Law_law_147 : decode code 147 = .ok (.iload_n 3, 1) := by decide +kernel
theorem d_Law_law_148 : decode code 148 = .ok (.iconst 1, 1) := by decide +kernel
theorem d_Law_law_149 : decode code 149 = .ok (.iadd, 1) := by decide +kernel
theorem d_Law_law_150 : decode code 150 = .ok (.iaload, 1) := by decide +kernel
theorem d_Law_law_151 : decode code 151 = .ok (.invokevirtual 17, 3) := by decide +kernel
theorem d_Law_law_154 : decode code 154 = .ok (.if_icmp .eq 631, 3) := by decide +kernel
theorem d_Law_law_157 : decode code 157 = .ok (.iconst 0, 1) := by decide +kernel
theorem d_Law_law_158 : decode code 158 = .ok (.ireturn, 1) := by decide +kernel
theorem d_Law_law_159 : decode code 159 = .ok (.aload_n 1, 1) := by decide +kernel
theorem d_Law_law_160 : decode code 160 = .ok (.invokevirtual 18, 3) := by decide +kernel
theorem d_Law_law_163 : decode code 163 = .ok (.aload_n 2, 1) := by decide +kernel
theorem d_Law_law_164 : decode code 164 = .ok (.invokevirtual 22, 3) := by decide +kernel
theorem d_Law_law_167 : decode code 167 = .ok (.if_icmp .eq 618, 3) := by decide +kernel
theorem d_Law_law_170 : decode code 170 = .ok (.iconst 0, 1) := by decide +kernel
theorem d_Law_law_171 : decode code 171 = .ok (.ireturn, 1) := by decide +kernel
theorem d_Law_law_172 : decode code 172 = .ok (.aload_n 1, 1) := by decide +kernel
theorem d_Law_law_173 : decode code 173 = .ok (.invokevirtual 23, 3) := by decide +kernel
theorem d_Law_law_176 : decode code 176 = .ok (.aload_n 2, 1) := by decide +kernel
theorem d_Law_law_177 : decode code 177 = .ok (.invokevirtual 26, 3) := by decide +kernel
theorem d_Law_law_180 : decode code 180 = .ok (.if_icmp .eq 605, 3) := by decide +kernel
theorem d_Law_law_183 : decode code 183 = .ok (.iconst 0, 1) := by decide +kernel
theorem d_Law_law_184 : decode code 184 = .ok (.ireturn, 1) := by decide +kernel
theorem d_Law_law_185 : decode code 185 = .ok (.aload_n 1, 1) := by decide +kernel
theorem d_Law_law_186 : decode code 186 = .ok (.invokevirtual 27, 3) := by decide +kernel
theorem d_Law_law_189 : decode code 189 = .ok (.aload_n 2, 1) := by decide +kernel
theorem d_Law_law_190 : decode code 190 = .ok (.invokevirtual 30, 3) := by decide +kernel
theorem d_Law_law_193 : decode code 193 = .ok (.if_icmp .eq 592, 3) := by decide +kernel
theorem d_Law_law_196 : decode code 196 = .ok (.iconst 0, 1) := by decide +kernel
theorem d_Law_law_197 : decode code 197 = .ok (.ireturn, 1) := by decide +kernel
theorem d_Law_law_198 : decode code 198 = .ok (.aload_n 1, 1) := by decide +kernel
theorem d_Law_law_199 : decode code 199 = .ok (.aload_n 0, 1) := by decide +kernel
theorem d_Law_law_200 : decode code 200 = .ok (.iload_n 3, 1) := by decide +kernel
theorem d_Law_law_201 : decode code 201 = .ok (.iconst 1, 1) := by decide +kernel
theorem d_Law_law_202 : decode code 202 = .ok (.iadd, 1) := by decide +kernel
theorem d_Law_law_203 : decode code 203 = .ok (.iaload, 1) := by decide +kernel
theorem d_Law_law_204 : decode code 204 = .ok (.invokevirtual 31, 3) := by decide +kernel
theorem d_Law_law_207 : decode code 207 = .ok (.aload_n 2, 1) := by decide +kernel
theorem d_Law_law_208 : decode code 208 = .ok (.aload_n 0, 1) := by decide +kernel
theorem d_Law_law_209 : decode code 209 = .ok (.iload_n 3, 1) := by decide +kernel
theorem d_Law_law_210 : decode code 210 = .ok (.iconst 1, 1) := by decide +kernel
theorem d_Law_law_211 : decode code 211 = .ok (.iadd, 1) := by decide +kernel
theorem d_Law_law_212 : decode code 212 = .ok (.iaload, 1) := by decide +kernel
theorem d_Law_law_213 : decode code 213 = .ok (.invokevirtual 34, 3) := by decide +kernel
theorem d_Law_law_216 : decode code 216 = .ok (.if_icmp .eq 569, 3) := by decide +kernel
theorem d_Law_law_219 : decode code 219 = .ok (.iconst 0, 1) := by decide +kernel
theorem d_Law_law_220 : decode code 220 = .ok (.ireturn, 1) := by decide +kernel
theorem d_Law_law_221 : decode code 221 = .ok (.aload_n 1, 1) := by decide +kernel
theorem d_Law_law_222 : decode code 222 = .ok (.aload_n 0, 1) := by decide +kernel
theorem d_Law_law_223 : decode code 223 = .ok (.iload_n 3, 1) := by decide +kernel
theorem d_Law_law_224 : decode code 224 = .ok (.iconst 1, 1) := by decide +kernel
theorem d_Law_law_225 : decode code 225 = .ok (.iadd, 1) := by decide +kernel
theorem d_Law_law_226 : decode code 226 = .ok (.iaload, 1) := by decide +kernel
theorem d_Law_law_227 : decode code 227 = .ok (.aload_n 0, 1) := by decide +kernel
theorem d_Law_law_228 : decode code 228 = .ok (.iload_n 3, 1) := by decide +kernel
theorem d_Law_law_229 : decode code 229 = .ok (.iconst 2, 1) := by decide +kernel
theorem d_Law_law_230 : decode code 230 = .ok (.iadd, 1) := by decide +kernel
theorem d_Law_law_231 : decode code 231 = .ok (.iaload, 1) := by decide +kernel
theorem d_Law_law_232 : decode code 232 = .ok (.invokevirtual 35, 3) := by decide +kernel
theorem d_Law_law_235 : decode code 235 = .ok (.aload_n 2, 1) := by decide +kernel
theorem d_Law_law_236 : decode code 236 = .ok (.aload_n 0, 1) := by decide +kernel
theorem d_Law_law_237 : decode code 237 = .ok (.iload_n 3, 1) := by decide +kernel
theorem d_Law_law_238 : decode code 238 = .ok (.iconst 1, 1) := by decide +kernel
theorem d_Law_law_239 : decode code 239 = .ok (.iadd, 1) := by decide +kernel
theorem d_Law_law_240 : decode code 240 = .ok (.iaload, 1) := by decide +kernel
theorem d_Law_law_241 : decode code 241 = .ok (.aload_n 0, 1) := by decide +kernel
theorem d_Law_law_242 : decode code 242 = .ok (.iload_n 3, 1) := by decide +kernel
theorem d_Law_law_243 : decode code 243 = .ok (.iconst 2, 1) := by decide +kernel
theorem d_Law_law_244 : decode code 244 = .ok (.iadd, 1) := by decide +kernel
theorem d_Law_law_245 : decode code 245 = .ok (.iaload, 1) := by decide +kernel
theorem d_Law_law_246 : decode code 246 = .ok (.invokevirtual 39, 3) := by decide +kernel
theorem d_Law_law_249 : decode code 249 = .ok (.if_icmp .eq 536, 3) := by decide +kernel
theorem d_Law_law_252 : decode code 252 = .ok (.iconst 0, 1) := by decide +kernel
theorem d_Law_law_253 : decode code 253 = .ok (.ireturn, 1) := by decide +kernel
theorem d_Law_law_254 : decode code 254 = .ok (.aload_n 1, 1) := by decide +kernel
theorem d_Law_law_255 : decode code 255 = .ok (.aload_n 0, 1) := by decide +kernel
theorem d_Law_law_256 : decode code 256 = .ok (.iload_n 3, 1) := by decide +kernel
theorem d_Law_law_257 : decode code 257 = .ok (.iconst 1, 1) := by decide +kernel
theorem d_Law_law_258 : decode code 258 = .ok (.iadd, 1) := by decide +kernel
theorem d_Law_law_259 : decode code 259 = .ok (.iaload, 1) := by decide +kernel
theorem d_Law_law_260 : decode code 260 = .ok (.aload_n 0, 1) := by decide +kernel
theorem d_Law_law_261 : decode code 261 = .ok (.iload_n 3, 1) := by decide +kernel
theorem d_Law_law_262 : decode code 262 = .ok (.iconst 2, 1) := by decide +kernel
theorem d_Law_law_263 : decode code 263 = .ok (.iadd, 1) := by decide +kernel
theorem d_Law_law_264 : decode code 264 = .ok (.iaload, 1) := by decide +kernel
theorem d_Law_law_265 : decode code 265 = .ok (.invokevirtual 40, 3) := by decide +kernel
theorem d_Law_law_268 : decode code 268 = .ok (.aload_n 2, 1) := by decide +kernel
theorem d_Law_law_269 : decode code 269 = .ok (.aload_n 0, 1) := by decide +kernel
theorem d_Law_law_270 : decode code 270 = .ok (.iload_n 3, 1) := by decide +kernel
theorem d_Law_law_271 : decode code 271 = .ok (.iconst 1, 1) := by decide +kernel
theorem d_Law_law_272 : decode code 272 = .ok (.iadd, 1) := by decide +kernel
theorem d_Law_law_273 : decode code 273 = .ok (.iaload, 1) := by decide +kernel
theorem d_Law_law_274 : decode code 274 = .ok (.aload_n 0, 1) := by decide +kernel
theorem d_Law_law_275 : decode code 275 = .ok (.iload_n 3, 1) := by decide +kernel
theorem d_Law_law_276 : decode code 276 = .ok (.iconst 2, 1) := by decide +kernel
theorem d_Law_law_277 : decode code 277 = .ok (.iadd, 1) := by decide +kernel
theorem d_Law_law_278 : decode code 278 = .ok (.iaload, 1) := by decide +kernel
theorem d_Law_law_279 : decode code 279 = .ok (.invokevirtual 43, 3) := by decide +kernel
theorem d_Law_law_282 : decode code 282 = .ok (.if_icmp .eq 503, 3) := by decide +kernel
theorem d_Law_law_285 : decode code 285 = .ok (.iconst 0, 1) := by decide +kernel
theorem d_Law_law_286 : decode code 286 = .ok (.ireturn, 1) := by decide +kernel
theorem d_Law_law_287 : decode code 287 = .ok (.aload_n 1, 1) := by decide +kernel
theorem d_Law_law_288 : decode code 288 = .ok (.aload_n 0, 1) := by decide +kernel
theorem d_Law_law_289 : decode code 289 = .ok (.iload_n 3, 1) := by decide +kernel
theorem d_Law_law_290 : decode code 290 = .ok (.iconst 1, 1) := by decide +kernel
theorem d_Law_law_291 : decode code 291 = .ok (.iadd, 1) := by decide +kernel
theorem d_Law_law_292 : decode code 292 = .ok (.iaload, 1) := by decide +kernel
theorem d_Law_law_293 : decode code 293 = .ok (.aload_n 0, 1) := by decide +kernel
theorem d_Law_law_294 : decode code 294 = .ok (.iload_n 3, 1) := by decide +kernel
theorem d_Law_law_295 : decode code 295 = .ok (.iconst 2, 1) := by decide +kernel
theorem d_Law_law_296 : decode code 296 = .ok (.iadd, 1) := by decide +kernel
theorem d_Law_law_297 : decode code 297 = .ok (.iaload, 1) := by decide +kernel
theorem d_Law_law_298 : decode code 298 = .ok (.invokevirtual 44, 3) := by decide +kernel
theorem d_Law_law_301 : decode code 301 = .ok (.aload_n 2, 1) := by decide +kernel
theorem d_Law_law_302 : decode code 302 = .ok (.aload_n 0, 1) := by decide +kernel
theorem d_Law_law_303 : decode code 303 = .ok (.iload_n 3, 1) := by decide +kernel
theorem d_Law_law_304 : decode code 304 = .ok (.iconst 1, 1) := by decide +kernel
theorem d_Law_law_305 : decode code 305 = .ok (.iadd, 1) := by decide +kernel
theorem d_Law_law_306 : decode code 306 = .ok (.iaload, 1) := by decide +kernel
theorem d_Law_law_307 : decode code 307 = .ok (.aload_n 0, 1) := by decide +kernel
theorem d_Law_law_308 : decode code 308 = .ok (.iload_n 3, 1) := by decide +kernel
theorem d_Law_law_309 : decode code 309 = .ok (.iconst 2, 1) := by decide +kernel
theorem d_Law_law_310 : decode code 310 = .ok (.iadd, 1) := by decide +kernel
theorem d_Law_law_311 : decode code 311 = .ok (.iaload, 1) := by decide +kernel
theorem d_Law_law_312 : decode code 312 = .ok (.invokevirtual 47, 3) := by decide +kernel
theorem d_Law_law_315 : decode code 315 = .ok (.if_icmp .eq 470, 3) := by decide +kernel
theorem d_Law_law_318 : decode code 318 = .ok (.iconst 0, 1) := by decide +kernel
theorem d_Law_law_319 : decode code 319 = .ok (.ireturn, 1) := by decide +kernel
theorem d_Law_law_320 : decode code 320 = .ok (.aload_n 1, 1) := by decide +kernel
theorem d_Law_law_321 : decode code 321 = .ok (.aload_n 0, 1) := by decide +kernel
theorem d_Law_law_322 : decode code 322 = .ok (.iload_n 3, 1) := by decide +kernel
theorem d_Law_law_323 : decode code 323 = .ok (.iconst 1, 1) := by decide +kernel
theorem d_Law_law_324 : decode code 324 = .ok (.iadd, 1) := by decide +kernel
theorem d_Law_law_325 : decode code 325 = .ok (.iaload, 1) := by decide +kernel
theorem d_Law_law_326 : decode code 326 = .ok (.aload_n 0, 1) := by decide +kernel
theorem d_Law_law_327 : decode code 327 = .ok (.iload_n 3, 1) := by decide +kernel
theorem d_Law_law_328 : decode code 328 = .ok (.iconst 2, 1) := by decide +kernel
theorem d_Law_law_329 : decode code 329 = .ok (.iadd, 1) := by decide +kernel
theorem d_Law_law_330 : decode code 330 = .ok (.iaload, 1) := by decide +kernel
theorem d_Law_law_331 : decode code 331 = .ok (.invokevirtual 48, 3) := by decide +kernel
theorem d_Law_law_334 : decode code 334 = .ok (.aload_n 2, 1) := by decide +kernel
theorem d_Law_law_335 : decode code 335 = .ok (.aload_n 0, 1) := by decide +kernel
theorem d_Law_law_336 : decode code 336 = .ok (.iload_n 3, 1) := by decide +kernel
theorem d_Law_law_337 : decode code 337 = .ok (.iconst 1, 1) := by decide +kernel
theorem d_Law_law_338 : decode code 338 = .ok (.iadd, 1) := by decide +kernel
theorem d_Law_law_339 : decode code 339 = .ok (.iaload, 1) := by decide +kernel
theorem d_Law_law_340 : decode code 340 = .ok (.aload_n 0, 1) := by decide +kernel
theorem d_Law_law_341 : decode code 341 = .ok (.iload_n 3, 1) := by decide +kernel
theorem d_Law_law_342 : decode code 342 = .ok (.iconst 2, 1) := by decide +kernel
theorem d_Law_law_343 : decode code 343 = .ok (.iadd, 1) := by decide +kernel
theorem d_Law_law_344 : decode code 344 = .ok (.iaload, 1) := by decide +kernel
theorem d_Law_law_345 : decode code 345 = .ok (.invokevirtual 51, 3) := by decide +kernel
theorem d_Law_law_348 : decode code 348 = .ok (.if_icmp .eq 437, 3) := by decide +kernel
theorem d_Law_law_351 : decode code 351 = .ok (.iconst 0, 1) := by decide +kernel
theorem d_Law_law_352 : decode code 352 = .ok (.ireturn, 1) := by decide +kernel
theorem d_Law_law_353 : decode code 353 = .ok (.aload_n 1, 1) := by decide +kernel
theorem d_Law_law_354 : decode code 354 = .ok (.aload_n 0, 1) := by decide +kernel
theorem d_Law_law_355 : decode code 355 = .ok (.iload_n 3, 1) := by decide +kernel
theorem d_Law_law_356 : decode code 356 = .ok (.iconst 1, 1) := by decide +kernel
theorem d_Law_law_357 : decode code 357 = .ok (.iadd, 1) := by decide +kernel
theorem d_Law_law_358 : decode code 358 = .ok (.iaload, 1) := by decide +kernel
theorem d_Law_law_359 : decode code 359 = .ok (.aload_n 0, 1) := by decide +kernel
theorem d_Law_law_360 : decode code 360 = .ok (.iload_n 3, 1) := by decide +kernel
theorem d_Law_law_361 : decode code 361 = .ok (.iconst 2, 1) := by decide +kernel
theorem d_Law_law_362 : decode code 362 = .ok (.iadd, 1) := by decide +kernel
theorem d_Law_law_363 : decode code 363 = .ok (.iaload, 1) := by decide +kernel
theorem d_Law_law_364 : decode code 364 = .ok (.invokevirtual 52, 3) := by decide +kernel
theorem d_Law_law_367 : decode code 367 = .ok (.aload_n 2, 1) := by decide +kernel
theorem d_Law_law_368 : decode code 368 = .ok (.aload_n 0, 1) := by decide +kernel
theorem d_Law_law_369 : decode code 369 = .ok (.iload_n 3, 1) := by decide +kernel
theorem d_Law_law_370 : decode code 370 = .ok (.iconst 1, 1) := by decide +kernel
theorem d_Law_law_371 : decode code 371 = .ok (.iadd, 1) := by decide +kernel
theorem d_Law_law_372 : decode code 372 = .ok (.iaload, 1) := by decide +kernel
theorem d_Law_law_373 : decode code 373 = .ok (.aload_n 0, 1) := by decide +kernel
theorem d_Law_law_374 : decode code 374 = .ok (.iload_n 3, 1) := by decide +kernel
theorem d_Law_law_375 : decode code 375 = .ok (.iconst 2, 1) := by decide +kernel
theorem d_Law_law_376 : decode code 376 = .ok (.iadd, 1) := by decide +kernel
theorem d_Law_law_377 : decode code 377 = .ok (.iaload, 1) := by decide +kernel
theorem d_Law_law_378 : decode code 378 = .ok (.invokevirtual 55, 3) := by decide +kernel
theorem d_Law_law_381 : decode code 381 = .ok (.if_icmp .eq 404, 3) := by decide +kernel
theorem d_Law_law_384 : decode code 384 = .ok (.iconst 0, 1) := by decide +kernel
theorem d_Law_law_385 : decode code 385 = .ok (.ireturn, 1) := by decide +kernel
theorem d_Law_law_386 : decode code 386 = .ok (.aload_n 1, 1) := by decide +kernel
theorem d_Law_law_387 : decode code 387 = .ok (.invokevirtual 56, 3) := by decide +kernel
theorem d_Law_law_390 : decode code 390 = .ok (.aload_n 2, 1) := by decide +kernel
theorem d_Law_law_391 : decode code 391 = .ok (.invokevirtual 59, 3) := by decide +kernel
theorem d_Law_law_394 : decode code 394 = .ok (.if_icmp .eq 391, 3) := by decide +kernel
theorem d_Law_law_397 : decode code 397 = .ok (.iconst 0, 1) := by decide +kernel
theorem d_Law_law_398 : decode code 398 = .ok (.ireturn, 1) := by decide +kernel
theorem d_Law_law_399 : decode code 399 = .ok (.aload_n 1, 1) := by decide +kernel
theorem d_Law_law_400 : decode code 400 = .ok (.aload_n 0, 1) := by decide +kernel
theorem d_Law_law_401 : decode code 401 = .ok (.iload_n 3, 1) := by decide +kernel
theorem d_Law_law_402 : decode code 402 = .ok (.iconst 1, 1) := by decide +kernel
theorem d_Law_law_403 : decode code 403 = .ok (.iadd, 1) := by decide +kernel
theorem d_Law_law_404 : decode code 404 = .ok (.iaload, 1) := by decide +kernel
theorem d_Law_law_405 : decode code 405 = .ok (.aload_n 0, 1) := by decide +kernel
theorem d_Law_law_406 : decode code 406 = .ok (.iload_n 3, 1) := by decide +kernel
theorem d_Law_law_407 : decode code 407 = .ok (.iconst 2, 1) := by decide +kernel
theorem d_Law_law_408 : decode code 408 = .ok (.iadd, 1) := by decide +kernel
theorem d_Law_law_409 : decode code 409 = .ok (.iaload, 1) := by decide +kernel
theorem d_Law_law_410 : decode code 410 = .ok (.invokevirtual 60, 3) := by decide +kernel
theorem d_Law_law_413 : decode code 413 = .ok (.aload_n 2, 1) := by decide +kernel
theorem d_Law_law_414 : decode code 414 = .ok (.aload_n 0, 1) := by decide +kernel
theorem d_Law_law_415 : decode code 415 = .ok (.iload_n 3, 1) := by decide +kernel
theorem d_Law_law_416 : decode code 416 = .ok (.iconst 1, 1) := by decide +kernel
theorem d_Law_law_417 : decode code 417 = .ok (.iadd, 1) := by decide +kernel
theorem d_Law_law_418 : decode code 418 = .ok (.iaload, 1) := by decide +kernel
theorem d_Law_law_419 : decode code 419 = .ok (.aload_n 0, 1) := by decide +kernel
theorem d_Law_law_420 : decode code 420 = .ok (.iload_n 3, 1) := by decide +kernel
theorem d_Law_law_421 : decode code 421 = .ok (.iconst 2, 1) := by decide +kernel
theorem d_Law_law_422 : decode code 422 = .ok (.iadd, 1) := by decide +kernel
theorem d_Law_law_423 : decode code 423 = .ok (.iaload, 1) := by decide +kernel
theorem d_Law_law_424 : decode code 424 = .ok (.invokevirtual 63, 3) := by decide +kernel
theorem d_Law_law_427 : decode code 427 = .ok (.if_icmp .eq 358, 3) := by decide +kernel
theorem d_Law_law_430 : decode code 430 = .ok (.iconst 0, 1) := by decide +kernel
theorem d_Law_law_431 : decode code 431 = .ok (.ireturn, 1) := by decide +kernel
theorem d_Law_law_432 : decode code 432 = .ok (.aload_n 1, 1) := by decide +kernel
theorem d_Law_law_433 : decode code 433 = .ok (.aload_n 0, 1) := by decide +kernel
theorem d_Law_law_434 : decode code 434 = .ok (.iload_n 3, 1) := by decide +kernel
theorem d_Law_law_435 : decode code 435 = .ok (.iconst 1, 1) := by decide +kernel
theorem d_Law_law_436 : decode code 436 = .ok (.iadd, 1) := by decide +kernel
theorem d_Law_law_437 : decode code 437 = .ok (.iaload, 1) := by decide +kernel
theorem d_Law_law_438 : decode code 438 = .ok (.aload_n 0, 1) := by decide +kernel
theorem d_Law_law_439 : decode code 439 = .ok (.iload_n 3, 1) := by decide +kernel
theorem d_Law_law_440 : decode code 440 = .ok (.iconst 2, 1) := by decide +kernel
theorem d_Law_law_441 : decode code 441 = .ok (.iadd, 1) := by decide +kernel
theorem d_Law_law_442 : decode code 442 = .ok (.iaload, 1) := by decide +kernel
theorem d_Law_law_443 : decode code 443 = .ok (.i2l, 1) := by decide +kernel
theorem d_Law_law_444 : decode code 444 = .ok (.bipush 32, 2) := by decide +kernel
theorem d_Law_law_446 : decode code 446 = .ok (.lshl, 1) := by decide +kernel
theorem d_Law_law_447 : decode code 447 = .ok (.aload_n 0, 1) := by decide +kernel
theorem d_Law_law_448 : decode code 448 = .ok (.iload_n 3, 1) := by decide +kernel
theorem d_Law_law_449 : decode code 449 = .ok (.iconst 3, 1) := by decide +kernel
theorem d_Law_law_450 : decode code 450 = .ok (.iadd, 1) := by decide +kernel
theorem d_Law_law_451 : decode code 451 = .ok (.iaload, 1) := by decide +kernel
theorem d_Law_law_452 : decode code 452 = .ok (.i2l, 1) := by decide +kernel
theorem d_Law_law_453 : decode code 453 = .ok (.ldc2_w 64, 3) := by decide +kernel
theorem d_Law_law_456 : decode code 456 = .ok (.land, 1) := by decide +kernel
theorem d_Law_law_457 : decode code 457 = .ok (.lor, 1) := by decide +kernel
theorem d_Law_law_458 : decode code 458 = .ok (.invokevirtual 66, 3) := by decide +kernel
theorem d_Law_law_461 : decode code 461 = .ok (.aload_n 2, 1) := by decide +kernel
theorem d_Law_law_462 : decode code 462 = .ok (.aload_n 0, 1) := by decide +kernel
theorem d_Law_law_463 : decode code 463 = .ok (.iload_n 3, 1) := by decide +kernel
theorem d_Law_law_464 : decode code 464 = .ok (.iconst 1, 1) := by decide +kernel
theorem d_Law_law_465 : decode code 465 = .ok (.iadd, 1) := by decide +kernel
theorem d_Law_law_466 : decode code 466 = .ok (.iaload, 1) := by decide +kernel
theorem d_Law_law_467 : decode code 467 = .ok (.aload_n 0, 1) := by decide +kernel
theorem d_Law_law_468 : decode code 468 = .ok (.iload_n 3, 1) := by decide +kernel
theorem d_Law_law_469 : decode code 469 = .ok (.iconst 2, 1) := by decide +kernel
theorem d_Law_law_470 : decode code 470 = .ok (.iadd, 1) := by decide +kernel
theorem d_Law_law_471 : decode code 471 = .ok (.iaload, 1) := by decide +kernel
theorem d_Law_law_472 : decode code 472 = .ok (.i2l, 1) := by decide +kernel
theorem d_Law_law_473 : decode code 473 = .ok (.bipush 32, 2) := by decide +kernel
theorem d_Law_law_475 : decode code 475 = .ok (.lshl, 1) := by decide +kernel
theorem d_Law_law_476 : decode code 476 = .ok (.aload_n 0, 1) := by decide +kernel
theorem d_Law_law_477 : decode code 477 = .ok (.iload_n 3, 1) := by decide +kernel
theorem d_Law_law_478 : decode code 478 = .ok (.iconst 3, 1) := by decide +kernel
theorem d_Law_law_479 : decode code 479 = .ok (.iadd, 1) := by decide +kernel
theorem d_Law_law_480 : decode code 480 = .ok (.iaload, 1) := by decide +kernel
theorem d_Law_law_481 : decode code 481 = .ok (.i2l, 1) := by decide +kernel
theorem d_Law_law_482 : decode code 482 = .ok (.ldc2_w 64, 3) := by decide +kernel
theorem d_Law_law_485 : decode code 485 = .ok (.land, 1) := by decide +kernel
theorem d_Law_law_486 : decode code 486 = .ok (.lor, 1) := by decide +kernel
theorem d_Law_law_487 : decode code 487 = .ok (.invokevirtual 70, 3) := by decide +kernel
theorem d_Law_law_490 : decode code 490 = .ok (.if_icmp .eq 295, 3) := by decide +kernel
theorem d_Law_law_493 : decode code 493 = .ok (.iconst 0, 1) := by decide +kernel
theorem d_Law_law_494 : decode code 494 = .ok (.ireturn, 1) := by decide +kernel
theorem d_Law_law_495 : decode code 495 = .ok (.aload_n 1, 1) := by decide +kernel
theorem d_Law_law_496 : decode code 496 = .ok (.aload_n 0, 1) := by decide +kernel
theorem d_Law_law_497 : decode code 497 = .ok (.iload_n 3, 1) := by decide +kernel
theorem d_Law_law_498 : decode code 498 = .ok (.iconst 1, 1) := by decide +kernel
theorem d_Law_law_499 : decode code 499 = .ok (.iadd, 1) := by decide +kernel
theorem d_Law_law_500 : decode code 500 = .ok (.iaload, 1) := by decide +kernel
theorem d_Law_law_501 : decode code 501 = .ok (.aload_n 0, 1) := by decide +kernel
theorem d_Law_law_502 : decode code 502 = .ok (.iload_n 3, 1) := by decide +kernel
theorem d_Law_law_503 : decode code 503 = .ok (.iconst 2, 1) := by decide +kernel
theorem d_Law_law_504 : decode code 504 = .ok (.iadd, 1) := by decide +kernel
theorem d_Law_law_505 : decode code 505 = .ok (.iaload, 1) := by decide +kernel
theorem d_Law_law_506 : decode code 506 = .ok (.invokevirtual 71, 3) := by decide +kernel
theorem d_Law_law_509 : decode code 509 = .ok (.aload_n 2, 1) := by decide +kernel
theorem d_Law_law_510 : decode code 510 = .ok (.aload_n 0, 1) := by decide +kernel
theorem d_Law_law_511 : decode code 511 = .ok (.iload_n 3, 1) := by decide +kernel
theorem d_Law_law_512 : decode code 512 = .ok (.iconst 1, 1) := by decide +kernel
theorem d_Law_law_513 : decode code 513 = .ok (.iadd, 1) := by decide +kernel
theorem d_Law_law_514 : decode code 514 = .ok (.iaload, 1) := by decide +kernel
theorem d_Law_law_515 : decode code 515 = .ok (.aload_n 0, 1) := by decide +kernel
theorem d_Law_law_516 : decode code 516 = .ok (.iload_n 3, 1) := by decide +kernel
theorem d_Law_law_517 : decode code 517 = .ok (.iconst 2, 1) := by decide +kernel
theorem d_Law_law_518 : decode code 518 = .ok (.iadd, 1) := by decide +kernel
theorem d_Law_law_519 : decode code 519 = .ok (.iaload, 1) := by decide +kernel
theorem d_Law_law_520 : decode code 520 = .ok (.invokevirtual 74, 3) := by decide +kernel
theorem d_Law_law_523 : decode code 523 = .ok (.if_icmp .eq 262, 3) := by decide +kernel
theorem d_Law_law_526 : decode code 526 = .ok (.iconst 0, 1) := by decide +kernel
theorem d_Law_law_527 : decode code 527 = .ok (.ireturn, 1) := by decide +kernel
theorem d_Law_law_528 : decode code 528 = .ok (.aload_n 1, 1) := by decide +kernel
theorem d_Law_law_529 : decode code 529 = .ok (.invokevirtual 75, 3) := by decide +kernel
theorem d_Law_law_532 : decode code 532 = .ok (.aload_n 2, 1) := by decide +kernel
theorem d_Law_law_533 : decode code 533 = .ok (.invokevirtual 78, 3) := by decide +kernel
theorem d_Law_law_536 : decode code 536 = .ok (.if_icmp .eq 249, 3) := by decide +kernel
theorem d_Law_law_539 : decode code 539 = .ok (.iconst 0, 1) := by decide +kernel
theorem d_Law_law_540 : decode code 540 = .ok (.ireturn, 1) := by decide +kernel
theorem d_Law_law_541 : decode code 541 = .ok (.aload_n 1, 1) := by decide +kernel
theorem d_Law_law_542 : decode code 542 = .ok (.invokevirtual 79, 3) := by decide +kernel
theorem d_Law_law_545 : decode code 545 = .ok (.aload_n 2, 1) := by decide +kernel
theorem d_Law_law_546 : decode code 546 = .ok (.invokevirtual 82, 3) := by decide +kernel
theorem d_Law_law_549 : decode code 549 = .ok (.if_icmp .eq 236, 3) := by decide +kernel
theorem d_Law_law_552 : decode code 552 = .ok (.iconst 0, 1) := by decide +kernel
theorem d_Law_law_553 : decode code 553 = .ok (.ireturn, 1) := by decide +kernel
theorem d_Law_law_554 : decode code 554 = .ok (.aload_n 1, 1) := by decide +kernel
theorem d_Law_law_555 : decode code 555 = .ok (.aload_n 0, 1) := by decide +kernel
theorem d_Law_law_556 : decode code 556 = .ok (.iload_n 3, 1) := by decide +kernel
theorem d_Law_law_557 : decode code 557 = .ok (.iconst 1, 1) := by decide +kernel
theorem d_Law_law_558 : decode code 558 = .ok (.iadd, 1) := by decide +kernel
theorem d_Law_law_559 : decode code 559 = .ok (.iaload, 1) := by decide +kernel
theorem d_Law_law_560 : decode code 560 = .ok (.aload_n 0, 1) := by decide +kernel
theorem d_Law_law_561 : decode code 561 = .ok (.iload_n 3, 1) := by decide +kernel
theorem d_Law_law_562 : decode code 562 = .ok (.iconst 2, 1) := by decide +kernel
theorem d_Law_law_563 : decode code 563 = .ok (.iadd, 1) := by decide +kernel
theorem d_Law_law_564 : decode code 564 = .ok (.iaload, 1) := by decide +kernel
theorem d_Law_law_565 : decode code 565 = .ok (.ifCond .eq 7, 3) := by decide +kernel
theorem d_Law_law_568 : decode code 568 = .ok (.iconst 1, 1) := by decide +kernel
theorem d_Law_law_569 : decode code 569 = .ok (.goto 4, 3) := by decide +kernel
theorem d_Law_law_572 : decode code 572 = .ok (.iconst 0, 1) := by decide +kernel
theorem d_Law_law_573 : decode code 573 = .ok (.invokevirtual 83, 3) := by decide +kernel
theorem d_Law_law_576 : decode code 576 = .ok (.aload_n 2, 1) := by decide +kernel
theorem d_Law_law_577 : decode code 577 = .ok (.aload_n 0, 1) := by decide +kernel
theorem d_Law_law_578 : decode code 578 = .ok (.iload_n 3, 1) := by decide +kernel
theorem d_Law_law_579 : decode code 579 = .ok (.iconst 1, 1) := by decide +kernel
theorem d_Law_law_580 : decode code 580 = .ok (.iadd, 1) := by decide +kernel
theorem d_Law_law_581 : decode code 581 = .ok (.iaload, 1) := by decide +kernel
theorem d_Law_law_582 : decode code 582 = .ok (.aload_n 0, 1) := by decide +kernel
theorem d_Law_law_583 : decode code 583 = .ok (.iload_n 3, 1) := by decide +kernel
theorem d_Law_law_584 : decode code 584 = .ok (.iconst 2, 1) := by decide +kernel
theorem d_Law_law_585 : decode code 585 = .ok (.iadd, 1) := by decide +kernel
theorem d_Law_law_586 : decode code 586 = .ok (.iaload, 1) := by decide +kernel
theorem d_Law_law_587 : decode code 587 = .ok (.ifCond .eq 7, 3) := by decide +kernel
theorem d_Law_law_590 : decode code 590 = .ok (.iconst 1, 1) := by decide +kernel
theorem d_Law_law_591 : decode code 591 = .ok (.goto 4, 3) := by decide +kernel
theorem d_Law_law_594 : decode code 594 = .ok (.iconst 0, 1) := by decide +kernel
theorem d_Law_law_595 : decode code 595 = .ok (.invokevirtual 87, 3) := by decide +kernel
theorem d_Law_law_598 : decode code 598 = .ok (.if_icmp .eq 187, 3) := by decide +kernel
theorem d_Law_law_601 : decode code 601 = .ok (.iconst 0, 1) := by decide +kernel
theorem d_Law_law_602 : decode code 602 = .ok (.ireturn, 1) := by decide +kernel
theorem d_Law_law_603 : decode code 603 = .ok (.aload_n 1, 1) := by decide +kernel
theorem d_Law_law_604 : decode code 604 = .ok (.aload_n 0, 1) := by decide +kernel
theorem d_Law_law_605 : decode code 605 = .ok (.iload_n 3, 1) := by decide +kernel
theorem d_Law_law_606 : decode code 606 = .ok (.iconst 1, 1) := by decide +kernel
theorem d_Law_law_607 : decode code 607 = .ok (.iadd, 1) := by decide +kernel
theorem d_Law_law_608 : decode code 608 = .ok (.iaload, 1) := by decide +kernel
theorem d_Law_law_609 : decode code 609 = .ok (.aload_n 0, 1) := by decide +kernel
theorem d_Law_law_610 : decode code 610 = .ok (.iload_n 3, 1) := by decide +kernel
theorem d_Law_law_611 : decode code 611 = .ok (.iconst 2, 1) := by decide +kernel
theorem d_Law_law_612 : decode code 612 = .ok (.iadd, 1) := by decide +kernel
theorem d_Law_law_613 : decode code 613 = .ok (.iaload, 1) := by decide +kernel
theorem d_Law_law_614 : decode code 614 = .ok (.aload_n 0, 1) := by decide +kernel
theorem d_Law_law_615 : decode code 615 = .ok (.iload_n 3, 1) := by decide +kernel
theorem d_Law_law_616 : decode code 616 = .ok (.iconst 3, 1) := by decide +kernel
theorem d_Law_law_617 : decode code 617 = .ok (.iadd, 1) := by decide +kernel
theorem d_Law_law_618 : decode code 618 = .ok (.iaload, 1) := by decide +kernel
theorem d_Law_law_619 : decode code 619 = .ok (.ifCond .eq 7, 3) := by decide +kernel
theorem d_Law_law_622 : decode code 622 = .ok (.iconst 1, 1) := by decide +kernel
theorem d_Law_law_623 : decode code 623 = .ok (.goto 4, 3) := by decide +kernel
theorem d_Law_law_626 : decode code 626 = .ok (.iconst 0, 1) := by decide +kernel
theorem d_Law_law_627 : decode code 627 = .ok (.invokevirtual 88, 3) := by decide +kernel
theorem d_Law_law_630 : decode code 630 = .ok (.aload_n 2, 1) := by decide +kernel
theorem d_Law_law_631 : decode code 631 = .ok (.aload_n 0, 1) := by decide +kernel
theorem d_Law_law_632 : decode code 632 = .ok (.iload_n 3, 1) := by decide +kernel
theorem d_Law_law_633 : decode code 633 = .ok (.iconst 1, 1) := by decide +kernel
theorem d_Law_law_634 : decode code 634 = .ok (.iadd, 1) := by decide +kernel
theorem d_Law_law_635 : decode code 635 = .ok (.iaload, 1) := by decide +kernel
theorem d_Law_law_636 : decode code 636 = .ok (.aload_n 0, 1) := by decide +kernel
theorem d_Law_law_637 : decode code 637 = .ok (.iload_n 3, 1) := by decide +kernel
theorem d_Law_law_638 : decode code 638 = .ok (.iconst 2, 1) := by decide +kernel
theorem d_Law_law_639 : decode code 639 = .ok (.iadd, 1) := by decide +kernel
theorem d_Law_law_640 : decode code 640 = .ok (.iaload, 1) := by decide +kernel
theorem d_Law_law_641 : decode code 641 = .ok (.aload_n 0, 1) := by decide +kernel
theorem d_Law_law_642 : decode code 642 = .ok (.iload_n 3, 1) := by decide +kernel
theorem d_Law_law_643 : decode code 643 = .ok (.iconst 3, 1) := by decide +kernel
theorem d_Law_law_644 : decode code 644 = .ok (.iadd, 1) := by decide +kernel
theorem d_Law_law_645 : decode code 645 = .ok (.iaload, 1) := by decide +kernel
theorem d_Law_law_646 : decode code 646 = .ok (.ifCond .eq 7, 3) := by decide +kernel
theorem d_Law_law_649 : decode code 649 = .ok (.iconst 1, 1) := by decide +kernel
theorem d_Law_law_650 : decode code 650 = .ok (.goto 4, 3) := by decide +kernel
theorem d_Law_law_653 : decode code 653 = .ok (.iconst 0, 1) := by decide +kernel
theorem d_Law_law_654 : decode code 654 = .ok (.invokevirtual 92, 3) := by decide +kernel
theorem d_Law_law_657 : decode code 657 = .ok (.if_icmp .eq 128, 3) := by decide +kernel
theorem d_Law_law_660 : decode code 660 = .ok (.iconst 0, 1) := by decide +kernel
theorem d_Law_law_661 : decode code 661 = .ok (.ireturn, 1) := by decide +kernel
theorem d_Law_law_662 : decode code 662 = .ok (.aload_n 1, 1) := by decide +kernel
theorem d_Law_law_663 : decode code 663 = .ok (.aload_n 0, 1) := by decide +kernel
theorem d_Law_law_664 : decode code 664 = .ok (.iload_n 3, 1) := by decide +kernel
theorem d_Law_law_665 : decode code 665 = .ok (.iconst 1, 1) := by decide +kernel
theorem d_Law_law_666 : decode code 666 = .ok (.iadd, 1) := by decide +kernel
theorem d_Law_law_667 : decode code 667 = .ok (.iaload, 1) := by decide +kernel
theorem d_Law_law_668 : decode code 668 = .ok (.i2l, 1) := by decide +kernel
theorem d_Law_law_669 : decode code 669 = .ok (.bipush 32, 2) := by decide +kernel
theorem d_Law_law_671 : decode code 671 = .ok (.lshl, 1) := by decide +kernel
theorem d_Law_law_672 : decode code 672 = .ok (.aload_n 0, 1) := by decide +kernel
theorem d_Law_law_673 : decode code 673 = .ok (.iload_n 3, 1) := by decide +kernel
theorem d_Law_law_674 : decode code 674 = .ok (.iconst 2, 1) := by decide +kernel
theorem d_Law_law_675 : decode code 675 = .ok (.iadd, 1) := by decide +kernel
theorem d_Law_law_676 : decode code 676 = .ok (.iaload, 1) := by decide +kernel
theorem d_Law_law_677 : decode code 677 = .ok (.i2l, 1) := by decide +kernel
theorem d_Law_law_678 : decode code 678 = .ok (.ldc2_w 64, 3) := by decide +kernel
theorem d_Law_law_681 : decode code 681 = .ok (.land, 1) := by decide +kernel
theorem d_Law_law_682 : decode code 682 = .ok (.lor, 1) := by decide +kernel
theorem d_Law_law_683 : decode code 683 = .ok (.invokevirtual 93, 3) := by decide +kernel
theorem d_Law_law_686 : decode code 686 = .ok (.aload_n 2, 1) := by decide +kernel
theorem d_Law_law_687 : decode code 687 = .ok (.aload_n 0, 1) := by decide +kernel
theorem d_Law_law_688 : decode code 688 = .ok (.iload_n 3, 1) := by decide +kernel
theorem d_Law_law_689 : decode code 689 = .ok (.iconst 1, 1) := by decide +kernel
theorem d_Law_law_690 : decode code 690 = .ok (.iadd, 1) := by decide +kernel
theorem d_Law_law_691 : decode code 691 = .ok (.iaload, 1) := by decide +kernel
theorem d_Law_law_692 : decode code 692 = .ok (.i2l, 1) := by decide +kernel
theorem d_Law_law_693 : decode code 693 = .ok (.bipush 32, 2) := by decide +kernel
theorem d_Law_law_695 : decode code 695 = .ok (.lshl, 1) := by decide +kernel
theorem d_Law_law_696 : decode code 696 = .ok (.aload_n 0, 1) := by decide +kernel
theorem d_Law_law_697 : decode code 697 = .ok (.iload_n 3, 1) := by decide +kernel
theorem d_Law_law_698 : decode code 698 = .ok (.iconst 2, 1) := by decide +kernel
theorem d_Law_law_699 : decode code 699 = .ok (.iadd, 1) := by decide +kernel
theorem d_Law_law_700 : decode code 700 = .ok (.iaload, 1) := by decide +kernel
theorem d_Law_law_701 : decode code 701 = .ok (.i2l, 1) := by decide +kernel
theorem d_Law_law_702 : decode code 702 = .ok (.ldc2_w 64, 3) := by decide +kernel
theorem d_Law_law_705 : decode code 705 = .ok (.land, 1) := by decide +kernel
theorem d_Law_law_706 : decode code 706 = .ok (.lor, 1) := by decide +kernel
theorem d_Law_law_707 : decode code 707 = .ok (.invokevirtual 97, 3) := by decide +kernel
theorem d_Law_law_710 : decode code 710 = .ok (.lcmp, 1) := by decide +kernel
theorem d_Law_law_711 : decode code 711 = .ok (.ifCond .eq 74, 3) := by decide +kernel
theorem d_Law_law_714 : decode code 714 = .ok (.iconst 0, 1) := by decide +kernel
theorem d_Law_law_715 : decode code 715 = .ok (.ireturn, 1) := by decide +kernel
theorem d_Law_law_716 : decode code 716 = .ok (.aload_n 1, 1) := by decide +kernel
theorem d_Law_law_717 : decode code 717 = .ok (.aload_n 0, 1) := by decide +kernel
theorem d_Law_law_718 : decode code 718 = .ok (.iload_n 3, 1) := by decide +kernel
theorem d_Law_law_719 : decode code 719 = .ok (.iconst 1, 1) := by decide +kernel
theorem d_Law_law_720 : decode code 720 = .ok (.iadd, 1) := by decide +kernel
theorem d_Law_law_721 : decode code 721 = .ok (.iaload, 1) := by decide +kernel
theorem d_Law_law_722 : decode code 722 = .ok (.invokevirtual 98, 3) := by decide +kernel
theorem d_Law_law_725 : decode code 725 = .ok (.aload_n 2, 1) := by decide +kernel
theorem d_Law_law_726 : decode code 726 = .ok (.aload_n 0, 1) := by decide +kernel
theorem d_Law_law_727 : decode code 727 = .ok (.iload_n 3, 1) := by decide +kernel
theorem d_Law_law_728 : decode code 728 = .ok (.iconst 1, 1) := by decide +kernel
theorem d_Law_law_729 : decode code 729 = .ok (.iadd, 1) := by decide +kernel
theorem d_Law_law_730 : decode code 730 = .ok (.iaload, 1) := by decide +kernel
theorem d_Law_law_731 : decode code 731 = .ok (.invokevirtual 101, 3) := by decide +kernel
theorem d_Law_law_734 : decode code 734 = .ok (.if_icmp .eq 51, 3) := by decide +kernel
theorem d_Law_law_737 : decode code 737 = .ok (.iconst 0, 1) := by decide +kernel
theorem d_Law_law_738 : decode code 738 = .ok (.ireturn, 1) := by decide +kernel
theorem d_Law_law_739 : decode code 739 = .ok (.aload_n 1, 1) := by decide +kernel
theorem d_Law_law_740 : decode code 740 = .ok (.aload_n 0, 1) := by decide +kernel
theorem d_Law_law_741 : decode code 741 = .ok (.iload_n 3, 1) := by decide +kernel
theorem d_Law_law_742 : decode code 742 = .ok (.iconst 1, 1) := by decide +kernel
theorem d_Law_law_743 : decode code 743 = .ok (.iadd, 1) := by decide +kernel
theorem d_Law_law_744 : decode code 744 = .ok (.iaload, 1) := by decide +kernel
theorem d_Law_law_745 : decode code 745 = .ok (.invokevirtual 102, 3) := by decide +kernel
theorem d_Law_law_748 : decode code 748 = .ok (.aload_n 2, 1) := by decide +kernel
theorem d_Law_law_749 : decode code 749 = .ok (.aload_n 0, 1) := by decide +kernel
theorem d_Law_law_750 : decode code 750 = .ok (.iload_n 3, 1) := by decide +kernel
theorem d_Law_law_751 : decode code 751 = .ok (.iconst 1, 1) := by decide +kernel
theorem d_Law_law_752 : decode code 752 = .ok (.iadd, 1) := by decide +kernel
theorem d_Law_law_753 : decode code 753 = .ok (.iaload, 1) := by decide +kernel
theorem d_Law_law_754 : decode code 754 = .ok (.invokevirtual 105, 3) := by decide +kernel
theorem d_Law_law_757 : decode code 757 = .ok (.if_icmp .eq 28, 3) := by decide +kernel
theorem d_Law_law_760 : decode code 760 = .ok (.iconst 0, 1) := by decide +kernel
theorem d_Law_law_761 : decode code 761 = .ok (.ireturn, 1) := by decide +kernel
theorem d_Law_law_762 : decode code 762 = .ok (.aload_n 1, 1) := by decide +kernel
theorem d_Law_law_763 : decode code 763 = .ok (.aload_n 0, 1) := by decide +kernel
theorem d_Law_law_764 : decode code 764 = .ok (.iload_n 3, 1) := by decide +kernel
theorem d_Law_law_765 : decode code 765 = .ok (.iconst 1, 1) := by decide +kernel
theorem d_Law_law_766 : decode code 766 = .ok (.iadd, 1) := by decide +kernel
theorem d_Law_law_767 : decode code 767 = .ok (.iaload, 1) := by decide +kernel
theorem d_Law_law_768 : decode code 768 = .ok (.invokevirtual 106, 3) := by decide +kernel
theorem d_Law_law_771 : decode code 771 = .ok (.aload_n 2, 1) := by decide +kernel
theorem d_Law_law_772 : decode code 772 = .ok (.aload_n 0, 1) := by decide +kernel
theorem d_Law_law_773 : decode code 773 = .ok (.iload_n 3, 1) := by decide +kernel
theorem d_Law_law_774 : decode code 774 = .ok (.iconst 1, 1) := by decide +kernel
theorem d_Law_law_775 : decode code 775 = .ok (.iadd, 1) := by decide +kernel
theorem d_Law_law_776 : decode code 776 = .ok (.iaload, 1) := by decide +kernel
theorem d_Law_law_777 : decode code 777 = .ok (.invokevirtual 109, 3) := by decide +kernel
theorem d_Law_law_780 : decode code 780 = .ok (.if_icmp .eq 5, 3) := by decide +kernel
theorem d_Law_law_783 : decode code 783 = .ok (.iconst 0, 1) := by decide +kernel
theorem d_Law_law_784 : decode code 784 = .ok (.ireturn, 1) := by decide +kernel
theorem d_Law_law_785 : decode code 785 = .ok (.iinc 3 4, 3) := by decide +kernel
theorem d_Law_law_788 : decode code 788 = .ok (.goto (-770), 3) := by decide +kernel
theorem d_Law_law_791 : decode code 791 = .ok (.iconst 1, 1) := by decide +kernel
theorem d_Law_law_792 : decode code 792 = .ok (.ireturn, 1) := by decide +kernel
def B_Law_law (g : Nat × Nat) (scr : List Int32) : PS :=
  (sSq (sR 1 (eNew g 9 [.null, .null, .null, .null, .null, .null, .null, .null, .null, .null, .null, .null, .null, .null, .long 0] rm_PL_init 0 X_PL_init aN))
    (sSq (sR 2 (eNew g 10 [.null, .int 0, .int 0, .null, .null, .null, .null, .null, .null, .null, .int 0, .int 0, .null, .null, .null, .null, .int 0, .long 0, .int 0, .int 0, .null, .null, .null, .null, .int 0, .int 0, .int 0, .null, .null, .int 0, .null, .int 0, .int 0, .int 0, .null, .null, .null, .int 0, .null, .null, .int 0, .int 0, .int 0, .int 0, .null, .null, .null, .null, .int 0, .int 0] rm_R_init 0 X_R_init aN))
    (sSq (sCut 3 (sSq (sI 3 (eV (0 : Int32)))
    (sLp 4 (e2 (fun x y : Int32 => decide (x ≤ y)) (eI 3) (e2 (fun x y : Int32 => x - y) (eSL scr (eR 0)) (eV (4 : Int32))))
    (sSw 4 (e2 (fun x y : Int32 => x &&& y) (eSA scr (eR 0) (eI 3)) (eV (31 : Int32))) [(0, 0), (1, 1), (2, 2), (3, 3), (4, 4), (5, 5), (6, 6), (7, 7), (8, 8), (9, 9), (10, 10), (11, 11), (12, 12), (13, 13), (14, 14), (15, 15), (16, 16), (17, 17), (18, 18), (19, 19), (20, 20), (21, 21)] 22 [(sSq (sIf (e2 (fun x y : Int32 => decide (¬ x = y)) (eX .int (xV 9 1 X_PL_write (eR 1) (aC .int (eSA scr (eR 0) (e2 (fun x y : Int32 => x + y) (eI 3) (eV (1 : Int32)))) aN))) (eX .int (xV 10 1 X_R_write (eR 2) (aC .int (eSA scr (eR 0) (e2 (fun x y : Int32 => x + y) (eI 3) (eV (1 : Int32)))) aN)))) (sRz (eV (0 : Int32))) sSk)
    sBk),
    (sSq (sIf (e2 (fun x y : Int32 => decide (¬ x = y)) (eX .int (xV 9 0 X_PL_wipe (eR 1) aN)) (eX .int (xV 10 0 X_R_wipe (eR 2) aN))) (sRz (eV (0 : Int32))) sSk)
    sBk),
    (sSq (sIf (e2 (fun x y : Int32 => decide (¬ x = y)) (eX .int (xV 9 0 X_PL_fault (eR 1) aN)) (eX .int (xV 10 0 X_R_fault (eR 2) aN))) (sRz (eV (0 : Int32))) sSk)
    sBk),
    (sSq (sIf (e2 (fun x y : Int32 => decide (¬ x = y)) (eX .int (xV 9 0 X_PL_block (eR 1) aN)) (eX .int (xV 10 0 X_R_block (eR 2) aN))) (sRz (eV (0 : Int32))) sSk)
    sBk),
    (sSq (sIf (e2 (fun x y : Int32 => decide (¬ x = y)) (eX .int (xV 9 1 X_PL_about (eR 1) (aC .int (eSA scr (eR 0) (e2 (fun x y : Int32 => x + y) (eI 3) (eV (1 : Int32)))) aN))) (eX .int (xV 10 1 X_R_about (eR 2) (aC .int (eSA scr (eR 0) (e2 (fun x y : Int32 => x + y) (eI 3) (eV (1 : Int32)))) aN)))) (sRz (eV (0 : Int32))) sSk)
    sBk),
    (sSq (sIf (e2 (fun x y : Int32 => decide (¬ x = y)) (eX .int (xV 9 2 X_PL_instruction (eR 1) (aC .int (eSA scr (eR 0) (e2 (fun x y : Int32 => x + y) (eI 3) (eV (1 : Int32)))) (aC .int (eSA scr (eR 0) (e2 (fun x y : Int32 => x + y) (eI 3) (eV (2 : Int32)))) aN)))) (eX .int (xV 10 2 X_R_instruction (eR 2) (aC .int (eSA scr (eR 0) (e2 (fun x y : Int32 => x + y) (eI 3) (eV (1 : Int32)))) (aC .int (eSA scr (eR 0) (e2 (fun x y : Int32 => x + y) (eI 3) (eV (2 : Int32)))) aN))))) (sRz (eV (0 : Int32))) sSk)
    sBk),
    (sSq (sIf (e2 (fun x y : Int32 => decide (¬ x = y)) (eX .int (xV 9 2 X_PL_address (eR 1) (aC .int (eSA scr (eR 0) (e2 (fun x y : Int32 => x + y) (eI 3) (eV (1 : Int32)))) (aC .int (eSA scr (eR 0) (e2 (fun x y : Int32 => x + y) (eI 3) (eV (2 : Int32)))) aN)))) (eX .int (xV 10 2 X_R_address (eR 2) (aC .int (eSA scr (eR 0) (e2 (fun x y : Int32 => x + y) (eI 3) (eV (1 : Int32)))) (aC .int (eSA scr (eR 0) (e2 (fun x y : Int32 => x + y) (eI 3) (eV (2 : Int32)))) aN))))) (sRz (eV (0 : Int32))) sSk)
    sBk),
    (sSq (sIf (e2 (fun x y : Int32 => decide (¬ x = y)) (eX .int (xV 9 2 X_PL_depends (eR 1) (aC .int (eSA scr (eR 0) (e2 (fun x y : Int32 => x + y) (eI 3) (eV (1 : Int32)))) (aC .int (eSA scr (eR 0) (e2 (fun x y : Int32 => x + y) (eI 3) (eV (2 : Int32)))) aN)))) (eX .int (xV 10 2 X_R_depends (eR 2) (aC .int (eSA scr (eR 0) (e2 (fun x y : Int32 => x + y) (eI 3) (eV (1 : Int32)))) (aC .int (eSA scr (eR 0) (e2 (fun x y : Int32 => x + y) (eI 3) (eV (2 : Int32)))) aN))))) (sRz (eV (0 : Int32))) sSk)
    sBk),
    (sSq (sIf (e2 (fun x y : Int32 => decide (¬ x = y)) (eX .int (xV 9 2 X_PL_start (eR 1) (aC .int (eSA scr (eR 0) (e2 (fun x y : Int32 => x + y) (eI 3) (eV (1 : Int32)))) (aC .int (eSA scr (eR 0) (e2 (fun x y : Int32 => x + y) (eI 3) (eV (2 : Int32)))) aN)))) (eX .int (xV 10 2 X_R_start (eR 2) (aC .int (eSA scr (eR 0) (e2 (fun x y : Int32 => x + y) (eI 3) (eV (1 : Int32)))) (aC .int (eSA scr (eR 0) (e2 (fun x y : Int32 => x + y) (eI 3) (eV (2 : Int32)))) aN))))) (sRz (eV (0 : Int32))) sSk)
    sBk),
    (sSq (sIf (e2 (fun x y : Int32 => decide (¬ x = y)) (eX .int (xV 9 2 X_PL_set (eR 1) (aC .int (eSA scr (eR 0) (e2 (fun x y : Int32 => x + y) (eI 3) (eV (1 : Int32)))) (aC .int (eSA scr (eR 0) (e2 (fun x y : Int32 => x + y) (eI 3) (eV (2 : Int32)))) aN)))) (eX .int (xV 10 2 X_R_set (eR 2) (aC .int (eSA scr (eR 0) (e2 (fun x y : Int32 => x + y) (eI 3) (eV (1 : Int32)))) (aC .int (eSA scr (eR 0) (e2 (fun x y : Int32 => x + y) (eI 3) (eV (2 : Int32)))) aN))))) (sRz (eV (0 : Int32))) sSk)
    sBk),
    (sSq (sIf (e2 (fun x y : Int32 => decide (¬ x = y)) (eX .int (xV 9 0 X_PL_undo (eR 1) aN)) (eX .int (xV 10 0 X_R_undo (eR 2) aN))) (sRz (eV (0 : Int32))) sSk)
    sBk),
    (sSq (sIf (e2 (fun x y : Int32 => decide (¬ x = y)) (eX .int (xV 9 2 X_PL_tried (eR 1) (aC .int (eSA scr (eR 0) (e2 (fun x y : Int32 => x + y) (eI 3) (eV (1 : Int32)))) (aC .int (eSA scr (eR 0) (e2 (fun x y : Int32 => x + y) (eI 3) (eV (2 : Int32)))) aN)))) (eX .int (xV 10 2 X_R_tried (eR 2) (aC .int (eSA scr (eR 0) (e2 (fun x y : Int32 => x + y) (eI 3) (eV (1 : Int32)))) (aC .int (eSA scr (eR 0) (e2 (fun x y : Int32 => x + y) (eI 3) (eV (2 : Int32)))) aN))))) (sRz (eV (0 : Int32))) sSk)
    sBk),
    (sSq (sIf (e2 (fun x y : Int32 => decide (¬ x = y)) (eX .int (xV 9 2 X_PL_judge (eR 1) (aC .int (eSA scr (eR 0) (e2 (fun x y : Int32 => x + y) (eI 3) (eV (1 : Int32)))) (aC .long (e2 (fun x y : Int64 => x ||| y) (e2 (fun (x : Int64) (y : Int32) => x <<< (y.toInt64 &&& 63)) (e1 (fun x : Int32 => x.toInt64) (eSA scr (eR 0) (e2 (fun x y : Int32 => x + y) (eI 3) (eV (2 : Int32))))) (eV (32 : Int32))) (e2 (fun x y : Int64 => x &&& y) (e1 (fun x : Int32 => x.toInt64) (eSA scr (eR 0) (e2 (fun x y : Int32 => x + y) (eI 3) (eV (3 : Int32))))) (eV (4294967295 : Int64)))) aN)))) (eX .int (xV 10 2 X_R_judge (eR 2) (aC .int (eSA scr (eR 0) (e2 (fun x y : Int32 => x + y) (eI 3) (eV (1 : Int32)))) (aC .long (e2 (fun x y : Int64 => x ||| y) (e2 (fun (x : Int64) (y : Int32) => x <<< (y.toInt64 &&& 63)) (e1 (fun x : Int32 => x.toInt64) (eSA scr (eR 0) (e2 (fun x y : Int32 => x + y) (eI 3) (eV (2 : Int32))))) (eV (32 : Int32))) (e2 (fun x y : Int64 => x &&& y) (e1 (fun x : Int32 => x.toInt64) (eSA scr (eR 0) (e2 (fun x y : Int32 => x + y) (eI 3) (eV (3 : Int32))))) (eV (4294967295 : Int64)))) aN))))) (sRz (eV (0 : Int32))) sSk)
    sBk),
    (sSq (sIf (e2 (fun x y : Int32 => decide (¬ x = y)) (eX .int (xV 9 2 X_PL_see (eR 1) (aC .int (eSA scr (eR 0) (e2 (fun x y : Int32 => x + y) (eI 3) (eV (1 : Int32)))) (aC .int (eSA scr (eR 0) (e2 (fun x y : Int32 => x + y) (eI 3) (eV (2 : Int32)))) aN)))) (eX .int (xV 10 2 X_R_see (eR 2) (aC .int (eSA scr (eR 0) (e2 (fun x y : Int32 => x + y) (eI 3) (eV (1 : Int32)))) (aC .int (eSA scr (eR 0) (e2 (fun x y : Int32 => x + y) (eI 3) (eV (2 : Int32)))) aN))))) (sRz (eV (0 : Int32))) sSk)
    sBk),
    (sSq (sIf (e2 (fun x y : Int32 => decide (¬ x = y)) (eX .int (xV 9 0 X_PL_unsee (eR 1) aN)) (eX .int (xV 10 0 X_R_unsee (eR 2) aN))) (sRz (eV (0 : Int32))) sSk)
    sBk),
    (sSq (sIf (e2 (fun x y : Int32 => decide (¬ x = y)) (eX .int (xV 9 0 X_PL_which (eR 1) aN)) (eX .int (xV 10 0 X_R_which (eR 2) aN))) (sRz (eV (0 : Int32))) sSk)
    sBk),
    (sSq (sIf (e2 (fun x y : Int32 => decide (¬ x = y)) (eX .int (xV 9 2 X_PL_share (eR 1) (aC .int (eSA scr (eR 0) (e2 (fun x y : Int32 => x + y) (eI 3) (eV (1 : Int32)))) (aC .int (eC (e1 (fun x : Int32 => decide (¬ x = 0)) (eSA scr (eR 0) (e2 (fun x y : Int32 => x + y) (eI 3) (eV (2 : Int32)))))) aN)))) (eX .int (xV 10 2 X_R_share (eR 2) (aC .int (eSA scr (eR 0) (e2 (fun x y : Int32 => x + y) (eI 3) (eV (1 : Int32)))) (aC .int (eC (e1 (fun x : Int32 => decide (¬ x = 0)) (eSA scr (eR 0) (e2 (fun x y : Int32 => x + y) (eI 3) (eV (2 : Int32)))))) aN))))) (sRz (eV (0 : Int32))) sSk)
    sBk),
    (sSq (sIf (e2 (fun x y : Int32 => decide (¬ x = y)) (eX .int (xV 9 3 X_PL_chance (eR 1) (aC .int (eSA scr (eR 0) (e2 (fun x y : Int32 => x + y) (eI 3) (eV (1 : Int32)))) (aC .int (eSA scr (eR 0) (e2 (fun x y : Int32 => x + y) (eI 3) (eV (2 : Int32)))) (aC .int (eC (e1 (fun x : Int32 => decide (¬ x = 0)) (eSA scr (eR 0) (e2 (fun x y : Int32 => x + y) (eI 3) (eV (3 : Int32)))))) aN))))) (eX .int (xV 10 3 X_R_chance (eR 2) (aC .int (eSA scr (eR 0) (e2 (fun x y : Int32 => x + y) (eI 3) (eV (1 : Int32)))) (aC .int (eSA scr (eR 0) (e2 (fun x y : Int32 => x + y) (eI 3) (eV (2 : Int32)))) (aC .int (eC (e1 (fun x : Int32 => decide (¬ x = 0)) (eSA scr (eR 0) (e2 (fun x y : Int32 => x + y) (eI 3) (eV (3 : Int32)))))) aN)))))) (sRz (eV (0 : Int32))) sSk)
    sBk),
    (sSq (sIf (e2 (fun x y : Int64 => decide (¬ x = y)) (eX .long (xV 9 1 X_PL_seed (eR 1) (aC .long (e2 (fun x y : Int64 => x ||| y) (e2 (fun (x : Int64) (y : Int32) => x <<< (y.toInt64 &&& 63)) (e1 (fun x : Int32 => x.toInt64) (eSA scr (eR 0) (e2 (fun x y : Int32 => x + y) (eI 3) (eV (1 : Int32))))) (eV (32 : Int32))) (e2 (fun x y : Int64 => x &&& y) (e1 (fun x : Int32 => x.toInt64) (eSA scr (eR 0) (e2 (fun x y : Int32 => x + y) (eI 3) (eV (2 : Int32))))) (eV (4294967295 : Int64)))) aN))) (eX .long (xV 10 1 X_R_seed (eR 2) (aC .long (e2 (fun x y : Int64 => x ||| y) (e2 (fun (x : Int64) (y : Int32) => x <<< (y.toInt64 &&& 63)) (e1 (fun x : Int32 => x.toInt64) (eSA scr (eR 0) (e2 (fun x y : Int32 => x + y) (eI 3) (eV (1 : Int32))))) (eV (32 : Int32))) (e2 (fun x y : Int64 => x &&& y) (e1 (fun x : Int32 => x.toInt64) (eSA scr (eR 0) (e2 (fun x y : Int32 => x + y) (eI 3) (eV (2 : Int32))))) (eV (4294967295 : Int64)))) aN)))) (sRz (eV (0 : Int32))) sSk)
    sBk),
    (sSq (sIf (e2 (fun x y : Int32 => decide (¬ x = y)) (eX .int (xV 9 1 X_PL_drawn (eR 1) (aC .int (eSA scr (eR 0) (e2 (fun x y : Int32 => x + y) (eI 3) (eV (1 : Int32)))) aN))) (eX .int (xV 10 1 X_R_drawn (eR 2) (aC .int (eSA scr (eR 0) (e2 (fun x y : Int32 => x + y) (eI 3) (eV (1 : Int32)))) aN)))) (sRz (eV (0 : Int32))) sSk)
    sBk),
    (sSq (sIf (e2 (fun x y : Int32 => decide (¬ x = y)) (eX .int (xV 9 1 X_PL_keep (eR 1) (aC .int (eSA scr (eR 0) (e2 (fun x y : Int32 => x + y) (eI 3) (eV (1 : Int32)))) aN))) (eX .int (xV 10 1 X_R_keep (eR 2) (aC .int (eSA scr (eR 0) (e2 (fun x y : Int32 => x + y) (eI 3) (eV (1 : Int32)))) aN)))) (sRz (eV (0 : Int32))) sSk)
    sBk),
    (sSq (sIf (e2 (fun x y : Int32 => decide (¬ x = y)) (eX .int (xV 9 1 X_PL_again (eR 1) (aC .int (eSA scr (eR 0) (e2 (fun x y : Int32 => x + y) (eI 3) (eV (1 : Int32)))) aN))) (eX .int (xV 10 1 X_R_again (eR 2) (aC .int (eSA scr (eR 0) (e2 (fun x y : Int32 => x + y) (eI 3) (eV (1 : Int32)))) aN)))) (sRz (eV (0 : Int32))) sSk)
    sBk),
    sBk])
    (sInc 3 (4)))))
    (sRz (eV (1 : Int32))))))
theorem v_Law_law (κ : KT) (scr : List Int32) (hsc : SC code κ scr) (ho : k_own κ = "PackLanesLaw") (hR : k_R κ = room_1) (hrt : k_rt κ = some .boolean) : Ex code κ 0 0 0 0 (B_Law_law (k_n0 κ + (k_R κ).cells, k_t0 κ + (k_R κ).slots) scr) := by
  unfold B_Law_law
  exact (S_sq (pc1 := 8) (S_Rn (pc1 := 7) (E_new rfl n_Law_7 k_Law_9 (v_PL_init _) ho (rk hR rfl) (by decide) d_Law_law_0 d_Law_law_3 (pc1 := 4) A_n d_Law_law_4) d_Law_law_7 rfl)
    (S_sq (pc1 := 16) (S_Rn (pc1 := 15) (E_new rfl n_Law_10 k_Law_12 (v_R_init _) ho (rk hR rfl) (by decide) d_Law_law_8 d_Law_law_11 (pc1 := 12) A_n d_Law_law_12) d_Law_law_15 rfl)
    (S_sq (pc1 := 791) (S_cut (S_sq (pc1 := 18) (S_In (pc1 := 17) (E_ic d_Law_law_16 rfl) d_Law_law_17 rfl)
    (S_lp (pT := 26) (pF := 791) (pS := 785) (pG := 788) (J2_le (pF := 791) (pc1 := 19) (pc2 := 23) (E_iln d_Law_law_18 rfl) (E_isub (pc1 := 21) (pc2 := 22) (E_sL hsc (pc1 := 20) (E_aln d_Law_law_19 rfl) d_Law_law_20) (E_ic d_Law_law_21 rfl) d_Law_law_22) d_Law_law_23 rfl)
    (S_sw (pcs := [136, 159, 172, 185, 198, 221, 254, 287, 320, 353, 386, 399, 432, 495, 528, 541, 554, 603, 662, 716, 739, 762, 785, 785]) (pc1 := 32) (pN := 785) (E_iand (pc1 := 29) (pc2 := 31) (E_sA hsc (pc1 := 27) (pc2 := 28) (E_aln d_Law_law_26 rfl) (E_iln d_Law_law_27 rfl) d_Law_law_28) (E_bi d_Law_law_29 rfl) d_Law_law_31) (fun _ _ _ k => r_tsw d_Law_law_32 (by decide +kernel) k) (And.intro (S_sqb (S_if1 (pT := 157) (pF := 785) (J2_ne (pF := 785) (pc1 := 145) (pc2 := 154) (E_x (O_V k_Law_13 (v_PL_write _) ⟨rfl, rfl⟩ ho (rk hR rfl) (by decide) (T := KT9) (N := 15) rfl (by decide) (pc1 := 137) (pc2 := 142) (E_aln d_Law_law_136 rfl) (A_c catI (pc1 := 142) (E_sA hsc (pc1 := 138) (pc2 := 141) (E_aln d_Law_law_137 rfl) (E_iadd (pc1 := 139) (pc2 := 140) (E_iln d_Law_law_138 rfl) (E_ic d_Law_law_139 rfl) d_Law_law_140) d_Law_law_141) A_n) d_Law_law_142)) (E_x (O_V k_Law_17 (v_R_write _) ⟨rfl, rfl⟩ ho (rk hR rfl) (by decide) (T := KT10) (N := 50) rfl (by decide) (pc1 := 146) (pc2 := 151) (E_aln d_Law_law_145 rfl) (A_c catI (pc1 := 151) (E_sA hsc (pc1 := 147) (pc2 := 150) (E_aln d_Law_law_146 rfl) (E_iadd (pc1 := 148) (pc2 := 149) (E_iln d_Law_law_147 rfl) (E_ic d_Law_law_148 rfl) d_Law_law_149) d_Law_law_150) A_n) d_Law_law_151)) d_Law_law_154 rfl) (S_rz hrt (pc1 := 158) (E_ic d_Law_law_157 rfl) d_Law_law_158)))
    (And.intro (S_sqb (S_if1 (pT := 170) (pF := 785) (J2_ne (pF := 785) (pc1 := 163) (pc2 := 167) (E_x (O_V k_Law_18 (v_PL_wipe _) ⟨rfl, rfl⟩ ho (rk hR rfl) (by decide) (T := KT9) (N := 15) rfl (by decide) (pc1 := 160) (pc2 := 160) (E_aln d_Law_law_159 rfl) A_n d_Law_law_160)) (E_x (O_V k_Law_22 (v_R_wipe _) ⟨rfl, rfl⟩ ho (rk hR rfl) (by decide) (T := KT10) (N := 50) rfl (by decide) (pc1 := 164) (pc2 := 164) (E_aln d_Law_law_163 rfl) A_n d_Law_law_164)) d_Law_law_167 rfl) (S_rz hrt (pc1 := 171) (E_ic d_Law_law_170 rfl) d_Law_law_171)))
    (And.intro (S_sqb (S_if1 (pT := 183) (pF := 785) (J2_ne (pF := 785) (pc1 := 176) (pc2 := 180) (E_x (O_V k_Law_23 (v_PL_fault _) ⟨rfl, rfl⟩ ho (rk hR rfl) (by decide) (T := KT9) (N := 15) rfl (by decide) (pc1 := 173) (pc2 := 173) (E_aln d_Law_law_172 rfl) A_n d_Law_law_173)) (E_x (O_V k_Law_26 (v_R_fault _) ⟨rfl, rfl⟩ ho (rk hR rfl) (by decide) (T := KT10) (N := 50) rfl (by decide) (pc1 := 177) (pc2 := 177) (E_aln d_Law_law_176 rfl) A_n d_Law_law_177)) d_Law_law_180 rfl) (S_rz hrt (pc1 := 184) (E_ic d_Law_law_183 rfl) d_Law_law_184)))
    (And.intro (S_sqb (S_if1 (pT := 196) (pF := 785) (J2_ne (pF := 785) (pc1 := 189) (pc2 := 193) (E_x (O_V k_Law_27 (v_PL_block _) ⟨rfl, rfl⟩ ho (rk hR rfl) (by decide) (T := KT9) (N := 15) rfl (by decide) (pc1 := 186) (pc2 := 186) (E_aln d_Law_law_185 rfl) A_n d_Law_law_186)) (E_x (O_V k_Law_30 (v_R_block _) ⟨rfl, rfl⟩ ho (rk hR rfl) (by decide) (T := KT10) (N := 50) rfl (by decide) (pc1 := 190) (pc2 := 190) (E_aln d_Law_law_189 rfl) A_n d_Law_law_190)) d_Law_law_193 rfl) (S_rz hrt (pc1 := 197) (E_ic d_Law_law_196 rfl) d_Law_law_197)))
    (And.intro (S_sqb (S_if1 (pT := 219) (pF := 785) (J2_ne (pF := 785) (pc1 := 207) (pc2 := 216) (E_x (O_V k_Law_31 (v_PL_about _) ⟨rfl, rfl⟩ ho (rk hR rfl) (by decide) (T := KT9) (N := 15) rfl (by decide) (pc1 := 199) (pc2 := 204) (E_aln d_Law_law_198 rfl) (A_c catI (pc1 := 204) (E_sA hsc (pc1 := 200) (pc2 := 203) (E_aln d_Law_law_199 rfl) (E_iadd (pc1 := 201) (pc2 := 202) (E_iln d_Law_law_200 rfl) (E_ic d_Law_law_201 rfl) d_Law_law_202) d_Law_law_203) A_n) d_Law_law_204)) (E_x (O_V k_Law_34 (v_R_about _) ⟨rfl, rfl⟩ ho (rk hR rfl) (by decide) (T := KT10) (N := 50) rfl (by decide) (pc1 := 208) (pc2 := 213) (E_aln d_Law_law_207 rfl) (A_c catI (pc1 := 213) (E_sA hsc (pc1 := 209) (pc2 := 212) (E_aln d_Law_law_208 rfl) (E_iadd (pc1 := 210) (pc2 := 211) (E_iln d_Law_law_209 rfl) (E_ic d_Law_law_210 rfl) d_Law_law_211) d_Law_law_212) A_n) d_Law_law_213)) d_Law_law_216 rfl) (S_rz hrt (pc1 := 220) (E_ic d_Law_law_219 rfl) d_Law_law_220)))
    (And.intro (S_sqb (S_if1 (pT := 252) (pF := 785) (J2_ne (pF := 785) (pc1 := 235) (pc2 := 249) (E_x (O_V k_Law_35 (v_PL_instruction _) ⟨rfl, rfl⟩ ho (rk hR rfl) (by decide) (T := KT9) (N := 15) rfl (by decide) (pc1 := 222) (pc2 := 232) (E_aln d_Law_law_221 rfl) (A_c catI (pc1 := 227) (E_sA hsc (pc1 := 223) (pc2 := 226) (E_aln d_Law_law_222 rfl) (E_iadd (pc1 := 224) (pc2 := 225) (E_iln d_Law_law_223 rfl) (E_ic d_Law_law_224 rfl) d_Law_law_225) d_Law_law_226) (A_c catI (pc1 := 232) (E_sA hsc (pc1 := 228) (pc2 := 231) (E_aln d_Law_law_227 rfl) (E_iadd (pc1 := 229) (pc2 := 230) (E_iln d_Law_law_228 rfl) (E_ic d_Law_law_229 rfl) d_Law_law_230) d_Law_law_231) A_n)) d_Law_law_232)) (E_x (O_V k_Law_39 (v_R_instruction _) ⟨rfl, rfl⟩ ho (rk hR rfl) (by decide) (T := KT10) (N := 50) rfl (by decide) (pc1 := 236) (pc2 := 246) (E_aln d_Law_law_235 rfl) (A_c catI (pc1 := 241) (E_sA hsc (pc1 := 237) (pc2 := 240) (E_aln d_Law_law_236 rfl) (E_iadd (pc1 := 238) (pc2 := 239) (E_iln d_Law_law_237 rfl) (E_ic d_Law_law_238 rfl) d_Law_law_239) d_Law_law_240) (A_c catI (pc1 := 246) (E_sA hsc (pc1 := 242) (pc2 := 245) (E_aln d_Law_law_241 rfl) (E_iadd (pc1 := 243) (pc2 := 244) (E_iln d_Law_law_242 rfl) (E_ic d_Law_law_243 rfl) d_Law_law_244) d_Law_law_245) A_n)) d_Law_law_246)) d_Law_law_249 rfl) (S_rz hrt (pc1 := 253) (E_ic d_Law_law_252 rfl) d_Law_law_253)))
    (And.intro (S_sqb (S_if1 (pT := 285) (pF := 785) (J2_ne (pF := 785) (pc1 := 268) (pc2 := 282) (E_x (O_V k_Law_40 (v_PL_address _) ⟨rfl, rfl⟩ ho (rk hR rfl) (by decide) (T := KT9) (N := 15) rfl (by decide) (pc1 := 255) (pc2 := 265) (E_aln d_Law_law_254 rfl) (A_c catI (pc1 := 260) (E_sA hsc (pc1 := 256) (pc2 := 259) (E_aln d_Law_law_255 rfl) (E_iadd (pc1 := 257) (pc2 := 258) (E_iln d_Law_law_256 rfl) (E_ic d_Law_law_257 rfl) d_Law_law_258) d_Law_law_259) (A_c catI (pc1 := 265) (E_sA hsc (pc1 := 261) (pc2 := 264) (E_aln d_Law_law_260 rfl) (E_iadd (pc1 := 262) (pc2 := 263) (E_iln d_Law_law_261 rfl) (E_ic d_Law_law_262 rfl) d_Law_law_263) d_Law_law_264) A_n)) d_Law_law_265)) (E_x (O_V k_Law_43 (v_R_address _) ⟨rfl, rfl⟩ ho (rk hR rfl) (by decide) (T := KT10) (N := 50) rfl (by decide) (pc1 := 269) (pc2 := 279) (E_aln d_Law_law_268 rfl) (A_c catI (pc1 := 274) (E_sA hsc (pc1 := 270) (pc2 := 273) (E_aln d_Law_law_269 rfl) (E_iadd (pc1 := 271) (pc2 := 272) (E_iln d_Law_law_270 rfl) (E_ic d_Law_law_271 rfl) d_Law_law_272) d_Law_law_273) (A_c catI (pc1 := 279) (E_sA hsc (pc1 := 275) (pc2 := 278) (E_aln d_Law_law_274 rfl) (E_iadd (pc1 := 276) (pc2 := 277) (E_iln d_Law_law_275 rfl) (E_ic d_Law_law_276 rfl) d_Law_law_277) d_Law_law_278) A_n)) d_Law_law_279)) d_Law_law_282 rfl) (S_rz hrt (pc1 := 286) (E_ic d_Law_law_285 rfl) d_Law_law_286)))
    (And.intro (S_sqb (S_if1 (pT := 318) (pF := 785) (J2_ne (pF := 785) (pc1 := 301) (pc2 := 315) (E_x (O_V k_Law_44 (v_PL_depends _) ⟨rfl, rfl⟩ ho (rk hR rfl) (by decide) (T := KT9) (N := 15) rfl (by decide) (pc1 := 288) (pc2 := 298) (E_aln d_Law_law_287 rfl) (A_c catI (pc1 := 293) (E_sA hsc (pc1 := 289) (pc2 := 292) (E_aln d_Law_law_288 rfl) (E_iadd (pc1 := 290) (pc2 := 291) (E_iln d_Law_law_289 rfl) (E_ic d_Law_law_290 rfl) d_Law_law_291) d_Law_law_292) (A_c catI (pc1 := 298) (E_sA hsc (pc1 := 294) (pc2 := 297) (E_aln d_Law_law_293 rfl) (E_iadd (pc1 := 295) (pc2 := 296) (E_iln d_Law_law_294 rfl) (E_ic d_Law_law_295 rfl) d_Law_law_296) d_Law_law_297) A_n)) d_Law_law_298)) (E_x (O_V k_Law_47 (v_R_depends _) ⟨rfl, rfl⟩ ho (rk hR rfl) (by decide) (T := KT10) (N := 50) rfl (by decide) (pc1 := 302) (pc2 := 312) (E_aln d_Law_law_301 rfl) (A_c catI (pc1 := 307) (E_sA hsc (pc1 := 303) (pc2 := 306) (E_aln d_Law_law_302 rfl) (E_iadd (pc1 := 304) (pc2 := 305) (E_iln d_Law_law_303 rfl) (E_ic d_Law_law_304 rfl) d_Law_law_305) d_Law_law_306) (A_c catI (pc1 := 312) (E_sA hsc (pc1 := 308) (pc2 := 311) (E_aln d_Law_law_307 rfl) (E_iadd (pc1 := 309) (pc2 := 310) (E_iln d_Law_law_308 rfl) (E_ic d_Law_law_309 rfl) d_Law_law_310) d_Law_law_311) A_n)) d_Law_law_312)) d_Law_law_315 rfl) (S_rz hrt (pc1 := 319) (E_ic d_Law_law_318 rfl) d_Law_law_319)))
    (And.intro (S_sqb (S_if1 (pT := 351) (pF := 785) (J2_ne (pF := 785) (pc1 := 334) (pc2 := 348) (E_x (O_V k_Law_48 (v_PL_start _) ⟨rfl, rfl⟩ ho (rk hR rfl) (by decide) (T := KT9) (N := 15) rfl (by decide) (pc1 := 321) (pc2 := 331) (E_aln d_Law_law_320 rfl) (A_c catI (pc1 := 326) (E_sA hsc (pc1 := 322) (pc2 := 325) (E_aln d_Law_law_321 rfl) (E_iadd (pc1 := 323) (pc2 := 324) (E_iln d_Law_law_322 rfl) (E_ic d_Law_law_323 rfl) d_Law_law_324) d_Law_law_325) (A_c catI (pc1 := 331) (E_sA hsc (pc1 := 327) (pc2 := 330) (E_aln d_Law_law_326 rfl) (E_iadd (pc1 := 328) (pc2 := 329) (E_iln d_Law_law_327 rfl) (E_ic d_Law_law_328 rfl) d_Law_law_329) d_Law_law_330) A_n)) d_Law_law_331)) (E_x (O_V k_Law_51 (v_R_start _) ⟨rfl, rfl⟩ ho (rk hR rfl) (by decide) (T := KT10) (N := 50) rfl (by decide) (pc1 := 335) (pc2 := 345) (E_aln d_Law_law_334 rfl) (A_c catI (pc1 := 340) (E_sA hsc (pc1 := 336) (pc2 := 339) (E_aln d_Law_law_335 rfl) (E_iadd (pc1 := 337) (pc2 := 338) (E_iln d_Law_law_336 rfl) (E_ic d_Law_law_337 rfl) d_Law_law_338) d_Law_law_339) (A_c catI (pc1 := 345) (E_sA hsc (pc1 := 341) (pc2 := 344) (E_aln d_Law_law_340 rfl) (E_iadd (pc1 := 342) (pc2 := 343) (E_iln d_Law_law_341 rfl) (E_ic d_Law_law_342 rfl) d_Law_law_343) d_Law_law_344) A_n)) d_Law_law_345)) d_Law_law_348 rfl) (S_rz hrt (pc1 := 352) (E_ic d_Law_law_351 rfl) d_Law_law_352)))
    (And.intro (S_sqb (S_if1 (pT := 384) (pF := 785) (J2_ne (pF := 785) (pc1 := 367) (pc2 := 381) (E_x (O_V k_Law_52 (v_PL_set _) ⟨rfl, rfl⟩ ho (rk hR rfl) (by decide) (T := KT9) (N := 15) rfl (by decide) (pc1 := 354) (pc2 := 364) (E_aln d_Law_law_353 rfl) (A_c catI (pc1 := 359) (E_sA hsc (pc1 := 355) (pc2 := 358) (E_aln d_Law_law_354 rfl) (E_iadd (pc1 := 356) (pc2 := 357) (E_iln d_Law_law_355 rfl) (E_ic d_Law_law_356 rfl) d_Law_law_357) d_Law_law_358) (A_c catI (pc1 := 364) (E_sA hsc (pc1 := 360) (pc2 := 363) (E_aln d_Law_law_359 rfl) (E_iadd (pc1 := 361) (pc2 := 362) (E_iln d_Law_law_360 rfl) (E_ic d_Law_law_361 rfl) d_Law_law_362) d_Law_law_363) A_n)) d_Law_law_364)) (E_x (O_V k_Law_55 (v_R_set _) ⟨rfl, rfl⟩ ho (rk hR rfl) (by decide) (T := KT10) (N := 50) rfl (by decide) (pc1 := 368) (pc2 := 378) (E_aln d_Law_law_367 rfl) (A_c catI (pc1 := 373) (E_sA hsc (pc1 := 369) (pc2 := 372) (E_aln d_Law_law_368 rfl) (E_iadd (pc1 := 370) (pc2 := 371) (E_iln d_Law_law_369 rfl) (E_ic d_Law_law_370 rfl) d_Law_law_371) d_Law_law_372) (A_c catI (pc1 := 378) (E_sA hsc (pc1 := 374) (pc2 := 377) (E_aln d_Law_law_373 rfl) (E_iadd (pc1 := 375) (pc2 := 376) (E_iln d_Law_law_374 rfl) (E_ic d_Law_law_375 rfl) d_Law_law_376) d_Law_law_377) A_n)) d_Law_law_378)) d_Law_law_381 rfl) (S_rz hrt (pc1 := 385) (E_ic d_Law_law_384 rfl) d_Law_law_385)))
    (And.intro (S_sqb (S_if1 (pT := 397) (pF := 785) (J2_ne (pF := 785) (pc1 := 390) (pc2 := 394) (E_x (O_V k_Law_56 (v_PL_undo _) ⟨rfl, rfl⟩ ho (rk hR rfl) (by decide) (T := KT9) (N := 15) rfl (by decide) (pc1 := 387) (pc2 := 387) (E_aln d_Law_law_386 rfl) A_n d_Law_law_387)) (E_x (O_V k_Law_59 (v_R_undo _) ⟨rfl, rfl⟩ ho (rk hR rfl) (by decide) (T := KT10) (N := 50) rfl (by decide) (pc1 := 391) (pc2 := 391) (E_aln d_Law_law_390 rfl) A_n d_Law_law_391)) d_Law_law_394 rfl) (S_rz hrt (pc1 := 398) (E_ic d_Law_law_397 rfl) d_Law_law_398)))
    (And.intro (S_sqb (S_if1 (pT := 430) (pF := 785) (J2_ne (pF := 785) (pc1 := 413) (pc2 := 427) (E_x (O_V k_Law_60 (v_PL_tried _) ⟨rfl, rfl⟩ ho (rk hR rfl) (by decide) (T := KT9) (N := 15) rfl (by decide) (pc1 := 400) (pc2 := 410) (E_aln d_Law_law_399 rfl) (A_c catI (pc1 := 405) (E_sA hsc (pc1 := 401) (pc2 := 404) (E_aln d_Law_law_400 rfl) (E_iadd (pc1 := 402) (pc2 := 403) (E_iln d_Law_law_401 rfl) (E_ic d_Law_law_402 rfl) d_Law_law_403) d_Law_law_404) (A_c catI (pc1 := 410) (E_sA hsc (pc1 := 406) (pc2 := 409) (E_aln d_Law_law_405 rfl) (E_iadd (pc1 := 407) (pc2 := 408) (E_iln d_Law_law_406 rfl) (E_ic d_Law_law_407 rfl) d_Law_law_408) d_Law_law_409) A_n)) d_Law_law_410)) (E_x (O_V k_Law_63 (v_R_tried _) ⟨rfl, rfl⟩ ho (rk hR rfl) (by decide) (T := KT10) (N := 50) rfl (by decide) (pc1 := 414) (pc2 := 424) (E_aln d_Law_law_413 rfl) (A_c catI (pc1 := 419) (E_sA hsc (pc1 := 415) (pc2 := 418) (E_aln d_Law_law_414 rfl) (E_iadd (pc1 := 416) (pc2 := 417) (E_iln d_Law_law_415 rfl) (E_ic d_Law_law_416 rfl) d_Law_law_417) d_Law_law_418) (A_c catI (pc1 := 424) (E_sA hsc (pc1 := 420) (pc2 := 423) (E_aln d_Law_law_419 rfl) (E_iadd (pc1 := 421) (pc2 := 422) (E_iln d_Law_law_420 rfl) (E_ic d_Law_law_421 rfl) d_Law_law_422) d_Law_law_423) A_n)) d_Law_law_424)) d_Law_law_427 rfl) (S_rz hrt (pc1 := 431) (E_ic d_Law_law_430 rfl) d_Law_law_431)))
    (And.intro (S_sqb (S_if1 (pT := 493) (pF := 785) (J2_ne (pF := 785) (pc1 := 461) (pc2 := 490) (E_x (O_V k_Law_66 (v_PL_judge _) ⟨rfl, rfl⟩ ho (rk hR rfl) (by decide) (T := KT9) (N := 15) rfl (by decide) (pc1 := 433) (pc2 := 458) (E_aln d_Law_law_432 rfl) (A_c catI (pc1 := 438) (E_sA hsc (pc1 := 434) (pc2 := 437) (E_aln d_Law_law_433 rfl) (E_iadd (pc1 := 435) (pc2 := 436) (E_iln d_Law_law_434 rfl) (E_ic d_Law_law_435 rfl) d_Law_law_436) d_Law_law_437) (A_c catL (pc1 := 458) (E_lor (pc1 := 447) (pc2 := 457) (E_lshl (pc1 := 444) (pc2 := 446) (E_i2l (pc1 := 443) (E_sA hsc (pc1 := 439) (pc2 := 442) (E_aln d_Law_law_438 rfl) (E_iadd (pc1 := 440) (pc2 := 441) (E_iln d_Law_law_439 rfl) (E_ic d_Law_law_440 rfl) d_Law_law_441) d_Law_law_442) d_Law_law_443) (E_bi d_Law_law_444 rfl) d_Law_law_446) (E_land (pc1 := 453) (pc2 := 456) (E_i2l (pc1 := 452) (E_sA hsc (pc1 := 448) (pc2 := 451) (E_aln d_Law_law_447 rfl) (E_iadd (pc1 := 449) (pc2 := 450) (E_iln d_Law_law_448 rfl) (E_ic d_Law_law_449 rfl) d_Law_law_450) d_Law_law_451) d_Law_law_452) (E_ldc2 ho w_cl_Law_64 d_Law_law_453) d_Law_law_456) d_Law_law_457) A_n)) d_Law_law_458)) (E_x (O_V k_Law_70 (v_R_judge _) ⟨rfl, rfl⟩ ho (rk hR rfl) (by decide) (T := KT10) (N := 50) rfl (by decide) (pc1 := 462) (pc2 := 487) (E_aln d_Law_law_461 rfl) (A_c catI (pc1 := 467) (E_sA hsc (pc1 := 463) (pc2 := 466) (E_aln d_Law_law_462 rfl) (E_iadd (pc1 := 464) (pc2 := 465) (E_iln d_Law_law_463 rfl) (E_ic d_Law_law_464 rfl) d_Law_law_465) d_Law_law_466) (A_c catL (pc1 := 487) (E_lor (pc1 := 476) (pc2 := 486) (E_lshl (pc1 := 473) (pc2 := 475) (E_i2l (pc1 := 472) (E_sA hsc (pc1 := 468) (pc2 := 471) (E_aln d_Law_law_467 rfl) (E_iadd (pc1 := 469) (pc2 := 470) (E_iln d_Law_law_468 rfl) (E_ic d_Law_law_469 rfl) d_Law_law_470) d_Law_law_471) d_Law_law_472) (E_bi d_Law_law_473 rfl) d_Law_law_475) (E_land (pc1 := 482) (pc2 := 485) (E_i2l (pc1 := 481) (E_sA hsc (pc1 := 477) (pc2 := 480) (E_aln d_Law_law_476 rfl) (E_iadd (pc1 := 478) (pc2 := 479) (E_iln d_Law_law_477 rfl) (E_ic d_Law_law_478 rfl) d_Law_law_479) d_Law_law_480) d_Law_law_481) (E_ldc2 ho w_cl_Law_64 d_Law_law_482) d_Law_law_485) d_Law_law_486) A_n)) d_Law_law_487)) d_Law_law_490 rfl) (S_rz hrt (pc1 := 494) (E_ic d_Law_law_493 rfl) d_Law_law_494)))
    (And.intro (S_sqb (S_if1 (pT := 526) (pF := 785) (J2_ne (pF := 785) (pc1 := 509) (pc2 := 523) (E_x (O_V k_Law_71 (v_PL_see _) ⟨rfl, rfl⟩ ho (rk hR rfl) (by decide) (T := KT9) (N := 15) rfl (by decide) (pc1 := 496) (pc2 := 506) (E_aln d_Law_law_495 rfl) (A_c catI (pc1 := 501) (E_sA hsc (pc1 := 497) (pc2 := 500) (E_aln d_Law_law_496 rfl) (E_iadd (pc1 := 498) (pc2 := 499) (E_iln d_Law_law_497 rfl) (E_ic d_Law_law_498 rfl) d_Law_law_499) d_Law_law_500) (A_c catI (pc1 := 506) (E_sA hsc (pc1 := 502) (pc2 := 505) (E_aln d_Law_law_501 rfl) (E_iadd (pc1 := 503) (pc2 := 504) (E_iln d_Law_law_502 rfl) (E_ic d_Law_law_503 rfl) d_Law_law_504) d_Law_law_505) A_n)) d_Law_law_506)) (E_x (O_V k_Law_74 (v_R_see _) ⟨rfl, rfl⟩ ho (rk hR rfl) (by decide) (T := KT10) (N := 50) rfl (by decide) (pc1 := 510) (pc2 := 520) (E_aln d_Law_law_509 rfl) (A_c catI (pc1 := 515) (E_sA hsc (pc1 := 511) (pc2 := 514) (E_aln d_Law_law_510 rfl) (E_iadd (pc1 := 512) (pc2 := 513) (E_iln d_Law_law_511 rfl) (E_ic d_Law_law_512 rfl) d_Law_law_513) d_Law_law_514) (A_c catI (pc1 := 520) (E_sA hsc (pc1 := 516) (pc2 := 519) (E_aln d_Law_law_515 rfl) (E_iadd (pc1 := 517) (pc2 := 518) (E_iln d_Law_law_516 rfl) (E_ic d_Law_law_517 rfl) d_Law_law_518) d_Law_law_519) A_n)) d_Law_law_520)) d_Law_law_523 rfl) (S_rz hrt (pc1 := 527) (E_ic d_Law_law_526 rfl) d_Law_law_527)))
    (And.intro (S_sqb (S_if1 (pT := 539) (pF := 785) (J2_ne (pF := 785) (pc1 := 532) (pc2 := 536) (E_x (O_V k_Law_75 (v_PL_unsee _) ⟨rfl, rfl⟩ ho (rk hR rfl) (by decide) (T := KT9) (N := 15) rfl (by decide) (pc1 := 529) (pc2 := 529) (E_aln d_Law_law_528 rfl) A_n d_Law_law_529)) (E_x (O_V k_Law_78 (v_R_unsee _) ⟨rfl, rfl⟩ ho (rk hR rfl) (by decide) (T := KT10) (N := 50) rfl (by decide) (pc1 := 533) (pc2 := 533) (E_aln d_Law_law_532 rfl) A_n d_Law_law_533)) d_Law_law_536 rfl) (S_rz hrt (pc1 := 540) (E_ic d_Law_law_539 rfl) d_Law_law_540)))
    (And.intro (S_sqb (S_if1 (pT := 552) (pF := 785) (J2_ne (pF := 785) (pc1 := 545) (pc2 := 549) (E_x (O_V k_Law_79 (v_PL_which _) ⟨rfl, rfl⟩ ho (rk hR rfl) (by decide) (T := KT9) (N := 15) rfl (by decide) (pc1 := 542) (pc2 := 542) (E_aln d_Law_law_541 rfl) A_n d_Law_law_542)) (E_x (O_V k_Law_82 (v_R_which _) ⟨rfl, rfl⟩ ho (rk hR rfl) (by decide) (T := KT10) (N := 50) rfl (by decide) (pc1 := 546) (pc2 := 546) (E_aln d_Law_law_545 rfl) A_n d_Law_law_546)) d_Law_law_549 rfl) (S_rz hrt (pc1 := 553) (E_ic d_Law_law_552 rfl) d_Law_law_553)))
    (And.intro (S_sqb (S_if1 (pT := 601) (pF := 785) (J2_ne (pF := 785) (pc1 := 576) (pc2 := 598) (E_x (O_V k_Law_83 (v_PL_share _) ⟨rfl, rfl⟩ ho (rk hR rfl) (by decide) (T := KT9) (N := 15) rfl (by decide) (pc1 := 555) (pc2 := 573) (E_aln d_Law_law_554 rfl) (A_c catI (pc1 := 560) (E_sA hsc (pc1 := 556) (pc2 := 559) (E_aln d_Law_law_555 rfl) (E_iadd (pc1 := 557) (pc2 := 558) (E_iln d_Law_law_556 rfl) (E_ic d_Law_law_557 rfl) d_Law_law_558) d_Law_law_559) (A_c catI (pc1 := 573) (E_C (pT := 568) (pF := 572) (pc2 := 573) (J1_ne (pF := 572) (pc2 := 565) (E_sA hsc (pc1 := 561) (pc2 := 564) (E_aln d_Law_law_560 rfl) (E_iadd (pc1 := 562) (pc2 := 563) (E_iln d_Law_law_561 rfl) (E_ic d_Law_law_562 rfl) d_Law_law_563) d_Law_law_564) d_Law_law_565 rfl) d_Law_law_568 d_Law_law_569 rfl d_Law_law_572 rfl) A_n)) d_Law_law_573)) (E_x (O_V k_Law_87 (v_R_share _) ⟨rfl, rfl⟩ ho (rk hR rfl) (by decide) (T := KT10) (N := 50) rfl (by decide) (pc1 := 577) (pc2 := 595) (E_aln d_Law_law_576 rfl) (A_c catI (pc1 := 582) (E_sA hsc (pc1 := 578) (pc2 := 581) (E_aln d_Law_law_577 rfl) (E_iadd (pc1 := 579) (pc2 := 580) (E_iln d_Law_law_578 rfl) (E_ic d_Law_law_579 rfl) d_Law_law_580) d_Law_law_581) (A_c catI (pc1 := 595) (E_C (pT := 590) (pF := 594) (pc2 := 595) (J1_ne (pF := 594) (pc2 := 587) (E_sA hsc (pc1 := 583) (pc2 := 586) (E_aln d_Law_law_582 rfl) (E_iadd (pc1 := 584) (pc2 := 585) (E_iln d_Law_law_583 rfl) (E_ic d_Law_law_584 rfl) d_Law_law_585) d_Law_law_586) d_Law_law_587 rfl) d_Law_law_590 d_Law_law_591 rfl d_Law_law_594 rfl) A_n)) d_Law_law_595)) d_Law_law_598 rfl) (S_rz hrt (pc1 := 602) (E_ic d_Law_law_601 rfl) d_Law_law_602)))
    (And.intro (S_sqb (S_if1 (pT := 660) (pF := 785) (J2_ne (pF := 785) (pc1 := 630) (pc2 := 657) (E_x (O_V k_Law_88 (v_PL_chance _) ⟨rfl, rfl⟩ ho (rk hR rfl) (by decide) (T := KT9) (N := 15) rfl (by decide) (pc1 := 604) (pc2 := 627) (E_aln d_Law_law_603 rfl) (A_c catI (pc1 := 609) (E_sA hsc (pc1 := 605) (pc2 := 608) (E_aln d_Law_law_604 rfl) (E_iadd (pc1 := 606) (pc2 := 607) (E_iln d_Law_law_605 rfl) (E_ic d_Law_law_606 rfl) d_Law_law_607) d_Law_law_608) (A_c catI (pc1 := 614) (E_sA hsc (pc1 := 610) (pc2 := 613) (E_aln d_Law_law_609 rfl) (E_iadd (pc1 := 611) (pc2 := 612) (E_iln d_Law_law_610 rfl) (E_ic d_Law_law_611 rfl) d_Law_law_612) d_Law_law_613) (A_c catI (pc1 := 627) (E_C (pT := 622) (pF := 626) (pc2 := 627) (J1_ne (pF := 626) (pc2 := 619) (E_sA hsc (pc1 := 615) (pc2 := 618) (E_aln d_Law_law_614 rfl) (E_iadd (pc1 := 616) (pc2 := 617) (E_iln d_Law_law_615 rfl) (E_ic d_Law_law_616 rfl) d_Law_law_617) d_Law_law_618) d_Law_law_619 rfl) d_Law_law_622 d_Law_law_623 rfl d_Law_law_626 rfl) A_n))) d_Law_law_627)) (E_x (O_V k_Law_92 (v_R_chance _) ⟨rfl, rfl⟩ ho (rk hR rfl) (by decide) (T := KT10) (N := 50) rfl (by decide) (pc1 := 631) (pc2 := 654) (E_aln d_Law_law_630 rfl) (A_c catI (pc1 := 636) (E_sA hsc (pc1 := 632) (pc2 := 635) (E_aln d_Law_law_631 rfl) (E_iadd (pc1 := 633) (pc2 := 634) (E_iln d_Law_law_632 rfl) (E_ic d_Law_law_633 rfl) d_Law_law_634) d_Law_law_635) (A_c catI (pc1 := 641) (E_sA hsc (pc1 := 637) (pc2 := 640) (E_aln d_Law_law_636 rfl) (E_iadd (pc1 := 638) (pc2 := 639) (E_iln d_Law_law_637 rfl) (E_ic d_Law_law_638 rfl) d_Law_law_639) d_Law_law_640) (A_c catI (pc1 := 654) (E_C (pT := 649) (pF := 653) (pc2 := 654) (J1_ne (pF := 653) (pc2 := 646) (E_sA hsc (pc1 := 642) (pc2 := 645) (E_aln d_Law_law_641 rfl) (E_iadd (pc1 := 643) (pc2 := 644) (E_iln d_Law_law_642 rfl) (E_ic d_Law_law_643 rfl) d_Law_law_644) d_Law_law_645) d_Law_law_646 rfl) d_Law_law_649 d_Law_law_650 rfl d_Law_law_653 rfl) A_n))) d_Law_law_654)) d_Law_law_657 rfl) (S_rz hrt (pc1 := 661) (E_ic d_Law_law_660 rfl) d_Law_law_661)))
    (And.intro (S_sqb (S_if1 (pT := 714) (pF := 785) (JL_ne (pF := 785) (pc1 := 686) (pc2 := 710) (E_x (O_V k_Law_93 (v_PL_seed _) ⟨rfl, rfl⟩ ho (rk hR rfl) (by decide) (T := KT9) (N := 15) rfl (by decide) (pc1 := 663) (pc2 := 683) (E_aln d_Law_law_662 rfl) (A_c catL (pc1 := 683) (E_lor (pc1 := 672) (pc2 := 682) (E_lshl (pc1 := 669) (pc2 := 671) (E_i2l (pc1 := 668) (E_sA hsc (pc1 := 664) (pc2 := 667) (E_aln d_Law_law_663 rfl) (E_iadd (pc1 := 665) (pc2 := 666) (E_iln d_Law_law_664 rfl) (E_ic d_Law_law_665 rfl) d_Law_law_666) d_Law_law_667) d_Law_law_668) (E_bi d_Law_law_669 rfl) d_Law_law_671) (E_land (pc1 := 678) (pc2 := 681) (E_i2l (pc1 := 677) (E_sA hsc (pc1 := 673) (pc2 := 676) (E_aln d_Law_law_672 rfl) (E_iadd (pc1 := 674) (pc2 := 675) (E_iln d_Law_law_673 rfl) (E_ic d_Law_law_674 rfl) d_Law_law_675) d_Law_law_676) d_Law_law_677) (E_ldc2 ho w_cl_Law_64 d_Law_law_678) d_Law_law_681) d_Law_law_682) A_n) d_Law_law_683)) (E_x (O_V k_Law_97 (v_R_seed _) ⟨rfl, rfl⟩ ho (rk hR rfl) (by decide) (T := KT10) (N := 50) rfl (by decide) (pc1 := 687) (pc2 := 707) (E_aln d_Law_law_686 rfl) (A_c catL (pc1 := 707) (E_lor (pc1 := 696) (pc2 := 706) (E_lshl (pc1 := 693) (pc2 := 695) (E_i2l (pc1 := 692) (E_sA hsc (pc1 := 688) (pc2 := 691) (E_aln d_Law_law_687 rfl) (E_iadd (pc1 := 689) (pc2 := 690) (E_iln d_Law_law_688 rfl) (E_ic d_Law_law_689 rfl) d_Law_law_690) d_Law_law_691) d_Law_law_692) (E_bi d_Law_law_693 rfl) d_Law_law_695) (E_land (pc1 := 702) (pc2 := 705) (E_i2l (pc1 := 701) (E_sA hsc (pc1 := 697) (pc2 := 700) (E_aln d_Law_law_696 rfl) (E_iadd (pc1 := 698) (pc2 := 699) (E_iln d_Law_law_697 rfl) (E_ic d_Law_law_698 rfl) d_Law_law_699) d_Law_law_700) d_Law_law_701) (E_ldc2 ho w_cl_Law_64 d_Law_law_702) d_Law_law_705) d_Law_law_706) A_n) d_Law_law_707)) d_Law_law_710 d_Law_law_711 rfl) (S_rz hrt (pc1 := 715) (E_ic d_Law_law_714 rfl) d_Law_law_715)))
    (And.intro (S_sqb (S_if1 (pT := 737) (pF := 785) (J2_ne (pF := 785) (pc1 := 725) (pc2 := 734) (E_x (O_V k_Law_98 (v_PL_drawn _) ⟨rfl, rfl⟩ ho (rk hR rfl) (by decide) (T := KT9) (N := 15) rfl (by decide) (pc1 := 717) (pc2 := 722) (E_aln d_Law_law_716 rfl) (A_c catI (pc1 := 722) (E_sA hsc (pc1 := 718) (pc2 := 721) (E_aln d_Law_law_717 rfl) (E_iadd (pc1 := 719) (pc2 := 720) (E_iln d_Law_law_718 rfl) (E_ic d_Law_law_719 rfl) d_Law_law_720) d_Law_law_721) A_n) d_Law_law_722)) (E_x (O_V k_Law_101 (v_R_drawn _) ⟨rfl, rfl⟩ ho (rk hR rfl) (by decide) (T := KT10) (N := 50) rfl (by decide) (pc1 := 726) (pc2 := 731) (E_aln d_Law_law_725 rfl) (A_c catI (pc1 := 731) (E_sA hsc (pc1 := 727) (pc2 := 730) (E_aln d_Law_law_726 rfl) (E_iadd (pc1 := 728) (pc2 := 729) (E_iln d_Law_law_727 rfl) (E_ic d_Law_law_728 rfl) d_Law_law_729) d_Law_law_730) A_n) d_Law_law_731)) d_Law_law_734 rfl) (S_rz hrt (pc1 := 738) (E_ic d_Law_law_737 rfl) d_Law_law_738)))
    (And.intro (S_sqb (S_if1 (pT := 760) (pF := 785) (J2_ne (pF := 785) (pc1 := 748) (pc2 := 757) (E_x (O_V k_Law_102 (v_PL_keep _) ⟨rfl, rfl⟩ ho (rk hR rfl) (by decide) (T := KT9) (N := 15) rfl (by decide) (pc1 := 740) (pc2 := 745) (E_aln d_Law_law_739 rfl) (A_c catI (pc1 := 745) (E_sA hsc (pc1 := 741) (pc2 := 744) (E_aln d_Law_law_740 rfl) (E_iadd (pc1 := 742) (pc2 := 743) (E_iln d_Law_law_741 rfl) (E_ic d_Law_law_742 rfl) d_Law_law_743) d_Law_law_744) A_n) d_Law_law_745)) (E_x (O_V k_Law_105 (v_R_keep _) ⟨rfl, rfl⟩ ho (rk hR rfl) (by decide) (T := KT10) (N := 50) rfl (by decide) (pc1 := 749) (pc2 := 754) (E_aln d_Law_law_748 rfl) (A_c catI (pc1 := 754) (E_sA hsc (pc1 := 750) (pc2 := 753) (E_aln d_Law_law_749 rfl) (E_iadd (pc1 := 751) (pc2 := 752) (E_iln d_Law_law_750 rfl) (E_ic d_Law_law_751 rfl) d_Law_law_752) d_Law_law_753) A_n) d_Law_law_754)) d_Law_law_757 rfl) (S_rz hrt (pc1 := 761) (E_ic d_Law_law_760 rfl) d_Law_law_761)))
    (And.intro (S_sq (pc1 := 785) (S_if1 (pT := 783) (pF := 785) (J2_ne (pF := 785) (pc1 := 771) (pc2 := 780) (E_x (O_V k_Law_106 (v_PL_again _) ⟨rfl, rfl⟩ ho (rk hR rfl) (by decide) (T := KT9) (N := 15) rfl (by decide) (pc1 := 763) (pc2 := 768) (E_aln d_Law_law_762 rfl) (A_c catI (pc1 := 768) (E_sA hsc (pc1 := 764) (pc2 := 767) (E_aln d_Law_law_763 rfl) (E_iadd (pc1 := 765) (pc2 := 766) (E_iln d_Law_law_764 rfl) (E_ic d_Law_law_765 rfl) d_Law_law_766) d_Law_law_767) A_n) d_Law_law_768)) (E_x (O_V k_Law_109 (v_R_again _) ⟨rfl, rfl⟩ ho (rk hR rfl) (by decide) (T := KT10) (N := 50) rfl (by decide) (pc1 := 772) (pc2 := 777) (E_aln d_Law_law_771 rfl) (A_c catI (pc1 := 777) (E_sA hsc (pc1 := 773) (pc2 := 776) (E_aln d_Law_law_772 rfl) (E_iadd (pc1 := 774) (pc2 := 775) (E_iln d_Law_law_773 rfl) (E_ic d_Law_law_774 rfl) d_Law_law_775) d_Law_law_776) A_n) d_Law_law_777)) d_Law_law_780 rfl) (S_rz hrt (pc1 := 784) (E_ic d_Law_law_783 rfl) d_Law_law_784))
    S_bk0)
    (And.intro S_bk0
    rfl))))))))))))))))))))))) rfl)
    (S_Inc d_Law_law_785 rfl) d_Law_law_788 rfl)))
    (S_rz hrt (pc1 := 792) (E_ic d_Law_law_791 rfl) d_Law_law_792))))
