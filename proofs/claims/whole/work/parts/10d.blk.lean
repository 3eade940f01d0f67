/-! WHAT IS TO BE SHOWN OF EACH METHOD, by program (gen_blk.py): 155 to 206 -/
/-- DroneCorridorsModel.<init> -/
theorem m155 {T N : Nat → Nat} {h : PH} {w : Nat} {K : PH → Prop} (t0 : T w = 12) (k : ((T (nx h) = 22 ∧ 0 ≤ Int32.toInt 449 ∧ Int32.toInt 449 = N (nx h) ∧ N (nx h) ≤ 65536) ∧ ∀ a_3 h_4, a_3 = nx h → h_4 = grow h (N (nx h)) → ∀ h_9, h_9 = sr h_4 w 1 (some a_3) → (T (nx h_9) = 22 ∧ 0 ≤ Int32.toInt 449 ∧ Int32.toInt 449 = N (nx h_9) ∧ N (nx h_9) ≤ 65536) ∧ ∀ a_12 h_13, a_12 = nx h_9 → h_13 = grow h_9 (N (nx h_9)) → ∀ h_18, h_18 = sr h_13 w 2 (some a_12) → (T (nx h_18) = 22 ∧ 0 ≤ Int32.toInt 449 ∧ Int32.toInt 449 = N (nx h_18) ∧ N (nx h_18) ≤ 65536) ∧ ∀ a_21 h_22, a_21 = nx h_18 → h_22 = grow h_18 (N (nx h_18)) → ∀ h_27, h_27 = sr h_22 w 3 (some a_21) → (T (nx h_27) = 22 ∧ 0 ≤ Int32.toInt 449 ∧ Int32.toInt 449 = N (nx h_27) ∧ N (nx h_27) ≤ 65536) ∧ ∀ a_30 h_31, a_30 = nx h_27 → h_31 = grow h_27 (N (nx h_27)) → ∀ h_36, h_36 = sr h_31 w 4 (some a_30) → (T (nx h_36) = 22 ∧ 0 ≤ Int32.toInt 3592 ∧ Int32.toInt 3592 = N (nx h_36) ∧ N (nx h_36) ≤ 65536) ∧ ∀ a_39 h_40, a_39 = nx h_36 → h_40 = grow h_36 (N (nx h_36)) → ∀ h_45, h_45 = sr h_40 w 5 (some a_39) → ∀ h_48, h_48 = si h_45 w 8 (-1) → (T (nx h_48) = 23 ∧ 0 ≤ Int32.toInt 60 ∧ Int32.toInt 60 = N (nx h_48) ∧ N (nx h_48) ≤ 65536) ∧ ∀ a_51 h_52, a_51 = nx h_48 → h_52 = grow h_48 (N (nx h_48)) → ∀ h_57, h_57 = sr h_52 w 10 (some a_51) → (T (nx h_57) = 22 ∧ 0 ≤ Int32.toInt 10 ∧ Int32.toInt 10 = N (nx h_57) ∧ N (nx h_57) ≤ 65536) ∧ ∀ a_60 h_61, a_60 = nx h_57 → h_61 = grow h_57 (N (nx h_57)) → ∀ h_66, h_66 = sr h_61 w 12 (some a_60) → (T (nx h_66) = 22 ∧ 0 ≤ Int32.toInt 10 ∧ Int32.toInt 10 = N (nx h_66) ∧ N (nx h_66) ≤ 65536) ∧ ∀ a_69 h_70, a_69 = nx h_66 → h_70 = grow h_66 (N (nx h_66)) → ∀ h_75, h_75 = sr h_70 w 13 (some a_69) → (T (nx h_75) = 22 ∧ 0 ≤ Int32.toInt 3936 ∧ Int32.toInt 3936 = N (nx h_75) ∧ N (nx h_75) ≤ 65536) ∧ ∀ a_78 h_79, a_78 = nx h_75 → h_79 = grow h_75 (N (nx h_75)) → ∀ h_84, h_84 = sr h_79 w 14 (some a_78) → (T (nx h_84) = 22 ∧ 0 ≤ Int32.toInt 3936 ∧ Int32.toInt 3936 = N (nx h_84) ∧ N (nx h_84) ≤ 65536) ∧ ∀ a_87 h_88, a_87 = nx h_84 → h_88 = grow h_84 (N (nx h_84)) → ∀ h_93, h_93 = sr h_88 w 15 (some a_87) → (T (nx h_93) = 22 ∧ 0 ≤ Int32.toInt 30 ∧ Int32.toInt 30 = N (nx h_93) ∧ N (nx h_93) ≤ 65536) ∧ ∀ a_96 h_97, a_96 = nx h_93 → h_97 = grow h_93 (N (nx h_93)) → ∀ h_102, h_102 = sr h_97 w 16 (some a_96) → (T (nx h_102) = 22 ∧ 0 ≤ Int32.toInt 30 ∧ Int32.toInt 30 = N (nx h_102) ∧ N (nx h_102) ≤ 65536) ∧ ∀ a_105 h_106, a_105 = nx h_102 → h_106 = grow h_102 (N (nx h_102)) → ∀ h_111, h_111 = sr h_106 w 17 (some a_105) → K h_111)) : CV T N 155 [vr (some w)] h K := by
  show WP T N 155 0 [some (vr (some w))] [] h _
  refine R_ps 1 (pc2 := 1) (L2 := [some (vr (some w))]) (st2 := [vr (some w)]) rfl ?_
  refine R_jdk (st2 := []) rfl rfl rfl rfl rfl rfl rfl rfl ?_
  refine R_ps 2 (pc2 := 8) (L2 := [some (vr (some w))]) (st2 := [vi 449, vr (some w)]) rfl ?_
  obtain ⟨t_7, k⟩ := k
  refine R_newa rfl t_7 ?_
  generalize e_6 : grow h (N (nx h)) = h_4
  generalize e_5 : nx h = a_3
  replace k := k a_3 h_4 e_5.symm e_6.symm
  refine R_putR rfl t0 ?_
  show WP T N _ _ _ _ (sr h_4 w 1 (some a_3)) _
  generalize e_10 : sr h_4 w 1 (some a_3) = h_9
  replace k := k h_9 e_10.symm
  refine R_ps 2 (pc2 := 17) (L2 := [some (vr (some w))]) (st2 := [vi 449, vr (some w)]) rfl ?_
  obtain ⟨t_16, k⟩ := k
  refine R_newa rfl t_16 ?_
  generalize e_15 : grow h_9 (N (nx h_9)) = h_13
  generalize e_14 : nx h_9 = a_12
  replace k := k a_12 h_13 e_14.symm e_15.symm
  refine R_putR rfl t0 ?_
  show WP T N _ _ _ _ (sr h_13 w 2 (some a_12)) _
  generalize e_19 : sr h_13 w 2 (some a_12) = h_18
  replace k := k h_18 e_19.symm
  refine R_ps 2 (pc2 := 26) (L2 := [some (vr (some w))]) (st2 := [vi 449, vr (some w)]) rfl ?_
  obtain ⟨t_25, k⟩ := k
  refine R_newa rfl t_25 ?_
  generalize e_24 : grow h_18 (N (nx h_18)) = h_22
  generalize e_23 : nx h_18 = a_21
  replace k := k a_21 h_22 e_23.symm e_24.symm
  refine R_putR rfl t0 ?_
  show WP T N _ _ _ _ (sr h_22 w 3 (some a_21)) _
  generalize e_28 : sr h_22 w 3 (some a_21) = h_27
  replace k := k h_27 e_28.symm
  refine R_ps 2 (pc2 := 35) (L2 := [some (vr (some w))]) (st2 := [vi 449, vr (some w)]) rfl ?_
  obtain ⟨t_34, k⟩ := k
  refine R_newa rfl t_34 ?_
  generalize e_33 : grow h_27 (N (nx h_27)) = h_31
  generalize e_32 : nx h_27 = a_30
  replace k := k a_30 h_31 e_32.symm e_33.symm
  refine R_putR rfl t0 ?_
  show WP T N _ _ _ _ (sr h_31 w 4 (some a_30)) _
  generalize e_37 : sr h_31 w 4 (some a_30) = h_36
  replace k := k h_36 e_37.symm
  refine R_ps 2 (pc2 := 44) (L2 := [some (vr (some w))]) (st2 := [vi 3592, vr (some w)]) rfl ?_
  obtain ⟨t_43, k⟩ := k
  refine R_newa rfl t_43 ?_
  generalize e_42 : grow h_36 (N (nx h_36)) = h_40
  generalize e_41 : nx h_36 = a_39
  replace k := k a_39 h_40 e_41.symm e_42.symm
  refine R_putR rfl t0 ?_
  show WP T N _ _ _ _ (sr h_40 w 5 (some a_39)) _
  generalize e_46 : sr h_40 w 5 (some a_39) = h_45
  replace k := k h_45 e_46.symm
  refine R_ps 2 (pc2 := 51) (L2 := [some (vr (some w))]) (st2 := [vi (-1), vr (some w)]) rfl ?_
  refine R_putI rfl t0 ?_
  show WP T N _ _ _ _ (si h_45 w 8 (-1)) _
  generalize e_49 : si h_45 w 8 (-1) = h_48
  replace k := k h_48 e_49.symm
  refine R_ps 2 (pc2 := 57) (L2 := [some (vr (some w))]) (st2 := [vi 60, vr (some w)]) rfl ?_
  obtain ⟨t_55, k⟩ := k
  refine R_newa rfl t_55 ?_
  generalize e_54 : grow h_48 (N (nx h_48)) = h_52
  generalize e_53 : nx h_48 = a_51
  replace k := k a_51 h_52 e_53.symm e_54.symm
  refine R_putR rfl t0 ?_
  show WP T N _ _ _ _ (sr h_52 w 10 (some a_51)) _
  generalize e_58 : sr h_52 w 10 (some a_51) = h_57
  replace k := k h_57 e_58.symm
  refine R_ps 2 (pc2 := 65) (L2 := [some (vr (some w))]) (st2 := [vi 10, vr (some w)]) rfl ?_
  obtain ⟨t_64, k⟩ := k
  refine R_newa rfl t_64 ?_
  generalize e_63 : grow h_57 (N (nx h_57)) = h_61
  generalize e_62 : nx h_57 = a_60
  replace k := k a_60 h_61 e_62.symm e_63.symm
  refine R_putR rfl t0 ?_
  show WP T N _ _ _ _ (sr h_61 w 12 (some a_60)) _
  generalize e_67 : sr h_61 w 12 (some a_60) = h_66
  replace k := k h_66 e_67.symm
  refine R_ps 2 (pc2 := 73) (L2 := [some (vr (some w))]) (st2 := [vi 10, vr (some w)]) rfl ?_
  obtain ⟨t_73, k⟩ := k
  refine R_newa rfl t_73 ?_
  generalize e_72 : grow h_66 (N (nx h_66)) = h_70
  generalize e_71 : nx h_66 = a_69
  replace k := k a_69 h_70 e_71.symm e_72.symm
  refine R_putR rfl t0 ?_
  show WP T N _ _ _ _ (sr h_70 w 13 (some a_69)) _
  generalize e_76 : sr h_70 w 13 (some a_69) = h_75
  replace k := k h_75 e_76.symm
  refine R_ps 2 (pc2 := 82) (L2 := [some (vr (some w))]) (st2 := [vi 3936, vr (some w)]) rfl ?_
  obtain ⟨t_82, k⟩ := k
  refine R_newa rfl t_82 ?_
  generalize e_81 : grow h_75 (N (nx h_75)) = h_79
  generalize e_80 : nx h_75 = a_78
  replace k := k a_78 h_79 e_80.symm e_81.symm
  refine R_putR rfl t0 ?_
  show WP T N _ _ _ _ (sr h_79 w 14 (some a_78)) _
  generalize e_85 : sr h_79 w 14 (some a_78) = h_84
  replace k := k h_84 e_85.symm
  refine R_ps 2 (pc2 := 91) (L2 := [some (vr (some w))]) (st2 := [vi 3936, vr (some w)]) rfl ?_
  obtain ⟨t_91, k⟩ := k
  refine R_newa rfl t_91 ?_
  generalize e_90 : grow h_84 (N (nx h_84)) = h_88
  generalize e_89 : nx h_84 = a_87
  replace k := k a_87 h_88 e_89.symm e_90.symm
  refine R_putR rfl t0 ?_
  show WP T N _ _ _ _ (sr h_88 w 15 (some a_87)) _
  generalize e_94 : sr h_88 w 15 (some a_87) = h_93
  replace k := k h_93 e_94.symm
  refine R_ps 2 (pc2 := 99) (L2 := [some (vr (some w))]) (st2 := [vi 30, vr (some w)]) rfl ?_
  obtain ⟨t_100, k⟩ := k
  refine R_newa rfl t_100 ?_
  generalize e_99 : grow h_93 (N (nx h_93)) = h_97
  generalize e_98 : nx h_93 = a_96
  replace k := k a_96 h_97 e_98.symm e_99.symm
  refine R_putR rfl t0 ?_
  show WP T N _ _ _ _ (sr h_97 w 16 (some a_96)) _
  generalize e_103 : sr h_97 w 16 (some a_96) = h_102
  replace k := k h_102 e_103.symm
  refine R_ps 2 (pc2 := 107) (L2 := [some (vr (some w))]) (st2 := [vi 30, vr (some w)]) rfl ?_
  obtain ⟨t_109, k⟩ := k
  refine R_newa rfl t_109 ?_
  generalize e_108 : grow h_102 (N (nx h_102)) = h_106
  generalize e_107 : nx h_102 = a_105
  replace k := k a_105 h_106 e_107.symm e_108.symm
  refine R_putR rfl t0 ?_
  show WP T N _ _ _ _ (sr h_106 w 17 (some a_105)) _
  generalize e_112 : sr h_106 w 17 (some a_105) = h_111
  replace k := k h_111 e_112.symm
  exact R_ret rfl rfl ⟨rfl, k⟩
/-- DroneCorridorsModel.thrown -/
theorem m156 {T N : Nat → Nat} {h : PH} {w : Nat} {K : Int32 → PH → Prop} (t0 : T w = 12) (k : (K (gi h w 0) h)) : CI T N 156 [vr (some w)] h K := by
  show WP T N 156 0 [some (vr (some w))] [] h _
  refine R_ps 1 (pc2 := 1) (L2 := [some (vr (some w))]) (st2 := [vr (some w)]) rfl ?_
  refine R_getI rfl t0 ?_
  exact R_iret rfl rfl ⟨_, rfl, k⟩
/-- DroneCorridorsModel.no -/
theorem m157 {T N : Nat → Nat} {h : PH} {w : Nat} {x1 : Int32} {K : Int32 → PH → Prop} (t0 : T w = 12) (k : (∀ h_2, h_2 = si h w 0 x1 → K 0 h_2)) : CI T N 157 [vr (some w), vi x1] h K := by
  show WP T N 157 0 [some (vr (some w)), some (vi x1)] [] h _
  refine R_ps 2 (pc2 := 2) (L2 := [some (vr (some w)), some (vi x1)]) (st2 := [vi x1, vr (some w)]) rfl ?_
  refine R_putI rfl t0 ?_
  show WP T N _ _ _ _ (si h w 0 x1) _
  generalize e_3 : si h w 0 x1 = h_2
  replace k := k h_2 e_3.symm
  refine R_ps 1 (pc2 := 6) (L2 := [some (vr (some w)), some (vi x1)]) (st2 := [vi 0]) rfl ?_
  exact R_iret rfl rfl ⟨_, rfl, k⟩
/-- DroneCorridorsModel.isIn -/
theorem m158 {T N : Nat → Nat} {h : PH} {x0 : Int32} {x1 : Int32} {x2 : Int32} {K : Int32 → PH → Prop} (k : (((x0 < x1 → (K 0 h)) ∧ (¬ (x0 < x1) → (((x2 < x0 → (K 0 h)) ∧ (¬ (x2 < x0) → (K 1 h)))))))) : CI T N 158 [vi x0, vi x1, vi x2] h K := by
  show WP T N 158 0 [some (vi x0), some (vi x1), some (vi x2)] [] h _
  refine R_ps 2 (pc2 := 2) (L2 := [some (vi x0), some (vi x1), some (vi x2)]) (st2 := [vi x1, vi x0]) rfl ?_
  refine R_if rfl (fun c_1 => ?_) (fun c_1 => ?_)
  · have k := k.1 c_1
    refine R_ps 1 (pc2 := 15) (L2 := [some (vi x0), some (vi x1), some (vi x2)]) (st2 := [vi 0]) rfl ?_
    exact R_zret rfl rfl (Or.inl rfl) ⟨_, rfl, k⟩
  · have k := k.2 c_1
    refine R_ps 2 (pc2 := 7) (L2 := [some (vi x0), some (vi x1), some (vi x2)]) (st2 := [vi x2, vi x0]) rfl ?_
    refine R_if rfl (fun c_3 => ?_) (fun c_3 => ?_)
    · have k := k.1 c_3
      refine R_ps 1 (pc2 := 15) (L2 := [some (vi x0), some (vi x1), some (vi x2)]) (st2 := [vi 0]) rfl ?_
      exact R_zret rfl rfl (Or.inl rfl) ⟨_, rfl, k⟩
    · have k := k.2 c_3
      refine R_ps 2 (pc2 := 15) (L2 := [some (vi x0), some (vi x1), some (vi x2)]) (st2 := [vi 1]) rfl ?_
      exact R_zret rfl rfl (Or.inr rfl) ⟨_, rfl, k⟩
/-- DroneCorridorsModel.abs -/
theorem m159 {T N : Nat → Nat} {h : PH} {x0 : Int32} {K : Int32 → PH → Prop} (k : (((x0 < 0 → (K (-x0) h)) ∧ (¬ (x0 < 0) → (K x0 h))))) : CI T N 159 [vi x0] h K := by
  show WP T N 159 0 [some (vi x0)] [] h _
  refine R_ps 1 (pc2 := 1) (L2 := [some (vi x0)]) (st2 := [vi x0]) rfl ?_
  refine R_if0 rfl (fun c_1 => ?_) (fun c_1 => ?_)
  · have k := k.2 (i32_nlt c_1)
    refine R_ps 1 (pc2 := 10) (L2 := [some (vi x0)]) (st2 := [vi x0]) rfl ?_
    exact R_iret rfl rfl ⟨_, rfl, k⟩
  · have k := k.1 (i32_lt c_1)
    refine R_ps 3 (pc2 := 10) (L2 := [some (vi x0)]) (st2 := [vi (-x0)]) rfl ?_
    exact R_iret rfl rfl ⟨_, rfl, k⟩
/-- DroneCorridorsModel.keeps -/
theorem m160 {T N : Nat → Nat} {h : PH} {w : Nat} {K : PH → Prop} (t0 : T w = 12) (k : ((((gi h w 6) = 8 → (WV T N 160 11 [some (vr (some w)), some (vi 0)] [] h K)) ∧ (¬ ((gi h w 6) = 8) → (WV T N 160 52 [some (vr (some w)), some (vi 0)] [] h K))))) : CV T N 160 [vr (some w)] h K := by
  show WP T N 160 0 [some (vr (some w)), none] [] h _
  refine R_ps 1 (pc2 := 1) (L2 := [some (vr (some w)), none]) (st2 := [vr (some w)]) rfl ?_
  refine R_getI rfl t0 ?_
  refine R_ps 1 (pc2 := 6) (L2 := [some (vr (some w)), none]) (st2 := [vi 8, vi (gi h w 6)]) rfl ?_
  refine R_if rfl (fun c_2 => ?_) (fun c_2 => ?_)
  · have k := k.2 c_2
    refine R_ps 2 (pc2 := 52) (L2 := [some (vr (some w)), some (vi 0)]) (st2 := []) rfl ?_
    exact k
  · have k := k.1 (Classical.not_not.mp c_2)
    refine R_ps 2 (pc2 := 11) (L2 := [some (vr (some w)), some (vi 0)]) (st2 := []) rfl ?_
    exact k
theorem m160_11 {T N : Nat → Nat} {h : PH} {w : Nat} {x1 : Int32} {K : PH → Prop} (t0 : T w = 12) (k : (((x1 < 3143 → (∃ a_9, (gr h w 5) = some a_9 ∧ T a_9 = 22 ∧ inb (x1 + 449) (N a_9) ∧ inb x1 (N a_9) ∧ ∀ h_14, h_14 = si h a_9 (Int32.toNatClampNeg x1) (gi h a_9 (Int32.toNatClampNeg (x1 + 449))) → WV T N 160 11 [some (vr (some w)), some (vi (x1 + 1))] [] h_14 K)) ∧ (¬ (x1 < 3143) → (∀ h_4, h_4 = si h w 6 ((gi h w 6) - 1) → WV T N 160 52 [some (vr (some w)), some (vi 0)] [] h_4 K))))) : WV T N 160 11 [some (vr (some w)), some (vi x1)] [] h K := by
  show WP T N 160 11 [some (vr (some w)), some (vi x1)] [] h _
  refine R_ps 2 (pc2 := 15) (L2 := [some (vr (some w)), some (vi x1)]) (st2 := [vi 3143, vi x1]) rfl ?_
  refine R_if rfl (fun c_1 => ?_) (fun c_1 => ?_)
  · have k := k.2 (i32_nlt c_1)
    refine R_ps 2 (pc2 := 42) (L2 := [some (vr (some w)), some (vi x1)]) (st2 := [vr (some w), vr (some w)]) rfl ?_
    refine R_getI rfl t0 ?_
    refine R_ps 2 (pc2 := 47) (L2 := [some (vr (some w)), some (vi x1)]) (st2 := [vi ((gi h w 6) - 1), vr (some w)]) rfl ?_
    refine R_putI rfl t0 ?_
    show WP T N _ _ _ _ (si h w 6 ((gi h w 6) - 1)) _
    generalize e_5 : si h w 6 ((gi h w 6) - 1) = h_4
    replace k := k h_4 e_5.symm
    refine R_ps 2 (pc2 := 52) (L2 := [some (vr (some w)), some (vi 0)]) (st2 := []) rfl ?_
    exact k
  · have k := k.1 (i32_lt c_1)
    refine R_ps 1 (pc2 := 19) (L2 := [some (vr (some w)), some (vi x1)]) (st2 := [vr (some w)]) rfl ?_
    refine R_getR rfl t0 ?_
    refine R_ps 2 (pc2 := 24) (L2 := [some (vr (some w)), some (vi x1)]) (st2 := [vr (some w), vi x1, vr (gr h w 5)]) rfl ?_
    refine R_getR rfl t0 ?_
    refine R_ps 3 (pc2 := 32) (L2 := [some (vr (some w)), some (vi x1)]) (st2 := [vi (x1 + 449), vr (gr h w 5), vi x1, vr (gr h w 5)]) rfl ?_
    obtain ⟨a_9, e_10, k⟩ := k
    rw [e_10]
    obtain ⟨t_11, k⟩ := k
    obtain ⟨t_12, k⟩ := k
    refine R_iald rfl (Or.inl t_11) t_12 ?_
    obtain ⟨t_16, k⟩ := k
    refine R_iast rfl t_11 t_16  ?_
    show WP T N _ _ _ _ (si h a_9 (Int32.toNatClampNeg x1) (gi h a_9 (Int32.toNatClampNeg (x1 + 449)))) _
    generalize e_15 : si h a_9 (Int32.toNatClampNeg x1) (gi h a_9 (Int32.toNatClampNeg (x1 + 449))) = h_14
    replace k := k h_14 e_15.symm
    refine R_ps 2 (pc2 := 11) (L2 := [some (vr (some w)), some (vi (x1 + 1))]) (st2 := []) rfl ?_
    exact k
theorem m160_52 {T N : Nat → Nat} {h : PH} {w : Nat} {x1 : Int32} {K : PH → Prop} (t0 : T w = 12) (k : (((x1 < 449 → (∃ a_11, (gr h w 1) = some a_11 ∧ T a_11 = 22 ∧ inb x1 (N a_11) ∧ ∃ a_16, (gr h w 5) = some a_16 ∧ T a_16 = 22 ∧ inb (((gi h w 6) * 449) + x1) (N a_16) ∧ ∀ h_18, h_18 = si h a_16 (Int32.toNatClampNeg (((gi h w 6) * 449) + x1)) (gi h a_11 (Int32.toNatClampNeg x1)) → WV T N 160 52 [some (vr (some w)), some (vi (x1 + 1))] [] h_18 K)) ∧ (¬ (x1 < 449) → (∀ h_4, h_4 = si h w 6 ((gi h w 6) + 1) → K h_4))))) : WV T N 160 52 [some (vr (some w)), some (vi x1)] [] h K := by
  show WP T N 160 52 [some (vr (some w)), some (vi x1)] [] h _
  refine R_ps 2 (pc2 := 56) (L2 := [some (vr (some w)), some (vi x1)]) (st2 := [vi 449, vi x1]) rfl ?_
  refine R_if rfl (fun c_1 => ?_) (fun c_1 => ?_)
  · have k := k.2 (i32_nlt c_1)
    refine R_ps 2 (pc2 := 88) (L2 := [some (vr (some w)), some (vi x1)]) (st2 := [vr (some w), vr (some w)]) rfl ?_
    refine R_getI rfl t0 ?_
    refine R_ps 2 (pc2 := 93) (L2 := [some (vr (some w)), some (vi x1)]) (st2 := [vi ((gi h w 6) + 1), vr (some w)]) rfl ?_
    refine R_putI rfl t0 ?_
    show WP T N _ _ _ _ (si h w 6 ((gi h w 6) + 1)) _
    generalize e_5 : si h w 6 ((gi h w 6) + 1) = h_4
    replace k := k h_4 e_5.symm
    exact R_ret rfl rfl ⟨rfl, k⟩
  · have k := k.1 (i32_lt c_1)
    refine R_ps 1 (pc2 := 60) (L2 := [some (vr (some w)), some (vi x1)]) (st2 := [vr (some w)]) rfl ?_
    refine R_getR rfl t0 ?_
    refine R_ps 1 (pc2 := 64) (L2 := [some (vr (some w)), some (vi x1)]) (st2 := [vr (some w), vr (gr h w 5)]) rfl ?_
    refine R_getI rfl t0 ?_
    refine R_ps 5 (pc2 := 74) (L2 := [some (vr (some w)), some (vi x1)]) (st2 := [vr (some w), vi (((gi h w 6) * 449) + x1), vr (gr h w 5)]) rfl ?_
    refine R_getR rfl t0 ?_
    refine R_ps 1 (pc2 := 78) (L2 := [some (vr (some w)), some (vi x1)]) (st2 := [vi x1, vr (gr h w 1), vi (((gi h w 6) * 449) + x1), vr (gr h w 5)]) rfl ?_
    obtain ⟨a_11, e_12, k⟩ := k
    rw [e_12]
    obtain ⟨t_13, k⟩ := k
    obtain ⟨t_14, k⟩ := k
    refine R_iald rfl (Or.inl t_13) t_14 ?_
    obtain ⟨a_16, e_17, k⟩ := k
    rw [e_17]
    obtain ⟨t_20, k⟩ := k
    obtain ⟨t_21, k⟩ := k
    refine R_iast rfl t_20 t_21  ?_
    show WP T N _ _ _ _ (si h a_16 (Int32.toNatClampNeg (((gi h w 6) * 449) + x1)) (gi h a_11 (Int32.toNatClampNeg x1))) _
    generalize e_19 : si h a_16 (Int32.toNatClampNeg (((gi h w 6) * 449) + x1)) (gi h a_11 (Int32.toNatClampNeg x1)) = h_18
    replace k := k h_18 e_19.symm
    refine R_ps 2 (pc2 := 52) (L2 := [some (vr (some w)), some (vi (x1 + 1))]) (st2 := []) rfl ?_
    exact k
/-- DroneCorridorsModel.copies -/
theorem m161 {T N : Nat → Nat} {h : PH} {a0 : Nat} {a1 : Nat} {K : PH → Prop} (k : (WV T N 161 2 [some (vr (some a0)), some (vr (some a1)), some (vi 0)] [] h K)) : CV T N 161 [vr (some a0), vr (some a1)] h K := by
  show WP T N 161 0 [some (vr (some a0)), some (vr (some a1)), none] [] h _
  refine R_ps 2 (pc2 := 2) (L2 := [some (vr (some a0)), some (vr (some a1)), some (vi 0)]) (st2 := []) rfl ?_
  exact k
theorem m161_2 {T N : Nat → Nat} {h : PH} {a0 : Nat} {a1 : Nat} {x2 : Int32} {K : PH → Prop} (t0 : T a0 = 22) (t1 : T a1 = 22) (k : (((x2 < 449 → (inb x2 (N a0) ∧ inb x2 (N a1) ∧ ∀ h_6, h_6 = si h a1 (Int32.toNatClampNeg x2) (gi h a0 (Int32.toNatClampNeg x2)) → WV T N 161 2 [some (vr (some a0)), some (vr (some a1)), some (vi (x2 + 1))] [] h_6 K)) ∧ (¬ (x2 < 449) → (K h))))) : WV T N 161 2 [some (vr (some a0)), some (vr (some a1)), some (vi x2)] [] h K := by
  show WP T N 161 2 [some (vr (some a0)), some (vr (some a1)), some (vi x2)] [] h _
  refine R_ps 2 (pc2 := 6) (L2 := [some (vr (some a0)), some (vr (some a1)), some (vi x2)]) (st2 := [vi 449, vi x2]) rfl ?_
  refine R_if rfl (fun c_1 => ?_) (fun c_1 => ?_)
  · have k := k.2 (i32_nlt c_1)
    exact R_ret rfl rfl ⟨rfl, k⟩
  · have k := k.1 (i32_lt c_1)
    refine R_ps 4 (pc2 := 13) (L2 := [some (vr (some a0)), some (vr (some a1)), some (vi x2)]) (st2 := [vi x2, vr (some a0), vi x2, vr (some a1)]) rfl ?_
    obtain ⟨t_4, k⟩ := k
    refine R_iald rfl (Or.inl t0) t_4 ?_
    obtain ⟨t_8, k⟩ := k
    refine R_iast rfl t1 t_8  ?_
    show WP T N _ _ _ _ (si h a1 (Int32.toNatClampNeg x2) (gi h a0 (Int32.toNatClampNeg x2))) _
    generalize e_7 : si h a1 (Int32.toNatClampNeg x2) (gi h a0 (Int32.toNatClampNeg x2)) = h_6
    replace k := k h_6 e_7.symm
    refine R_ps 2 (pc2 := 2) (L2 := [some (vr (some a0)), some (vr (some a1)), some (vi (x2 + 1))]) (st2 := []) rfl ?_
    exact k
/-- DroneCorridorsModel.isNode -/
theorem m162 {T N : Nat → Nat} {h : PH} {w : Nat} {x1 : Int32} {K : Int32 → PH → Prop} (t0 : T w = 12) (k : (∃ a_3, (gr h w 1) = some a_3 ∧ T a_3 = 22 ∧ inb 0 (N a_3) ∧ CI T N 158 [vi x1, vi 0, vi ((gi h a_3 0) - 1)] h (fun x_9 h_8 => ((x_9 = 0 ∨ x_9 = 1) ∧ K x_9 h_8)))) : CI T N 162 [vr (some w), vi x1] h K := by
  show WP T N 162 0 [some (vr (some w)), some (vi x1)] [] h _
  refine R_ps 3 (pc2 := 3) (L2 := [some (vr (some w)), some (vi x1)]) (st2 := [vr (some w), vi 0, vi x1]) rfl ?_
  refine R_getR rfl t0 ?_
  refine R_ps 1 (pc2 := 7) (L2 := [some (vr (some w)), some (vi x1)]) (st2 := [vi 0, vr (gr h w 1), vi 0, vi x1]) rfl ?_
  obtain ⟨a_3, e_4, k⟩ := k
  rw [e_4]
  obtain ⟨t_5, k⟩ := k
  obtain ⟨t_6, k⟩ := k
  refine R_iald rfl (Or.inl t_5) t_6 ?_
  refine R_ps 2 (pc2 := 10) (L2 := [some (vr (some w)), some (vi x1)]) (st2 := [vi ((gi h a_3 0) - 1), vi 0, vi x1]) rfl ?_
  refine R_cI (as := [vi x1, vi 0, vi ((gi h a_3 0) - 1)]) rfl rfl ⟨Nat.le_of_ble_eq_true rfl, Nat.le_of_ble_eq_true rfl, rfl, (Or.inl rfl)⟩ rfl rfl k (fun x_9 h_8 k => ?_)
  obtain ⟨t_11, k⟩ := k
  exact R_zret rfl rfl t_11 ⟨_, rfl, k⟩
/-- DroneCorridorsModel.isCorridor -/
theorem m163 {T N : Nat → Nat} {h : PH} {w : Nat} {x1 : Int32} {K : Int32 → PH → Prop} (t0 : T w = 12) (k : (∃ a_3, (gr h w 1) = some a_3 ∧ T a_3 = 22 ∧ inb 11 (N a_3) ∧ CI T N 158 [vi x1, vi 0, vi ((gi h a_3 11) - 1)] h (fun x_9 h_8 => ((x_9 = 0 ∨ x_9 = 1) ∧ K x_9 h_8)))) : CI T N 163 [vr (some w), vi x1] h K := by
  show WP T N 163 0 [some (vr (some w)), some (vi x1)] [] h _
  refine R_ps 3 (pc2 := 3) (L2 := [some (vr (some w)), some (vi x1)]) (st2 := [vr (some w), vi 0, vi x1]) rfl ?_
  refine R_getR rfl t0 ?_
  refine R_ps 1 (pc2 := 8) (L2 := [some (vr (some w)), some (vi x1)]) (st2 := [vi 11, vr (gr h w 1), vi 0, vi x1]) rfl ?_
  obtain ⟨a_3, e_4, k⟩ := k
  rw [e_4]
  obtain ⟨t_5, k⟩ := k
  obtain ⟨t_6, k⟩ := k
  refine R_iald rfl (Or.inl t_5) t_6 ?_
  refine R_ps 2 (pc2 := 11) (L2 := [some (vr (some w)), some (vi x1)]) (st2 := [vi ((gi h a_3 11) - 1), vi 0, vi x1]) rfl ?_
  refine R_cI (as := [vi x1, vi 0, vi ((gi h a_3 11) - 1)]) rfl rfl ⟨Nat.le_of_ble_eq_true rfl, Nat.le_of_ble_eq_true rfl, rfl, (Or.inl rfl)⟩ rfl rfl k (fun x_9 h_8 k => ?_)
  obtain ⟨t_11, k⟩ := k
  exact R_zret rfl rfl t_11 ⟨_, rfl, k⟩
/-- DroneCorridorsModel.isDrone -/
theorem m164 {T N : Nat → Nat} {h : PH} {w : Nat} {x1 : Int32} {K : Int32 → PH → Prop} (t0 : T w = 12) (k : (∃ a_3, (gr h w 1) = some a_3 ∧ T a_3 = 22 ∧ inb 117 (N a_3) ∧ CI T N 158 [vi x1, vi 0, vi ((gi h a_3 117) - 1)] h (fun x_9 h_8 => ((x_9 = 0 ∨ x_9 = 1) ∧ K x_9 h_8)))) : CI T N 164 [vr (some w), vi x1] h K := by
  show WP T N 164 0 [some (vr (some w)), some (vi x1)] [] h _
  refine R_ps 3 (pc2 := 3) (L2 := [some (vr (some w)), some (vi x1)]) (st2 := [vr (some w), vi 0, vi x1]) rfl ?_
  refine R_getR rfl t0 ?_
  refine R_ps 1 (pc2 := 8) (L2 := [some (vr (some w)), some (vi x1)]) (st2 := [vi 117, vr (gr h w 1), vi 0, vi x1]) rfl ?_
  obtain ⟨a_3, e_4, k⟩ := k
  rw [e_4]
  obtain ⟨t_5, k⟩ := k
  obtain ⟨t_6, k⟩ := k
  refine R_iald rfl (Or.inl t_5) t_6 ?_
  refine R_ps 2 (pc2 := 11) (L2 := [some (vr (some w)), some (vi x1)]) (st2 := [vi ((gi h a_3 117) - 1), vi 0, vi x1]) rfl ?_
  refine R_cI (as := [vi x1, vi 0, vi ((gi h a_3 117) - 1)]) rfl rfl ⟨Nat.le_of_ble_eq_true rfl, Nat.le_of_ble_eq_true rfl, rfl, (Or.inl rfl)⟩ rfl rfl k (fun x_9 h_8 k => ?_)
  obtain ⟨t_11, k⟩ := k
  exact R_zret rfl rfl t_11 ⟨_, rfl, k⟩
/-- DroneCorridorsModel.end -/
theorem m165 {T N : Nat → Nat} {h : PH} {w : Nat} {x1 : Int32} {x2 : Int32} {K : Int32 → PH → Prop} (t0 : T w = 12) (k : (∃ a_3, (gr h w 1) = some a_3 ∧ T a_3 = 22 ∧ inb ((12 + (4 * x1)) + x2) (N a_3) ∧ K (gi h a_3 (Int32.toNatClampNeg ((12 + (4 * x1)) + x2))) h)) : CI T N 165 [vr (some w), vi x1, vi x2] h K := by
  show WP T N 165 0 [some (vr (some w)), some (vi x1), some (vi x2)] [] h _
  refine R_ps 1 (pc2 := 1) (L2 := [some (vr (some w)), some (vi x1), some (vi x2)]) (st2 := [vr (some w)]) rfl ?_
  refine R_getR rfl t0 ?_
  refine R_ps 7 (pc2 := 12) (L2 := [some (vr (some w)), some (vi x1), some (vi x2)]) (st2 := [vi ((12 + (4 * x1)) + x2), vr (gr h w 1)]) rfl ?_
  obtain ⟨a_3, e_4, k⟩ := k
  rw [e_4]
  obtain ⟨t_5, k⟩ := k
  obtain ⟨t_6, k⟩ := k
  refine R_iald rfl (Or.inl t_5) t_6 ?_
  exact R_iret rfl rfl ⟨_, rfl, k⟩
/-- DroneCorridorsModel.length -/
theorem m166 {T N : Nat → Nat} {h : PH} {w : Nat} {x1 : Int32} {K : Int32 → PH → Prop} (t0 : T w = 12) (k : (∃ a_3, (gr h w 1) = some a_3 ∧ T a_3 = 22 ∧ inb ((12 + (4 * x1)) + 2) (N a_3) ∧ K (gi h a_3 (Int32.toNatClampNeg ((12 + (4 * x1)) + 2))) h)) : CI T N 166 [vr (some w), vi x1] h K := by
  show WP T N 166 0 [some (vr (some w)), some (vi x1)] [] h _
  refine R_ps 1 (pc2 := 1) (L2 := [some (vr (some w)), some (vi x1)]) (st2 := [vr (some w)]) rfl ?_
  refine R_getR rfl t0 ?_
  refine R_ps 7 (pc2 := 12) (L2 := [some (vr (some w)), some (vi x1)]) (st2 := [vi ((12 + (4 * x1)) + 2), vr (gr h w 1)]) rfl ?_
  obtain ⟨a_3, e_4, k⟩ := k
  rw [e_4]
  obtain ⟨t_5, k⟩ := k
  obtain ⟨t_6, k⟩ := k
  refine R_iald rfl (Or.inl t_5) t_6 ?_
  exact R_iret rfl rfl ⟨_, rfl, k⟩
/-- DroneCorridorsModel.costs -/
theorem m167 {T N : Nat → Nat} {h : PH} {w : Nat} {x1 : Int32} {x2 : Int32} {K : Int32 → PH → Prop} (t0 : T w = 12) (k : (∃ a_3, (gr h w 1) = some a_3 ∧ T a_3 = 22 ∧ inb ((12 + (4 * x1)) + 3) (N a_3) ∧ CI T N 166 [vr (some w), vi x1] h (fun x_9 h_8 => (((x2 = 0 → (K ((2 * x_9) - (gi h a_3 (Int32.toNatClampNeg ((12 + (4 * x1)) + 3)))) h_8)) ∧ (¬ (x2 = 0) → (K ((2 * x_9) - (-(gi h a_3 (Int32.toNatClampNeg ((12 + (4 * x1)) + 3))))) h_8))))))) : CI T N 167 [vr (some w), vi x1, vi x2] h K := by
  show WP T N 167 0 [some (vr (some w)), some (vi x1), some (vi x2), none] [] h _
  refine R_ps 1 (pc2 := 1) (L2 := [some (vr (some w)), some (vi x1), some (vi x2), none]) (st2 := [vr (some w)]) rfl ?_
  refine R_getR rfl t0 ?_
  refine R_ps 7 (pc2 := 12) (L2 := [some (vr (some w)), some (vi x1), some (vi x2), none]) (st2 := [vi ((12 + (4 * x1)) + 3), vr (gr h w 1)]) rfl ?_
  obtain ⟨a_3, e_4, k⟩ := k
  rw [e_4]
  obtain ⟨t_5, k⟩ := k
  obtain ⟨t_6, k⟩ := k
  refine R_iald rfl (Or.inl t_5) t_6 ?_
  refine R_ps 4 (pc2 := 17) (L2 := [some (vr (some w)), some (vi x1), some (vi x2), some (vi (gi h a_3 (Int32.toNatClampNeg ((12 + (4 * x1)) + 3))))]) (st2 := [vi x1, vr (some w), vi 2]) rfl ?_
  refine R_cI (as := [vr (some w), vi x1]) rfl rfl ⟨Nat.le_of_ble_eq_true rfl, Nat.le_of_ble_eq_true rfl, rfl, (Or.inr ⟨_, rfl, t0⟩)⟩ rfl rfl k (fun x_9 h_8 k => ?_)
  refine R_ps 2 (pc2 := 22) (L2 := [some (vr (some w)), some (vi x1), some (vi x2), some (vi (gi h a_3 (Int32.toNatClampNeg ((12 + (4 * x1)) + 3))))]) (st2 := [vi x2, vi (2 * x_9)]) rfl ?_
  refine R_if0 rfl (fun c_10 => ?_) (fun c_10 => ?_)
  · have k := k.2 c_10
    refine R_ps 3 (pc2 := 32) (L2 := [some (vr (some w)), some (vi x1), some (vi x2), some (vi (gi h a_3 (Int32.toNatClampNeg ((12 + (4 * x1)) + 3))))]) (st2 := [vi ((2 * x_9) - (-(gi h a_3 (Int32.toNatClampNeg ((12 + (4 * x1)) + 3)))))]) rfl ?_
    exact R_iret rfl rfl ⟨_, rfl, k⟩
  · have k := k.1 (Classical.not_not.mp c_10)
    refine R_ps 3 (pc2 := 32) (L2 := [some (vr (some w)), some (vi x1), some (vi x2), some (vi (gi h a_3 (Int32.toNatClampNeg ((12 + (4 * x1)) + 3))))]) (st2 := [vi ((2 * x_9) - (gi h a_3 (Int32.toNatClampNeg ((12 + (4 * x1)) + 3))))]) rfl ?_
    exact R_iret rfl rfl ⟨_, rfl, k⟩
/-- DroneCorridorsModel.of -/
theorem m168 {T N : Nat → Nat} {h : PH} {w : Nat} {x1 : Int32} {x2 : Int32} {K : Int32 → PH → Prop} (t0 : T w = 12) (k : (∃ a_3, (gr h w 1) = some a_3 ∧ T a_3 = 22 ∧ inb ((118 + (55 * x1)) + x2) (N a_3) ∧ K (gi h a_3 (Int32.toNatClampNeg ((118 + (55 * x1)) + x2))) h)) : CI T N 168 [vr (some w), vi x1, vi x2] h K := by
  show WP T N 168 0 [some (vr (some w)), some (vi x1), some (vi x2)] [] h _
  refine R_ps 1 (pc2 := 1) (L2 := [some (vr (some w)), some (vi x1), some (vi x2)]) (st2 := [vr (some w)]) rfl ?_
  refine R_getR rfl t0 ?_
  refine R_ps 7 (pc2 := 13) (L2 := [some (vr (some w)), some (vi x1), some (vi x2)]) (st2 := [vi ((118 + (55 * x1)) + x2), vr (gr h w 1)]) rfl ?_
  obtain ⟨a_3, e_4, k⟩ := k
  rw [e_4]
  obtain ⟨t_5, k⟩ := k
  obtain ⟨t_6, k⟩ := k
  refine R_iald rfl (Or.inl t_5) t_6 ?_
  exact R_iret rfl rfl ⟨_, rfl, k⟩
/-- DroneCorridorsModel.sets -/
theorem m169 {T N : Nat → Nat} {h : PH} {w : Nat} {x1 : Int32} {x2 : Int32} {x3 : Int32} {K : PH → Prop} (t0 : T w = 12) (k : (∃ a_3, (gr h w 1) = some a_3 ∧ T a_3 = 22 ∧ inb ((118 + (55 * x1)) + x2) (N a_3) ∧ ∀ h_5, h_5 = si h a_3 (Int32.toNatClampNeg ((118 + (55 * x1)) + x2)) x3 → K h_5)) : CV T N 169 [vr (some w), vi x1, vi x2, vi x3] h K := by
  show WP T N 169 0 [some (vr (some w)), some (vi x1), some (vi x2), some (vi x3)] [] h _
  refine R_ps 1 (pc2 := 1) (L2 := [some (vr (some w)), some (vi x1), some (vi x2), some (vi x3)]) (st2 := [vr (some w)]) rfl ?_
  refine R_getR rfl t0 ?_
  refine R_ps 8 (pc2 := 14) (L2 := [some (vr (some w)), some (vi x1), some (vi x2), some (vi x3)]) (st2 := [vi x3, vi ((118 + (55 * x1)) + x2), vr (gr h w 1)]) rfl ?_
  obtain ⟨a_3, e_4, k⟩ := k
  rw [e_4]
  obtain ⟨t_7, k⟩ := k
  obtain ⟨t_8, k⟩ := k
  refine R_iast rfl t_7 t_8  ?_
  show WP T N _ _ _ _ (si h a_3 (Int32.toNatClampNeg ((118 + (55 * x1)) + x2)) x3) _
  generalize e_6 : si h a_3 (Int32.toNatClampNeg ((118 + (55 * x1)) + x2)) x3 = h_5
  replace k := k h_5 e_6.symm
  exact R_ret rfl rfl ⟨rfl, k⟩
/-- DroneCorridorsModel.clear -/
theorem m170 {T N : Nat → Nat} {h : PH} {w : Nat} {K : Int32 → PH → Prop} (t0 : T w = 12) (k : (∀ h_2, h_2 = si h w 0 0 → ∃ a_6, (gr h_2 w 1) = some a_6 ∧ T a_6 = 22 ∧ inb 0 (N a_6) ∧ WI T N 170 14 [some (vr (some w)), some (vi (gi h_2 a_6 0)), some (vi 0)] [] h_2 K)) : CI T N 170 [vr (some w)] h K := by
  show WP T N 170 0 [some (vr (some w)), none, none] [] h _
  refine R_ps 2 (pc2 := 2) (L2 := [some (vr (some w)), none, none]) (st2 := [vi 0, vr (some w)]) rfl ?_
  refine R_putI rfl t0 ?_
  show WP T N _ _ _ _ (si h w 0 0) _
  generalize e_3 : si h w 0 0 = h_2
  replace k := k h_2 e_3.symm
  refine R_ps 1 (pc2 := 6) (L2 := [some (vr (some w)), none, none]) (st2 := [vr (some w)]) rfl ?_
  refine R_getR rfl t0 ?_
  refine R_ps 1 (pc2 := 10) (L2 := [some (vr (some w)), none, none]) (st2 := [vi 0, vr (gr h_2 w 1)]) rfl ?_
  obtain ⟨a_6, e_7, k⟩ := k
  rw [e_7]
  obtain ⟨t_8, k⟩ := k
  obtain ⟨t_9, k⟩ := k
  refine R_iald rfl (Or.inl t_8) t_9 ?_
  refine R_ps 3 (pc2 := 14) (L2 := [some (vr (some w)), some (vi (gi h_2 a_6 0)), some (vi 0)]) (st2 := []) rfl ?_
  exact k
theorem m170_14 {T N : Nat → Nat} {h : PH} {w : Nat} {x1 : Int32} {x2 : Int32} {K : Int32 → PH → Prop} (t0 : T w = 12) (k : (((x2 < 449 → (∃ a_8, (gr h w 1) = some a_8 ∧ T a_8 = 22 ∧ inb x2 (N a_8) ∧ ∀ h_10, h_10 = si h a_8 (Int32.toNatClampNeg x2) 0 → WI T N 170 14 [some (vr (some w)), some (vi x1), some (vi (x2 + 1))] [] h_10 K)) ∧ (¬ (x2 < 449) → (∀ h_3, h_3 = si h w 6 0 → K x1 h_3))))) : WI T N 170 14 [some (vr (some w)), some (vi x1), some (vi x2)] [] h K := by
  show WP T N 170 14 [some (vr (some w)), some (vi x1), some (vi x2)] [] h _
  refine R_ps 2 (pc2 := 18) (L2 := [some (vr (some w)), some (vi x1), some (vi x2)]) (st2 := [vi 449, vi x2]) rfl ?_
  refine R_if rfl (fun c_1 => ?_) (fun c_1 => ?_)
  · have k := k.2 (i32_nlt c_1)
    refine R_ps 2 (pc2 := 36) (L2 := [some (vr (some w)), some (vi x1), some (vi x2)]) (st2 := [vi 0, vr (some w)]) rfl ?_
    refine R_putI rfl t0 ?_
    show WP T N _ _ _ _ (si h w 6 0) _
    generalize e_4 : si h w 6 0 = h_3
    replace k := k h_3 e_4.symm
    refine R_ps 1 (pc2 := 40) (L2 := [some (vr (some w)), some (vi x1), some (vi x2)]) (st2 := [vi x1]) rfl ?_
    exact R_iret rfl rfl ⟨_, rfl, k⟩
  · have k := k.1 (i32_lt c_1)
    refine R_ps 1 (pc2 := 22) (L2 := [some (vr (some w)), some (vi x1), some (vi x2)]) (st2 := [vr (some w)]) rfl ?_
    refine R_getR rfl t0 ?_
    refine R_ps 2 (pc2 := 27) (L2 := [some (vr (some w)), some (vi x1), some (vi x2)]) (st2 := [vi 0, vi x2, vr (gr h w 1)]) rfl ?_
    obtain ⟨a_8, e_9, k⟩ := k
    rw [e_9]
    obtain ⟨t_12, k⟩ := k
    obtain ⟨t_13, k⟩ := k
    refine R_iast rfl t_12 t_13  ?_
    show WP T N _ _ _ _ (si h a_8 (Int32.toNatClampNeg x2) 0) _
    generalize e_11 : si h a_8 (Int32.toNatClampNeg x2) 0 = h_10
    replace k := k h_10 e_11.symm
    refine R_ps 2 (pc2 := 14) (L2 := [some (vr (some w)), some (vi x1), some (vi (x2 + 1))]) (st2 := []) rfl ?_
    exact k
/-- DroneCorridorsModel.addsNode -/
theorem m171 {T N : Nat → Nat} {h : PH} {w : Nat} {x1 : Int32} {K : Int32 → PH → Prop} (t0 : T w = 12) (k : (∃ a_3, (gr h w 1) = some a_3 ∧ T a_3 = 22 ∧ inb 0 (N a_3) ∧ (((gi h a_3 0) = 10 → (CI T N 157 [vr (some w), vi 1] h (fun x_58 h_57 => (K x_58 h_57)))) ∧ (¬ ((gi h a_3 0) = 10) → (∃ a_11, (gr h w 1) = some a_11 ∧ T a_11 = 22 ∧ inb 0 (N a_11) ∧ ((x1 = 0 → (inb (1 + (gi h a_11 0)) (N a_11) ∧ ∀ h_17, h_17 = si h a_11 (Int32.toNatClampNeg (1 + (gi h a_11 0))) 0 → ∃ a_22, (gr h_17 w 1) = some a_22 ∧ T a_22 = 22 ∧ inb 0 (N a_22) ∧ ∀ h_27, h_27 = si h_17 a_22 0 ((gi h_17 a_22 0) + 1) → ∃ a_31, (gr h_27 w 1) = some a_31 ∧ T a_31 = 22 ∧ inb 0 (N a_31) ∧ K ((gi h_27 a_31 0) - 1) h_27)) ∧ (¬ (x1 = 0) → (inb (1 + (gi h a_11 0)) (N a_11) ∧ ∀ h_37, h_37 = si h a_11 (Int32.toNatClampNeg (1 + (gi h a_11 0))) 1 → ∃ a_42, (gr h_37 w 1) = some a_42 ∧ T a_42 = 22 ∧ inb 0 (N a_42) ∧ ∀ h_47, h_47 = si h_37 a_42 0 ((gi h_37 a_42 0) + 1) → ∃ a_51, (gr h_47 w 1) = some a_51 ∧ T a_51 = 22 ∧ inb 0 (N a_51) ∧ K ((gi h_47 a_51 0) - 1) h_47)))))))) : CI T N 171 [vr (some w), vi x1] h K := by
  show WP T N 171 0 [some (vr (some w)), some (vi x1)] [] h _
  refine R_ps 1 (pc2 := 1) (L2 := [some (vr (some w)), some (vi x1)]) (st2 := [vr (some w)]) rfl ?_
  refine R_getR rfl t0 ?_
  refine R_ps 1 (pc2 := 5) (L2 := [some (vr (some w)), some (vi x1)]) (st2 := [vi 0, vr (gr h w 1)]) rfl ?_
  obtain ⟨a_3, e_4, k⟩ := k
  rw [e_4]
  obtain ⟨t_5, k⟩ := k
  obtain ⟨t_6, k⟩ := k
  refine R_iald rfl (Or.inl t_5) t_6 ?_
  refine R_ps 1 (pc2 := 8) (L2 := [some (vr (some w)), some (vi x1)]) (st2 := [vi 10, vi (gi h a_3 0)]) rfl ?_
  refine R_if rfl (fun c_7 => ?_) (fun c_7 => ?_)
  · have k := k.2 c_7
    refine R_ps 1 (pc2 := 18) (L2 := [some (vr (some w)), some (vi x1)]) (st2 := [vr (some w)]) rfl ?_
    refine R_getR rfl t0 ?_
    refine R_ps 2 (pc2 := 23) (L2 := [some (vr (some w)), some (vi x1)]) (st2 := [vr (some w), vi 1, vr (gr h w 1)]) rfl ?_
    refine R_getR rfl t0 ?_
    refine R_ps 1 (pc2 := 27) (L2 := [some (vr (some w)), some (vi x1)]) (st2 := [vi 0, vr (gr h w 1), vi 1, vr (gr h w 1)]) rfl ?_
    obtain ⟨a_11, e_12, k⟩ := k
    rw [e_12]
    obtain ⟨t_13, k⟩ := k
    obtain ⟨t_14, k⟩ := k
    refine R_iald rfl (Or.inl t_13) t_14 ?_
    refine R_ps 2 (pc2 := 30) (L2 := [some (vr (some w)), some (vi x1)]) (st2 := [vi x1, vi (1 + (gi h a_11 0)), vr (some a_11)]) rfl ?_
    refine R_if0 rfl (fun c_15 => ?_) (fun c_15 => ?_)
    · have k := k.1 c_15
      refine R_ps 1 (pc2 := 38) (L2 := [some (vr (some w)), some (vi x1)]) (st2 := [vi 0, vi (1 + (gi h a_11 0)), vr (some a_11)]) rfl ?_
      obtain ⟨t_19, k⟩ := k
      refine R_iast rfl t_13 t_19  ?_
      show WP T N _ _ _ _ (si h a_11 (Int32.toNatClampNeg (1 + (gi h a_11 0))) 0) _
      generalize e_18 : si h a_11 (Int32.toNatClampNeg (1 + (gi h a_11 0))) 0 = h_17
      replace k := k h_17 e_18.symm
      refine R_ps 1 (pc2 := 40) (L2 := [some (vr (some w)), some (vi x1)]) (st2 := [vr (some w)]) rfl ?_
      refine R_getR rfl t0 ?_
      refine R_ps 2 (pc2 := 45) (L2 := [some (vr (some w)), some (vi x1)]) (st2 := [vi 0, vr (gr h_17 w 1), vi 0, vr (gr h_17 w 1)]) rfl ?_
      obtain ⟨a_22, e_23, k⟩ := k
      rw [e_23]
      obtain ⟨t_24, k⟩ := k
      obtain ⟨t_25, k⟩ := k
      refine R_iald rfl (Or.inl t_24) t_25 ?_
      refine R_ps 2 (pc2 := 48) (L2 := [some (vr (some w)), some (vi x1)]) (st2 := [vi ((gi h_17 a_22 0) + 1), vi 0, vr (some a_22)]) rfl ?_
      refine R_iast rfl t_24 t_25  ?_
      show WP T N _ _ _ _ (si h_17 a_22 0 ((gi h_17 a_22 0) + 1)) _
      generalize e_28 : si h_17 a_22 0 ((gi h_17 a_22 0) + 1) = h_27
      replace k := k h_27 e_28.symm
      refine R_ps 1 (pc2 := 50) (L2 := [some (vr (some w)), some (vi x1)]) (st2 := [vr (some w)]) rfl ?_
      refine R_getR rfl t0 ?_
      refine R_ps 1 (pc2 := 54) (L2 := [some (vr (some w)), some (vi x1)]) (st2 := [vi 0, vr (gr h_27 w 1)]) rfl ?_
      obtain ⟨a_31, e_32, k⟩ := k
      rw [e_32]
      obtain ⟨t_33, k⟩ := k
      obtain ⟨t_34, k⟩ := k
      refine R_iald rfl (Or.inl t_33) t_34 ?_
      refine R_ps 2 (pc2 := 57) (L2 := [some (vr (some w)), some (vi x1)]) (st2 := [vi ((gi h_27 a_31 0) - 1)]) rfl ?_
      exact R_iret rfl rfl ⟨_, rfl, k⟩
    · have k := k.2 c_15
      refine R_ps 2 (pc2 := 38) (L2 := [some (vr (some w)), some (vi x1)]) (st2 := [vi 1, vi (1 + (gi h a_11 0)), vr (some a_11)]) rfl ?_
      obtain ⟨t_39, k⟩ := k
      refine R_iast rfl t_13 t_39  ?_
      show WP T N _ _ _ _ (si h a_11 (Int32.toNatClampNeg (1 + (gi h a_11 0))) 1) _
      generalize e_38 : si h a_11 (Int32.toNatClampNeg (1 + (gi h a_11 0))) 1 = h_37
      replace k := k h_37 e_38.symm
      refine R_ps 1 (pc2 := 40) (L2 := [some (vr (some w)), some (vi x1)]) (st2 := [vr (some w)]) rfl ?_
      refine R_getR rfl t0 ?_
      refine R_ps 2 (pc2 := 45) (L2 := [some (vr (some w)), some (vi x1)]) (st2 := [vi 0, vr (gr h_37 w 1), vi 0, vr (gr h_37 w 1)]) rfl ?_
      obtain ⟨a_42, e_43, k⟩ := k
      rw [e_43]
      obtain ⟨t_44, k⟩ := k
      obtain ⟨t_45, k⟩ := k
      refine R_iald rfl (Or.inl t_44) t_45 ?_
      refine R_ps 2 (pc2 := 48) (L2 := [some (vr (some w)), some (vi x1)]) (st2 := [vi ((gi h_37 a_42 0) + 1), vi 0, vr (some a_42)]) rfl ?_
      refine R_iast rfl t_44 t_45  ?_
      show WP T N _ _ _ _ (si h_37 a_42 0 ((gi h_37 a_42 0) + 1)) _
      generalize e_48 : si h_37 a_42 0 ((gi h_37 a_42 0) + 1) = h_47
      replace k := k h_47 e_48.symm
      refine R_ps 1 (pc2 := 50) (L2 := [some (vr (some w)), some (vi x1)]) (st2 := [vr (some w)]) rfl ?_
      refine R_getR rfl t0 ?_
      refine R_ps 1 (pc2 := 54) (L2 := [some (vr (some w)), some (vi x1)]) (st2 := [vi 0, vr (gr h_47 w 1)]) rfl ?_
      obtain ⟨a_51, e_52, k⟩ := k
      rw [e_52]
      obtain ⟨t_53, k⟩ := k
      obtain ⟨t_54, k⟩ := k
      refine R_iald rfl (Or.inl t_53) t_54 ?_
      refine R_ps 2 (pc2 := 57) (L2 := [some (vr (some w)), some (vi x1)]) (st2 := [vi ((gi h_47 a_51 0) - 1)]) rfl ?_
      exact R_iret rfl rfl ⟨_, rfl, k⟩
  · have k := k.1 (Classical.not_not.mp c_7)
    refine R_ps 2 (pc2 := 13) (L2 := [some (vr (some w)), some (vi x1)]) (st2 := [vi 1, vr (some w)]) rfl ?_
    refine R_cI (as := [vr (some w), vi 1]) rfl rfl ⟨Nat.le_of_ble_eq_true rfl, Nat.le_of_ble_eq_true rfl, rfl, (Or.inr ⟨_, rfl, t0⟩)⟩ rfl rfl k (fun x_58 h_57 k => ?_)
    exact R_iret rfl rfl ⟨_, rfl, k⟩
/-- DroneCorridorsModel.addNode -/
theorem m172 {T N : Nat → Nat} {h : PH} {w : Nat} {x1 : Int32} {K : Int32 → PH → Prop} (t0 : T w = 12) (k : (∀ h_2, h_2 = si h w 0 0 → ∃ a_6, (gr h_2 w 1) = some a_6 ∧ T a_6 = 22 ∧ inb 0 (N a_6) ∧ (((gi h_2 a_6 0) = 10 → (CI T N 157 [vr (some w), vi 1] h_2 (fun x_20 h_19 => (K x_20 h_19)))) ∧ (¬ ((gi h_2 a_6 0) = 10) → (CV T N 160 [vr (some w)] h_2 (fun h_12 => (CI T N 171 [vr (some w), vi x1] h_12 (fun x_16 h_15 => (K x_16 h_15))))))))) : CI T N 172 [vr (some w), vi x1] h K := by
  show WP T N 172 0 [some (vr (some w)), some (vi x1)] [] h _
  refine R_ps 2 (pc2 := 2) (L2 := [some (vr (some w)), some (vi x1)]) (st2 := [vi 0, vr (some w)]) rfl ?_
  refine R_putI rfl t0 ?_
  show WP T N _ _ _ _ (si h w 0 0) _
  generalize e_3 : si h w 0 0 = h_2
  replace k := k h_2 e_3.symm
  refine R_ps 1 (pc2 := 6) (L2 := [some (vr (some w)), some (vi x1)]) (st2 := [vr (some w)]) rfl ?_
  refine R_getR rfl t0 ?_
  refine R_ps 1 (pc2 := 10) (L2 := [some (vr (some w)), some (vi x1)]) (st2 := [vi 0, vr (gr h_2 w 1)]) rfl ?_
  obtain ⟨a_6, e_7, k⟩ := k
  rw [e_7]
  obtain ⟨t_8, k⟩ := k
  obtain ⟨t_9, k⟩ := k
  refine R_iald rfl (Or.inl t_8) t_9 ?_
  refine R_ps 1 (pc2 := 13) (L2 := [some (vr (some w)), some (vi x1)]) (st2 := [vi 10, vi (gi h_2 a_6 0)]) rfl ?_
  refine R_if rfl (fun c_10 => ?_) (fun c_10 => ?_)
  · have k := k.2 c_10
    refine R_ps 1 (pc2 := 23) (L2 := [some (vr (some w)), some (vi x1)]) (st2 := [vr (some w)]) rfl ?_
    refine R_cV (as := [vr (some w)]) rfl rfl ⟨Nat.le_of_ble_eq_true rfl, Nat.le_of_ble_eq_true rfl, rfl, (Or.inr ⟨_, rfl, t0⟩)⟩ rfl rfl k (fun h_12 k => ?_)
    refine R_ps 2 (pc2 := 28) (L2 := [some (vr (some w)), some (vi x1)]) (st2 := [vi x1, vr (some w)]) rfl ?_
    refine R_cI (as := [vr (some w), vi x1]) rfl rfl ⟨Nat.le_of_ble_eq_true rfl, Nat.le_of_ble_eq_true rfl, rfl, (Or.inr ⟨_, rfl, t0⟩)⟩ rfl rfl k (fun x_16 h_15 k => ?_)
    exact R_iret rfl rfl ⟨_, rfl, k⟩
  · have k := k.1 (Classical.not_not.mp c_10)
    refine R_ps 2 (pc2 := 18) (L2 := [some (vr (some w)), some (vi x1)]) (st2 := [vi 1, vr (some w)]) rfl ?_
    refine R_cI (as := [vr (some w), vi 1]) rfl rfl ⟨Nat.le_of_ble_eq_true rfl, Nat.le_of_ble_eq_true rfl, rfl, (Or.inr ⟨_, rfl, t0⟩)⟩ rfl rfl k (fun x_20 h_19 k => ?_)
    exact R_iret rfl rfl ⟨_, rfl, k⟩
/-- DroneCorridorsModel.refusal -/
theorem m173 {T N : Nat → Nat} {h : PH} {w : Nat} {x1 : Int32} {x2 : Int32} {x3 : Int32} {x4 : Int32} {K : Int32 → PH → Prop} (t0 : T w = 12) (k : (CI T N 162 [vr (some w), vi x1] h (fun x_3 h_2 => (((x_3 = 0 → (K 1 h_2)) ∧ (¬ (x_3 = 0) → (CI T N 162 [vr (some w), vi x2] h_2 (fun x_8 h_7 => (((x_8 = 0 → (K 1 h_7)) ∧ (¬ (x_8 = 0) → (((x1 = x2 → (K 2 h_7)) ∧ (¬ (x1 = x2) → (CI T N 158 [vi x3, vi 1, vi 9] h_7 (fun x_14 h_13 => (((x_14 = 0 → (K 2 h_13)) ∧ (¬ (x_14 = 0) → (CI T N 158 [vi x4, vi (-x3), vi x3] h_13 (fun x_19 h_18 => (((x_19 = 0 → (K 2 h_18)) ∧ (¬ (x_19 = 0) → (∃ a_23, (gr h_18 w 1) = some a_23 ∧ T a_23 = 22 ∧ inb 11 (N a_23) ∧ (((gi h_18 a_23 11) = 16 → (K 3 h_18)) ∧ (¬ ((gi h_18 a_23 11) = 16) → (K 0 h_18)))))))))))))))))))))))))))) : CI T N 173 [vr (some w), vi x1, vi x2, vi x3, vi x4] h K := by
  show WP T N 173 0 [some (vr (some w)), some (vi x1), some (vi x2), some (vi x3), some (vi x4)] [] h _
  refine R_ps 2 (pc2 := 2) (L2 := [some (vr (some w)), some (vi x1), some (vi x2), some (vi x3), some (vi x4)]) (st2 := [vi x1, vr (some w)]) rfl ?_
  refine R_cI (as := [vr (some w), vi x1]) rfl rfl ⟨Nat.le_of_ble_eq_true rfl, Nat.le_of_ble_eq_true rfl, rfl, (Or.inr ⟨_, rfl, t0⟩)⟩ rfl rfl k (fun x_3 h_2 k => ?_)
  refine R_if0 rfl (fun c_4 => ?_) (fun c_4 => ?_)
  · have k := k.1 c_4
    refine R_ps 2 (pc2 := 67) (L2 := [some (vr (some w)), some (vi x1), some (vi x2), some (vi x3), some (vi x4)]) (st2 := [vi 1]) rfl ?_
    exact R_iret rfl rfl ⟨_, rfl, k⟩
  · have k := k.2 c_4
    refine R_ps 2 (pc2 := 10) (L2 := [some (vr (some w)), some (vi x1), some (vi x2), some (vi x3), some (vi x4)]) (st2 := [vi x2, vr (some w)]) rfl ?_
    refine R_cI (as := [vr (some w), vi x2]) rfl rfl ⟨Nat.le_of_ble_eq_true rfl, Nat.le_of_ble_eq_true rfl, rfl, (Or.inr ⟨_, rfl, t0⟩)⟩ rfl rfl k (fun x_8 h_7 k => ?_)
    refine R_if0 rfl (fun c_9 => ?_) (fun c_9 => ?_)
    · have k := k.2 c_9
      refine R_ps 2 (pc2 := 22) (L2 := [some (vr (some w)), some (vi x1), some (vi x2), some (vi x3), some (vi x4)]) (st2 := [vi x2, vi x1]) rfl ?_
      refine R_if rfl (fun c_10 => ?_) (fun c_10 => ?_)
      · have k := k.1 c_10
        refine R_ps 2 (pc2 := 67) (L2 := [some (vr (some w)), some (vi x1), some (vi x2), some (vi x3), some (vi x4)]) (st2 := [vi 2]) rfl ?_
        exact R_iret rfl rfl ⟨_, rfl, k⟩
      · have k := k.2 c_10
        refine R_ps 3 (pc2 := 29) (L2 := [some (vr (some w)), some (vi x1), some (vi x2), some (vi x3), some (vi x4)]) (st2 := [vi 9, vi 1, vi x3]) rfl ?_
        refine R_cI (as := [vi x3, vi 1, vi 9]) rfl rfl ⟨Nat.le_of_ble_eq_true rfl, Nat.le_of_ble_eq_true rfl, rfl, (Or.inl rfl)⟩ rfl rfl k (fun x_14 h_13 k => ?_)
        refine R_if0 rfl (fun c_15 => ?_) (fun c_15 => ?_)
        · have k := k.1 c_15
          refine R_ps 2 (pc2 := 67) (L2 := [some (vr (some w)), some (vi x1), some (vi x2), some (vi x3), some (vi x4)]) (st2 := [vi 2]) rfl ?_
          exact R_iret rfl rfl ⟨_, rfl, k⟩
        · have k := k.2 c_15
          refine R_ps 4 (pc2 := 40) (L2 := [some (vr (some w)), some (vi x1), some (vi x2), some (vi x3), some (vi x4)]) (st2 := [vi x3, vi (-x3), vi x4]) rfl ?_
          refine R_cI (as := [vi x4, vi (-x3), vi x3]) rfl rfl ⟨Nat.le_of_ble_eq_true rfl, Nat.le_of_ble_eq_true rfl, rfl, (Or.inl rfl)⟩ rfl rfl k (fun x_19 h_18 k => ?_)
          refine R_if0 rfl (fun c_20 => ?_) (fun c_20 => ?_)
          · have k := k.2 c_20
            refine R_ps 1 (pc2 := 51) (L2 := [some (vr (some w)), some (vi x1), some (vi x2), some (vi x3), some (vi x4)]) (st2 := [vr (some w)]) rfl ?_
            refine R_getR rfl t0 ?_
            refine R_ps 1 (pc2 := 56) (L2 := [some (vr (some w)), some (vi x1), some (vi x2), some (vi x3), some (vi x4)]) (st2 := [vi 11, vr (gr h_18 w 1)]) rfl ?_
            obtain ⟨a_23, e_24, k⟩ := k
            rw [e_24]
            obtain ⟨t_25, k⟩ := k
            obtain ⟨t_26, k⟩ := k
            refine R_iald rfl (Or.inl t_25) t_26 ?_
            refine R_ps 1 (pc2 := 59) (L2 := [some (vr (some w)), some (vi x1), some (vi x2), some (vi x3), some (vi x4)]) (st2 := [vi 16, vi (gi h_18 a_23 11)]) rfl ?_
            refine R_if rfl (fun c_27 => ?_) (fun c_27 => ?_)
            · have k := k.2 c_27
              refine R_ps 1 (pc2 := 67) (L2 := [some (vr (some w)), some (vi x1), some (vi x2), some (vi x3), some (vi x4)]) (st2 := [vi 0]) rfl ?_
              exact R_iret rfl rfl ⟨_, rfl, k⟩
            · have k := k.1 (Classical.not_not.mp c_27)
              refine R_ps 2 (pc2 := 67) (L2 := [some (vr (some w)), some (vi x1), some (vi x2), some (vi x3), some (vi x4)]) (st2 := [vi 3]) rfl ?_
              exact R_iret rfl rfl ⟨_, rfl, k⟩
          · have k := k.1 (Classical.not_not.mp c_20)
            refine R_ps 2 (pc2 := 67) (L2 := [some (vr (some w)), some (vi x1), some (vi x2), some (vi x3), some (vi x4)]) (st2 := [vi 2]) rfl ?_
            exact R_iret rfl rfl ⟨_, rfl, k⟩
    · have k := k.1 (Classical.not_not.mp c_9)
      refine R_ps 2 (pc2 := 67) (L2 := [some (vr (some w)), some (vi x1), some (vi x2), some (vi x3), some (vi x4)]) (st2 := [vi 1]) rfl ?_
      exact R_iret rfl rfl ⟨_, rfl, k⟩
/-- DroneCorridorsModel.addsCorridor -/
theorem m174 {T N : Nat → Nat} {h : PH} {w : Nat} {x1 : Int32} {x2 : Int32} {x3 : Int32} {x4 : Int32} {K : Int32 → PH → Prop} (t0 : T w = 12) (k : (CI T N 173 [vr (some w), vi x1, vi x2, vi x3, vi x4] h (fun x_3 h_2 => (∀ h_5, h_5 = si h_2 w 0 x_3 → ((0 < (gi h_5 w 0) → (K 0 h_5)) ∧ (¬ (0 < (gi h_5 w 0)) → (∃ a_11, (gr h_5 w 1) = some a_11 ∧ T a_11 = 22 ∧ inb 11 (N a_11) ∧ ∃ a_17, (gr h_5 w 1) = some a_17 ∧ T a_17 = 22 ∧ inb (12 + (4 * (gi h_5 a_11 11))) (N a_17) ∧ ∀ h_19, h_19 = si h_5 a_17 (Int32.toNatClampNeg (12 + (4 * (gi h_5 a_11 11)))) x1 → ∃ a_25, (gr h_19 w 1) = some a_25 ∧ T a_25 = 22 ∧ inb ((12 + (4 * (gi h_5 a_11 11))) + 1) (N a_25) ∧ ∀ h_27, h_27 = si h_19 a_25 (Int32.toNatClampNeg ((12 + (4 * (gi h_5 a_11 11))) + 1)) x2 → ∃ a_33, (gr h_27 w 1) = some a_33 ∧ T a_33 = 22 ∧ inb ((12 + (4 * (gi h_5 a_11 11))) + 2) (N a_33) ∧ ∀ h_35, h_35 = si h_27 a_33 (Int32.toNatClampNeg ((12 + (4 * (gi h_5 a_11 11))) + 2)) x3 → ∃ a_41, (gr h_35 w 1) = some a_41 ∧ T a_41 = 22 ∧ inb ((12 + (4 * (gi h_5 a_11 11))) + 3) (N a_41) ∧ ∀ h_43, h_43 = si h_35 a_41 (Int32.toNatClampNeg ((12 + (4 * (gi h_5 a_11 11))) + 3)) x4 → ∃ a_49, (gr h_43 w 1) = some a_49 ∧ T a_49 = 22 ∧ inb 11 (N a_49) ∧ ∀ h_54, h_54 = si h_43 a_49 11 ((gi h_43 a_49 11) + 1) → ∃ a_58, (gr h_54 w 1) = some a_58 ∧ T a_58 = 22 ∧ inb 11 (N a_58) ∧ K ((gi h_54 a_58 11) - 1) h_54))))))) : CI T N 174 [vr (some w), vi x1, vi x2, vi x3, vi x4] h K := by
  show WP T N 174 0 [some (vr (some w)), some (vi x1), some (vi x2), some (vi x3), some (vi x4), none] [] h _
  refine R_ps 6 (pc2 := 7) (L2 := [some (vr (some w)), some (vi x1), some (vi x2), some (vi x3), some (vi x4), none]) (st2 := [vi x4, vi x3, vi x2, vi x1, vr (some w), vr (some w)]) rfl ?_
  refine R_cI (as := [vr (some w), vi x1, vi x2, vi x3, vi x4]) rfl rfl ⟨Nat.le_of_ble_eq_true rfl, Nat.le_of_ble_eq_true rfl, rfl, (Or.inr ⟨_, rfl, t0⟩)⟩ rfl rfl k (fun x_3 h_2 k => ?_)
  refine R_putI rfl t0 ?_
  show WP T N _ _ _ _ (si h_2 w 0 x_3) _
  generalize e_6 : si h_2 w 0 x_3 = h_5
  replace k := k h_5 e_6.symm
  refine R_ps 1 (pc2 := 14) (L2 := [some (vr (some w)), some (vi x1), some (vi x2), some (vi x3), some (vi x4), none]) (st2 := [vr (some w)]) rfl ?_
  refine R_getI rfl t0 ?_
  refine R_if0 rfl (fun c_8 => ?_) (fun c_8 => ?_)
  · have k := k.2 (i32_nlt c_8)
    refine R_ps 3 (pc2 := 26) (L2 := [some (vr (some w)), some (vi x1), some (vi x2), some (vi x3), some (vi x4), none]) (st2 := [vr (some w), vi 4, vi 12]) rfl ?_
    refine R_getR rfl t0 ?_
    refine R_ps 1 (pc2 := 31) (L2 := [some (vr (some w)), some (vi x1), some (vi x2), some (vi x3), some (vi x4), none]) (st2 := [vi 11, vr (gr h_5 w 1), vi 4, vi 12]) rfl ?_
    obtain ⟨a_11, e_12, k⟩ := k
    rw [e_12]
    obtain ⟨t_13, k⟩ := k
    obtain ⟨t_14, k⟩ := k
    refine R_iald rfl (Or.inl t_13) t_14 ?_
    refine R_ps 4 (pc2 := 37) (L2 := [some (vr (some w)), some (vi x1), some (vi x2), some (vi x3), some (vi x4), some (vi (12 + (4 * (gi h_5 a_11 11))))]) (st2 := [vr (some w)]) rfl ?_
    refine R_getR rfl t0 ?_
    refine R_ps 2 (pc2 := 43) (L2 := [some (vr (some w)), some (vi x1), some (vi x2), some (vi x3), some (vi x4), some (vi (12 + (4 * (gi h_5 a_11 11))))]) (st2 := [vi x1, vi (12 + (4 * (gi h_5 a_11 11))), vr (gr h_5 w 1)]) rfl ?_
    obtain ⟨a_17, e_18, k⟩ := k
    rw [e_18]
    obtain ⟨t_21, k⟩ := k
    obtain ⟨t_22, k⟩ := k
    refine R_iast rfl t_21 t_22  ?_
    show WP T N _ _ _ _ (si h_5 a_17 (Int32.toNatClampNeg (12 + (4 * (gi h_5 a_11 11)))) x1) _
    generalize e_20 : si h_5 a_17 (Int32.toNatClampNeg (12 + (4 * (gi h_5 a_11 11)))) x1 = h_19
    replace k := k h_19 e_20.symm
    refine R_ps 1 (pc2 := 45) (L2 := [some (vr (some w)), some (vi x1), some (vi x2), some (vi x3), some (vi x4), some (vi (12 + (4 * (gi h_5 a_11 11))))]) (st2 := [vr (some w)]) rfl ?_
    refine R_getR rfl t0 ?_
    refine R_ps 4 (pc2 := 53) (L2 := [some (vr (some w)), some (vi x1), some (vi x2), some (vi x3), some (vi x4), some (vi (12 + (4 * (gi h_5 a_11 11))))]) (st2 := [vi x2, vi ((12 + (4 * (gi h_5 a_11 11))) + 1), vr (gr h_19 w 1)]) rfl ?_
    obtain ⟨a_25, e_26, k⟩ := k
    rw [e_26]
    obtain ⟨t_29, k⟩ := k
    obtain ⟨t_30, k⟩ := k
    refine R_iast rfl t_29 t_30  ?_
    show WP T N _ _ _ _ (si h_19 a_25 (Int32.toNatClampNeg ((12 + (4 * (gi h_5 a_11 11))) + 1)) x2) _
    generalize e_28 : si h_19 a_25 (Int32.toNatClampNeg ((12 + (4 * (gi h_5 a_11 11))) + 1)) x2 = h_27
    replace k := k h_27 e_28.symm
    refine R_ps 1 (pc2 := 55) (L2 := [some (vr (some w)), some (vi x1), some (vi x2), some (vi x3), some (vi x4), some (vi (12 + (4 * (gi h_5 a_11 11))))]) (st2 := [vr (some w)]) rfl ?_
    refine R_getR rfl t0 ?_
    refine R_ps 4 (pc2 := 63) (L2 := [some (vr (some w)), some (vi x1), some (vi x2), some (vi x3), some (vi x4), some (vi (12 + (4 * (gi h_5 a_11 11))))]) (st2 := [vi x3, vi ((12 + (4 * (gi h_5 a_11 11))) + 2), vr (gr h_27 w 1)]) rfl ?_
    obtain ⟨a_33, e_34, k⟩ := k
    rw [e_34]
    obtain ⟨t_37, k⟩ := k
    obtain ⟨t_38, k⟩ := k
    refine R_iast rfl t_37 t_38  ?_
    show WP T N _ _ _ _ (si h_27 a_33 (Int32.toNatClampNeg ((12 + (4 * (gi h_5 a_11 11))) + 2)) x3) _
    generalize e_36 : si h_27 a_33 (Int32.toNatClampNeg ((12 + (4 * (gi h_5 a_11 11))) + 2)) x3 = h_35
    replace k := k h_35 e_36.symm
    refine R_ps 1 (pc2 := 65) (L2 := [some (vr (some w)), some (vi x1), some (vi x2), some (vi x3), some (vi x4), some (vi (12 + (4 * (gi h_5 a_11 11))))]) (st2 := [vr (some w)]) rfl ?_
    refine R_getR rfl t0 ?_
    refine R_ps 4 (pc2 := 74) (L2 := [some (vr (some w)), some (vi x1), some (vi x2), some (vi x3), some (vi x4), some (vi (12 + (4 * (gi h_5 a_11 11))))]) (st2 := [vi x4, vi ((12 + (4 * (gi h_5 a_11 11))) + 3), vr (gr h_35 w 1)]) rfl ?_
    obtain ⟨a_41, e_42, k⟩ := k
    rw [e_42]
    obtain ⟨t_45, k⟩ := k
    obtain ⟨t_46, k⟩ := k
    refine R_iast rfl t_45 t_46  ?_
    show WP T N _ _ _ _ (si h_35 a_41 (Int32.toNatClampNeg ((12 + (4 * (gi h_5 a_11 11))) + 3)) x4) _
    generalize e_44 : si h_35 a_41 (Int32.toNatClampNeg ((12 + (4 * (gi h_5 a_11 11))) + 3)) x4 = h_43
    replace k := k h_43 e_44.symm
    refine R_ps 1 (pc2 := 76) (L2 := [some (vr (some w)), some (vi x1), some (vi x2), some (vi x3), some (vi x4), some (vi (12 + (4 * (gi h_5 a_11 11))))]) (st2 := [vr (some w)]) rfl ?_
    refine R_getR rfl t0 ?_
    refine R_ps 2 (pc2 := 82) (L2 := [some (vr (some w)), some (vi x1), some (vi x2), some (vi x3), some (vi x4), some (vi (12 + (4 * (gi h_5 a_11 11))))]) (st2 := [vi 11, vr (gr h_43 w 1), vi 11, vr (gr h_43 w 1)]) rfl ?_
    obtain ⟨a_49, e_50, k⟩ := k
    rw [e_50]
    obtain ⟨t_51, k⟩ := k
    obtain ⟨t_52, k⟩ := k
    refine R_iald rfl (Or.inl t_51) t_52 ?_
    refine R_ps 2 (pc2 := 85) (L2 := [some (vr (some w)), some (vi x1), some (vi x2), some (vi x3), some (vi x4), some (vi (12 + (4 * (gi h_5 a_11 11))))]) (st2 := [vi ((gi h_43 a_49 11) + 1), vi 11, vr (some a_49)]) rfl ?_
    refine R_iast rfl t_51 t_52  ?_
    show WP T N _ _ _ _ (si h_43 a_49 11 ((gi h_43 a_49 11) + 1)) _
    generalize e_55 : si h_43 a_49 11 ((gi h_43 a_49 11) + 1) = h_54
    replace k := k h_54 e_55.symm
    refine R_ps 1 (pc2 := 87) (L2 := [some (vr (some w)), some (vi x1), some (vi x2), some (vi x3), some (vi x4), some (vi (12 + (4 * (gi h_5 a_11 11))))]) (st2 := [vr (some w)]) rfl ?_
    refine R_getR rfl t0 ?_
    refine R_ps 1 (pc2 := 92) (L2 := [some (vr (some w)), some (vi x1), some (vi x2), some (vi x3), some (vi x4), some (vi (12 + (4 * (gi h_5 a_11 11))))]) (st2 := [vi 11, vr (gr h_54 w 1)]) rfl ?_
    obtain ⟨a_58, e_59, k⟩ := k
    rw [e_59]
    obtain ⟨t_60, k⟩ := k
    obtain ⟨t_61, k⟩ := k
    refine R_iald rfl (Or.inl t_60) t_61 ?_
    refine R_ps 2 (pc2 := 95) (L2 := [some (vr (some w)), some (vi x1), some (vi x2), some (vi x3), some (vi x4), some (vi (12 + (4 * (gi h_5 a_11 11))))]) (st2 := [vi ((gi h_54 a_58 11) - 1)]) rfl ?_
    exact R_iret rfl rfl ⟨_, rfl, k⟩
  · have k := k.1 (i32_lt c_8)
    refine R_ps 1 (pc2 := 21) (L2 := [some (vr (some w)), some (vi x1), some (vi x2), some (vi x3), some (vi x4), none]) (st2 := [vi 0]) rfl ?_
    exact R_iret rfl rfl ⟨_, rfl, k⟩
/-- DroneCorridorsModel.addCorridor -/
theorem m175 {T N : Nat → Nat} {h : PH} {w : Nat} {x1 : Int32} {x2 : Int32} {x3 : Int32} {x4 : Int32} {K : Int32 → PH → Prop} (t0 : T w = 12) (k : (CI T N 173 [vr (some w), vi x1, vi x2, vi x3, vi x4] h (fun x_3 h_2 => (∀ h_5, h_5 = si h_2 w 0 x_3 → ((0 < (gi h_5 w 0) → (K 0 h_5)) ∧ (¬ (0 < (gi h_5 w 0)) → (CV T N 160 [vr (some w)] h_5 (fun h_10 => (CI T N 174 [vr (some w), vi x1, vi x2, vi x3, vi x4] h_10 (fun x_14 h_13 => (K x_14 h_13))))))))))) : CI T N 175 [vr (some w), vi x1, vi x2, vi x3, vi x4] h K := by
  show WP T N 175 0 [some (vr (some w)), some (vi x1), some (vi x2), some (vi x3), some (vi x4)] [] h _
  refine R_ps 6 (pc2 := 7) (L2 := [some (vr (some w)), some (vi x1), some (vi x2), some (vi x3), some (vi x4)]) (st2 := [vi x4, vi x3, vi x2, vi x1, vr (some w), vr (some w)]) rfl ?_
  refine R_cI (as := [vr (some w), vi x1, vi x2, vi x3, vi x4]) rfl rfl ⟨Nat.le_of_ble_eq_true rfl, Nat.le_of_ble_eq_true rfl, rfl, (Or.inr ⟨_, rfl, t0⟩)⟩ rfl rfl k (fun x_3 h_2 k => ?_)
  refine R_putI rfl t0 ?_
  show WP T N _ _ _ _ (si h_2 w 0 x_3) _
  generalize e_6 : si h_2 w 0 x_3 = h_5
  replace k := k h_5 e_6.symm
  refine R_ps 1 (pc2 := 14) (L2 := [some (vr (some w)), some (vi x1), some (vi x2), some (vi x3), some (vi x4)]) (st2 := [vr (some w)]) rfl ?_
  refine R_getI rfl t0 ?_
  refine R_if0 rfl (fun c_8 => ?_) (fun c_8 => ?_)
  · have k := k.2 (i32_nlt c_8)
    refine R_ps 1 (pc2 := 23) (L2 := [some (vr (some w)), some (vi x1), some (vi x2), some (vi x3), some (vi x4)]) (st2 := [vr (some w)]) rfl ?_
    refine R_cV (as := [vr (some w)]) rfl rfl ⟨Nat.le_of_ble_eq_true rfl, Nat.le_of_ble_eq_true rfl, rfl, (Or.inr ⟨_, rfl, t0⟩)⟩ rfl rfl k (fun h_10 k => ?_)
    refine R_ps 5 (pc2 := 32) (L2 := [some (vr (some w)), some (vi x1), some (vi x2), some (vi x3), some (vi x4)]) (st2 := [vi x4, vi x3, vi x2, vi x1, vr (some w)]) rfl ?_
    refine R_cI (as := [vr (some w), vi x1, vi x2, vi x3, vi x4]) rfl rfl ⟨Nat.le_of_ble_eq_true rfl, Nat.le_of_ble_eq_true rfl, rfl, (Or.inr ⟨_, rfl, t0⟩)⟩ rfl rfl k (fun x_14 h_13 k => ?_)
    exact R_iret rfl rfl ⟨_, rfl, k⟩
  · have k := k.1 (i32_lt c_8)
    refine R_ps 1 (pc2 := 21) (L2 := [some (vr (some w)), some (vi x1), some (vi x2), some (vi x3), some (vi x4)]) (st2 := [vi 0]) rfl ?_
    exact R_iret rfl rfl ⟨_, rfl, k⟩
/-- DroneCorridorsModel.setWind -/
theorem m176 {T N : Nat → Nat} {h : PH} {w : Nat} {x1 : Int32} {x2 : Int32} {K : Int32 → PH → Prop} (t0 : T w = 12) (k : (CI T N 163 [vr (some w), vi x1] h (fun x_3 h_2 => (((x_3 = 0 → (∀ h_64, h_64 = si h_2 w 0 1 → ((0 < (gi h_64 w 0) → (K 0 h_64)) ∧ (¬ (0 < (gi h_64 w 0)) → (CV T N 160 [vr (some w)] h_64 (fun h_69 => (∃ a_73, (gr h_69 w 1) = some a_73 ∧ T a_73 = 22 ∧ inb ((12 + (4 * x1)) + 3) (N a_73) ∧ ∃ a_79, (gr h_69 w 1) = some a_79 ∧ T a_79 = 22 ∧ inb ((12 + (4 * x1)) + 3) (N a_79) ∧ ∀ h_81, h_81 = si h_69 a_79 (Int32.toNatClampNeg ((12 + (4 * x1)) + 3)) x2 → K (gi h_69 a_73 (Int32.toNatClampNeg ((12 + (4 * x1)) + 3))) h_81))))))) ∧ (¬ (x_3 = 0) → (CI T N 166 [vr (some w), vi x1] h_2 (fun x_7 h_6 => (CI T N 166 [vr (some w), vi x1] h_6 (fun x_10 h_9 => (CI T N 158 [vi x2, vi (-x_7), vi x_10] h_9 (fun x_13 h_12 => (((x_13 = 0 → (∀ h_40, h_40 = si h_12 w 0 2 → ((0 < (gi h_40 w 0) → (K 0 h_40)) ∧ (¬ (0 < (gi h_40 w 0)) → (CV T N 160 [vr (some w)] h_40 (fun h_45 => (∃ a_49, (gr h_45 w 1) = some a_49 ∧ T a_49 = 22 ∧ inb ((12 + (4 * x1)) + 3) (N a_49) ∧ ∃ a_55, (gr h_45 w 1) = some a_55 ∧ T a_55 = 22 ∧ inb ((12 + (4 * x1)) + 3) (N a_55) ∧ ∀ h_57, h_57 = si h_45 a_55 (Int32.toNatClampNeg ((12 + (4 * x1)) + 3)) x2 → K (gi h_45 a_49 (Int32.toNatClampNeg ((12 + (4 * x1)) + 3))) h_57))))))) ∧ (¬ (x_13 = 0) → (∀ h_16, h_16 = si h_12 w 0 0 → ((0 < (gi h_16 w 0) → (K 0 h_16)) ∧ (¬ (0 < (gi h_16 w 0)) → (CV T N 160 [vr (some w)] h_16 (fun h_21 => (∃ a_25, (gr h_21 w 1) = some a_25 ∧ T a_25 = 22 ∧ inb ((12 + (4 * x1)) + 3) (N a_25) ∧ ∃ a_31, (gr h_21 w 1) = some a_31 ∧ T a_31 = 22 ∧ inb ((12 + (4 * x1)) + 3) (N a_31) ∧ ∀ h_33, h_33 = si h_21 a_31 (Int32.toNatClampNeg ((12 + (4 * x1)) + 3)) x2 → K (gi h_21 a_25 (Int32.toNatClampNeg ((12 + (4 * x1)) + 3))) h_33))))))))))))))))))))) : CI T N 176 [vr (some w), vi x1, vi x2] h K := by
  show WP T N 176 0 [some (vr (some w)), some (vi x1), some (vi x2), none] [] h _
  refine R_ps 3 (pc2 := 3) (L2 := [some (vr (some w)), some (vi x1), some (vi x2), none]) (st2 := [vi x1, vr (some w), vr (some w)]) rfl ?_
  refine R_cI (as := [vr (some w), vi x1]) rfl rfl ⟨Nat.le_of_ble_eq_true rfl, Nat.le_of_ble_eq_true rfl, rfl, (Or.inr ⟨_, rfl, t0⟩)⟩ rfl rfl k (fun x_3 h_2 k => ?_)
  refine R_if0 rfl (fun c_4 => ?_) (fun c_4 => ?_)
  · have k := k.2 c_4
    refine R_ps 3 (pc2 := 16) (L2 := [some (vr (some w)), some (vi x1), some (vi x2), none]) (st2 := [vi x1, vr (some w), vi x2, vr (some w)]) rfl ?_
    refine R_cI (as := [vr (some w), vi x1]) rfl rfl ⟨Nat.le_of_ble_eq_true rfl, Nat.le_of_ble_eq_true rfl, rfl, (Or.inr ⟨_, rfl, t0⟩)⟩ rfl rfl k (fun x_7 h_6 k => ?_)
    refine R_ps 3 (pc2 := 22) (L2 := [some (vr (some w)), some (vi x1), some (vi x2), none]) (st2 := [vi x1, vr (some w), vi (-x_7), vi x2, vr (some w)]) rfl ?_
    refine R_cI (as := [vr (some w), vi x1]) rfl rfl ⟨Nat.le_of_ble_eq_true rfl, Nat.le_of_ble_eq_true rfl, rfl, (Or.inr ⟨_, rfl, t0⟩)⟩ rfl rfl k (fun x_10 h_9 k => ?_)
    refine R_cI (as := [vi x2, vi (-x_7), vi x_10]) rfl rfl ⟨Nat.le_of_ble_eq_true rfl, Nat.le_of_ble_eq_true rfl, rfl, (Or.inl rfl)⟩ rfl rfl k (fun x_13 h_12 k => ?_)
    refine R_if0 rfl (fun c_14 => ?_) (fun c_14 => ?_)
    · have k := k.2 c_14
      refine R_ps 1 (pc2 := 36) (L2 := [some (vr (some w)), some (vi x1), some (vi x2), none]) (st2 := [vi 0, vr (some w)]) rfl ?_
      refine R_putI rfl t0 ?_
      show WP T N _ _ _ _ (si h_12 w 0 0) _
      generalize e_17 : si h_12 w 0 0 = h_16
      replace k := k h_16 e_17.symm
      refine R_ps 1 (pc2 := 40) (L2 := [some (vr (some w)), some (vi x1), some (vi x2), none]) (st2 := [vr (some w)]) rfl ?_
      refine R_getI rfl t0 ?_
      refine R_if0 rfl (fun c_19 => ?_) (fun c_19 => ?_)
      · have k := k.2 (i32_nlt c_19)
        refine R_ps 1 (pc2 := 49) (L2 := [some (vr (some w)), some (vi x1), some (vi x2), none]) (st2 := [vr (some w)]) rfl ?_
        refine R_cV (as := [vr (some w)]) rfl rfl ⟨Nat.le_of_ble_eq_true rfl, Nat.le_of_ble_eq_true rfl, rfl, (Or.inr ⟨_, rfl, t0⟩)⟩ rfl rfl k (fun h_21 k => ?_)
        refine R_ps 1 (pc2 := 53) (L2 := [some (vr (some w)), some (vi x1), some (vi x2), none]) (st2 := [vr (some w)]) rfl ?_
        refine R_getR rfl t0 ?_
        refine R_ps 7 (pc2 := 64) (L2 := [some (vr (some w)), some (vi x1), some (vi x2), none]) (st2 := [vi ((12 + (4 * x1)) + 3), vr (gr h_21 w 1)]) rfl ?_
        obtain ⟨a_25, e_26, k⟩ := k
        rw [e_26]
        obtain ⟨t_27, k⟩ := k
        obtain ⟨t_28, k⟩ := k
        refine R_iald rfl (Or.inl t_27) t_28 ?_
        refine R_ps 2 (pc2 := 67) (L2 := [some (vr (some w)), some (vi x1), some (vi x2), some (vi (gi h_21 a_25 (Int32.toNatClampNeg ((12 + (4 * x1)) + 3))))]) (st2 := [vr (some w)]) rfl ?_
        refine R_getR rfl t0 ?_
        refine R_ps 8 (pc2 := 79) (L2 := [some (vr (some w)), some (vi x1), some (vi x2), some (vi (gi h_21 a_25 (Int32.toNatClampNeg ((12 + (4 * x1)) + 3))))]) (st2 := [vi x2, vi ((12 + (4 * x1)) + 3), vr (gr h_21 w 1)]) rfl ?_
        obtain ⟨a_31, e_32, k⟩ := k
        rw [e_32]
        obtain ⟨t_35, k⟩ := k
        obtain ⟨t_36, k⟩ := k
        refine R_iast rfl t_35 t_36  ?_
        show WP T N _ _ _ _ (si h_21 a_31 (Int32.toNatClampNeg ((12 + (4 * x1)) + 3)) x2) _
        generalize e_34 : si h_21 a_31 (Int32.toNatClampNeg ((12 + (4 * x1)) + 3)) x2 = h_33
        replace k := k h_33 e_34.symm
        refine R_ps 1 (pc2 := 81) (L2 := [some (vr (some w)), some (vi x1), some (vi x2), some (vi (gi h_21 a_25 (Int32.toNatClampNeg ((12 + (4 * x1)) + 3))))]) (st2 := [vi (gi h_21 a_25 (Int32.toNatClampNeg ((12 + (4 * x1)) + 3)))]) rfl ?_
        exact R_iret rfl rfl ⟨_, rfl, k⟩
      · have k := k.1 (i32_lt c_19)
        refine R_ps 1 (pc2 := 47) (L2 := [some (vr (some w)), some (vi x1), some (vi x2), none]) (st2 := [vi 0]) rfl ?_
        exact R_iret rfl rfl ⟨_, rfl, k⟩
    · have k := k.1 (Classical.not_not.mp c_14)
      refine R_ps 2 (pc2 := 36) (L2 := [some (vr (some w)), some (vi x1), some (vi x2), none]) (st2 := [vi 2, vr (some w)]) rfl ?_
      refine R_putI rfl t0 ?_
      show WP T N _ _ _ _ (si h_12 w 0 2) _
      generalize e_41 : si h_12 w 0 2 = h_40
      replace k := k h_40 e_41.symm
      refine R_ps 1 (pc2 := 40) (L2 := [some (vr (some w)), some (vi x1), some (vi x2), none]) (st2 := [vr (some w)]) rfl ?_
      refine R_getI rfl t0 ?_
      refine R_if0 rfl (fun c_43 => ?_) (fun c_43 => ?_)
      · have k := k.2 (i32_nlt c_43)
        refine R_ps 1 (pc2 := 49) (L2 := [some (vr (some w)), some (vi x1), some (vi x2), none]) (st2 := [vr (some w)]) rfl ?_
        refine R_cV (as := [vr (some w)]) rfl rfl ⟨Nat.le_of_ble_eq_true rfl, Nat.le_of_ble_eq_true rfl, rfl, (Or.inr ⟨_, rfl, t0⟩)⟩ rfl rfl k (fun h_45 k => ?_)
        refine R_ps 1 (pc2 := 53) (L2 := [some (vr (some w)), some (vi x1), some (vi x2), none]) (st2 := [vr (some w)]) rfl ?_
        refine R_getR rfl t0 ?_
        refine R_ps 7 (pc2 := 64) (L2 := [some (vr (some w)), some (vi x1), some (vi x2), none]) (st2 := [vi ((12 + (4 * x1)) + 3), vr (gr h_45 w 1)]) rfl ?_
        obtain ⟨a_49, e_50, k⟩ := k
        rw [e_50]
        obtain ⟨t_51, k⟩ := k
        obtain ⟨t_52, k⟩ := k
        refine R_iald rfl (Or.inl t_51) t_52 ?_
        refine R_ps 2 (pc2 := 67) (L2 := [some (vr (some w)), some (vi x1), some (vi x2), some (vi (gi h_45 a_49 (Int32.toNatClampNeg ((12 + (4 * x1)) + 3))))]) (st2 := [vr (some w)]) rfl ?_
        refine R_getR rfl t0 ?_
        refine R_ps 8 (pc2 := 79) (L2 := [some (vr (some w)), some (vi x1), some (vi x2), some (vi (gi h_45 a_49 (Int32.toNatClampNeg ((12 + (4 * x1)) + 3))))]) (st2 := [vi x2, vi ((12 + (4 * x1)) + 3), vr (gr h_45 w 1)]) rfl ?_
        obtain ⟨a_55, e_56, k⟩ := k
        rw [e_56]
        obtain ⟨t_59, k⟩ := k
        obtain ⟨t_60, k⟩ := k
        refine R_iast rfl t_59 t_60  ?_
        show WP T N _ _ _ _ (si h_45 a_55 (Int32.toNatClampNeg ((12 + (4 * x1)) + 3)) x2) _
        generalize e_58 : si h_45 a_55 (Int32.toNatClampNeg ((12 + (4 * x1)) + 3)) x2 = h_57
        replace k := k h_57 e_58.symm
        refine R_ps 1 (pc2 := 81) (L2 := [some (vr (some w)), some (vi x1), some (vi x2), some (vi (gi h_45 a_49 (Int32.toNatClampNeg ((12 + (4 * x1)) + 3))))]) (st2 := [vi (gi h_45 a_49 (Int32.toNatClampNeg ((12 + (4 * x1)) + 3)))]) rfl ?_
        exact R_iret rfl rfl ⟨_, rfl, k⟩
      · have k := k.1 (i32_lt c_43)
        refine R_ps 1 (pc2 := 47) (L2 := [some (vr (some w)), some (vi x1), some (vi x2), none]) (st2 := [vi 0]) rfl ?_
        exact R_iret rfl rfl ⟨_, rfl, k⟩
  · have k := k.1 (Classical.not_not.mp c_4)
    refine R_ps 2 (pc2 := 36) (L2 := [some (vr (some w)), some (vi x1), some (vi x2), none]) (st2 := [vi 1, vr (some w)]) rfl ?_
    refine R_putI rfl t0 ?_
    show WP T N _ _ _ _ (si h_2 w 0 1) _
    generalize e_65 : si h_2 w 0 1 = h_64
    replace k := k h_64 e_65.symm
    refine R_ps 1 (pc2 := 40) (L2 := [some (vr (some w)), some (vi x1), some (vi x2), none]) (st2 := [vr (some w)]) rfl ?_
    refine R_getI rfl t0 ?_
    refine R_if0 rfl (fun c_67 => ?_) (fun c_67 => ?_)
    · have k := k.2 (i32_nlt c_67)
      refine R_ps 1 (pc2 := 49) (L2 := [some (vr (some w)), some (vi x1), some (vi x2), none]) (st2 := [vr (some w)]) rfl ?_
      refine R_cV (as := [vr (some w)]) rfl rfl ⟨Nat.le_of_ble_eq_true rfl, Nat.le_of_ble_eq_true rfl, rfl, (Or.inr ⟨_, rfl, t0⟩)⟩ rfl rfl k (fun h_69 k => ?_)
      refine R_ps 1 (pc2 := 53) (L2 := [some (vr (some w)), some (vi x1), some (vi x2), none]) (st2 := [vr (some w)]) rfl ?_
      refine R_getR rfl t0 ?_
      refine R_ps 7 (pc2 := 64) (L2 := [some (vr (some w)), some (vi x1), some (vi x2), none]) (st2 := [vi ((12 + (4 * x1)) + 3), vr (gr h_69 w 1)]) rfl ?_
      obtain ⟨a_73, e_74, k⟩ := k
      rw [e_74]
      obtain ⟨t_75, k⟩ := k
      obtain ⟨t_76, k⟩ := k
      refine R_iald rfl (Or.inl t_75) t_76 ?_
      refine R_ps 2 (pc2 := 67) (L2 := [some (vr (some w)), some (vi x1), some (vi x2), some (vi (gi h_69 a_73 (Int32.toNatClampNeg ((12 + (4 * x1)) + 3))))]) (st2 := [vr (some w)]) rfl ?_
      refine R_getR rfl t0 ?_
      refine R_ps 8 (pc2 := 79) (L2 := [some (vr (some w)), some (vi x1), some (vi x2), some (vi (gi h_69 a_73 (Int32.toNatClampNeg ((12 + (4 * x1)) + 3))))]) (st2 := [vi x2, vi ((12 + (4 * x1)) + 3), vr (gr h_69 w 1)]) rfl ?_
      obtain ⟨a_79, e_80, k⟩ := k
      rw [e_80]
      obtain ⟨t_83, k⟩ := k
      obtain ⟨t_84, k⟩ := k
      refine R_iast rfl t_83 t_84  ?_
      show WP T N _ _ _ _ (si h_69 a_79 (Int32.toNatClampNeg ((12 + (4 * x1)) + 3)) x2) _
      generalize e_82 : si h_69 a_79 (Int32.toNatClampNeg ((12 + (4 * x1)) + 3)) x2 = h_81
      replace k := k h_81 e_82.symm
      refine R_ps 1 (pc2 := 81) (L2 := [some (vr (some w)), some (vi x1), some (vi x2), some (vi (gi h_69 a_73 (Int32.toNatClampNeg ((12 + (4 * x1)) + 3))))]) (st2 := [vi (gi h_69 a_73 (Int32.toNatClampNeg ((12 + (4 * x1)) + 3)))]) rfl ?_
      exact R_iret rfl rfl ⟨_, rfl, k⟩
    · have k := k.1 (i32_lt c_67)
      refine R_ps 1 (pc2 := 47) (L2 := [some (vr (some w)), some (vi x1), some (vi x2), none]) (st2 := [vi 0]) rfl ?_
      exact R_iret rfl rfl ⟨_, rfl, k⟩
/-- DroneCorridorsModel.addFence -/
theorem m177 {T N : Nat → Nat} {h : PH} {w : Nat} {x1 : Int32} {x2 : Int32} {x3 : Int32} {x4 : Int32} {K : Int32 → PH → Prop} (t0 : T w = 12) (k : (CI T N 163 [vr (some w), vi x1] h (fun x_3 h_2 => (((x_3 = 0 → (∀ h_380, h_380 = si h_2 w 0 1 → ((0 < (gi h_380 w 0) → (K 0 h_380)) ∧ (¬ (0 < (gi h_380 w 0)) → (CV T N 160 [vr (some w)] h_380 (fun h_385 => (∃ a_389, (gr h_385 w 1) = some a_389 ∧ T a_389 = 22 ∧ inb 76 (N a_389) ∧ ∃ a_395, (gr h_385 w 1) = some a_395 ∧ T a_395 = 22 ∧ inb (77 + (4 * (gi h_385 a_389 76))) (N a_395) ∧ ∀ h_397, h_397 = si h_385 a_395 (Int32.toNatClampNeg (77 + (4 * (gi h_385 a_389 76)))) x1 → ∃ a_403, (gr h_397 w 1) = some a_403 ∧ T a_403 = 22 ∧ inb ((77 + (4 * (gi h_385 a_389 76))) + 1) (N a_403) ∧ ∀ h_405, h_405 = si h_397 a_403 (Int32.toNatClampNeg ((77 + (4 * (gi h_385 a_389 76))) + 1)) x2 → ∃ a_411, (gr h_405 w 1) = some a_411 ∧ T a_411 = 22 ∧ inb ((77 + (4 * (gi h_385 a_389 76))) + 2) (N a_411) ∧ ∀ h_413, h_413 = si h_405 a_411 (Int32.toNatClampNeg ((77 + (4 * (gi h_385 a_389 76))) + 2)) x3 → ∃ a_419, (gr h_413 w 1) = some a_419 ∧ T a_419 = 22 ∧ inb ((77 + (4 * (gi h_385 a_389 76))) + 3) (N a_419) ∧ ∀ h_421, h_421 = si h_413 a_419 (Int32.toNatClampNeg ((77 + (4 * (gi h_385 a_389 76))) + 3)) x4 → ∃ a_427, (gr h_421 w 1) = some a_427 ∧ T a_427 = 22 ∧ inb 76 (N a_427) ∧ ∀ h_432, h_432 = si h_421 a_427 76 ((gi h_421 a_427 76) + 1) → CI T N 200 [vr (some w)] h_432 (fun x_436 h_435 => (K x_436 h_435))))))))) ∧ (¬ (x_3 = 0) → (CI T N 158 [vi x2, vi 1, vi 7] h_2 (fun x_7 h_6 => (((x_7 = 0 → (∀ h_10, h_10 = si h_6 w 0 2 → ((0 < (gi h_10 w 0) → (K 0 h_10)) ∧ (¬ (0 < (gi h_10 w 0)) → (CV T N 160 [vr (some w)] h_10 (fun h_15 => (∃ a_19, (gr h_15 w 1) = some a_19 ∧ T a_19 = 22 ∧ inb 76 (N a_19) ∧ ∃ a_25, (gr h_15 w 1) = some a_25 ∧ T a_25 = 22 ∧ inb (77 + (4 * (gi h_15 a_19 76))) (N a_25) ∧ ∀ h_27, h_27 = si h_15 a_25 (Int32.toNatClampNeg (77 + (4 * (gi h_15 a_19 76)))) x1 → ∃ a_33, (gr h_27 w 1) = some a_33 ∧ T a_33 = 22 ∧ inb ((77 + (4 * (gi h_15 a_19 76))) + 1) (N a_33) ∧ ∀ h_35, h_35 = si h_27 a_33 (Int32.toNatClampNeg ((77 + (4 * (gi h_15 a_19 76))) + 1)) x2 → ∃ a_41, (gr h_35 w 1) = some a_41 ∧ T a_41 = 22 ∧ inb ((77 + (4 * (gi h_15 a_19 76))) + 2) (N a_41) ∧ ∀ h_43, h_43 = si h_35 a_41 (Int32.toNatClampNeg ((77 + (4 * (gi h_15 a_19 76))) + 2)) x3 → ∃ a_49, (gr h_43 w 1) = some a_49 ∧ T a_49 = 22 ∧ inb ((77 + (4 * (gi h_15 a_19 76))) + 3) (N a_49) ∧ ∀ h_51, h_51 = si h_43 a_49 (Int32.toNatClampNeg ((77 + (4 * (gi h_15 a_19 76))) + 3)) x4 → ∃ a_57, (gr h_51 w 1) = some a_57 ∧ T a_57 = 22 ∧ inb 76 (N a_57) ∧ ∀ h_62, h_62 = si h_51 a_57 76 ((gi h_51 a_57 76) + 1) → CI T N 200 [vr (some w)] h_62 (fun x_66 h_65 => (K x_66 h_65))))))))) ∧ (¬ (x_7 = 0) → (((x3 < 0 → (∀ h_71, h_71 = si h_6 w 0 2 → ((0 < (gi h_71 w 0) → (K 0 h_71)) ∧ (¬ (0 < (gi h_71 w 0)) → (CV T N 160 [vr (some w)] h_71 (fun h_76 => (∃ a_80, (gr h_76 w 1) = some a_80 ∧ T a_80 = 22 ∧ inb 76 (N a_80) ∧ ∃ a_86, (gr h_76 w 1) = some a_86 ∧ T a_86 = 22 ∧ inb (77 + (4 * (gi h_76 a_80 76))) (N a_86) ∧ ∀ h_88, h_88 = si h_76 a_86 (Int32.toNatClampNeg (77 + (4 * (gi h_76 a_80 76)))) x1 → ∃ a_94, (gr h_88 w 1) = some a_94 ∧ T a_94 = 22 ∧ inb ((77 + (4 * (gi h_76 a_80 76))) + 1) (N a_94) ∧ ∀ h_96, h_96 = si h_88 a_94 (Int32.toNatClampNeg ((77 + (4 * (gi h_76 a_80 76))) + 1)) x2 → ∃ a_102, (gr h_96 w 1) = some a_102 ∧ T a_102 = 22 ∧ inb ((77 + (4 * (gi h_76 a_80 76))) + 2) (N a_102) ∧ ∀ h_104, h_104 = si h_96 a_102 (Int32.toNatClampNeg ((77 + (4 * (gi h_76 a_80 76))) + 2)) x3 → ∃ a_110, (gr h_104 w 1) = some a_110 ∧ T a_110 = 22 ∧ inb ((77 + (4 * (gi h_76 a_80 76))) + 3) (N a_110) ∧ ∀ h_112, h_112 = si h_104 a_110 (Int32.toNatClampNeg ((77 + (4 * (gi h_76 a_80 76))) + 3)) x4 → ∃ a_118, (gr h_112 w 1) = some a_118 ∧ T a_118 = 22 ∧ inb 76 (N a_118) ∧ ∀ h_123, h_123 = si h_112 a_118 76 ((gi h_112 a_118 76) + 1) → CI T N 200 [vr (some w)] h_123 (fun x_127 h_126 => (K x_127 h_126))))))))) ∧ (¬ (x3 < 0) → (((x3 < x4 → (((10000 < x4 → (∀ h_320, h_320 = si h_6 w 0 2 → ((0 < (gi h_320 w 0) → (K 0 h_320)) ∧ (¬ (0 < (gi h_320 w 0)) → (CV T N 160 [vr (some w)] h_320 (fun h_325 => (∃ a_329, (gr h_325 w 1) = some a_329 ∧ T a_329 = 22 ∧ inb 76 (N a_329) ∧ ∃ a_335, (gr h_325 w 1) = some a_335 ∧ T a_335 = 22 ∧ inb (77 + (4 * (gi h_325 a_329 76))) (N a_335) ∧ ∀ h_337, h_337 = si h_325 a_335 (Int32.toNatClampNeg (77 + (4 * (gi h_325 a_329 76)))) x1 → ∃ a_343, (gr h_337 w 1) = some a_343 ∧ T a_343 = 22 ∧ inb ((77 + (4 * (gi h_325 a_329 76))) + 1) (N a_343) ∧ ∀ h_345, h_345 = si h_337 a_343 (Int32.toNatClampNeg ((77 + (4 * (gi h_325 a_329 76))) + 1)) x2 → ∃ a_351, (gr h_345 w 1) = some a_351 ∧ T a_351 = 22 ∧ inb ((77 + (4 * (gi h_325 a_329 76))) + 2) (N a_351) ∧ ∀ h_353, h_353 = si h_345 a_351 (Int32.toNatClampNeg ((77 + (4 * (gi h_325 a_329 76))) + 2)) x3 → ∃ a_359, (gr h_353 w 1) = some a_359 ∧ T a_359 = 22 ∧ inb ((77 + (4 * (gi h_325 a_329 76))) + 3) (N a_359) ∧ ∀ h_361, h_361 = si h_353 a_359 (Int32.toNatClampNeg ((77 + (4 * (gi h_325 a_329 76))) + 3)) x4 → ∃ a_367, (gr h_361 w 1) = some a_367 ∧ T a_367 = 22 ∧ inb 76 (N a_367) ∧ ∀ h_372, h_372 = si h_361 a_367 76 ((gi h_361 a_367 76) + 1) → CI T N 200 [vr (some w)] h_372 (fun x_376 h_375 => (K x_376 h_375))))))))) ∧ (¬ (10000 < x4) → (∃ a_194, (gr h_6 w 1) = some a_194 ∧ T a_194 = 22 ∧ inb 76 (N a_194) ∧ (((gi h_6 a_194 76) = 10 → (∀ h_260, h_260 = si h_6 w 0 3 → ((0 < (gi h_260 w 0) → (K 0 h_260)) ∧ (¬ (0 < (gi h_260 w 0)) → (CV T N 160 [vr (some w)] h_260 (fun h_265 => (∃ a_269, (gr h_265 w 1) = some a_269 ∧ T a_269 = 22 ∧ inb 76 (N a_269) ∧ ∃ a_275, (gr h_265 w 1) = some a_275 ∧ T a_275 = 22 ∧ inb (77 + (4 * (gi h_265 a_269 76))) (N a_275) ∧ ∀ h_277, h_277 = si h_265 a_275 (Int32.toNatClampNeg (77 + (4 * (gi h_265 a_269 76)))) x1 → ∃ a_283, (gr h_277 w 1) = some a_283 ∧ T a_283 = 22 ∧ inb ((77 + (4 * (gi h_265 a_269 76))) + 1) (N a_283) ∧ ∀ h_285, h_285 = si h_277 a_283 (Int32.toNatClampNeg ((77 + (4 * (gi h_265 a_269 76))) + 1)) x2 → ∃ a_291, (gr h_285 w 1) = some a_291 ∧ T a_291 = 22 ∧ inb ((77 + (4 * (gi h_265 a_269 76))) + 2) (N a_291) ∧ ∀ h_293, h_293 = si h_285 a_291 (Int32.toNatClampNeg ((77 + (4 * (gi h_265 a_269 76))) + 2)) x3 → ∃ a_299, (gr h_293 w 1) = some a_299 ∧ T a_299 = 22 ∧ inb ((77 + (4 * (gi h_265 a_269 76))) + 3) (N a_299) ∧ ∀ h_301, h_301 = si h_293 a_299 (Int32.toNatClampNeg ((77 + (4 * (gi h_265 a_269 76))) + 3)) x4 → ∃ a_307, (gr h_301 w 1) = some a_307 ∧ T a_307 = 22 ∧ inb 76 (N a_307) ∧ ∀ h_312, h_312 = si h_301 a_307 76 ((gi h_301 a_307 76) + 1) → CI T N 200 [vr (some w)] h_312 (fun x_316 h_315 => (K x_316 h_315))))))))) ∧ (¬ ((gi h_6 a_194 76) = 10) → (∀ h_200, h_200 = si h_6 w 0 0 → ((0 < (gi h_200 w 0) → (K 0 h_200)) ∧ (¬ (0 < (gi h_200 w 0)) → (CV T N 160 [vr (some w)] h_200 (fun h_205 => (∃ a_209, (gr h_205 w 1) = some a_209 ∧ T a_209 = 22 ∧ inb 76 (N a_209) ∧ ∃ a_215, (gr h_205 w 1) = some a_215 ∧ T a_215 = 22 ∧ inb (77 + (4 * (gi h_205 a_209 76))) (N a_215) ∧ ∀ h_217, h_217 = si h_205 a_215 (Int32.toNatClampNeg (77 + (4 * (gi h_205 a_209 76)))) x1 → ∃ a_223, (gr h_217 w 1) = some a_223 ∧ T a_223 = 22 ∧ inb ((77 + (4 * (gi h_205 a_209 76))) + 1) (N a_223) ∧ ∀ h_225, h_225 = si h_217 a_223 (Int32.toNatClampNeg ((77 + (4 * (gi h_205 a_209 76))) + 1)) x2 → ∃ a_231, (gr h_225 w 1) = some a_231 ∧ T a_231 = 22 ∧ inb ((77 + (4 * (gi h_205 a_209 76))) + 2) (N a_231) ∧ ∀ h_233, h_233 = si h_225 a_231 (Int32.toNatClampNeg ((77 + (4 * (gi h_205 a_209 76))) + 2)) x3 → ∃ a_239, (gr h_233 w 1) = some a_239 ∧ T a_239 = 22 ∧ inb ((77 + (4 * (gi h_205 a_209 76))) + 3) (N a_239) ∧ ∀ h_241, h_241 = si h_233 a_239 (Int32.toNatClampNeg ((77 + (4 * (gi h_205 a_209 76))) + 3)) x4 → ∃ a_247, (gr h_241 w 1) = some a_247 ∧ T a_247 = 22 ∧ inb 76 (N a_247) ∧ ∀ h_252, h_252 = si h_241 a_247 76 ((gi h_241 a_247 76) + 1) → CI T N 200 [vr (some w)] h_252 (fun x_256 h_255 => (K x_256 h_255))))))))))))))) ∧ (¬ (x3 < x4) → (∀ h_132, h_132 = si h_6 w 0 2 → ((0 < (gi h_132 w 0) → (K 0 h_132)) ∧ (¬ (0 < (gi h_132 w 0)) → (CV T N 160 [vr (some w)] h_132 (fun h_137 => (∃ a_141, (gr h_137 w 1) = some a_141 ∧ T a_141 = 22 ∧ inb 76 (N a_141) ∧ ∃ a_147, (gr h_137 w 1) = some a_147 ∧ T a_147 = 22 ∧ inb (77 + (4 * (gi h_137 a_141 76))) (N a_147) ∧ ∀ h_149, h_149 = si h_137 a_147 (Int32.toNatClampNeg (77 + (4 * (gi h_137 a_141 76)))) x1 → ∃ a_155, (gr h_149 w 1) = some a_155 ∧ T a_155 = 22 ∧ inb ((77 + (4 * (gi h_137 a_141 76))) + 1) (N a_155) ∧ ∀ h_157, h_157 = si h_149 a_155 (Int32.toNatClampNeg ((77 + (4 * (gi h_137 a_141 76))) + 1)) x2 → ∃ a_163, (gr h_157 w 1) = some a_163 ∧ T a_163 = 22 ∧ inb ((77 + (4 * (gi h_137 a_141 76))) + 2) (N a_163) ∧ ∀ h_165, h_165 = si h_157 a_163 (Int32.toNatClampNeg ((77 + (4 * (gi h_137 a_141 76))) + 2)) x3 → ∃ a_171, (gr h_165 w 1) = some a_171 ∧ T a_171 = 22 ∧ inb ((77 + (4 * (gi h_137 a_141 76))) + 3) (N a_171) ∧ ∀ h_173, h_173 = si h_165 a_171 (Int32.toNatClampNeg ((77 + (4 * (gi h_137 a_141 76))) + 3)) x4 → ∃ a_179, (gr h_173 w 1) = some a_179 ∧ T a_179 = 22 ∧ inb 76 (N a_179) ∧ ∀ h_184, h_184 = si h_173 a_179 76 ((gi h_173 a_179 76) + 1) → CI T N 200 [vr (some w)] h_184 (fun x_188 h_187 => (K x_188 h_187))))))))))))))))))))))))) : CI T N 177 [vr (some w), vi x1, vi x2, vi x3, vi x4] h K := by
  show WP T N 177 0 [some (vr (some w)), some (vi x1), some (vi x2), some (vi x3), some (vi x4), none] [] h _
  refine R_ps 3 (pc2 := 3) (L2 := [some (vr (some w)), some (vi x1), some (vi x2), some (vi x3), some (vi x4), none]) (st2 := [vi x1, vr (some w), vr (some w)]) rfl ?_
  refine R_cI (as := [vr (some w), vi x1]) rfl rfl ⟨Nat.le_of_ble_eq_true rfl, Nat.le_of_ble_eq_true rfl, rfl, (Or.inr ⟨_, rfl, t0⟩)⟩ rfl rfl k (fun x_3 h_2 k => ?_)
  refine R_if0 rfl (fun c_4 => ?_) (fun c_4 => ?_)
  · have k := k.2 c_4
    refine R_ps 3 (pc2 := 17) (L2 := [some (vr (some w)), some (vi x1), some (vi x2), some (vi x3), some (vi x4), none]) (st2 := [vi 7, vi 1, vi x2, vr (some w)]) rfl ?_
    refine R_cI (as := [vi x2, vi 1, vi 7]) rfl rfl ⟨Nat.le_of_ble_eq_true rfl, Nat.le_of_ble_eq_true rfl, rfl, (Or.inl rfl)⟩ rfl rfl k (fun x_7 h_6 k => ?_)
    refine R_if0 rfl (fun c_8 => ?_) (fun c_8 => ?_)
    · have k := k.1 c_8
      refine R_ps 2 (pc2 := 62) (L2 := [some (vr (some w)), some (vi x1), some (vi x2), some (vi x3), some (vi x4), none]) (st2 := [vi 2, vr (some w)]) rfl ?_
      refine R_putI rfl t0 ?_
      show WP T N _ _ _ _ (si h_6 w 0 2) _
      generalize e_11 : si h_6 w 0 2 = h_10
      replace k := k h_10 e_11.symm
      refine R_ps 1 (pc2 := 66) (L2 := [some (vr (some w)), some (vi x1), some (vi x2), some (vi x3), some (vi x4), none]) (st2 := [vr (some w)]) rfl ?_
      refine R_getI rfl t0 ?_
      refine R_if0 rfl (fun c_13 => ?_) (fun c_13 => ?_)
      · have k := k.2 (i32_nlt c_13)
        refine R_ps 1 (pc2 := 75) (L2 := [some (vr (some w)), some (vi x1), some (vi x2), some (vi x3), some (vi x4), none]) (st2 := [vr (some w)]) rfl ?_
        refine R_cV (as := [vr (some w)]) rfl rfl ⟨Nat.le_of_ble_eq_true rfl, Nat.le_of_ble_eq_true rfl, rfl, (Or.inr ⟨_, rfl, t0⟩)⟩ rfl rfl k (fun h_15 k => ?_)
        refine R_ps 3 (pc2 := 82) (L2 := [some (vr (some w)), some (vi x1), some (vi x2), some (vi x3), some (vi x4), none]) (st2 := [vr (some w), vi 4, vi 77]) rfl ?_
        refine R_getR rfl t0 ?_
        refine R_ps 1 (pc2 := 87) (L2 := [some (vr (some w)), some (vi x1), some (vi x2), some (vi x3), some (vi x4), none]) (st2 := [vi 76, vr (gr h_15 w 1), vi 4, vi 77]) rfl ?_
        obtain ⟨a_19, e_20, k⟩ := k
        rw [e_20]
        obtain ⟨t_21, k⟩ := k
        obtain ⟨t_22, k⟩ := k
        refine R_iald rfl (Or.inl t_21) t_22 ?_
        refine R_ps 4 (pc2 := 93) (L2 := [some (vr (some w)), some (vi x1), some (vi x2), some (vi x3), some (vi x4), some (vi (77 + (4 * (gi h_15 a_19 76))))]) (st2 := [vr (some w)]) rfl ?_
        refine R_getR rfl t0 ?_
        refine R_ps 2 (pc2 := 99) (L2 := [some (vr (some w)), some (vi x1), some (vi x2), some (vi x3), some (vi x4), some (vi (77 + (4 * (gi h_15 a_19 76))))]) (st2 := [vi x1, vi (77 + (4 * (gi h_15 a_19 76))), vr (gr h_15 w 1)]) rfl ?_
        obtain ⟨a_25, e_26, k⟩ := k
        rw [e_26]
        obtain ⟨t_29, k⟩ := k
        obtain ⟨t_30, k⟩ := k
        refine R_iast rfl t_29 t_30  ?_
        show WP T N _ _ _ _ (si h_15 a_25 (Int32.toNatClampNeg (77 + (4 * (gi h_15 a_19 76)))) x1) _
        generalize e_28 : si h_15 a_25 (Int32.toNatClampNeg (77 + (4 * (gi h_15 a_19 76)))) x1 = h_27
        replace k := k h_27 e_28.symm
        refine R_ps 1 (pc2 := 101) (L2 := [some (vr (some w)), some (vi x1), some (vi x2), some (vi x3), some (vi x4), some (vi (77 + (4 * (gi h_15 a_19 76))))]) (st2 := [vr (some w)]) rfl ?_
        refine R_getR rfl t0 ?_
        refine R_ps 4 (pc2 := 109) (L2 := [some (vr (some w)), some (vi x1), some (vi x2), some (vi x3), some (vi x4), some (vi (77 + (4 * (gi h_15 a_19 76))))]) (st2 := [vi x2, vi ((77 + (4 * (gi h_15 a_19 76))) + 1), vr (gr h_27 w 1)]) rfl ?_
        obtain ⟨a_33, e_34, k⟩ := k
        rw [e_34]
        obtain ⟨t_37, k⟩ := k
        obtain ⟨t_38, k⟩ := k
        refine R_iast rfl t_37 t_38  ?_
        show WP T N _ _ _ _ (si h_27 a_33 (Int32.toNatClampNeg ((77 + (4 * (gi h_15 a_19 76))) + 1)) x2) _
        generalize e_36 : si h_27 a_33 (Int32.toNatClampNeg ((77 + (4 * (gi h_15 a_19 76))) + 1)) x2 = h_35
        replace k := k h_35 e_36.symm
        refine R_ps 1 (pc2 := 111) (L2 := [some (vr (some w)), some (vi x1), some (vi x2), some (vi x3), some (vi x4), some (vi (77 + (4 * (gi h_15 a_19 76))))]) (st2 := [vr (some w)]) rfl ?_
        refine R_getR rfl t0 ?_
        refine R_ps 4 (pc2 := 119) (L2 := [some (vr (some w)), some (vi x1), some (vi x2), some (vi x3), some (vi x4), some (vi (77 + (4 * (gi h_15 a_19 76))))]) (st2 := [vi x3, vi ((77 + (4 * (gi h_15 a_19 76))) + 2), vr (gr h_35 w 1)]) rfl ?_
        obtain ⟨a_41, e_42, k⟩ := k
        rw [e_42]
        obtain ⟨t_45, k⟩ := k
        obtain ⟨t_46, k⟩ := k
        refine R_iast rfl t_45 t_46  ?_
        show WP T N _ _ _ _ (si h_35 a_41 (Int32.toNatClampNeg ((77 + (4 * (gi h_15 a_19 76))) + 2)) x3) _
        generalize e_44 : si h_35 a_41 (Int32.toNatClampNeg ((77 + (4 * (gi h_15 a_19 76))) + 2)) x3 = h_43
        replace k := k h_43 e_44.symm
        refine R_ps 1 (pc2 := 121) (L2 := [some (vr (some w)), some (vi x1), some (vi x2), some (vi x3), some (vi x4), some (vi (77 + (4 * (gi h_15 a_19 76))))]) (st2 := [vr (some w)]) rfl ?_
        refine R_getR rfl t0 ?_
        refine R_ps 4 (pc2 := 130) (L2 := [some (vr (some w)), some (vi x1), some (vi x2), some (vi x3), some (vi x4), some (vi (77 + (4 * (gi h_15 a_19 76))))]) (st2 := [vi x4, vi ((77 + (4 * (gi h_15 a_19 76))) + 3), vr (gr h_43 w 1)]) rfl ?_
        obtain ⟨a_49, e_50, k⟩ := k
        rw [e_50]
        obtain ⟨t_53, k⟩ := k
        obtain ⟨t_54, k⟩ := k
        refine R_iast rfl t_53 t_54  ?_
        show WP T N _ _ _ _ (si h_43 a_49 (Int32.toNatClampNeg ((77 + (4 * (gi h_15 a_19 76))) + 3)) x4) _
        generalize e_52 : si h_43 a_49 (Int32.toNatClampNeg ((77 + (4 * (gi h_15 a_19 76))) + 3)) x4 = h_51
        replace k := k h_51 e_52.symm
        refine R_ps 1 (pc2 := 132) (L2 := [some (vr (some w)), some (vi x1), some (vi x2), some (vi x3), some (vi x4), some (vi (77 + (4 * (gi h_15 a_19 76))))]) (st2 := [vr (some w)]) rfl ?_
        refine R_getR rfl t0 ?_
        refine R_ps 2 (pc2 := 138) (L2 := [some (vr (some w)), some (vi x1), some (vi x2), some (vi x3), some (vi x4), some (vi (77 + (4 * (gi h_15 a_19 76))))]) (st2 := [vi 76, vr (gr h_51 w 1), vi 76, vr (gr h_51 w 1)]) rfl ?_
        obtain ⟨a_57, e_58, k⟩ := k
        rw [e_58]
        obtain ⟨t_59, k⟩ := k
        obtain ⟨t_60, k⟩ := k
        refine R_iald rfl (Or.inl t_59) t_60 ?_
        refine R_ps 2 (pc2 := 141) (L2 := [some (vr (some w)), some (vi x1), some (vi x2), some (vi x3), some (vi x4), some (vi (77 + (4 * (gi h_15 a_19 76))))]) (st2 := [vi ((gi h_51 a_57 76) + 1), vi 76, vr (some a_57)]) rfl ?_
        refine R_iast rfl t_59 t_60  ?_
        show WP T N _ _ _ _ (si h_51 a_57 76 ((gi h_51 a_57 76) + 1)) _
        generalize e_63 : si h_51 a_57 76 ((gi h_51 a_57 76) + 1) = h_62
        replace k := k h_62 e_63.symm
        refine R_ps 1 (pc2 := 143) (L2 := [some (vr (some w)), some (vi x1), some (vi x2), some (vi x3), some (vi x4), some (vi (77 + (4 * (gi h_15 a_19 76))))]) (st2 := [vr (some w)]) rfl ?_
        refine R_cI (as := [vr (some w)]) rfl rfl ⟨Nat.le_of_ble_eq_true rfl, Nat.le_of_ble_eq_true rfl, rfl, (Or.inr ⟨_, rfl, t0⟩)⟩ rfl rfl k (fun x_66 h_65 k => ?_)
        exact R_iret rfl rfl ⟨_, rfl, k⟩
      · have k := k.1 (i32_lt c_13)
        refine R_ps 1 (pc2 := 73) (L2 := [some (vr (some w)), some (vi x1), some (vi x2), some (vi x3), some (vi x4), none]) (st2 := [vi 0]) rfl ?_
        exact R_iret rfl rfl ⟨_, rfl, k⟩
    · have k := k.2 c_8
      refine R_ps 1 (pc2 := 24) (L2 := [some (vr (some w)), some (vi x1), some (vi x2), some (vi x3), some (vi x4), none]) (st2 := [vi x3, vr (some w)]) rfl ?_
      refine R_if0 rfl (fun c_69 => ?_) (fun c_69 => ?_)
      · have k := k.1 c_69
        refine R_ps 2 (pc2 := 62) (L2 := [some (vr (some w)), some (vi x1), some (vi x2), some (vi x3), some (vi x4), none]) (st2 := [vi 2, vr (some w)]) rfl ?_
        refine R_putI rfl t0 ?_
        show WP T N _ _ _ _ (si h_6 w 0 2) _
        generalize e_72 : si h_6 w 0 2 = h_71
        replace k := k h_71 e_72.symm
        refine R_ps 1 (pc2 := 66) (L2 := [some (vr (some w)), some (vi x1), some (vi x2), some (vi x3), some (vi x4), none]) (st2 := [vr (some w)]) rfl ?_
        refine R_getI rfl t0 ?_
        refine R_if0 rfl (fun c_74 => ?_) (fun c_74 => ?_)
        · have k := k.2 (i32_nlt c_74)
          refine R_ps 1 (pc2 := 75) (L2 := [some (vr (some w)), some (vi x1), some (vi x2), some (vi x3), some (vi x4), none]) (st2 := [vr (some w)]) rfl ?_
          refine R_cV (as := [vr (some w)]) rfl rfl ⟨Nat.le_of_ble_eq_true rfl, Nat.le_of_ble_eq_true rfl, rfl, (Or.inr ⟨_, rfl, t0⟩)⟩ rfl rfl k (fun h_76 k => ?_)
          refine R_ps 3 (pc2 := 82) (L2 := [some (vr (some w)), some (vi x1), some (vi x2), some (vi x3), some (vi x4), none]) (st2 := [vr (some w), vi 4, vi 77]) rfl ?_
          refine R_getR rfl t0 ?_
          refine R_ps 1 (pc2 := 87) (L2 := [some (vr (some w)), some (vi x1), some (vi x2), some (vi x3), some (vi x4), none]) (st2 := [vi 76, vr (gr h_76 w 1), vi 4, vi 77]) rfl ?_
          obtain ⟨a_80, e_81, k⟩ := k
          rw [e_81]
          obtain ⟨t_82, k⟩ := k
          obtain ⟨t_83, k⟩ := k
          refine R_iald rfl (Or.inl t_82) t_83 ?_
          refine R_ps 4 (pc2 := 93) (L2 := [some (vr (some w)), some (vi x1), some (vi x2), some (vi x3), some (vi x4), some (vi (77 + (4 * (gi h_76 a_80 76))))]) (st2 := [vr (some w)]) rfl ?_
          refine R_getR rfl t0 ?_
          refine R_ps 2 (pc2 := 99) (L2 := [some (vr (some w)), some (vi x1), some (vi x2), some (vi x3), some (vi x4), some (vi (77 + (4 * (gi h_76 a_80 76))))]) (st2 := [vi x1, vi (77 + (4 * (gi h_76 a_80 76))), vr (gr h_76 w 1)]) rfl ?_
          obtain ⟨a_86, e_87, k⟩ := k
          rw [e_87]
          obtain ⟨t_90, k⟩ := k
          obtain ⟨t_91, k⟩ := k
          refine R_iast rfl t_90 t_91  ?_
          show WP T N _ _ _ _ (si h_76 a_86 (Int32.toNatClampNeg (77 + (4 * (gi h_76 a_80 76)))) x1) _
          generalize e_89 : si h_76 a_86 (Int32.toNatClampNeg (77 + (4 * (gi h_76 a_80 76)))) x1 = h_88
          replace k := k h_88 e_89.symm
          refine R_ps 1 (pc2 := 101) (L2 := [some (vr (some w)), some (vi x1), some (vi x2), some (vi x3), some (vi x4), some (vi (77 + (4 * (gi h_76 a_80 76))))]) (st2 := [vr (some w)]) rfl ?_
          refine R_getR rfl t0 ?_
          refine R_ps 4 (pc2 := 109) (L2 := [some (vr (some w)), some (vi x1), some (vi x2), some (vi x3), some (vi x4), some (vi (77 + (4 * (gi h_76 a_80 76))))]) (st2 := [vi x2, vi ((77 + (4 * (gi h_76 a_80 76))) + 1), vr (gr h_88 w 1)]) rfl ?_
          obtain ⟨a_94, e_95, k⟩ := k
          rw [e_95]
          obtain ⟨t_98, k⟩ := k
          obtain ⟨t_99, k⟩ := k
          refine R_iast rfl t_98 t_99  ?_
          show WP T N _ _ _ _ (si h_88 a_94 (Int32.toNatClampNeg ((77 + (4 * (gi h_76 a_80 76))) + 1)) x2) _
          generalize e_97 : si h_88 a_94 (Int32.toNatClampNeg ((77 + (4 * (gi h_76 a_80 76))) + 1)) x2 = h_96
          replace k := k h_96 e_97.symm
          refine R_ps 1 (pc2 := 111) (L2 := [some (vr (some w)), some (vi x1), some (vi x2), some (vi x3), some (vi x4), some (vi (77 + (4 * (gi h_76 a_80 76))))]) (st2 := [vr (some w)]) rfl ?_
          refine R_getR rfl t0 ?_
          refine R_ps 4 (pc2 := 119) (L2 := [some (vr (some w)), some (vi x1), some (vi x2), some (vi x3), some (vi x4), some (vi (77 + (4 * (gi h_76 a_80 76))))]) (st2 := [vi x3, vi ((77 + (4 * (gi h_76 a_80 76))) + 2), vr (gr h_96 w 1)]) rfl ?_
          obtain ⟨a_102, e_103, k⟩ := k
          rw [e_103]
          obtain ⟨t_106, k⟩ := k
          obtain ⟨t_107, k⟩ := k
          refine R_iast rfl t_106 t_107  ?_
          show WP T N _ _ _ _ (si h_96 a_102 (Int32.toNatClampNeg ((77 + (4 * (gi h_76 a_80 76))) + 2)) x3) _
          generalize e_105 : si h_96 a_102 (Int32.toNatClampNeg ((77 + (4 * (gi h_76 a_80 76))) + 2)) x3 = h_104
          replace k := k h_104 e_105.symm
          refine R_ps 1 (pc2 := 121) (L2 := [some (vr (some w)), some (vi x1), some (vi x2), some (vi x3), some (vi x4), some (vi (77 + (4 * (gi h_76 a_80 76))))]) (st2 := [vr (some w)]) rfl ?_
          refine R_getR rfl t0 ?_
          refine R_ps 4 (pc2 := 130) (L2 := [some (vr (some w)), some (vi x1), some (vi x2), some (vi x3), some (vi x4), some (vi (77 + (4 * (gi h_76 a_80 76))))]) (st2 := [vi x4, vi ((77 + (4 * (gi h_76 a_80 76))) + 3), vr (gr h_104 w 1)]) rfl ?_
          obtain ⟨a_110, e_111, k⟩ := k
          rw [e_111]
          obtain ⟨t_114, k⟩ := k
          obtain ⟨t_115, k⟩ := k
          refine R_iast rfl t_114 t_115  ?_
          show WP T N _ _ _ _ (si h_104 a_110 (Int32.toNatClampNeg ((77 + (4 * (gi h_76 a_80 76))) + 3)) x4) _
          generalize e_113 : si h_104 a_110 (Int32.toNatClampNeg ((77 + (4 * (gi h_76 a_80 76))) + 3)) x4 = h_112
          replace k := k h_112 e_113.symm
          refine R_ps 1 (pc2 := 132) (L2 := [some (vr (some w)), some (vi x1), some (vi x2), some (vi x3), some (vi x4), some (vi (77 + (4 * (gi h_76 a_80 76))))]) (st2 := [vr (some w)]) rfl ?_
          refine R_getR rfl t0 ?_
          refine R_ps 2 (pc2 := 138) (L2 := [some (vr (some w)), some (vi x1), some (vi x2), some (vi x3), some (vi x4), some (vi (77 + (4 * (gi h_76 a_80 76))))]) (st2 := [vi 76, vr (gr h_112 w 1), vi 76, vr (gr h_112 w 1)]) rfl ?_
          obtain ⟨a_118, e_119, k⟩ := k
          rw [e_119]
          obtain ⟨t_120, k⟩ := k
          obtain ⟨t_121, k⟩ := k
          refine R_iald rfl (Or.inl t_120) t_121 ?_
          refine R_ps 2 (pc2 := 141) (L2 := [some (vr (some w)), some (vi x1), some (vi x2), some (vi x3), some (vi x4), some (vi (77 + (4 * (gi h_76 a_80 76))))]) (st2 := [vi ((gi h_112 a_118 76) + 1), vi 76, vr (some a_118)]) rfl ?_
          refine R_iast rfl t_120 t_121  ?_
          show WP T N _ _ _ _ (si h_112 a_118 76 ((gi h_112 a_118 76) + 1)) _
          generalize e_124 : si h_112 a_118 76 ((gi h_112 a_118 76) + 1) = h_123
          replace k := k h_123 e_124.symm
          refine R_ps 1 (pc2 := 143) (L2 := [some (vr (some w)), some (vi x1), some (vi x2), some (vi x3), some (vi x4), some (vi (77 + (4 * (gi h_76 a_80 76))))]) (st2 := [vr (some w)]) rfl ?_
          refine R_cI (as := [vr (some w)]) rfl rfl ⟨Nat.le_of_ble_eq_true rfl, Nat.le_of_ble_eq_true rfl, rfl, (Or.inr ⟨_, rfl, t0⟩)⟩ rfl rfl k (fun x_127 h_126 k => ?_)
          exact R_iret rfl rfl ⟨_, rfl, k⟩
        · have k := k.1 (i32_lt c_74)
          refine R_ps 1 (pc2 := 73) (L2 := [some (vr (some w)), some (vi x1), some (vi x2), some (vi x3), some (vi x4), none]) (st2 := [vi 0]) rfl ?_
          exact R_iret rfl rfl ⟨_, rfl, k⟩
      · have k := k.2 c_69
        refine R_ps 2 (pc2 := 30) (L2 := [some (vr (some w)), some (vi x1), some (vi x2), some (vi x3), some (vi x4), none]) (st2 := [vi x3, vi x4, vr (some w)]) rfl ?_
        refine R_if rfl (fun c_130 => ?_) (fun c_130 => ?_)
        · have k := k.2 (i32_nlt c_130)
          refine R_ps 2 (pc2 := 62) (L2 := [some (vr (some w)), some (vi x1), some (vi x2), some (vi x3), some (vi x4), none]) (st2 := [vi 2, vr (some w)]) rfl ?_
          refine R_putI rfl t0 ?_
          show WP T N _ _ _ _ (si h_6 w 0 2) _
          generalize e_133 : si h_6 w 0 2 = h_132
          replace k := k h_132 e_133.symm
          refine R_ps 1 (pc2 := 66) (L2 := [some (vr (some w)), some (vi x1), some (vi x2), some (vi x3), some (vi x4), none]) (st2 := [vr (some w)]) rfl ?_
          refine R_getI rfl t0 ?_
          refine R_if0 rfl (fun c_135 => ?_) (fun c_135 => ?_)
          · have k := k.2 (i32_nlt c_135)
            refine R_ps 1 (pc2 := 75) (L2 := [some (vr (some w)), some (vi x1), some (vi x2), some (vi x3), some (vi x4), none]) (st2 := [vr (some w)]) rfl ?_
            refine R_cV (as := [vr (some w)]) rfl rfl ⟨Nat.le_of_ble_eq_true rfl, Nat.le_of_ble_eq_true rfl, rfl, (Or.inr ⟨_, rfl, t0⟩)⟩ rfl rfl k (fun h_137 k => ?_)
            refine R_ps 3 (pc2 := 82) (L2 := [some (vr (some w)), some (vi x1), some (vi x2), some (vi x3), some (vi x4), none]) (st2 := [vr (some w), vi 4, vi 77]) rfl ?_
            refine R_getR rfl t0 ?_
            refine R_ps 1 (pc2 := 87) (L2 := [some (vr (some w)), some (vi x1), some (vi x2), some (vi x3), some (vi x4), none]) (st2 := [vi 76, vr (gr h_137 w 1), vi 4, vi 77]) rfl ?_
            obtain ⟨a_141, e_142, k⟩ := k
            rw [e_142]
            obtain ⟨t_143, k⟩ := k
            obtain ⟨t_144, k⟩ := k
            refine R_iald rfl (Or.inl t_143) t_144 ?_
            refine R_ps 4 (pc2 := 93) (L2 := [some (vr (some w)), some (vi x1), some (vi x2), some (vi x3), some (vi x4), some (vi (77 + (4 * (gi h_137 a_141 76))))]) (st2 := [vr (some w)]) rfl ?_
            refine R_getR rfl t0 ?_
            refine R_ps 2 (pc2 := 99) (L2 := [some (vr (some w)), some (vi x1), some (vi x2), some (vi x3), some (vi x4), some (vi (77 + (4 * (gi h_137 a_141 76))))]) (st2 := [vi x1, vi (77 + (4 * (gi h_137 a_141 76))), vr (gr h_137 w 1)]) rfl ?_
            obtain ⟨a_147, e_148, k⟩ := k
            rw [e_148]
            obtain ⟨t_151, k⟩ := k
            obtain ⟨t_152, k⟩ := k
            refine R_iast rfl t_151 t_152  ?_
            show WP T N _ _ _ _ (si h_137 a_147 (Int32.toNatClampNeg (77 + (4 * (gi h_137 a_141 76)))) x1) _
            generalize e_150 : si h_137 a_147 (Int32.toNatClampNeg (77 + (4 * (gi h_137 a_141 76)))) x1 = h_149
            replace k := k h_149 e_150.symm
            refine R_ps 1 (pc2 := 101) (L2 := [some (vr (some w)), some (vi x1), some (vi x2), some (vi x3), some (vi x4), some (vi (77 + (4 * (gi h_137 a_141 76))))]) (st2 := [vr (some w)]) rfl ?_
            refine R_getR rfl t0 ?_
            refine R_ps 4 (pc2 := 109) (L2 := [some (vr (some w)), some (vi x1), some (vi x2), some (vi x3), some (vi x4), some (vi (77 + (4 * (gi h_137 a_141 76))))]) (st2 := [vi x2, vi ((77 + (4 * (gi h_137 a_141 76))) + 1), vr (gr h_149 w 1)]) rfl ?_
            obtain ⟨a_155, e_156, k⟩ := k
            rw [e_156]
            obtain ⟨t_159, k⟩ := k
            obtain ⟨t_160, k⟩ := k
            refine R_iast rfl t_159 t_160  ?_
            show WP T N _ _ _ _ (si h_149 a_155 (Int32.toNatClampNeg ((77 + (4 * (gi h_137 a_141 76))) + 1)) x2) _
            generalize e_158 : si h_149 a_155 (Int32.toNatClampNeg ((77 + (4 * (gi h_137 a_141 76))) + 1)) x2 = h_157
            replace k := k h_157 e_158.symm
            refine R_ps 1 (pc2 := 111) (L2 := [some (vr (some w)), some (vi x1), some (vi x2), some (vi x3), some (vi x4), some (vi (77 + (4 * (gi h_137 a_141 76))))]) (st2 := [vr (some w)]) rfl ?_
            refine R_getR rfl t0 ?_
            refine R_ps 4 (pc2 := 119) (L2 := [some (vr (some w)), some (vi x1), some (vi x2), some (vi x3), some (vi x4), some (vi (77 + (4 * (gi h_137 a_141 76))))]) (st2 := [vi x3, vi ((77 + (4 * (gi h_137 a_141 76))) + 2), vr (gr h_157 w 1)]) rfl ?_
            obtain ⟨a_163, e_164, k⟩ := k
            rw [e_164]
            obtain ⟨t_167, k⟩ := k
            obtain ⟨t_168, k⟩ := k
            refine R_iast rfl t_167 t_168  ?_
            show WP T N _ _ _ _ (si h_157 a_163 (Int32.toNatClampNeg ((77 + (4 * (gi h_137 a_141 76))) + 2)) x3) _
            generalize e_166 : si h_157 a_163 (Int32.toNatClampNeg ((77 + (4 * (gi h_137 a_141 76))) + 2)) x3 = h_165
            replace k := k h_165 e_166.symm
            refine R_ps 1 (pc2 := 121) (L2 := [some (vr (some w)), some (vi x1), some (vi x2), some (vi x3), some (vi x4), some (vi (77 + (4 * (gi h_137 a_141 76))))]) (st2 := [vr (some w)]) rfl ?_
            refine R_getR rfl t0 ?_
            refine R_ps 4 (pc2 := 130) (L2 := [some (vr (some w)), some (vi x1), some (vi x2), some (vi x3), some (vi x4), some (vi (77 + (4 * (gi h_137 a_141 76))))]) (st2 := [vi x4, vi ((77 + (4 * (gi h_137 a_141 76))) + 3), vr (gr h_165 w 1)]) rfl ?_
            obtain ⟨a_171, e_172, k⟩ := k
            rw [e_172]
            obtain ⟨t_175, k⟩ := k
            obtain ⟨t_176, k⟩ := k
            refine R_iast rfl t_175 t_176  ?_
            show WP T N _ _ _ _ (si h_165 a_171 (Int32.toNatClampNeg ((77 + (4 * (gi h_137 a_141 76))) + 3)) x4) _
            generalize e_174 : si h_165 a_171 (Int32.toNatClampNeg ((77 + (4 * (gi h_137 a_141 76))) + 3)) x4 = h_173
            replace k := k h_173 e_174.symm
            refine R_ps 1 (pc2 := 132) (L2 := [some (vr (some w)), some (vi x1), some (vi x2), some (vi x3), some (vi x4), some (vi (77 + (4 * (gi h_137 a_141 76))))]) (st2 := [vr (some w)]) rfl ?_
            refine R_getR rfl t0 ?_
            refine R_ps 2 (pc2 := 138) (L2 := [some (vr (some w)), some (vi x1), some (vi x2), some (vi x3), some (vi x4), some (vi (77 + (4 * (gi h_137 a_141 76))))]) (st2 := [vi 76, vr (gr h_173 w 1), vi 76, vr (gr h_173 w 1)]) rfl ?_
            obtain ⟨a_179, e_180, k⟩ := k
            rw [e_180]
            obtain ⟨t_181, k⟩ := k
            obtain ⟨t_182, k⟩ := k
            refine R_iald rfl (Or.inl t_181) t_182 ?_
            refine R_ps 2 (pc2 := 141) (L2 := [some (vr (some w)), some (vi x1), some (vi x2), some (vi x3), some (vi x4), some (vi (77 + (4 * (gi h_137 a_141 76))))]) (st2 := [vi ((gi h_173 a_179 76) + 1), vi 76, vr (some a_179)]) rfl ?_
            refine R_iast rfl t_181 t_182  ?_
            show WP T N _ _ _ _ (si h_173 a_179 76 ((gi h_173 a_179 76) + 1)) _
            generalize e_185 : si h_173 a_179 76 ((gi h_173 a_179 76) + 1) = h_184
            replace k := k h_184 e_185.symm
            refine R_ps 1 (pc2 := 143) (L2 := [some (vr (some w)), some (vi x1), some (vi x2), some (vi x3), some (vi x4), some (vi (77 + (4 * (gi h_137 a_141 76))))]) (st2 := [vr (some w)]) rfl ?_
            refine R_cI (as := [vr (some w)]) rfl rfl ⟨Nat.le_of_ble_eq_true rfl, Nat.le_of_ble_eq_true rfl, rfl, (Or.inr ⟨_, rfl, t0⟩)⟩ rfl rfl k (fun x_188 h_187 k => ?_)
            exact R_iret rfl rfl ⟨_, rfl, k⟩
          · have k := k.1 (i32_lt c_135)
            refine R_ps 1 (pc2 := 73) (L2 := [some (vr (some w)), some (vi x1), some (vi x2), some (vi x3), some (vi x4), none]) (st2 := [vi 0]) rfl ?_
            exact R_iret rfl rfl ⟨_, rfl, k⟩
        · have k := k.1 (i32_lt c_130)
          refine R_ps 2 (pc2 := 38) (L2 := [some (vr (some w)), some (vi x1), some (vi x2), some (vi x3), some (vi x4), none]) (st2 := [vi 10000, vi x4, vr (some w)]) rfl ?_
          refine R_if rfl (fun c_191 => ?_) (fun c_191 => ?_)
          · have k := k.2 (i32_nlt c_191)
            refine R_ps 1 (pc2 := 46) (L2 := [some (vr (some w)), some (vi x1), some (vi x2), some (vi x3), some (vi x4), none]) (st2 := [vr (some w), vr (some w)]) rfl ?_
            refine R_getR rfl t0 ?_
            refine R_ps 1 (pc2 := 51) (L2 := [some (vr (some w)), some (vi x1), some (vi x2), some (vi x3), some (vi x4), none]) (st2 := [vi 76, vr (gr h_6 w 1), vr (some w)]) rfl ?_
            obtain ⟨a_194, e_195, k⟩ := k
            rw [e_195]
            obtain ⟨t_196, k⟩ := k
            obtain ⟨t_197, k⟩ := k
            refine R_iald rfl (Or.inl t_196) t_197 ?_
            refine R_ps 1 (pc2 := 54) (L2 := [some (vr (some w)), some (vi x1), some (vi x2), some (vi x3), some (vi x4), none]) (st2 := [vi 10, vi (gi h_6 a_194 76), vr (some w)]) rfl ?_
            refine R_if rfl (fun c_198 => ?_) (fun c_198 => ?_)
            · have k := k.2 c_198
              refine R_ps 1 (pc2 := 62) (L2 := [some (vr (some w)), some (vi x1), some (vi x2), some (vi x3), some (vi x4), none]) (st2 := [vi 0, vr (some w)]) rfl ?_
              refine R_putI rfl t0 ?_
              show WP T N _ _ _ _ (si h_6 w 0 0) _
              generalize e_201 : si h_6 w 0 0 = h_200
              replace k := k h_200 e_201.symm
              refine R_ps 1 (pc2 := 66) (L2 := [some (vr (some w)), some (vi x1), some (vi x2), some (vi x3), some (vi x4), none]) (st2 := [vr (some w)]) rfl ?_
              refine R_getI rfl t0 ?_
              refine R_if0 rfl (fun c_203 => ?_) (fun c_203 => ?_)
              · have k := k.2 (i32_nlt c_203)
                refine R_ps 1 (pc2 := 75) (L2 := [some (vr (some w)), some (vi x1), some (vi x2), some (vi x3), some (vi x4), none]) (st2 := [vr (some w)]) rfl ?_
                refine R_cV (as := [vr (some w)]) rfl rfl ⟨Nat.le_of_ble_eq_true rfl, Nat.le_of_ble_eq_true rfl, rfl, (Or.inr ⟨_, rfl, t0⟩)⟩ rfl rfl k (fun h_205 k => ?_)
                refine R_ps 3 (pc2 := 82) (L2 := [some (vr (some w)), some (vi x1), some (vi x2), some (vi x3), some (vi x4), none]) (st2 := [vr (some w), vi 4, vi 77]) rfl ?_
                refine R_getR rfl t0 ?_
                refine R_ps 1 (pc2 := 87) (L2 := [some (vr (some w)), some (vi x1), some (vi x2), some (vi x3), some (vi x4), none]) (st2 := [vi 76, vr (gr h_205 w 1), vi 4, vi 77]) rfl ?_
                obtain ⟨a_209, e_210, k⟩ := k
                rw [e_210]
                obtain ⟨t_211, k⟩ := k
                obtain ⟨t_212, k⟩ := k
                refine R_iald rfl (Or.inl t_211) t_212 ?_
                refine R_ps 4 (pc2 := 93) (L2 := [some (vr (some w)), some (vi x1), some (vi x2), some (vi x3), some (vi x4), some (vi (77 + (4 * (gi h_205 a_209 76))))]) (st2 := [vr (some w)]) rfl ?_
                refine R_getR rfl t0 ?_
                refine R_ps 2 (pc2 := 99) (L2 := [some (vr (some w)), some (vi x1), some (vi x2), some (vi x3), some (vi x4), some (vi (77 + (4 * (gi h_205 a_209 76))))]) (st2 := [vi x1, vi (77 + (4 * (gi h_205 a_209 76))), vr (gr h_205 w 1)]) rfl ?_
                obtain ⟨a_215, e_216, k⟩ := k
                rw [e_216]
                obtain ⟨t_219, k⟩ := k
                obtain ⟨t_220, k⟩ := k
                refine R_iast rfl t_219 t_220  ?_
                show WP T N _ _ _ _ (si h_205 a_215 (Int32.toNatClampNeg (77 + (4 * (gi h_205 a_209 76)))) x1) _
                generalize e_218 : si h_205 a_215 (Int32.toNatClampNeg (77 + (4 * (gi h_205 a_209 76)))) x1 = h_217
                replace k := k h_217 e_218.symm
                refine R_ps 1 (pc2 := 101) (L2 := [some (vr (some w)), some (vi x1), some (vi x2), some (vi x3), some (vi x4), some (vi (77 + (4 * (gi h_205 a_209 76))))]) (st2 := [vr (some w)]) rfl ?_
                refine R_getR rfl t0 ?_
                refine R_ps 4 (pc2 := 109) (L2 := [some (vr (some w)), some (vi x1), some (vi x2), some (vi x3), some (vi x4), some (vi (77 + (4 * (gi h_205 a_209 76))))]) (st2 := [vi x2, vi ((77 + (4 * (gi h_205 a_209 76))) + 1), vr (gr h_217 w 1)]) rfl ?_
                obtain ⟨a_223, e_224, k⟩ := k
                rw [e_224]
                obtain ⟨t_227, k⟩ := k
                obtain ⟨t_228, k⟩ := k
                refine R_iast rfl t_227 t_228  ?_
                show WP T N _ _ _ _ (si h_217 a_223 (Int32.toNatClampNeg ((77 + (4 * (gi h_205 a_209 76))) + 1)) x2) _
                generalize e_226 : si h_217 a_223 (Int32.toNatClampNeg ((77 + (4 * (gi h_205 a_209 76))) + 1)) x2 = h_225
                replace k := k h_225 e_226.symm
                refine R_ps 1 (pc2 := 111) (L2 := [some (vr (some w)), some (vi x1), some (vi x2), some (vi x3), some (vi x4), some (vi (77 + (4 * (gi h_205 a_209 76))))]) (st2 := [vr (some w)]) rfl ?_
                refine R_getR rfl t0 ?_
                refine R_ps 4 (pc2 := 119) (L2 := [some (vr (some w)), some (vi x1), some (vi x2), some (vi x3), some (vi x4), some (vi (77 + (4 * (gi h_205 a_209 76))))]) (st2 := [vi x3, vi ((77 + (4 * (gi h_205 a_209 76))) + 2), vr (gr h_225 w 1)]) rfl ?_
                obtain ⟨a_231, e_232, k⟩ := k
                rw [e_232]
                obtain ⟨t_235, k⟩ := k
                obtain ⟨t_236, k⟩ := k
                refine R_iast rfl t_235 t_236  ?_
                show WP T N _ _ _ _ (si h_225 a_231 (Int32.toNatClampNeg ((77 + (4 * (gi h_205 a_209 76))) + 2)) x3) _
                generalize e_234 : si h_225 a_231 (Int32.toNatClampNeg ((77 + (4 * (gi h_205 a_209 76))) + 2)) x3 = h_233
                replace k := k h_233 e_234.symm
                refine R_ps 1 (pc2 := 121) (L2 := [some (vr (some w)), some (vi x1), some (vi x2), some (vi x3), some (vi x4), some (vi (77 + (4 * (gi h_205 a_209 76))))]) (st2 := [vr (some w)]) rfl ?_
                refine R_getR rfl t0 ?_
                refine R_ps 4 (pc2 := 130) (L2 := [some (vr (some w)), some (vi x1), some (vi x2), some (vi x3), some (vi x4), some (vi (77 + (4 * (gi h_205 a_209 76))))]) (st2 := [vi x4, vi ((77 + (4 * (gi h_205 a_209 76))) + 3), vr (gr h_233 w 1)]) rfl ?_
                obtain ⟨a_239, e_240, k⟩ := k
                rw [e_240]
                obtain ⟨t_243, k⟩ := k
                obtain ⟨t_244, k⟩ := k
                refine R_iast rfl t_243 t_244  ?_
                show WP T N _ _ _ _ (si h_233 a_239 (Int32.toNatClampNeg ((77 + (4 * (gi h_205 a_209 76))) + 3)) x4) _
                generalize e_242 : si h_233 a_239 (Int32.toNatClampNeg ((77 + (4 * (gi h_205 a_209 76))) + 3)) x4 = h_241
                replace k := k h_241 e_242.symm
                refine R_ps 1 (pc2 := 132) (L2 := [some (vr (some w)), some (vi x1), some (vi x2), some (vi x3), some (vi x4), some (vi (77 + (4 * (gi h_205 a_209 76))))]) (st2 := [vr (some w)]) rfl ?_
                refine R_getR rfl t0 ?_
                refine R_ps 2 (pc2 := 138) (L2 := [some (vr (some w)), some (vi x1), some (vi x2), some (vi x3), some (vi x4), some (vi (77 + (4 * (gi h_205 a_209 76))))]) (st2 := [vi 76, vr (gr h_241 w 1), vi 76, vr (gr h_241 w 1)]) rfl ?_
                obtain ⟨a_247, e_248, k⟩ := k
                rw [e_248]
                obtain ⟨t_249, k⟩ := k
                obtain ⟨t_250, k⟩ := k
                refine R_iald rfl (Or.inl t_249) t_250 ?_
                refine R_ps 2 (pc2 := 141) (L2 := [some (vr (some w)), some (vi x1), some (vi x2), some (vi x3), some (vi x4), some (vi (77 + (4 * (gi h_205 a_209 76))))]) (st2 := [vi ((gi h_241 a_247 76) + 1), vi 76, vr (some a_247)]) rfl ?_
                refine R_iast rfl t_249 t_250  ?_
                show WP T N _ _ _ _ (si h_241 a_247 76 ((gi h_241 a_247 76) + 1)) _
                generalize e_253 : si h_241 a_247 76 ((gi h_241 a_247 76) + 1) = h_252
                replace k := k h_252 e_253.symm
                refine R_ps 1 (pc2 := 143) (L2 := [some (vr (some w)), some (vi x1), some (vi x2), some (vi x3), some (vi x4), some (vi (77 + (4 * (gi h_205 a_209 76))))]) (st2 := [vr (some w)]) rfl ?_
                refine R_cI (as := [vr (some w)]) rfl rfl ⟨Nat.le_of_ble_eq_true rfl, Nat.le_of_ble_eq_true rfl, rfl, (Or.inr ⟨_, rfl, t0⟩)⟩ rfl rfl k (fun x_256 h_255 k => ?_)
                exact R_iret rfl rfl ⟨_, rfl, k⟩
              · have k := k.1 (i32_lt c_203)
                refine R_ps 1 (pc2 := 73) (L2 := [some (vr (some w)), some (vi x1), some (vi x2), some (vi x3), some (vi x4), none]) (st2 := [vi 0]) rfl ?_
                exact R_iret rfl rfl ⟨_, rfl, k⟩
            · have k := k.1 (Classical.not_not.mp c_198)
              refine R_ps 2 (pc2 := 62) (L2 := [some (vr (some w)), some (vi x1), some (vi x2), some (vi x3), some (vi x4), none]) (st2 := [vi 3, vr (some w)]) rfl ?_
              refine R_putI rfl t0 ?_
              show WP T N _ _ _ _ (si h_6 w 0 3) _
              generalize e_261 : si h_6 w 0 3 = h_260
              replace k := k h_260 e_261.symm
              refine R_ps 1 (pc2 := 66) (L2 := [some (vr (some w)), some (vi x1), some (vi x2), some (vi x3), some (vi x4), none]) (st2 := [vr (some w)]) rfl ?_
              refine R_getI rfl t0 ?_
              refine R_if0 rfl (fun c_263 => ?_) (fun c_263 => ?_)
              · have k := k.2 (i32_nlt c_263)
                refine R_ps 1 (pc2 := 75) (L2 := [some (vr (some w)), some (vi x1), some (vi x2), some (vi x3), some (vi x4), none]) (st2 := [vr (some w)]) rfl ?_
                refine R_cV (as := [vr (some w)]) rfl rfl ⟨Nat.le_of_ble_eq_true rfl, Nat.le_of_ble_eq_true rfl, rfl, (Or.inr ⟨_, rfl, t0⟩)⟩ rfl rfl k (fun h_265 k => ?_)
                refine R_ps 3 (pc2 := 82) (L2 := [some (vr (some w)), some (vi x1), some (vi x2), some (vi x3), some (vi x4), none]) (st2 := [vr (some w), vi 4, vi 77]) rfl ?_
                refine R_getR rfl t0 ?_
                refine R_ps 1 (pc2 := 87) (L2 := [some (vr (some w)), some (vi x1), some (vi x2), some (vi x3), some (vi x4), none]) (st2 := [vi 76, vr (gr h_265 w 1), vi 4, vi 77]) rfl ?_
                obtain ⟨a_269, e_270, k⟩ := k
                rw [e_270]
                obtain ⟨t_271, k⟩ := k
                obtain ⟨t_272, k⟩ := k
                refine R_iald rfl (Or.inl t_271) t_272 ?_
                refine R_ps 4 (pc2 := 93) (L2 := [some (vr (some w)), some (vi x1), some (vi x2), some (vi x3), some (vi x4), some (vi (77 + (4 * (gi h_265 a_269 76))))]) (st2 := [vr (some w)]) rfl ?_
                refine R_getR rfl t0 ?_
                refine R_ps 2 (pc2 := 99) (L2 := [some (vr (some w)), some (vi x1), some (vi x2), some (vi x3), some (vi x4), some (vi (77 + (4 * (gi h_265 a_269 76))))]) (st2 := [vi x1, vi (77 + (4 * (gi h_265 a_269 76))), vr (gr h_265 w 1)]) rfl ?_
                obtain ⟨a_275, e_276, k⟩ := k
                rw [e_276]
                obtain ⟨t_279, k⟩ := k
                obtain ⟨t_280, k⟩ := k
                refine R_iast rfl t_279 t_280  ?_
                show WP T N _ _ _ _ (si h_265 a_275 (Int32.toNatClampNeg (77 + (4 * (gi h_265 a_269 76)))) x1) _
                generalize e_278 : si h_265 a_275 (Int32.toNatClampNeg (77 + (4 * (gi h_265 a_269 76)))) x1 = h_277
                replace k := k h_277 e_278.symm
                refine R_ps 1 (pc2 := 101) (L2 := [some (vr (some w)), some (vi x1), some (vi x2), some (vi x3), some (vi x4), some (vi (77 + (4 * (gi h_265 a_269 76))))]) (st2 := [vr (some w)]) rfl ?_
                refine R_getR rfl t0 ?_
                refine R_ps 4 (pc2 := 109) (L2 := [some (vr (some w)), some (vi x1), some (vi x2), some (vi x3), some (vi x4), some (vi (77 + (4 * (gi h_265 a_269 76))))]) (st2 := [vi x2, vi ((77 + (4 * (gi h_265 a_269 76))) + 1), vr (gr h_277 w 1)]) rfl ?_
                obtain ⟨a_283, e_284, k⟩ := k
                rw [e_284]
                obtain ⟨t_287, k⟩ := k
                obtain ⟨t_288, k⟩ := k
                refine R_iast rfl t_287 t_288  ?_
                show WP T N _ _ _ _ (si h_277 a_283 (Int32.toNatClampNeg ((77 + (4 * (gi h_265 a_269 76))) + 1)) x2) _
                generalize e_286 : si h_277 a_283 (Int32.toNatClampNeg ((77 + (4 * (gi h_265 a_269 76))) + 1)) x2 = h_285
                replace k := k h_285 e_286.symm
                refine R_ps 1 (pc2 := 111) (L2 := [some (vr (some w)), some (vi x1), some (vi x2), some (vi x3), some (vi x4), some (vi (77 + (4 * (gi h_265 a_269 76))))]) (st2 := [vr (some w)]) rfl ?_
                refine R_getR rfl t0 ?_
                refine R_ps 4 (pc2 := 119) (L2 := [some (vr (some w)), some (vi x1), some (vi x2), some (vi x3), some (vi x4), some (vi (77 + (4 * (gi h_265 a_269 76))))]) (st2 := [vi x3, vi ((77 + (4 * (gi h_265 a_269 76))) + 2), vr (gr h_285 w 1)]) rfl ?_
                obtain ⟨a_291, e_292, k⟩ := k
                rw [e_292]
                obtain ⟨t_295, k⟩ := k
                obtain ⟨t_296, k⟩ := k
                refine R_iast rfl t_295 t_296  ?_
                show WP T N _ _ _ _ (si h_285 a_291 (Int32.toNatClampNeg ((77 + (4 * (gi h_265 a_269 76))) + 2)) x3) _
                generalize e_294 : si h_285 a_291 (Int32.toNatClampNeg ((77 + (4 * (gi h_265 a_269 76))) + 2)) x3 = h_293
                replace k := k h_293 e_294.symm
                refine R_ps 1 (pc2 := 121) (L2 := [some (vr (some w)), some (vi x1), some (vi x2), some (vi x3), some (vi x4), some (vi (77 + (4 * (gi h_265 a_269 76))))]) (st2 := [vr (some w)]) rfl ?_
                refine R_getR rfl t0 ?_
                refine R_ps 4 (pc2 := 130) (L2 := [some (vr (some w)), some (vi x1), some (vi x2), some (vi x3), some (vi x4), some (vi (77 + (4 * (gi h_265 a_269 76))))]) (st2 := [vi x4, vi ((77 + (4 * (gi h_265 a_269 76))) + 3), vr (gr h_293 w 1)]) rfl ?_
                obtain ⟨a_299, e_300, k⟩ := k
                rw [e_300]
                obtain ⟨t_303, k⟩ := k
                obtain ⟨t_304, k⟩ := k
                refine R_iast rfl t_303 t_304  ?_
                show WP T N _ _ _ _ (si h_293 a_299 (Int32.toNatClampNeg ((77 + (4 * (gi h_265 a_269 76))) + 3)) x4) _
                generalize e_302 : si h_293 a_299 (Int32.toNatClampNeg ((77 + (4 * (gi h_265 a_269 76))) + 3)) x4 = h_301
                replace k := k h_301 e_302.symm
                refine R_ps 1 (pc2 := 132) (L2 := [some (vr (some w)), some (vi x1), some (vi x2), some (vi x3), some (vi x4), some (vi (77 + (4 * (gi h_265 a_269 76))))]) (st2 := [vr (some w)]) rfl ?_
                refine R_getR rfl t0 ?_
                refine R_ps 2 (pc2 := 138) (L2 := [some (vr (some w)), some (vi x1), some (vi x2), some (vi x3), some (vi x4), some (vi (77 + (4 * (gi h_265 a_269 76))))]) (st2 := [vi 76, vr (gr h_301 w 1), vi 76, vr (gr h_301 w 1)]) rfl ?_
                obtain ⟨a_307, e_308, k⟩ := k
                rw [e_308]
                obtain ⟨t_309, k⟩ := k
                obtain ⟨t_310, k⟩ := k
                refine R_iald rfl (Or.inl t_309) t_310 ?_
                refine R_ps 2 (pc2 := 141) (L2 := [some (vr (some w)), some (vi x1), some (vi x2), some (vi x3), some (vi x4), some (vi (77 + (4 * (gi h_265 a_269 76))))]) (st2 := [vi ((gi h_301 a_307 76) + 1), vi 76, vr (some a_307)]) rfl ?_
                refine R_iast rfl t_309 t_310  ?_
                show WP T N _ _ _ _ (si h_301 a_307 76 ((gi h_301 a_307 76) + 1)) _
                generalize e_313 : si h_301 a_307 76 ((gi h_301 a_307 76) + 1) = h_312
                replace k := k h_312 e_313.symm
                refine R_ps 1 (pc2 := 143) (L2 := [some (vr (some w)), some (vi x1), some (vi x2), some (vi x3), some (vi x4), some (vi (77 + (4 * (gi h_265 a_269 76))))]) (st2 := [vr (some w)]) rfl ?_
                refine R_cI (as := [vr (some w)]) rfl rfl ⟨Nat.le_of_ble_eq_true rfl, Nat.le_of_ble_eq_true rfl, rfl, (Or.inr ⟨_, rfl, t0⟩)⟩ rfl rfl k (fun x_316 h_315 k => ?_)
                exact R_iret rfl rfl ⟨_, rfl, k⟩
              · have k := k.1 (i32_lt c_263)
                refine R_ps 1 (pc2 := 73) (L2 := [some (vr (some w)), some (vi x1), some (vi x2), some (vi x3), some (vi x4), none]) (st2 := [vi 0]) rfl ?_
                exact R_iret rfl rfl ⟨_, rfl, k⟩
          · have k := k.1 (i32_lt c_191)
            refine R_ps 2 (pc2 := 62) (L2 := [some (vr (some w)), some (vi x1), some (vi x2), some (vi x3), some (vi x4), none]) (st2 := [vi 2, vr (some w)]) rfl ?_
            refine R_putI rfl t0 ?_
            show WP T N _ _ _ _ (si h_6 w 0 2) _
            generalize e_321 : si h_6 w 0 2 = h_320
            replace k := k h_320 e_321.symm
            refine R_ps 1 (pc2 := 66) (L2 := [some (vr (some w)), some (vi x1), some (vi x2), some (vi x3), some (vi x4), none]) (st2 := [vr (some w)]) rfl ?_
            refine R_getI rfl t0 ?_
            refine R_if0 rfl (fun c_323 => ?_) (fun c_323 => ?_)
            · have k := k.2 (i32_nlt c_323)
              refine R_ps 1 (pc2 := 75) (L2 := [some (vr (some w)), some (vi x1), some (vi x2), some (vi x3), some (vi x4), none]) (st2 := [vr (some w)]) rfl ?_
              refine R_cV (as := [vr (some w)]) rfl rfl ⟨Nat.le_of_ble_eq_true rfl, Nat.le_of_ble_eq_true rfl, rfl, (Or.inr ⟨_, rfl, t0⟩)⟩ rfl rfl k (fun h_325 k => ?_)
              refine R_ps 3 (pc2 := 82) (L2 := [some (vr (some w)), some (vi x1), some (vi x2), some (vi x3), some (vi x4), none]) (st2 := [vr (some w), vi 4, vi 77]) rfl ?_
              refine R_getR rfl t0 ?_
              refine R_ps 1 (pc2 := 87) (L2 := [some (vr (some w)), some (vi x1), some (vi x2), some (vi x3), some (vi x4), none]) (st2 := [vi 76, vr (gr h_325 w 1), vi 4, vi 77]) rfl ?_
              obtain ⟨a_329, e_330, k⟩ := k
              rw [e_330]
              obtain ⟨t_331, k⟩ := k
              obtain ⟨t_332, k⟩ := k
              refine R_iald rfl (Or.inl t_331) t_332 ?_
              refine R_ps 4 (pc2 := 93) (L2 := [some (vr (some w)), some (vi x1), some (vi x2), some (vi x3), some (vi x4), some (vi (77 + (4 * (gi h_325 a_329 76))))]) (st2 := [vr (some w)]) rfl ?_
              refine R_getR rfl t0 ?_
              refine R_ps 2 (pc2 := 99) (L2 := [some (vr (some w)), some (vi x1), some (vi x2), some (vi x3), some (vi x4), some (vi (77 + (4 * (gi h_325 a_329 76))))]) (st2 := [vi x1, vi (77 + (4 * (gi h_325 a_329 76))), vr (gr h_325 w 1)]) rfl ?_
              obtain ⟨a_335, e_336, k⟩ := k
              rw [e_336]
              obtain ⟨t_339, k⟩ := k
              obtain ⟨t_340, k⟩ := k
              refine R_iast rfl t_339 t_340  ?_
              show WP T N _ _ _ _ (si h_325 a_335 (Int32.toNatClampNeg (77 + (4 * (gi h_325 a_329 76)))) x1) _
              generalize e_338 : si h_325 a_335 (Int32.toNatClampNeg (77 + (4 * (gi h_325 a_329 76)))) x1 = h_337
              replace k := k h_337 e_338.symm
              refine R_ps 1 (pc2 := 101) (L2 := [some (vr (some w)), some (vi x1), some (vi x2), some (vi x3), some (vi x4), some (vi (77 + (4 * (gi h_325 a_329 76))))]) (st2 := [vr (some w)]) rfl ?_
              refine R_getR rfl t0 ?_
              refine R_ps 4 (pc2 := 109) (L2 := [some (vr (some w)), some (vi x1), some (vi x2), some (vi x3), some (vi x4), some (vi (77 + (4 * (gi h_325 a_329 76))))]) (st2 := [vi x2, vi ((77 + (4 * (gi h_325 a_329 76))) + 1), vr (gr h_337 w 1)]) rfl ?_
              obtain ⟨a_343, e_344, k⟩ := k
              rw [e_344]
              obtain ⟨t_347, k⟩ := k
              obtain ⟨t_348, k⟩ := k
              refine R_iast rfl t_347 t_348  ?_
              show WP T N _ _ _ _ (si h_337 a_343 (Int32.toNatClampNeg ((77 + (4 * (gi h_325 a_329 76))) + 1)) x2) _
              generalize e_346 : si h_337 a_343 (Int32.toNatClampNeg ((77 + (4 * (gi h_325 a_329 76))) + 1)) x2 = h_345
              replace k := k h_345 e_346.symm
              refine R_ps 1 (pc2 := 111) (L2 := [some (vr (some w)), some (vi x1), some (vi x2), some (vi x3), some (vi x4), some (vi (77 + (4 * (gi h_325 a_329 76))))]) (st2 := [vr (some w)]) rfl ?_
              refine R_getR rfl t0 ?_
              refine R_ps 4 (pc2 := 119) (L2 := [some (vr (some w)), some (vi x1), some (vi x2), some (vi x3), some (vi x4), some (vi (77 + (4 * (gi h_325 a_329 76))))]) (st2 := [vi x3, vi ((77 + (4 * (gi h_325 a_329 76))) + 2), vr (gr h_345 w 1)]) rfl ?_
              obtain ⟨a_351, e_352, k⟩ := k
              rw [e_352]
              obtain ⟨t_355, k⟩ := k
              obtain ⟨t_356, k⟩ := k
              refine R_iast rfl t_355 t_356  ?_
              show WP T N _ _ _ _ (si h_345 a_351 (Int32.toNatClampNeg ((77 + (4 * (gi h_325 a_329 76))) + 2)) x3) _
              generalize e_354 : si h_345 a_351 (Int32.toNatClampNeg ((77 + (4 * (gi h_325 a_329 76))) + 2)) x3 = h_353
              replace k := k h_353 e_354.symm
              refine R_ps 1 (pc2 := 121) (L2 := [some (vr (some w)), some (vi x1), some (vi x2), some (vi x3), some (vi x4), some (vi (77 + (4 * (gi h_325 a_329 76))))]) (st2 := [vr (some w)]) rfl ?_
              refine R_getR rfl t0 ?_
              refine R_ps 4 (pc2 := 130) (L2 := [some (vr (some w)), some (vi x1), some (vi x2), some (vi x3), some (vi x4), some (vi (77 + (4 * (gi h_325 a_329 76))))]) (st2 := [vi x4, vi ((77 + (4 * (gi h_325 a_329 76))) + 3), vr (gr h_353 w 1)]) rfl ?_
              obtain ⟨a_359, e_360, k⟩ := k
              rw [e_360]
              obtain ⟨t_363, k⟩ := k
              obtain ⟨t_364, k⟩ := k
              refine R_iast rfl t_363 t_364  ?_
              show WP T N _ _ _ _ (si h_353 a_359 (Int32.toNatClampNeg ((77 + (4 * (gi h_325 a_329 76))) + 3)) x4) _
              generalize e_362 : si h_353 a_359 (Int32.toNatClampNeg ((77 + (4 * (gi h_325 a_329 76))) + 3)) x4 = h_361
              replace k := k h_361 e_362.symm
              refine R_ps 1 (pc2 := 132) (L2 := [some (vr (some w)), some (vi x1), some (vi x2), some (vi x3), some (vi x4), some (vi (77 + (4 * (gi h_325 a_329 76))))]) (st2 := [vr (some w)]) rfl ?_
              refine R_getR rfl t0 ?_
              refine R_ps 2 (pc2 := 138) (L2 := [some (vr (some w)), some (vi x1), some (vi x2), some (vi x3), some (vi x4), some (vi (77 + (4 * (gi h_325 a_329 76))))]) (st2 := [vi 76, vr (gr h_361 w 1), vi 76, vr (gr h_361 w 1)]) rfl ?_
              obtain ⟨a_367, e_368, k⟩ := k
              rw [e_368]
              obtain ⟨t_369, k⟩ := k
              obtain ⟨t_370, k⟩ := k
              refine R_iald rfl (Or.inl t_369) t_370 ?_
              refine R_ps 2 (pc2 := 141) (L2 := [some (vr (some w)), some (vi x1), some (vi x2), some (vi x3), some (vi x4), some (vi (77 + (4 * (gi h_325 a_329 76))))]) (st2 := [vi ((gi h_361 a_367 76) + 1), vi 76, vr (some a_367)]) rfl ?_
              refine R_iast rfl t_369 t_370  ?_
              show WP T N _ _ _ _ (si h_361 a_367 76 ((gi h_361 a_367 76) + 1)) _
              generalize e_373 : si h_361 a_367 76 ((gi h_361 a_367 76) + 1) = h_372
              replace k := k h_372 e_373.symm
              refine R_ps 1 (pc2 := 143) (L2 := [some (vr (some w)), some (vi x1), some (vi x2), some (vi x3), some (vi x4), some (vi (77 + (4 * (gi h_325 a_329 76))))]) (st2 := [vr (some w)]) rfl ?_
              refine R_cI (as := [vr (some w)]) rfl rfl ⟨Nat.le_of_ble_eq_true rfl, Nat.le_of_ble_eq_true rfl, rfl, (Or.inr ⟨_, rfl, t0⟩)⟩ rfl rfl k (fun x_376 h_375 k => ?_)
              exact R_iret rfl rfl ⟨_, rfl, k⟩
            · have k := k.1 (i32_lt c_323)
              refine R_ps 1 (pc2 := 73) (L2 := [some (vr (some w)), some (vi x1), some (vi x2), some (vi x3), some (vi x4), none]) (st2 := [vi 0]) rfl ?_
              exact R_iret rfl rfl ⟨_, rfl, k⟩
  · have k := k.1 (Classical.not_not.mp c_4)
    refine R_ps 2 (pc2 := 62) (L2 := [some (vr (some w)), some (vi x1), some (vi x2), some (vi x3), some (vi x4), none]) (st2 := [vi 1, vr (some w)]) rfl ?_
    refine R_putI rfl t0 ?_
    show WP T N _ _ _ _ (si h_2 w 0 1) _
    generalize e_381 : si h_2 w 0 1 = h_380
    replace k := k h_380 e_381.symm
    refine R_ps 1 (pc2 := 66) (L2 := [some (vr (some w)), some (vi x1), some (vi x2), some (vi x3), some (vi x4), none]) (st2 := [vr (some w)]) rfl ?_
    refine R_getI rfl t0 ?_
    refine R_if0 rfl (fun c_383 => ?_) (fun c_383 => ?_)
    · have k := k.2 (i32_nlt c_383)
      refine R_ps 1 (pc2 := 75) (L2 := [some (vr (some w)), some (vi x1), some (vi x2), some (vi x3), some (vi x4), none]) (st2 := [vr (some w)]) rfl ?_
      refine R_cV (as := [vr (some w)]) rfl rfl ⟨Nat.le_of_ble_eq_true rfl, Nat.le_of_ble_eq_true rfl, rfl, (Or.inr ⟨_, rfl, t0⟩)⟩ rfl rfl k (fun h_385 k => ?_)
      refine R_ps 3 (pc2 := 82) (L2 := [some (vr (some w)), some (vi x1), some (vi x2), some (vi x3), some (vi x4), none]) (st2 := [vr (some w), vi 4, vi 77]) rfl ?_
      refine R_getR rfl t0 ?_
      refine R_ps 1 (pc2 := 87) (L2 := [some (vr (some w)), some (vi x1), some (vi x2), some (vi x3), some (vi x4), none]) (st2 := [vi 76, vr (gr h_385 w 1), vi 4, vi 77]) rfl ?_
      obtain ⟨a_389, e_390, k⟩ := k
      rw [e_390]
      obtain ⟨t_391, k⟩ := k
      obtain ⟨t_392, k⟩ := k
      refine R_iald rfl (Or.inl t_391) t_392 ?_
      refine R_ps 4 (pc2 := 93) (L2 := [some (vr (some w)), some (vi x1), some (vi x2), some (vi x3), some (vi x4), some (vi (77 + (4 * (gi h_385 a_389 76))))]) (st2 := [vr (some w)]) rfl ?_
      refine R_getR rfl t0 ?_
      refine R_ps 2 (pc2 := 99) (L2 := [some (vr (some w)), some (vi x1), some (vi x2), some (vi x3), some (vi x4), some (vi (77 + (4 * (gi h_385 a_389 76))))]) (st2 := [vi x1, vi (77 + (4 * (gi h_385 a_389 76))), vr (gr h_385 w 1)]) rfl ?_
      obtain ⟨a_395, e_396, k⟩ := k
      rw [e_396]
      obtain ⟨t_399, k⟩ := k
      obtain ⟨t_400, k⟩ := k
      refine R_iast rfl t_399 t_400  ?_
      show WP T N _ _ _ _ (si h_385 a_395 (Int32.toNatClampNeg (77 + (4 * (gi h_385 a_389 76)))) x1) _
      generalize e_398 : si h_385 a_395 (Int32.toNatClampNeg (77 + (4 * (gi h_385 a_389 76)))) x1 = h_397
      replace k := k h_397 e_398.symm
      refine R_ps 1 (pc2 := 101) (L2 := [some (vr (some w)), some (vi x1), some (vi x2), some (vi x3), some (vi x4), some (vi (77 + (4 * (gi h_385 a_389 76))))]) (st2 := [vr (some w)]) rfl ?_
      refine R_getR rfl t0 ?_
      refine R_ps 4 (pc2 := 109) (L2 := [some (vr (some w)), some (vi x1), some (vi x2), some (vi x3), some (vi x4), some (vi (77 + (4 * (gi h_385 a_389 76))))]) (st2 := [vi x2, vi ((77 + (4 * (gi h_385 a_389 76))) + 1), vr (gr h_397 w 1)]) rfl ?_
      obtain ⟨a_403, e_404, k⟩ := k
      rw [e_404]
      obtain ⟨t_407, k⟩ := k
      obtain ⟨t_408, k⟩ := k
      refine R_iast rfl t_407 t_408  ?_
      show WP T N _ _ _ _ (si h_397 a_403 (Int32.toNatClampNeg ((77 + (4 * (gi h_385 a_389 76))) + 1)) x2) _
      generalize e_406 : si h_397 a_403 (Int32.toNatClampNeg ((77 + (4 * (gi h_385 a_389 76))) + 1)) x2 = h_405
      replace k := k h_405 e_406.symm
      refine R_ps 1 (pc2 := 111) (L2 := [some (vr (some w)), some (vi x1), some (vi x2), some (vi x3), some (vi x4), some (vi (77 + (4 * (gi h_385 a_389 76))))]) (st2 := [vr (some w)]) rfl ?_
      refine R_getR rfl t0 ?_
      refine R_ps 4 (pc2 := 119) (L2 := [some (vr (some w)), some (vi x1), some (vi x2), some (vi x3), some (vi x4), some (vi (77 + (4 * (gi h_385 a_389 76))))]) (st2 := [vi x3, vi ((77 + (4 * (gi h_385 a_389 76))) + 2), vr (gr h_405 w 1)]) rfl ?_
      obtain ⟨a_411, e_412, k⟩ := k
      rw [e_412]
      obtain ⟨t_415, k⟩ := k
      obtain ⟨t_416, k⟩ := k
      refine R_iast rfl t_415 t_416  ?_
      show WP T N _ _ _ _ (si h_405 a_411 (Int32.toNatClampNeg ((77 + (4 * (gi h_385 a_389 76))) + 2)) x3) _
      generalize e_414 : si h_405 a_411 (Int32.toNatClampNeg ((77 + (4 * (gi h_385 a_389 76))) + 2)) x3 = h_413
      replace k := k h_413 e_414.symm
      refine R_ps 1 (pc2 := 121) (L2 := [some (vr (some w)), some (vi x1), some (vi x2), some (vi x3), some (vi x4), some (vi (77 + (4 * (gi h_385 a_389 76))))]) (st2 := [vr (some w)]) rfl ?_
      refine R_getR rfl t0 ?_
      refine R_ps 4 (pc2 := 130) (L2 := [some (vr (some w)), some (vi x1), some (vi x2), some (vi x3), some (vi x4), some (vi (77 + (4 * (gi h_385 a_389 76))))]) (st2 := [vi x4, vi ((77 + (4 * (gi h_385 a_389 76))) + 3), vr (gr h_413 w 1)]) rfl ?_
      obtain ⟨a_419, e_420, k⟩ := k
      rw [e_420]
      obtain ⟨t_423, k⟩ := k
      obtain ⟨t_424, k⟩ := k
      refine R_iast rfl t_423 t_424  ?_
      show WP T N _ _ _ _ (si h_413 a_419 (Int32.toNatClampNeg ((77 + (4 * (gi h_385 a_389 76))) + 3)) x4) _
      generalize e_422 : si h_413 a_419 (Int32.toNatClampNeg ((77 + (4 * (gi h_385 a_389 76))) + 3)) x4 = h_421
      replace k := k h_421 e_422.symm
      refine R_ps 1 (pc2 := 132) (L2 := [some (vr (some w)), some (vi x1), some (vi x2), some (vi x3), some (vi x4), some (vi (77 + (4 * (gi h_385 a_389 76))))]) (st2 := [vr (some w)]) rfl ?_
      refine R_getR rfl t0 ?_
      refine R_ps 2 (pc2 := 138) (L2 := [some (vr (some w)), some (vi x1), some (vi x2), some (vi x3), some (vi x4), some (vi (77 + (4 * (gi h_385 a_389 76))))]) (st2 := [vi 76, vr (gr h_421 w 1), vi 76, vr (gr h_421 w 1)]) rfl ?_
      obtain ⟨a_427, e_428, k⟩ := k
      rw [e_428]
      obtain ⟨t_429, k⟩ := k
      obtain ⟨t_430, k⟩ := k
      refine R_iald rfl (Or.inl t_429) t_430 ?_
      refine R_ps 2 (pc2 := 141) (L2 := [some (vr (some w)), some (vi x1), some (vi x2), some (vi x3), some (vi x4), some (vi (77 + (4 * (gi h_385 a_389 76))))]) (st2 := [vi ((gi h_421 a_427 76) + 1), vi 76, vr (some a_427)]) rfl ?_
      refine R_iast rfl t_429 t_430  ?_
      show WP T N _ _ _ _ (si h_421 a_427 76 ((gi h_421 a_427 76) + 1)) _
      generalize e_433 : si h_421 a_427 76 ((gi h_421 a_427 76) + 1) = h_432
      replace k := k h_432 e_433.symm
      refine R_ps 1 (pc2 := 143) (L2 := [some (vr (some w)), some (vi x1), some (vi x2), some (vi x3), some (vi x4), some (vi (77 + (4 * (gi h_385 a_389 76))))]) (st2 := [vr (some w)]) rfl ?_
      refine R_cI (as := [vr (some w)]) rfl rfl ⟨Nat.le_of_ble_eq_true rfl, Nat.le_of_ble_eq_true rfl, rfl, (Or.inr ⟨_, rfl, t0⟩)⟩ rfl rfl k (fun x_436 h_435 k => ?_)
      exact R_iret rfl rfl ⟨_, rfl, k⟩
    · have k := k.1 (i32_lt c_383)
      refine R_ps 1 (pc2 := 73) (L2 := [some (vr (some w)), some (vi x1), some (vi x2), some (vi x3), some (vi x4), none]) (st2 := [vi 0]) rfl ?_
      exact R_iret rfl rfl ⟨_, rfl, k⟩
/-- DroneCorridorsModel.removeFence -/
theorem m178 {T N : Nat → Nat} {h : PH} {w : Nat} {x1 : Int32} {K : Int32 → PH → Prop} (t0 : T w = 12) (k : (∃ a_3, (gr h w 1) = some a_3 ∧ T a_3 = 22 ∧ inb 76 (N a_3) ∧ CI T N 158 [vi x1, vi 0, vi ((gi h a_3 76) - 1)] h (fun x_9 h_8 => (((x_9 = 0 → (∀ h_12, h_12 = si h_8 w 0 1 → (((gi h_12 w 0) = 1 → (K 0 h_12)) ∧ (¬ ((gi h_12 w 0) = 1) → (CV T N 160 [vr (some w)] h_12 (fun h_17 => (∃ a_21, (gr h_17 w 1) = some a_21 ∧ T a_21 = 22 ∧ inb 76 (N a_21) ∧ ∀ h_26, h_26 = si h_17 a_21 76 ((gi h_17 a_21 76) - 1) → WI T N 178 58 [some (vr (some w)), none, some (vi (77 + (4 * x1)))] [] h_26 K))))))) ∧ (¬ (x_9 = 0) → (∀ h_30, h_30 = si h_8 w 0 0 → (((gi h_30 w 0) = 1 → (K 0 h_30)) ∧ (¬ ((gi h_30 w 0) = 1) → (CV T N 160 [vr (some w)] h_30 (fun h_35 => (∃ a_39, (gr h_35 w 1) = some a_39 ∧ T a_39 = 22 ∧ inb 76 (N a_39) ∧ ∀ h_44, h_44 = si h_35 a_39 76 ((gi h_35 a_39 76) - 1) → WI T N 178 58 [some (vr (some w)), none, some (vi (77 + (4 * x1)))] [] h_44 K)))))))))))) : CI T N 178 [vr (some w), vi x1] h K := by
  show WP T N 178 0 [some (vr (some w)), some (vi x1), none] [] h _
  refine R_ps 4 (pc2 := 4) (L2 := [some (vr (some w)), some (vi x1), none]) (st2 := [vr (some w), vi 0, vi x1, vr (some w)]) rfl ?_
  refine R_getR rfl t0 ?_
  refine R_ps 1 (pc2 := 9) (L2 := [some (vr (some w)), some (vi x1), none]) (st2 := [vi 76, vr (gr h w 1), vi 0, vi x1, vr (some w)]) rfl ?_
  obtain ⟨a_3, e_4, k⟩ := k
  rw [e_4]
  obtain ⟨t_5, k⟩ := k
  obtain ⟨t_6, k⟩ := k
  refine R_iald rfl (Or.inl t_5) t_6 ?_
  refine R_ps 2 (pc2 := 12) (L2 := [some (vr (some w)), some (vi x1), none]) (st2 := [vi ((gi h a_3 76) - 1), vi 0, vi x1, vr (some w)]) rfl ?_
  refine R_cI (as := [vi x1, vi 0, vi ((gi h a_3 76) - 1)]) rfl rfl ⟨Nat.le_of_ble_eq_true rfl, Nat.le_of_ble_eq_true rfl, rfl, (Or.inl rfl)⟩ rfl rfl k (fun x_9 h_8 k => ?_)
  refine R_if0 rfl (fun c_10 => ?_) (fun c_10 => ?_)
  · have k := k.1 c_10
    refine R_ps 1 (pc2 := 23) (L2 := [some (vr (some w)), some (vi x1), none]) (st2 := [vi 1, vr (some w)]) rfl ?_
    refine R_putI rfl t0 ?_
    show WP T N _ _ _ _ (si h_8 w 0 1) _
    generalize e_13 : si h_8 w 0 1 = h_12
    replace k := k h_12 e_13.symm
    refine R_ps 1 (pc2 := 27) (L2 := [some (vr (some w)), some (vi x1), none]) (st2 := [vr (some w)]) rfl ?_
    refine R_getI rfl t0 ?_
    refine R_ps 1 (pc2 := 31) (L2 := [some (vr (some w)), some (vi x1), none]) (st2 := [vi 1, vi (gi h_12 w 0)]) rfl ?_
    refine R_if rfl (fun c_15 => ?_) (fun c_15 => ?_)
    · have k := k.2 c_15
      refine R_ps 1 (pc2 := 37) (L2 := [some (vr (some w)), some (vi x1), none]) (st2 := [vr (some w)]) rfl ?_
      refine R_cV (as := [vr (some w)]) rfl rfl ⟨Nat.le_of_ble_eq_true rfl, Nat.le_of_ble_eq_true rfl, rfl, (Or.inr ⟨_, rfl, t0⟩)⟩ rfl rfl k (fun h_17 k => ?_)
      refine R_ps 1 (pc2 := 41) (L2 := [some (vr (some w)), some (vi x1), none]) (st2 := [vr (some w)]) rfl ?_
      refine R_getR rfl t0 ?_
      refine R_ps 2 (pc2 := 47) (L2 := [some (vr (some w)), some (vi x1), none]) (st2 := [vi 76, vr (gr h_17 w 1), vi 76, vr (gr h_17 w 1)]) rfl ?_
      obtain ⟨a_21, e_22, k⟩ := k
      rw [e_22]
      obtain ⟨t_23, k⟩ := k
      obtain ⟨t_24, k⟩ := k
      refine R_iald rfl (Or.inl t_23) t_24 ?_
      refine R_ps 2 (pc2 := 50) (L2 := [some (vr (some w)), some (vi x1), none]) (st2 := [vi ((gi h_17 a_21 76) - 1), vi 76, vr (some a_21)]) rfl ?_
      refine R_iast rfl t_23 t_24  ?_
      show WP T N _ _ _ _ (si h_17 a_21 76 ((gi h_17 a_21 76) - 1)) _
      generalize e_27 : si h_17 a_21 76 ((gi h_17 a_21 76) - 1) = h_26
      replace k := k h_26 e_27.symm
      refine R_ps 6 (pc2 := 58) (L2 := [some (vr (some w)), some (vi x1), some (vi (77 + (4 * x1)))]) (st2 := []) rfl ?_
      exact R_drop k (LE_of (L := [some (vr (some w)), none, some (vi (77 + (4 * x1)))]) (L2 := [some (vr (some w)), some (vi x1), some (vi (77 + (4 * x1)))]) ⟨rfl, rfl, trivial⟩)
    · have k := k.1 (Classical.not_not.mp c_15)
      refine R_ps 1 (pc2 := 35) (L2 := [some (vr (some w)), some (vi x1), none]) (st2 := [vi 0]) rfl ?_
      exact R_iret rfl rfl ⟨_, rfl, k⟩
  · have k := k.2 c_10
    refine R_ps 2 (pc2 := 23) (L2 := [some (vr (some w)), some (vi x1), none]) (st2 := [vi 0, vr (some w)]) rfl ?_
    refine R_putI rfl t0 ?_
    show WP T N _ _ _ _ (si h_8 w 0 0) _
    generalize e_31 : si h_8 w 0 0 = h_30
    replace k := k h_30 e_31.symm
    refine R_ps 1 (pc2 := 27) (L2 := [some (vr (some w)), some (vi x1), none]) (st2 := [vr (some w)]) rfl ?_
    refine R_getI rfl t0 ?_
    refine R_ps 1 (pc2 := 31) (L2 := [some (vr (some w)), some (vi x1), none]) (st2 := [vi 1, vi (gi h_30 w 0)]) rfl ?_
    refine R_if rfl (fun c_33 => ?_) (fun c_33 => ?_)
    · have k := k.2 c_33
      refine R_ps 1 (pc2 := 37) (L2 := [some (vr (some w)), some (vi x1), none]) (st2 := [vr (some w)]) rfl ?_
      refine R_cV (as := [vr (some w)]) rfl rfl ⟨Nat.le_of_ble_eq_true rfl, Nat.le_of_ble_eq_true rfl, rfl, (Or.inr ⟨_, rfl, t0⟩)⟩ rfl rfl k (fun h_35 k => ?_)
      refine R_ps 1 (pc2 := 41) (L2 := [some (vr (some w)), some (vi x1), none]) (st2 := [vr (some w)]) rfl ?_
      refine R_getR rfl t0 ?_
      refine R_ps 2 (pc2 := 47) (L2 := [some (vr (some w)), some (vi x1), none]) (st2 := [vi 76, vr (gr h_35 w 1), vi 76, vr (gr h_35 w 1)]) rfl ?_
      obtain ⟨a_39, e_40, k⟩ := k
      rw [e_40]
      obtain ⟨t_41, k⟩ := k
      obtain ⟨t_42, k⟩ := k
      refine R_iald rfl (Or.inl t_41) t_42 ?_
      refine R_ps 2 (pc2 := 50) (L2 := [some (vr (some w)), some (vi x1), none]) (st2 := [vi ((gi h_35 a_39 76) - 1), vi 76, vr (some a_39)]) rfl ?_
      refine R_iast rfl t_41 t_42  ?_
      show WP T N _ _ _ _ (si h_35 a_39 76 ((gi h_35 a_39 76) - 1)) _
      generalize e_45 : si h_35 a_39 76 ((gi h_35 a_39 76) - 1) = h_44
      replace k := k h_44 e_45.symm
      refine R_ps 6 (pc2 := 58) (L2 := [some (vr (some w)), some (vi x1), some (vi (77 + (4 * x1)))]) (st2 := []) rfl ?_
      exact R_drop k (LE_of (L := [some (vr (some w)), none, some (vi (77 + (4 * x1)))]) (L2 := [some (vr (some w)), some (vi x1), some (vi (77 + (4 * x1)))]) ⟨rfl, rfl, trivial⟩)
    · have k := k.1 (Classical.not_not.mp c_33)
      refine R_ps 1 (pc2 := 35) (L2 := [some (vr (some w)), some (vi x1), none]) (st2 := [vi 0]) rfl ?_
      exact R_iret rfl rfl ⟨_, rfl, k⟩
theorem m178_58 {T N : Nat → Nat} {h : PH} {w : Nat} {x2 : Int32} {K : Int32 → PH → Prop} (t0 : T w = 12) (k : (∃ a_3, (gr h w 1) = some a_3 ∧ T a_3 = 22 ∧ inb 76 (N a_3) ∧ ((x2 < (77 + (4 * (gi h a_3 76))) → (∃ a_15, (gr h w 1) = some a_15 ∧ T a_15 = 22 ∧ inb (x2 + 4) (N a_15) ∧ inb x2 (N a_15) ∧ ∀ h_20, h_20 = si h a_15 (Int32.toNatClampNeg x2) (gi h a_15 (Int32.toNatClampNeg (x2 + 4))) → WI T N 178 58 [some (vr (some w)), none, some (vi (x2 + 1))] [] h_20 K)) ∧ (¬ (x2 < (77 + (4 * (gi h a_3 76)))) → (CI T N 200 [vr (some w)] h (fun x_10 h_9 => (K x_10 h_9))))))) : WI T N 178 58 [some (vr (some w)), none, some (vi x2)] [] h K := by
  show WP T N 178 58 [some (vr (some w)), none, some (vi x2)] [] h _
  refine R_ps 4 (pc2 := 63) (L2 := [some (vr (some w)), none, some (vi x2)]) (st2 := [vr (some w), vi 4, vi 77, vi x2]) rfl ?_
  refine R_getR rfl t0 ?_
  refine R_ps 1 (pc2 := 68) (L2 := [some (vr (some w)), none, some (vi x2)]) (st2 := [vi 76, vr (gr h w 1), vi 4, vi 77, vi x2]) rfl ?_
  obtain ⟨a_3, e_4, k⟩ := k
  rw [e_4]
  obtain ⟨t_5, k⟩ := k
  obtain ⟨t_6, k⟩ := k
  refine R_iald rfl (Or.inl t_5) t_6 ?_
  refine R_ps 2 (pc2 := 71) (L2 := [some (vr (some w)), none, some (vi x2)]) (st2 := [vi (77 + (4 * (gi h a_3 76))), vi x2]) rfl ?_
  refine R_if rfl (fun c_7 => ?_) (fun c_7 => ?_)
  · have k := k.2 (i32_nlt c_7)
    refine R_ps 1 (pc2 := 95) (L2 := [some (vr (some w)), none, some (vi x2)]) (st2 := [vr (some w)]) rfl ?_
    refine R_cI (as := [vr (some w)]) rfl rfl ⟨Nat.le_of_ble_eq_true rfl, Nat.le_of_ble_eq_true rfl, rfl, (Or.inr ⟨_, rfl, t0⟩)⟩ rfl rfl k (fun x_10 h_9 k => ?_)
    exact R_iret rfl rfl ⟨_, rfl, k⟩
  · have k := k.1 (i32_lt c_7)
    refine R_ps 1 (pc2 := 75) (L2 := [some (vr (some w)), none, some (vi x2)]) (st2 := [vr (some w)]) rfl ?_
    refine R_getR rfl t0 ?_
    refine R_ps 2 (pc2 := 80) (L2 := [some (vr (some w)), none, some (vi x2)]) (st2 := [vr (some w), vi x2, vr (gr h w 1)]) rfl ?_
    refine R_getR rfl t0 ?_
    refine R_ps 3 (pc2 := 86) (L2 := [some (vr (some w)), none, some (vi x2)]) (st2 := [vi (x2 + 4), vr (gr h w 1), vi x2, vr (gr h w 1)]) rfl ?_
    obtain ⟨a_15, e_16, k⟩ := k
    rw [e_16]
    obtain ⟨t_17, k⟩ := k
    obtain ⟨t_18, k⟩ := k
    refine R_iald rfl (Or.inl t_17) t_18 ?_
    obtain ⟨t_22, k⟩ := k
    refine R_iast rfl t_17 t_22  ?_
    show WP T N _ _ _ _ (si h a_15 (Int32.toNatClampNeg x2) (gi h a_15 (Int32.toNatClampNeg (x2 + 4)))) _
    generalize e_21 : si h a_15 (Int32.toNatClampNeg x2) (gi h a_15 (Int32.toNatClampNeg (x2 + 4))) = h_20
    replace k := k h_20 e_21.symm
    refine R_ps 2 (pc2 := 58) (L2 := [some (vr (some w)), none, some (vi (x2 + 1))]) (st2 := []) rfl ?_
    exact k
/-- DroneCorridorsModel.fence -/
theorem m179 {T N : Nat → Nat} {h : PH} {w : Nat} {x1 : Int32} {x2 : Int32} {K : Int32 → PH → Prop} (t0 : T w = 12) (k : (∃ a_3, (gr h w 1) = some a_3 ∧ T a_3 = 22 ∧ inb 76 (N a_3) ∧ CI T N 158 [vi x1, vi 0, vi ((gi h a_3 76) - 1)] h (fun x_9 h_8 => (((x_9 = 0 → (∀ h_42, h_42 = si h_8 w 0 1 → (((gi h_42 w 0) = 0 → (∃ a_49, (gr h_42 w 1) = some a_49 ∧ T a_49 = 22 ∧ inb ((77 + (4 * x1)) + x2) (N a_49) ∧ K (gi h_42 a_49 (Int32.toNatClampNeg ((77 + (4 * x1)) + x2))) h_42)) ∧ (¬ ((gi h_42 w 0) = 0) → (K 0 h_42))))) ∧ (¬ (x_9 = 0) → (CI T N 158 [vi x2, vi 0, vi 3] h_8 (fun x_13 h_12 => (((x_13 = 0 → (∀ h_29, h_29 = si h_12 w 0 2 → (((gi h_29 w 0) = 0 → (∃ a_36, (gr h_29 w 1) = some a_36 ∧ T a_36 = 22 ∧ inb ((77 + (4 * x1)) + x2) (N a_36) ∧ K (gi h_29 a_36 (Int32.toNatClampNeg ((77 + (4 * x1)) + x2))) h_29)) ∧ (¬ ((gi h_29 w 0) = 0) → (K 0 h_29))))) ∧ (¬ (x_13 = 0) → (∀ h_16, h_16 = si h_12 w 0 0 → (((gi h_16 w 0) = 0 → (∃ a_23, (gr h_16 w 1) = some a_23 ∧ T a_23 = 22 ∧ inb ((77 + (4 * x1)) + x2) (N a_23) ∧ K (gi h_16 a_23 (Int32.toNatClampNeg ((77 + (4 * x1)) + x2))) h_16)) ∧ (¬ ((gi h_16 w 0) = 0) → (K 0 h_16))))))))))))))) : CI T N 179 [vr (some w), vi x1, vi x2] h K := by
  show WP T N 179 0 [some (vr (some w)), some (vi x1), some (vi x2)] [] h _
  refine R_ps 4 (pc2 := 4) (L2 := [some (vr (some w)), some (vi x1), some (vi x2)]) (st2 := [vr (some w), vi 0, vi x1, vr (some w)]) rfl ?_
  refine R_getR rfl t0 ?_
  refine R_ps 1 (pc2 := 9) (L2 := [some (vr (some w)), some (vi x1), some (vi x2)]) (st2 := [vi 76, vr (gr h w 1), vi 0, vi x1, vr (some w)]) rfl ?_
  obtain ⟨a_3, e_4, k⟩ := k
  rw [e_4]
  obtain ⟨t_5, k⟩ := k
  obtain ⟨t_6, k⟩ := k
  refine R_iald rfl (Or.inl t_5) t_6 ?_
  refine R_ps 2 (pc2 := 12) (L2 := [some (vr (some w)), some (vi x1), some (vi x2)]) (st2 := [vi ((gi h a_3 76) - 1), vi 0, vi x1, vr (some w)]) rfl ?_
  refine R_cI (as := [vi x1, vi 0, vi ((gi h a_3 76) - 1)]) rfl rfl ⟨Nat.le_of_ble_eq_true rfl, Nat.le_of_ble_eq_true rfl, rfl, (Or.inl rfl)⟩ rfl rfl k (fun x_9 h_8 k => ?_)
  refine R_if0 rfl (fun c_10 => ?_) (fun c_10 => ?_)
  · have k := k.2 c_10
    refine R_ps 3 (pc2 := 25) (L2 := [some (vr (some w)), some (vi x1), some (vi x2)]) (st2 := [vi 3, vi 0, vi x2, vr (some w)]) rfl ?_
    refine R_cI (as := [vi x2, vi 0, vi 3]) rfl rfl ⟨Nat.le_of_ble_eq_true rfl, Nat.le_of_ble_eq_true rfl, rfl, (Or.inl rfl)⟩ rfl rfl k (fun x_13 h_12 k => ?_)
    refine R_if0 rfl (fun c_14 => ?_) (fun c_14 => ?_)
    · have k := k.2 c_14
      refine R_ps 1 (pc2 := 36) (L2 := [some (vr (some w)), some (vi x1), some (vi x2)]) (st2 := [vi 0, vr (some w)]) rfl ?_
      refine R_putI rfl t0 ?_
      show WP T N _ _ _ _ (si h_12 w 0 0) _
      generalize e_17 : si h_12 w 0 0 = h_16
      replace k := k h_16 e_17.symm
      refine R_ps 1 (pc2 := 40) (L2 := [some (vr (some w)), some (vi x1), some (vi x2)]) (st2 := [vr (some w)]) rfl ?_
      refine R_getI rfl t0 ?_
      refine R_if0 rfl (fun c_19 => ?_) (fun c_19 => ?_)
      · have k := k.2 c_19
        refine R_ps 1 (pc2 := 63) (L2 := [some (vr (some w)), some (vi x1), some (vi x2)]) (st2 := [vi 0]) rfl ?_
        exact R_iret rfl rfl ⟨_, rfl, k⟩
      · have k := k.1 (Classical.not_not.mp c_19)
        refine R_ps 1 (pc2 := 47) (L2 := [some (vr (some w)), some (vi x1), some (vi x2)]) (st2 := [vr (some w)]) rfl ?_
        refine R_getR rfl t0 ?_
        refine R_ps 7 (pc2 := 58) (L2 := [some (vr (some w)), some (vi x1), some (vi x2)]) (st2 := [vi ((77 + (4 * x1)) + x2), vr (gr h_16 w 1)]) rfl ?_
        obtain ⟨a_23, e_24, k⟩ := k
        rw [e_24]
        obtain ⟨t_25, k⟩ := k
        obtain ⟨t_26, k⟩ := k
        refine R_iald rfl (Or.inl t_25) t_26 ?_
        refine R_ps 1 (pc2 := 63) (L2 := [some (vr (some w)), some (vi x1), some (vi x2)]) (st2 := [vi (gi h_16 a_23 (Int32.toNatClampNeg ((77 + (4 * x1)) + x2)))]) rfl ?_
        exact R_iret rfl rfl ⟨_, rfl, k⟩
    · have k := k.1 (Classical.not_not.mp c_14)
      refine R_ps 2 (pc2 := 36) (L2 := [some (vr (some w)), some (vi x1), some (vi x2)]) (st2 := [vi 2, vr (some w)]) rfl ?_
      refine R_putI rfl t0 ?_
      show WP T N _ _ _ _ (si h_12 w 0 2) _
      generalize e_30 : si h_12 w 0 2 = h_29
      replace k := k h_29 e_30.symm
      refine R_ps 1 (pc2 := 40) (L2 := [some (vr (some w)), some (vi x1), some (vi x2)]) (st2 := [vr (some w)]) rfl ?_
      refine R_getI rfl t0 ?_
      refine R_if0 rfl (fun c_32 => ?_) (fun c_32 => ?_)
      · have k := k.2 c_32
        refine R_ps 1 (pc2 := 63) (L2 := [some (vr (some w)), some (vi x1), some (vi x2)]) (st2 := [vi 0]) rfl ?_
        exact R_iret rfl rfl ⟨_, rfl, k⟩
      · have k := k.1 (Classical.not_not.mp c_32)
        refine R_ps 1 (pc2 := 47) (L2 := [some (vr (some w)), some (vi x1), some (vi x2)]) (st2 := [vr (some w)]) rfl ?_
        refine R_getR rfl t0 ?_
        refine R_ps 7 (pc2 := 58) (L2 := [some (vr (some w)), some (vi x1), some (vi x2)]) (st2 := [vi ((77 + (4 * x1)) + x2), vr (gr h_29 w 1)]) rfl ?_
        obtain ⟨a_36, e_37, k⟩ := k
        rw [e_37]
        obtain ⟨t_38, k⟩ := k
        obtain ⟨t_39, k⟩ := k
        refine R_iald rfl (Or.inl t_38) t_39 ?_
        refine R_ps 1 (pc2 := 63) (L2 := [some (vr (some w)), some (vi x1), some (vi x2)]) (st2 := [vi (gi h_29 a_36 (Int32.toNatClampNeg ((77 + (4 * x1)) + x2)))]) rfl ?_
        exact R_iret rfl rfl ⟨_, rfl, k⟩
  · have k := k.1 (Classical.not_not.mp c_10)
    refine R_ps 2 (pc2 := 36) (L2 := [some (vr (some w)), some (vi x1), some (vi x2)]) (st2 := [vi 1, vr (some w)]) rfl ?_
    refine R_putI rfl t0 ?_
    show WP T N _ _ _ _ (si h_8 w 0 1) _
    generalize e_43 : si h_8 w 0 1 = h_42
    replace k := k h_42 e_43.symm
    refine R_ps 1 (pc2 := 40) (L2 := [some (vr (some w)), some (vi x1), some (vi x2)]) (st2 := [vr (some w)]) rfl ?_
    refine R_getI rfl t0 ?_
    refine R_if0 rfl (fun c_45 => ?_) (fun c_45 => ?_)
    · have k := k.2 c_45
      refine R_ps 1 (pc2 := 63) (L2 := [some (vr (some w)), some (vi x1), some (vi x2)]) (st2 := [vi 0]) rfl ?_
      exact R_iret rfl rfl ⟨_, rfl, k⟩
    · have k := k.1 (Classical.not_not.mp c_45)
      refine R_ps 1 (pc2 := 47) (L2 := [some (vr (some w)), some (vi x1), some (vi x2)]) (st2 := [vr (some w)]) rfl ?_
      refine R_getR rfl t0 ?_
      refine R_ps 7 (pc2 := 58) (L2 := [some (vr (some w)), some (vi x1), some (vi x2)]) (st2 := [vi ((77 + (4 * x1)) + x2), vr (gr h_42 w 1)]) rfl ?_
      obtain ⟨a_49, e_50, k⟩ := k
      rw [e_50]
      obtain ⟨t_51, k⟩ := k
      obtain ⟨t_52, k⟩ := k
      refine R_iald rfl (Or.inl t_51) t_52 ?_
      refine R_ps 1 (pc2 := 63) (L2 := [some (vr (some w)), some (vi x1), some (vi x2)]) (st2 := [vi (gi h_42 a_49 (Int32.toNatClampNeg ((77 + (4 * x1)) + x2)))]) rfl ?_
      exact R_iret rfl rfl ⟨_, rfl, k⟩
/-- DroneCorridorsModel.corridor -/
theorem m180 {T N : Nat → Nat} {h : PH} {w : Nat} {x1 : Int32} {x2 : Int32} {K : Int32 → PH → Prop} (t0 : T w = 12) (k : (CI T N 163 [vr (some w), vi x1] h (fun x_3 h_2 => (((x_3 = 0 → (∀ h_48, h_48 = si h_2 w 0 1 → ((0 < (gi h_48 w 0) → (K 0 h_48)) ∧ (¬ (0 < (gi h_48 w 0)) → (((x2 < 4 → (∃ a_60, (gr h_48 w 1) = some a_60 ∧ T a_60 = 22 ∧ inb ((12 + (4 * x1)) + x2) (N a_60) ∧ K (gi h_48 a_60 (Int32.toNatClampNeg ((12 + (4 * x1)) + x2))) h_48)) ∧ (¬ (x2 < 4) → (((x2 < 6 → (CI T N 167 [vr (some w), vi x1, vi (x2 - 4)] h_48 (fun x_56 h_55 => (K x_56 h_55)))) ∧ (¬ (x2 < 6) → (WI T N 180 79 [some (vr (some w)), some (vi x1), none, some (vi 0), some (vi 0)] [] h_48 K))))))))))) ∧ (¬ (x_3 = 0) → (CI T N 158 [vi x2, vi 0, vi 6] h_2 (fun x_7 h_6 => (((x_7 = 0 → (∀ h_29, h_29 = si h_6 w 0 2 → ((0 < (gi h_29 w 0) → (K 0 h_29)) ∧ (¬ (0 < (gi h_29 w 0)) → (((x2 < 4 → (∃ a_41, (gr h_29 w 1) = some a_41 ∧ T a_41 = 22 ∧ inb ((12 + (4 * x1)) + x2) (N a_41) ∧ K (gi h_29 a_41 (Int32.toNatClampNeg ((12 + (4 * x1)) + x2))) h_29)) ∧ (¬ (x2 < 4) → (((x2 < 6 → (CI T N 167 [vr (some w), vi x1, vi (x2 - 4)] h_29 (fun x_37 h_36 => (K x_37 h_36)))) ∧ (¬ (x2 < 6) → (WI T N 180 79 [some (vr (some w)), some (vi x1), none, some (vi 0), some (vi 0)] [] h_29 K))))))))))) ∧ (¬ (x_7 = 0) → (∀ h_10, h_10 = si h_6 w 0 0 → ((0 < (gi h_10 w 0) → (K 0 h_10)) ∧ (¬ (0 < (gi h_10 w 0)) → (((x2 < 4 → (∃ a_22, (gr h_10 w 1) = some a_22 ∧ T a_22 = 22 ∧ inb ((12 + (4 * x1)) + x2) (N a_22) ∧ K (gi h_10 a_22 (Int32.toNatClampNeg ((12 + (4 * x1)) + x2))) h_10)) ∧ (¬ (x2 < 4) → (((x2 < 6 → (CI T N 167 [vr (some w), vi x1, vi (x2 - 4)] h_10 (fun x_18 h_17 => (K x_18 h_17)))) ∧ (¬ (x2 < 6) → (WI T N 180 79 [some (vr (some w)), some (vi x1), none, some (vi 0), some (vi 0)] [] h_10 K))))))))))))))))))))) : CI T N 180 [vr (some w), vi x1, vi x2] h K := by
  show WP T N 180 0 [some (vr (some w)), some (vi x1), some (vi x2), none, none] [] h _
  refine R_ps 3 (pc2 := 3) (L2 := [some (vr (some w)), some (vi x1), some (vi x2), none, none]) (st2 := [vi x1, vr (some w), vr (some w)]) rfl ?_
  refine R_cI (as := [vr (some w), vi x1]) rfl rfl ⟨Nat.le_of_ble_eq_true rfl, Nat.le_of_ble_eq_true rfl, rfl, (Or.inr ⟨_, rfl, t0⟩)⟩ rfl rfl k (fun x_3 h_2 k => ?_)
  refine R_if0 rfl (fun c_4 => ?_) (fun c_4 => ?_)
  · have k := k.2 c_4
    refine R_ps 3 (pc2 := 17) (L2 := [some (vr (some w)), some (vi x1), some (vi x2), none, none]) (st2 := [vi 6, vi 0, vi x2, vr (some w)]) rfl ?_
    refine R_cI (as := [vi x2, vi 0, vi 6]) rfl rfl ⟨Nat.le_of_ble_eq_true rfl, Nat.le_of_ble_eq_true rfl, rfl, (Or.inl rfl)⟩ rfl rfl k (fun x_7 h_6 k => ?_)
    refine R_if0 rfl (fun c_8 => ?_) (fun c_8 => ?_)
    · have k := k.2 c_8
      refine R_ps 1 (pc2 := 28) (L2 := [some (vr (some w)), some (vi x1), some (vi x2), none, none]) (st2 := [vi 0, vr (some w)]) rfl ?_
      refine R_putI rfl t0 ?_
      show WP T N _ _ _ _ (si h_6 w 0 0) _
      generalize e_11 : si h_6 w 0 0 = h_10
      replace k := k h_10 e_11.symm
      refine R_ps 1 (pc2 := 32) (L2 := [some (vr (some w)), some (vi x1), some (vi x2), none, none]) (st2 := [vr (some w)]) rfl ?_
      refine R_getI rfl t0 ?_
      refine R_if0 rfl (fun c_13 => ?_) (fun c_13 => ?_)
      · have k := k.2 (i32_nlt c_13)
        refine R_ps 2 (pc2 := 42) (L2 := [some (vr (some w)), some (vi x1), some (vi x2), none, none]) (st2 := [vi 4, vi x2]) rfl ?_
        refine R_if rfl (fun c_14 => ?_) (fun c_14 => ?_)
        · have k := k.2 (i32_nlt c_14)
          refine R_ps 2 (pc2 := 62) (L2 := [some (vr (some w)), some (vi x1), some (vi x2), none, none]) (st2 := [vi 6, vi x2]) rfl ?_
          refine R_if rfl (fun c_15 => ?_) (fun c_15 => ?_)
          · have k := k.2 (i32_nlt c_15)
            refine R_ps 4 (pc2 := 79) (L2 := [some (vr (some w)), some (vi x1), some (vi x2), some (vi 0), some (vi 0)]) (st2 := []) rfl ?_
            exact R_drop k (LE_of (L := [some (vr (some w)), some (vi x1), none, some (vi 0), some (vi 0)]) (L2 := [some (vr (some w)), some (vi x1), some (vi x2), some (vi 0), some (vi 0)]) ⟨rfl, rfl, rfl, rfl, trivial⟩)
          · have k := k.1 (i32_lt c_15)
            refine R_ps 5 (pc2 := 70) (L2 := [some (vr (some w)), some (vi x1), some (vi x2), none, none]) (st2 := [vi (x2 - 4), vi x1, vr (some w)]) rfl ?_
            refine R_cI (as := [vr (some w), vi x1, vi (x2 - 4)]) rfl rfl ⟨Nat.le_of_ble_eq_true rfl, Nat.le_of_ble_eq_true rfl, rfl, (Or.inr ⟨_, rfl, t0⟩)⟩ rfl rfl k (fun x_18 h_17 k => ?_)
            exact R_iret rfl rfl ⟨_, rfl, k⟩
        · have k := k.1 (i32_lt c_14)
          refine R_ps 1 (pc2 := 46) (L2 := [some (vr (some w)), some (vi x1), some (vi x2), none, none]) (st2 := [vr (some w)]) rfl ?_
          refine R_getR rfl t0 ?_
          refine R_ps 7 (pc2 := 57) (L2 := [some (vr (some w)), some (vi x1), some (vi x2), none, none]) (st2 := [vi ((12 + (4 * x1)) + x2), vr (gr h_10 w 1)]) rfl ?_
          obtain ⟨a_22, e_23, k⟩ := k
          rw [e_23]
          obtain ⟨t_24, k⟩ := k
          obtain ⟨t_25, k⟩ := k
          refine R_iald rfl (Or.inl t_24) t_25 ?_
          exact R_iret rfl rfl ⟨_, rfl, k⟩
      · have k := k.1 (i32_lt c_13)
        refine R_ps 1 (pc2 := 39) (L2 := [some (vr (some w)), some (vi x1), some (vi x2), none, none]) (st2 := [vi 0]) rfl ?_
        exact R_iret rfl rfl ⟨_, rfl, k⟩
    · have k := k.1 (Classical.not_not.mp c_8)
      refine R_ps 2 (pc2 := 28) (L2 := [some (vr (some w)), some (vi x1), some (vi x2), none, none]) (st2 := [vi 2, vr (some w)]) rfl ?_
      refine R_putI rfl t0 ?_
      show WP T N _ _ _ _ (si h_6 w 0 2) _
      generalize e_30 : si h_6 w 0 2 = h_29
      replace k := k h_29 e_30.symm
      refine R_ps 1 (pc2 := 32) (L2 := [some (vr (some w)), some (vi x1), some (vi x2), none, none]) (st2 := [vr (some w)]) rfl ?_
      refine R_getI rfl t0 ?_
      refine R_if0 rfl (fun c_32 => ?_) (fun c_32 => ?_)
      · have k := k.2 (i32_nlt c_32)
        refine R_ps 2 (pc2 := 42) (L2 := [some (vr (some w)), some (vi x1), some (vi x2), none, none]) (st2 := [vi 4, vi x2]) rfl ?_
        refine R_if rfl (fun c_33 => ?_) (fun c_33 => ?_)
        · have k := k.2 (i32_nlt c_33)
          refine R_ps 2 (pc2 := 62) (L2 := [some (vr (some w)), some (vi x1), some (vi x2), none, none]) (st2 := [vi 6, vi x2]) rfl ?_
          refine R_if rfl (fun c_34 => ?_) (fun c_34 => ?_)
          · have k := k.2 (i32_nlt c_34)
            refine R_ps 4 (pc2 := 79) (L2 := [some (vr (some w)), some (vi x1), some (vi x2), some (vi 0), some (vi 0)]) (st2 := []) rfl ?_
            exact R_drop k (LE_of (L := [some (vr (some w)), some (vi x1), none, some (vi 0), some (vi 0)]) (L2 := [some (vr (some w)), some (vi x1), some (vi x2), some (vi 0), some (vi 0)]) ⟨rfl, rfl, rfl, rfl, trivial⟩)
          · have k := k.1 (i32_lt c_34)
            refine R_ps 5 (pc2 := 70) (L2 := [some (vr (some w)), some (vi x1), some (vi x2), none, none]) (st2 := [vi (x2 - 4), vi x1, vr (some w)]) rfl ?_
            refine R_cI (as := [vr (some w), vi x1, vi (x2 - 4)]) rfl rfl ⟨Nat.le_of_ble_eq_true rfl, Nat.le_of_ble_eq_true rfl, rfl, (Or.inr ⟨_, rfl, t0⟩)⟩ rfl rfl k (fun x_37 h_36 k => ?_)
            exact R_iret rfl rfl ⟨_, rfl, k⟩
        · have k := k.1 (i32_lt c_33)
          refine R_ps 1 (pc2 := 46) (L2 := [some (vr (some w)), some (vi x1), some (vi x2), none, none]) (st2 := [vr (some w)]) rfl ?_
          refine R_getR rfl t0 ?_
          refine R_ps 7 (pc2 := 57) (L2 := [some (vr (some w)), some (vi x1), some (vi x2), none, none]) (st2 := [vi ((12 + (4 * x1)) + x2), vr (gr h_29 w 1)]) rfl ?_
          obtain ⟨a_41, e_42, k⟩ := k
          rw [e_42]
          obtain ⟨t_43, k⟩ := k
          obtain ⟨t_44, k⟩ := k
          refine R_iald rfl (Or.inl t_43) t_44 ?_
          exact R_iret rfl rfl ⟨_, rfl, k⟩
      · have k := k.1 (i32_lt c_32)
        refine R_ps 1 (pc2 := 39) (L2 := [some (vr (some w)), some (vi x1), some (vi x2), none, none]) (st2 := [vi 0]) rfl ?_
        exact R_iret rfl rfl ⟨_, rfl, k⟩
  · have k := k.1 (Classical.not_not.mp c_4)
    refine R_ps 2 (pc2 := 28) (L2 := [some (vr (some w)), some (vi x1), some (vi x2), none, none]) (st2 := [vi 1, vr (some w)]) rfl ?_
    refine R_putI rfl t0 ?_
    show WP T N _ _ _ _ (si h_2 w 0 1) _
    generalize e_49 : si h_2 w 0 1 = h_48
    replace k := k h_48 e_49.symm
    refine R_ps 1 (pc2 := 32) (L2 := [some (vr (some w)), some (vi x1), some (vi x2), none, none]) (st2 := [vr (some w)]) rfl ?_
    refine R_getI rfl t0 ?_
    refine R_if0 rfl (fun c_51 => ?_) (fun c_51 => ?_)
    · have k := k.2 (i32_nlt c_51)
      refine R_ps 2 (pc2 := 42) (L2 := [some (vr (some w)), some (vi x1), some (vi x2), none, none]) (st2 := [vi 4, vi x2]) rfl ?_
      refine R_if rfl (fun c_52 => ?_) (fun c_52 => ?_)
      · have k := k.2 (i32_nlt c_52)
        refine R_ps 2 (pc2 := 62) (L2 := [some (vr (some w)), some (vi x1), some (vi x2), none, none]) (st2 := [vi 6, vi x2]) rfl ?_
        refine R_if rfl (fun c_53 => ?_) (fun c_53 => ?_)
        · have k := k.2 (i32_nlt c_53)
          refine R_ps 4 (pc2 := 79) (L2 := [some (vr (some w)), some (vi x1), some (vi x2), some (vi 0), some (vi 0)]) (st2 := []) rfl ?_
          exact R_drop k (LE_of (L := [some (vr (some w)), some (vi x1), none, some (vi 0), some (vi 0)]) (L2 := [some (vr (some w)), some (vi x1), some (vi x2), some (vi 0), some (vi 0)]) ⟨rfl, rfl, rfl, rfl, trivial⟩)
        · have k := k.1 (i32_lt c_53)
          refine R_ps 5 (pc2 := 70) (L2 := [some (vr (some w)), some (vi x1), some (vi x2), none, none]) (st2 := [vi (x2 - 4), vi x1, vr (some w)]) rfl ?_
          refine R_cI (as := [vr (some w), vi x1, vi (x2 - 4)]) rfl rfl ⟨Nat.le_of_ble_eq_true rfl, Nat.le_of_ble_eq_true rfl, rfl, (Or.inr ⟨_, rfl, t0⟩)⟩ rfl rfl k (fun x_56 h_55 k => ?_)
          exact R_iret rfl rfl ⟨_, rfl, k⟩
      · have k := k.1 (i32_lt c_52)
        refine R_ps 1 (pc2 := 46) (L2 := [some (vr (some w)), some (vi x1), some (vi x2), none, none]) (st2 := [vr (some w)]) rfl ?_
        refine R_getR rfl t0 ?_
        refine R_ps 7 (pc2 := 57) (L2 := [some (vr (some w)), some (vi x1), some (vi x2), none, none]) (st2 := [vi ((12 + (4 * x1)) + x2), vr (gr h_48 w 1)]) rfl ?_
        obtain ⟨a_60, e_61, k⟩ := k
        rw [e_61]
        obtain ⟨t_62, k⟩ := k
        obtain ⟨t_63, k⟩ := k
        refine R_iald rfl (Or.inl t_62) t_63 ?_
        exact R_iret rfl rfl ⟨_, rfl, k⟩
    · have k := k.1 (i32_lt c_51)
      refine R_ps 1 (pc2 := 39) (L2 := [some (vr (some w)), some (vi x1), some (vi x2), none, none]) (st2 := [vi 0]) rfl ?_
      exact R_iret rfl rfl ⟨_, rfl, k⟩
theorem m180_79 {T N : Nat → Nat} {h : PH} {w : Nat} {x1 : Int32} {x3 : Int32} {x4 : Int32} {K : Int32 → PH → Prop} (t0 : T w = 12) (k : (∃ a_3, (gr h w 1) = some a_3 ∧ T a_3 = 22 ∧ inb 117 (N a_3) ∧ ((x4 < (gi h a_3 117) → (CI T N 168 [vr (some w), vi x4, vi 0] h (fun x_11 h_10 => (((x_11 = 2 → (CI T N 186 [vr (some w), vi x4, vi 0] h_10 (fun x_15 h_14 => (CI T N 187 [vi x_15] h_14 (fun x_18 h_17 => (((x_18 = x1 → (WI T N 180 79 [some (vr (some w)), some (vi x1), none, some (vi (x3 ||| (1 <<< (x4 &&& 31)))), some (vi (x4 + 1))] [] h_17 K)) ∧ (¬ (x_18 = x1) → (WI T N 180 79 [some (vr (some w)), some (vi x1), none, some (vi (x3 ||| 0)), some (vi (x4 + 1))] [] h_17 K))))))))) ∧ (¬ (x_11 = 2) → (WI T N 180 79 [some (vr (some w)), some (vi x1), none, some (vi (x3 ||| 0)), some (vi (x4 + 1))] [] h_10 K))))))) ∧ (¬ (x4 < (gi h a_3 117)) → (K x3 h))))) : WI T N 180 79 [some (vr (some w)), some (vi x1), none, some (vi x3), some (vi x4)] [] h K := by
  show WP T N 180 79 [some (vr (some w)), some (vi x1), none, some (vi x3), some (vi x4)] [] h _
  refine R_ps 2 (pc2 := 82) (L2 := [some (vr (some w)), some (vi x1), none, some (vi x3), some (vi x4)]) (st2 := [vr (some w), vi x4]) rfl ?_
  refine R_getR rfl t0 ?_
  refine R_ps 1 (pc2 := 87) (L2 := [some (vr (some w)), some (vi x1), none, some (vi x3), some (vi x4)]) (st2 := [vi 117, vr (gr h w 1), vi x4]) rfl ?_
  obtain ⟨a_3, e_4, k⟩ := k
  rw [e_4]
  obtain ⟨t_5, k⟩ := k
  obtain ⟨t_6, k⟩ := k
  refine R_iald rfl (Or.inl t_5) t_6 ?_
  refine R_if rfl (fun c_7 => ?_) (fun c_7 => ?_)
  · have k := k.2 (i32_nlt c_7)
    refine R_ps 1 (pc2 := 134) (L2 := [some (vr (some w)), some (vi x1), none, some (vi x3), some (vi x4)]) (st2 := [vi x3]) rfl ?_
    exact R_iret rfl rfl ⟨_, rfl, k⟩
  · have k := k.1 (i32_lt c_7)
    refine R_ps 4 (pc2 := 96) (L2 := [some (vr (some w)), some (vi x1), none, some (vi x3), some (vi x4)]) (st2 := [vi 0, vi x4, vr (some w), vi x3]) rfl ?_
    refine R_cI (as := [vr (some w), vi x4, vi 0]) rfl rfl ⟨Nat.le_of_ble_eq_true rfl, Nat.le_of_ble_eq_true rfl, rfl, (Or.inr ⟨_, rfl, t0⟩)⟩ rfl rfl k (fun x_11 h_10 k => ?_)
    refine R_ps 1 (pc2 := 100) (L2 := [some (vr (some w)), some (vi x1), none, some (vi x3), some (vi x4)]) (st2 := [vi 2, vi x_11, vi x3]) rfl ?_
    refine R_if rfl (fun c_12 => ?_) (fun c_12 => ?_)
    · have k := k.2 c_12
      refine R_ps 5 (pc2 := 79) (L2 := [some (vr (some w)), some (vi x1), none, some (vi (x3 ||| 0)), some (vi (x4 + 1))]) (st2 := []) rfl ?_
      exact k
    · have k := k.1 (Classical.not_not.mp c_12)
      refine R_ps 3 (pc2 := 107) (L2 := [some (vr (some w)), some (vi x1), none, some (vi x3), some (vi x4)]) (st2 := [vi 0, vi x4, vr (some w), vi x3]) rfl ?_
      refine R_cI (as := [vr (some w), vi x4, vi 0]) rfl rfl ⟨Nat.le_of_ble_eq_true rfl, Nat.le_of_ble_eq_true rfl, rfl, (Or.inr ⟨_, rfl, t0⟩)⟩ rfl rfl k (fun x_15 h_14 k => ?_)
      refine R_cI (as := [vi x_15]) rfl rfl ⟨Nat.le_of_ble_eq_true rfl, Nat.le_of_ble_eq_true rfl, rfl, (Or.inl rfl)⟩ rfl rfl k (fun x_18 h_17 k => ?_)
      refine R_ps 1 (pc2 := 114) (L2 := [some (vr (some w)), some (vi x1), none, some (vi x3), some (vi x4)]) (st2 := [vi x1, vi x_18, vi x3]) rfl ?_
      refine R_if rfl (fun c_19 => ?_) (fun c_19 => ?_)
      · have k := k.2 c_19
        refine R_ps 5 (pc2 := 79) (L2 := [some (vr (some w)), some (vi x1), none, some (vi (x3 ||| 0)), some (vi (x4 + 1))]) (st2 := []) rfl ?_
        exact k
      · have k := k.1 (Classical.not_not.mp c_19)
        refine R_ps 8 (pc2 := 79) (L2 := [some (vr (some w)), some (vi x1), none, some (vi (x3 ||| (1 <<< (x4 &&& 31)))), some (vi (x4 + 1))]) (st2 := []) rfl ?_
        exact k
/-- DroneCorridorsModel.isPad -/
theorem m181 {T N : Nat → Nat} {h : PH} {w : Nat} {x1 : Int32} {K : Int32 → PH → Prop} (t0 : T w = 12) (k : (CI T N 162 [vr (some w), vi x1] h (fun x_3 h_2 => (((x_3 = 0 → (∀ h_6, h_6 = si h_2 w 0 1 → (((gi h_6 w 0) = 0 → (∃ a_13, (gr h_6 w 1) = some a_13 ∧ T a_13 = 22 ∧ inb (1 + x1) (N a_13) ∧ (((gi h_6 a_13 (Int32.toNatClampNeg (1 + x1))) = 1 → (K 1 h_6)) ∧ (¬ ((gi h_6 a_13 (Int32.toNatClampNeg (1 + x1))) = 1) → (K 0 h_6))))) ∧ (¬ ((gi h_6 w 0) = 0) → (K 0 h_6))))) ∧ (¬ (x_3 = 0) → (∀ h_21, h_21 = si h_2 w 0 0 → (((gi h_21 w 0) = 0 → (∃ a_28, (gr h_21 w 1) = some a_28 ∧ T a_28 = 22 ∧ inb (1 + x1) (N a_28) ∧ (((gi h_21 a_28 (Int32.toNatClampNeg (1 + x1))) = 1 → (K 1 h_21)) ∧ (¬ ((gi h_21 a_28 (Int32.toNatClampNeg (1 + x1))) = 1) → (K 0 h_21))))) ∧ (¬ ((gi h_21 w 0) = 0) → (K 0 h_21)))))))))) : CI T N 181 [vr (some w), vi x1] h K := by
  show WP T N 181 0 [some (vr (some w)), some (vi x1)] [] h _
  refine R_ps 3 (pc2 := 3) (L2 := [some (vr (some w)), some (vi x1)]) (st2 := [vi x1, vr (some w), vr (some w)]) rfl ?_
  refine R_cI (as := [vr (some w), vi x1]) rfl rfl ⟨Nat.le_of_ble_eq_true rfl, Nat.le_of_ble_eq_true rfl, rfl, (Or.inr ⟨_, rfl, t0⟩)⟩ rfl rfl k (fun x_3 h_2 k => ?_)
  refine R_if0 rfl (fun c_4 => ?_) (fun c_4 => ?_)
  · have k := k.1 c_4
    refine R_ps 1 (pc2 := 14) (L2 := [some (vr (some w)), some (vi x1)]) (st2 := [vi 1, vr (some w)]) rfl ?_
    refine R_putI rfl t0 ?_
    show WP T N _ _ _ _ (si h_2 w 0 1) _
    generalize e_7 : si h_2 w 0 1 = h_6
    replace k := k h_6 e_7.symm
    refine R_ps 1 (pc2 := 18) (L2 := [some (vr (some w)), some (vi x1)]) (st2 := [vr (some w)]) rfl ?_
    refine R_getI rfl t0 ?_
    refine R_if0 rfl (fun c_9 => ?_) (fun c_9 => ?_)
    · have k := k.2 c_9
      refine R_ps 1 (pc2 := 41) (L2 := [some (vr (some w)), some (vi x1)]) (st2 := [vi 0]) rfl ?_
      exact R_zret rfl rfl (Or.inl rfl) ⟨_, rfl, k⟩
    · have k := k.1 (Classical.not_not.mp c_9)
      refine R_ps 1 (pc2 := 25) (L2 := [some (vr (some w)), some (vi x1)]) (st2 := [vr (some w)]) rfl ?_
      refine R_getR rfl t0 ?_
      refine R_ps 3 (pc2 := 31) (L2 := [some (vr (some w)), some (vi x1)]) (st2 := [vi (1 + x1), vr (gr h_6 w 1)]) rfl ?_
      obtain ⟨a_13, e_14, k⟩ := k
      rw [e_14]
      obtain ⟨t_15, k⟩ := k
      obtain ⟨t_16, k⟩ := k
      refine R_iald rfl (Or.inl t_15) t_16 ?_
      refine R_ps 1 (pc2 := 33) (L2 := [some (vr (some w)), some (vi x1)]) (st2 := [vi 1, vi (gi h_6 a_13 (Int32.toNatClampNeg (1 + x1)))]) rfl ?_
      refine R_if rfl (fun c_17 => ?_) (fun c_17 => ?_)
      · have k := k.2 c_17
        refine R_ps 1 (pc2 := 41) (L2 := [some (vr (some w)), some (vi x1)]) (st2 := [vi 0]) rfl ?_
        exact R_zret rfl rfl (Or.inl rfl) ⟨_, rfl, k⟩
      · have k := k.1 (Classical.not_not.mp c_17)
        refine R_ps 2 (pc2 := 41) (L2 := [some (vr (some w)), some (vi x1)]) (st2 := [vi 1]) rfl ?_
        exact R_zret rfl rfl (Or.inr rfl) ⟨_, rfl, k⟩
  · have k := k.2 c_4
    refine R_ps 2 (pc2 := 14) (L2 := [some (vr (some w)), some (vi x1)]) (st2 := [vi 0, vr (some w)]) rfl ?_
    refine R_putI rfl t0 ?_
    show WP T N _ _ _ _ (si h_2 w 0 0) _
    generalize e_22 : si h_2 w 0 0 = h_21
    replace k := k h_21 e_22.symm
    refine R_ps 1 (pc2 := 18) (L2 := [some (vr (some w)), some (vi x1)]) (st2 := [vr (some w)]) rfl ?_
    refine R_getI rfl t0 ?_
    refine R_if0 rfl (fun c_24 => ?_) (fun c_24 => ?_)
    · have k := k.2 c_24
      refine R_ps 1 (pc2 := 41) (L2 := [some (vr (some w)), some (vi x1)]) (st2 := [vi 0]) rfl ?_
      exact R_zret rfl rfl (Or.inl rfl) ⟨_, rfl, k⟩
    · have k := k.1 (Classical.not_not.mp c_24)
      refine R_ps 1 (pc2 := 25) (L2 := [some (vr (some w)), some (vi x1)]) (st2 := [vr (some w)]) rfl ?_
      refine R_getR rfl t0 ?_
      refine R_ps 3 (pc2 := 31) (L2 := [some (vr (some w)), some (vi x1)]) (st2 := [vi (1 + x1), vr (gr h_21 w 1)]) rfl ?_
      obtain ⟨a_28, e_29, k⟩ := k
      rw [e_29]
      obtain ⟨t_30, k⟩ := k
      obtain ⟨t_31, k⟩ := k
      refine R_iald rfl (Or.inl t_30) t_31 ?_
      refine R_ps 1 (pc2 := 33) (L2 := [some (vr (some w)), some (vi x1)]) (st2 := [vi 1, vi (gi h_21 a_28 (Int32.toNatClampNeg (1 + x1)))]) rfl ?_
      refine R_if rfl (fun c_32 => ?_) (fun c_32 => ?_)
      · have k := k.2 c_32
        refine R_ps 1 (pc2 := 41) (L2 := [some (vr (some w)), some (vi x1)]) (st2 := [vi 0]) rfl ?_
        exact R_zret rfl rfl (Or.inl rfl) ⟨_, rfl, k⟩
      · have k := k.1 (Classical.not_not.mp c_32)
        refine R_ps 2 (pc2 := 41) (L2 := [some (vr (some w)), some (vi x1)]) (st2 := [vi 1]) rfl ?_
        exact R_zret rfl rfl (Or.inr rfl) ⟨_, rfl, k⟩
/-- DroneCorridorsModel.reserves -/
theorem m182 {T N : Nat → Nat} {h : PH} {w : Nat} {K : PH → Prop} (k : (WV T N 182 2 [some (vr (some w)), some (vi 0), none, none, none, none] [] h K)) : CV T N 182 [vr (some w)] h K := by
  show WP T N 182 0 [some (vr (some w)), none, none, none, none, none] [] h _
  refine R_ps 2 (pc2 := 2) (L2 := [some (vr (some w)), some (vi 0), none, none, none, none]) (st2 := []) rfl ?_
  exact k
theorem m182_2 {T N : Nat → Nat} {h : PH} {w : Nat} {x1 : Int32} {K : PH → Prop} (t0 : T w = 12) (k : (∃ a_3, (gr h w 1) = some a_3 ∧ T a_3 = 22 ∧ inb 0 (N a_3) ∧ ((x1 < (gi h a_3 0) → (∃ a_11, (gr h w 1) = some a_11 ∧ T a_11 = 22 ∧ inb (1 + x1) (N a_11) ∧ (((gi h a_11 (Int32.toNatClampNeg (1 + x1))) = 1 → (∃ a_24, (gr h w 12) = some a_24 ∧ T a_24 = 22 ∧ inb x1 (N a_24) ∧ ∀ h_26, h_26 = si h a_24 (Int32.toNatClampNeg x1) 0 → WV T N 182 2 [some (vr (some w)), some (vi (x1 + 1)), none, none, none, none] [] h_26 K)) ∧ (¬ ((gi h a_11 (Int32.toNatClampNeg (1 + x1))) = 1) → (∃ a_17, (gr h w 12) = some a_17 ∧ T a_17 = 22 ∧ inb x1 (N a_17) ∧ ∀ h_19, h_19 = si h a_17 (Int32.toNatClampNeg x1) 1000000 → WV T N 182 2 [some (vr (some w)), some (vi (x1 + 1)), none, none, none, none] [] h_19 K))))) ∧ (¬ (x1 < (gi h a_3 0)) → (WV T N 182 44 [some (vr (some w)), some (vi 0), none, none, none, none] [] h K))))) : WV T N 182 2 [some (vr (some w)), some (vi x1), none, none, none, none] [] h K := by
  show WP T N 182 2 [some (vr (some w)), some (vi x1), none, none, none, none] [] h _
  refine R_ps 2 (pc2 := 4) (L2 := [some (vr (some w)), some (vi x1), none, none, none, none]) (st2 := [vr (some w), vi x1]) rfl ?_
  refine R_getR rfl t0 ?_
  refine R_ps 1 (pc2 := 8) (L2 := [some (vr (some w)), some (vi x1), none, none, none, none]) (st2 := [vi 0, vr (gr h w 1), vi x1]) rfl ?_
  obtain ⟨a_3, e_4, k⟩ := k
  rw [e_4]
  obtain ⟨t_5, k⟩ := k
  obtain ⟨t_6, k⟩ := k
  refine R_iald rfl (Or.inl t_5) t_6 ?_
  refine R_if rfl (fun c_7 => ?_) (fun c_7 => ?_)
  · have k := k.2 (i32_nlt c_7)
    refine R_ps 2 (pc2 := 44) (L2 := [some (vr (some w)), some (vi 0), none, none, none, none]) (st2 := []) rfl ?_
    exact k
  · have k := k.1 (i32_lt c_7)
    refine R_ps 1 (pc2 := 13) (L2 := [some (vr (some w)), some (vi x1), none, none, none, none]) (st2 := [vr (some w)]) rfl ?_
    refine R_getR rfl t0 ?_
    refine R_ps 2 (pc2 := 18) (L2 := [some (vr (some w)), some (vi x1), none, none, none, none]) (st2 := [vr (some w), vi x1, vr (gr h w 12)]) rfl ?_
    refine R_getR rfl t0 ?_
    refine R_ps 3 (pc2 := 24) (L2 := [some (vr (some w)), some (vi x1), none, none, none, none]) (st2 := [vi (1 + x1), vr (gr h w 1), vi x1, vr (gr h w 12)]) rfl ?_
    obtain ⟨a_11, e_12, k⟩ := k
    rw [e_12]
    obtain ⟨t_13, k⟩ := k
    obtain ⟨t_14, k⟩ := k
    refine R_iald rfl (Or.inl t_13) t_14 ?_
    refine R_ps 1 (pc2 := 26) (L2 := [some (vr (some w)), some (vi x1), none, none, none, none]) (st2 := [vi 1, vi (gi h a_11 (Int32.toNatClampNeg (1 + x1))), vi x1, vr (gr h w 12)]) rfl ?_
    refine R_if rfl (fun c_15 => ?_) (fun c_15 => ?_)
    · have k := k.2 c_15
      refine R_ps 1 (pc2 := 35) (L2 := [some (vr (some w)), some (vi x1), none, none, none, none]) (st2 := [vi 1000000, vi x1, vr (gr h w 12)]) rfl ?_
      obtain ⟨a_17, e_18, k⟩ := k
      rw [e_18]
      obtain ⟨t_21, k⟩ := k
      obtain ⟨t_22, k⟩ := k
      refine R_iast rfl t_21 t_22  ?_
      show WP T N _ _ _ _ (si h a_17 (Int32.toNatClampNeg x1) 1000000) _
      generalize e_20 : si h a_17 (Int32.toNatClampNeg x1) 1000000 = h_19
      replace k := k h_19 e_20.symm
      refine R_ps 2 (pc2 := 2) (L2 := [some (vr (some w)), some (vi (x1 + 1)), none, none, none, none]) (st2 := []) rfl ?_
      exact k
    · have k := k.1 (Classical.not_not.mp c_15)
      refine R_ps 2 (pc2 := 35) (L2 := [some (vr (some w)), some (vi x1), none, none, none, none]) (st2 := [vi 0, vi x1, vr (gr h w 12)]) rfl ?_
      obtain ⟨a_24, e_25, k⟩ := k
      rw [e_25]
      obtain ⟨t_28, k⟩ := k
      obtain ⟨t_29, k⟩ := k
      refine R_iast rfl t_28 t_29  ?_
      show WP T N _ _ _ _ (si h a_24 (Int32.toNatClampNeg x1) 0) _
      generalize e_27 : si h a_24 (Int32.toNatClampNeg x1) 0 = h_26
      replace k := k h_26 e_27.symm
      refine R_ps 2 (pc2 := 2) (L2 := [some (vr (some w)), some (vi (x1 + 1)), none, none, none, none]) (st2 := []) rfl ?_
      exact k
theorem m182_44 {T N : Nat → Nat} {h : PH} {w : Nat} {x1 : Int32} {K : PH → Prop} (t0 : T w = 12) (k : (∃ a_3, (gr h w 1) = some a_3 ∧ T a_3 = 22 ∧ inb 0 (N a_3) ∧ ((x1 < (gi h a_3 0) → (WV T N 182 56 [some (vr (some w)), some (vi x1), some (vi 0), none, none, none] [] h K)) ∧ (¬ (x1 < (gi h a_3 0)) → (K h))))) : WV T N 182 44 [some (vr (some w)), some (vi x1), none, none, none, none] [] h K := by
  show WP T N 182 44 [some (vr (some w)), some (vi x1), none, none, none, none] [] h _
  refine R_ps 2 (pc2 := 46) (L2 := [some (vr (some w)), some (vi x1), none, none, none, none]) (st2 := [vr (some w), vi x1]) rfl ?_
  refine R_getR rfl t0 ?_
  refine R_ps 1 (pc2 := 50) (L2 := [some (vr (some w)), some (vi x1), none, none, none, none]) (st2 := [vi 0, vr (gr h w 1), vi x1]) rfl ?_
  obtain ⟨a_3, e_4, k⟩ := k
  rw [e_4]
  obtain ⟨t_5, k⟩ := k
  obtain ⟨t_6, k⟩ := k
  refine R_iald rfl (Or.inl t_5) t_6 ?_
  refine R_if rfl (fun c_7 => ?_) (fun c_7 => ?_)
  · have k := k.2 (i32_nlt c_7)
    exact R_ret rfl rfl ⟨rfl, k⟩
  · have k := k.1 (i32_lt c_7)
    refine R_ps 2 (pc2 := 56) (L2 := [some (vr (some w)), some (vi x1), some (vi 0), none, none, none]) (st2 := []) rfl ?_
    exact k
theorem m182_56 {T N : Nat → Nat} {h : PH} {w : Nat} {x1 : Int32} {x2 : Int32} {K : PH → Prop} (t0 : T w = 12) (k : (∃ a_3, (gr h w 1) = some a_3 ∧ T a_3 = 22 ∧ inb 11 (N a_3) ∧ ((x2 < (gi h a_3 11) → (WV T N 182 69 [some (vr (some w)), some (vi x1), some (vi x2), some (vi 0), none, none] [] h K)) ∧ (¬ (x2 < (gi h a_3 11)) → (WV T N 182 44 [some (vr (some w)), some (vi (x1 + 1)), none, none, none, none] [] h K))))) : WV T N 182 56 [some (vr (some w)), some (vi x1), some (vi x2), none, none, none] [] h K := by
  show WP T N 182 56 [some (vr (some w)), some (vi x1), some (vi x2), none, none, none] [] h _
  refine R_ps 2 (pc2 := 58) (L2 := [some (vr (some w)), some (vi x1), some (vi x2), none, none, none]) (st2 := [vr (some w), vi x2]) rfl ?_
  refine R_getR rfl t0 ?_
  refine R_ps 1 (pc2 := 63) (L2 := [some (vr (some w)), some (vi x1), some (vi x2), none, none, none]) (st2 := [vi 11, vr (gr h w 1), vi x2]) rfl ?_
  obtain ⟨a_3, e_4, k⟩ := k
  rw [e_4]
  obtain ⟨t_5, k⟩ := k
  obtain ⟨t_6, k⟩ := k
  refine R_iald rfl (Or.inl t_5) t_6 ?_
  refine R_if rfl (fun c_7 => ?_) (fun c_7 => ?_)
  · have k := k.2 (i32_nlt c_7)
    refine R_ps 2 (pc2 := 44) (L2 := [some (vr (some w)), some (vi (x1 + 1)), some (vi x2), none, none, none]) (st2 := []) rfl ?_
    exact R_drop k (LE_of (L := [some (vr (some w)), some (vi (x1 + 1)), none, none, none, none]) (L2 := [some (vr (some w)), some (vi (x1 + 1)), some (vi x2), none, none, none]) ⟨rfl, rfl, trivial⟩)
  · have k := k.1 (i32_lt c_7)
    refine R_ps 2 (pc2 := 69) (L2 := [some (vr (some w)), some (vi x1), some (vi x2), some (vi 0), none, none]) (st2 := []) rfl ?_
    exact k
theorem m182_69 {T N : Nat → Nat} {h : PH} {w : Nat} {x1 : Int32} {x2 : Int32} {x3 : Int32} {K : PH → Prop} (t0 : T w = 12) (k : (((x3 < 2 → (CI T N 165 [vr (some w), vi x2, vi (1 - x3)] h (fun x_5 h_4 => (∃ a_7, (gr h w 12) = some a_7 ∧ T a_7 = 22 ∧ inb x_5 (N a_7) ∧ CI T N 167 [vr (some w), vi x2, vi x3] h_4 (fun x_13 h_12 => (CI T N 165 [vr (some w), vi x2, vi x3] h_12 (fun x_16 h_15 => (∃ a_20, (gr h_15 w 12) = some a_20 ∧ T a_20 = 22 ∧ inb x_16 (N a_20) ∧ ((((gi h_4 a_7 (Int32.toNatClampNeg x_5)) + x_13) < (gi h_15 a_20 (Int32.toNatClampNeg x_16)) → (∀ h_35, h_35 = si h_15 a_20 (Int32.toNatClampNeg x_16) ((gi h_4 a_7 (Int32.toNatClampNeg x_5)) + x_13) → WV T N 182 69 [some (vr (some w)), some (vi x1), some (vi x2), some (vi (x3 + 1)), none, none] [] h_35 K)) ∧ (¬ (((gi h_4 a_7 (Int32.toNatClampNeg x_5)) + x_13) < (gi h_15 a_20 (Int32.toNatClampNeg x_16))) → (∃ a_27, (gr h_15 w 12) = some a_27 ∧ T a_27 = 22 ∧ inb x_16 (N a_27) ∧ ∀ h_32, h_32 = si h_15 a_20 (Int32.toNatClampNeg x_16) (gi h_15 a_27 (Int32.toNatClampNeg x_16)) → WV T N 182 69 [some (vr (some w)), some (vi x1), some (vi x2), some (vi (x3 + 1)), none, none] [] h_32 K))))))))))) ∧ (¬ (x3 < 2) → (WV T N 182 56 [some (vr (some w)), some (vi x1), some (vi (x2 + 1)), none, none, none] [] h K))))) : WV T N 182 69 [some (vr (some w)), some (vi x1), some (vi x2), some (vi x3), none, none] [] h K := by
  show WP T N 182 69 [some (vr (some w)), some (vi x1), some (vi x2), some (vi x3), none, none] [] h _
  refine R_ps 2 (pc2 := 71) (L2 := [some (vr (some w)), some (vi x1), some (vi x2), some (vi x3), none, none]) (st2 := [vi 2, vi x3]) rfl ?_
  refine R_if rfl (fun c_1 => ?_) (fun c_1 => ?_)
  · have k := k.2 (i32_nlt c_1)
    refine R_ps 2 (pc2 := 56) (L2 := [some (vr (some w)), some (vi x1), some (vi (x2 + 1)), some (vi x3), none, none]) (st2 := []) rfl ?_
    exact R_drop k (LE_of (L := [some (vr (some w)), some (vi x1), some (vi (x2 + 1)), none, none, none]) (L2 := [some (vr (some w)), some (vi x1), some (vi (x2 + 1)), some (vi x3), none, none]) ⟨rfl, rfl, rfl, trivial⟩)
  · have k := k.1 (i32_lt c_1)
    refine R_ps 1 (pc2 := 75) (L2 := [some (vr (some w)), some (vi x1), some (vi x2), some (vi x3), none, none]) (st2 := [vr (some w)]) rfl ?_
    refine R_getR rfl t0 ?_
    refine R_ps 5 (pc2 := 83) (L2 := [some (vr (some w)), some (vi x1), some (vi x2), some (vi x3), none, none]) (st2 := [vi (1 - x3), vi x2, vr (some w), vr (gr h w 12)]) rfl ?_
    refine R_cI (as := [vr (some w), vi x2, vi (1 - x3)]) rfl rfl ⟨Nat.le_of_ble_eq_true rfl, Nat.le_of_ble_eq_true rfl, rfl, (Or.inr ⟨_, rfl, t0⟩)⟩ rfl rfl k (fun x_5 h_4 k => ?_)
    obtain ⟨a_7, e_8, k⟩ := k
    rw [e_8]
    obtain ⟨t_9, k⟩ := k
    obtain ⟨t_10, k⟩ := k
    refine R_iald rfl (Or.inl t_9) t_10 ?_
    refine R_ps 3 (pc2 := 90) (L2 := [some (vr (some w)), some (vi x1), some (vi x2), some (vi x3), none, none]) (st2 := [vi x3, vi x2, vr (some w), vi (gi h_4 a_7 (Int32.toNatClampNeg x_5))]) rfl ?_
    refine R_cI (as := [vr (some w), vi x2, vi x3]) rfl rfl ⟨Nat.le_of_ble_eq_true rfl, Nat.le_of_ble_eq_true rfl, rfl, (Or.inr ⟨_, rfl, t0⟩)⟩ rfl rfl k (fun x_13 h_12 k => ?_)
    refine R_ps 5 (pc2 := 99) (L2 := [some (vr (some w)), some (vi x1), some (vi x2), some (vi x3), some (vi ((gi h_4 a_7 (Int32.toNatClampNeg x_5)) + x_13)), none]) (st2 := [vi x3, vi x2, vr (some w)]) rfl ?_
    refine R_cI (as := [vr (some w), vi x2, vi x3]) rfl rfl ⟨Nat.le_of_ble_eq_true rfl, Nat.le_of_ble_eq_true rfl, rfl, (Or.inr ⟨_, rfl, t0⟩)⟩ rfl rfl k (fun x_16 h_15 k => ?_)
    refine R_ps 2 (pc2 := 105) (L2 := [some (vr (some w)), some (vi x1), some (vi x2), some (vi x3), some (vi ((gi h_4 a_7 (Int32.toNatClampNeg x_5)) + x_13)), some (vi x_16)]) (st2 := [vr (some w)]) rfl ?_
    refine R_getR rfl t0 ?_
    refine R_ps 3 (pc2 := 113) (L2 := [some (vr (some w)), some (vi x1), some (vi x2), some (vi x3), some (vi ((gi h_4 a_7 (Int32.toNatClampNeg x_5)) + x_13)), some (vi x_16)]) (st2 := [vr (some w), vi ((gi h_4 a_7 (Int32.toNatClampNeg x_5)) + x_13), vi x_16, vr (gr h_15 w 12)]) rfl ?_
    refine R_getR rfl t0 ?_
    refine R_ps 1 (pc2 := 118) (L2 := [some (vr (some w)), some (vi x1), some (vi x2), some (vi x3), some (vi ((gi h_4 a_7 (Int32.toNatClampNeg x_5)) + x_13)), some (vi x_16)]) (st2 := [vi x_16, vr (gr h_15 w 12), vi ((gi h_4 a_7 (Int32.toNatClampNeg x_5)) + x_13), vi x_16, vr (gr h_15 w 12)]) rfl ?_
    obtain ⟨a_20, e_21, k⟩ := k
    rw [e_21]
    obtain ⟨t_22, k⟩ := k
    obtain ⟨t_23, k⟩ := k
    refine R_iald rfl (Or.inl t_22) t_23 ?_
    refine R_if rfl (fun c_24 => ?_) (fun c_24 => ?_)
    · have k := k.2 (i32_nlt c_24)
      refine R_ps 1 (pc2 := 128) (L2 := [some (vr (some w)), some (vi x1), some (vi x2), some (vi x3), some (vi ((gi h_4 a_7 (Int32.toNatClampNeg x_5)) + x_13)), some (vi x_16)]) (st2 := [vr (some w), vi x_16, vr (some a_20)]) rfl ?_
      refine R_getR rfl t0 ?_
      refine R_ps 1 (pc2 := 133) (L2 := [some (vr (some w)), some (vi x1), some (vi x2), some (vi x3), some (vi ((gi h_4 a_7 (Int32.toNatClampNeg x_5)) + x_13)), some (vi x_16)]) (st2 := [vi x_16, vr (gr h_15 w 12), vi x_16, vr (some a_20)]) rfl ?_
      obtain ⟨a_27, e_28, k⟩ := k
      rw [e_28]
      obtain ⟨t_29, k⟩ := k
      obtain ⟨t_30, k⟩ := k
      refine R_iald rfl (Or.inl t_29) t_30 ?_
      refine R_iast rfl t_22 t_23  ?_
      show WP T N _ _ _ _ (si h_15 a_20 (Int32.toNatClampNeg x_16) (gi h_15 a_27 (Int32.toNatClampNeg x_16))) _
      generalize e_33 : si h_15 a_20 (Int32.toNatClampNeg x_16) (gi h_15 a_27 (Int32.toNatClampNeg x_16)) = h_32
      replace k := k h_32 e_33.symm
      refine R_ps 2 (pc2 := 69) (L2 := [some (vr (some w)), some (vi x1), some (vi x2), some (vi (x3 + 1)), some (vi ((gi h_4 a_7 (Int32.toNatClampNeg x_5)) + x_13)), some (vi x_16)]) (st2 := []) rfl ?_
      exact R_drop k (LE_of (L := [some (vr (some w)), some (vi x1), some (vi x2), some (vi (x3 + 1)), none, none]) (L2 := [some (vr (some w)), some (vi x1), some (vi x2), some (vi (x3 + 1)), some (vi ((gi h_4 a_7 (Int32.toNatClampNeg x_5)) + x_13)), some (vi x_16)]) ⟨rfl, rfl, rfl, rfl, trivial⟩)
    · have k := k.1 (i32_lt c_24)
      refine R_ps 2 (pc2 := 134) (L2 := [some (vr (some w)), some (vi x1), some (vi x2), some (vi x3), some (vi ((gi h_4 a_7 (Int32.toNatClampNeg x_5)) + x_13)), some (vi x_16)]) (st2 := [vi ((gi h_4 a_7 (Int32.toNatClampNeg x_5)) + x_13), vi x_16, vr (some a_20)]) rfl ?_
      refine R_iast rfl t_22 t_23  ?_
      show WP T N _ _ _ _ (si h_15 a_20 (Int32.toNatClampNeg x_16) ((gi h_4 a_7 (Int32.toNatClampNeg x_5)) + x_13)) _
      generalize e_36 : si h_15 a_20 (Int32.toNatClampNeg x_16) ((gi h_4 a_7 (Int32.toNatClampNeg x_5)) + x_13) = h_35
      replace k := k h_35 e_36.symm
      refine R_ps 2 (pc2 := 69) (L2 := [some (vr (some w)), some (vi x1), some (vi x2), some (vi (x3 + 1)), some (vi ((gi h_4 a_7 (Int32.toNatClampNeg x_5)) + x_13)), some (vi x_16)]) (st2 := []) rfl ?_
      exact R_drop k (LE_of (L := [some (vr (some w)), some (vi x1), some (vi x2), some (vi (x3 + 1)), none, none]) (L2 := [some (vr (some w)), some (vi x1), some (vi x2), some (vi (x3 + 1)), some (vi ((gi h_4 a_7 (Int32.toNatClampNeg x_5)) + x_13)), some (vi x_16)]) ⟨rfl, rfl, rfl, rfl, trivial⟩)
/-- DroneCorridorsModel.reserve -/
theorem m183 {T N : Nat → Nat} {h : PH} {w : Nat} {x1 : Int32} {K : Int32 → PH → Prop} (t0 : T w = 12) (k : (CI T N 162 [vr (some w), vi x1] h (fun x_3 h_2 => (((x_3 = 0 → (∀ h_6, h_6 = si h_2 w 0 1 → (((gi h_6 w 0) = 1 → (K 0 h_6)) ∧ (¬ ((gi h_6 w 0) = 1) → (CV T N 182 [vr (some w)] h_6 (fun h_11 => (∃ a_15, (gr h_11 w 12) = some a_15 ∧ T a_15 = 22 ∧ inb x1 (N a_15) ∧ (((gi h_11 a_15 (Int32.toNatClampNeg x1)) < 1000000 → (∃ a_26, (gr h_11 w 12) = some a_26 ∧ T a_26 = 22 ∧ inb x1 (N a_26) ∧ K (gi h_11 a_26 (Int32.toNatClampNeg x1)) h_11)) ∧ (¬ ((gi h_11 a_15 (Int32.toNatClampNeg x1)) < 1000000) → (CI T N 157 [vr (some w), vi 2] h_11 (fun x_22 h_21 => (K x_22 h_21)))))))))))) ∧ (¬ (x_3 = 0) → (∀ h_33, h_33 = si h_2 w 0 0 → (((gi h_33 w 0) = 1 → (K 0 h_33)) ∧ (¬ ((gi h_33 w 0) = 1) → (CV T N 182 [vr (some w)] h_33 (fun h_38 => (∃ a_42, (gr h_38 w 12) = some a_42 ∧ T a_42 = 22 ∧ inb x1 (N a_42) ∧ (((gi h_38 a_42 (Int32.toNatClampNeg x1)) < 1000000 → (∃ a_53, (gr h_38 w 12) = some a_53 ∧ T a_53 = 22 ∧ inb x1 (N a_53) ∧ K (gi h_38 a_53 (Int32.toNatClampNeg x1)) h_38)) ∧ (¬ ((gi h_38 a_42 (Int32.toNatClampNeg x1)) < 1000000) → (CI T N 157 [vr (some w), vi 2] h_38 (fun x_49 h_48 => (K x_49 h_48))))))))))))))))) : CI T N 183 [vr (some w), vi x1] h K := by
  show WP T N 183 0 [some (vr (some w)), some (vi x1)] [] h _
  refine R_ps 3 (pc2 := 3) (L2 := [some (vr (some w)), some (vi x1)]) (st2 := [vi x1, vr (some w), vr (some w)]) rfl ?_
  refine R_cI (as := [vr (some w), vi x1]) rfl rfl ⟨Nat.le_of_ble_eq_true rfl, Nat.le_of_ble_eq_true rfl, rfl, (Or.inr ⟨_, rfl, t0⟩)⟩ rfl rfl k (fun x_3 h_2 k => ?_)
  refine R_if0 rfl (fun c_4 => ?_) (fun c_4 => ?_)
  · have k := k.1 c_4
    refine R_ps 1 (pc2 := 14) (L2 := [some (vr (some w)), some (vi x1)]) (st2 := [vi 1, vr (some w)]) rfl ?_
    refine R_putI rfl t0 ?_
    show WP T N _ _ _ _ (si h_2 w 0 1) _
    generalize e_7 : si h_2 w 0 1 = h_6
    replace k := k h_6 e_7.symm
    refine R_ps 1 (pc2 := 18) (L2 := [some (vr (some w)), some (vi x1)]) (st2 := [vr (some w)]) rfl ?_
    refine R_getI rfl t0 ?_
    refine R_ps 1 (pc2 := 22) (L2 := [some (vr (some w)), some (vi x1)]) (st2 := [vi 1, vi (gi h_6 w 0)]) rfl ?_
    refine R_if rfl (fun c_9 => ?_) (fun c_9 => ?_)
    · have k := k.2 c_9
      refine R_ps 1 (pc2 := 28) (L2 := [some (vr (some w)), some (vi x1)]) (st2 := [vr (some w)]) rfl ?_
      refine R_cV (as := [vr (some w)]) rfl rfl ⟨Nat.le_of_ble_eq_true rfl, Nat.le_of_ble_eq_true rfl, rfl, (Or.inr ⟨_, rfl, t0⟩)⟩ rfl rfl k (fun h_11 k => ?_)
      refine R_ps 1 (pc2 := 32) (L2 := [some (vr (some w)), some (vi x1)]) (st2 := [vr (some w)]) rfl ?_
      refine R_getR rfl t0 ?_
      refine R_ps 1 (pc2 := 36) (L2 := [some (vr (some w)), some (vi x1)]) (st2 := [vi x1, vr (gr h_11 w 12)]) rfl ?_
      obtain ⟨a_15, e_16, k⟩ := k
      rw [e_16]
      obtain ⟨t_17, k⟩ := k
      obtain ⟨t_18, k⟩ := k
      refine R_iald rfl (Or.inl t_17) t_18 ?_
      refine R_ps 1 (pc2 := 39) (L2 := [some (vr (some w)), some (vi x1)]) (st2 := [vi 1000000, vi (gi h_11 a_15 (Int32.toNatClampNeg x1))]) rfl ?_
      refine R_if rfl (fun c_19 => ?_) (fun c_19 => ?_)
      · have k := k.2 (i32_nlt c_19)
        refine R_ps 2 (pc2 := 53) (L2 := [some (vr (some w)), some (vi x1)]) (st2 := [vi 2, vr (some w)]) rfl ?_
        refine R_cI (as := [vr (some w), vi 2]) rfl rfl ⟨Nat.le_of_ble_eq_true rfl, Nat.le_of_ble_eq_true rfl, rfl, (Or.inr ⟨_, rfl, t0⟩)⟩ rfl rfl k (fun x_22 h_21 k => ?_)
        exact R_iret rfl rfl ⟨_, rfl, k⟩
      · have k := k.1 (i32_lt c_19)
        refine R_ps 1 (pc2 := 43) (L2 := [some (vr (some w)), some (vi x1)]) (st2 := [vr (some w)]) rfl ?_
        refine R_getR rfl t0 ?_
        refine R_ps 1 (pc2 := 47) (L2 := [some (vr (some w)), some (vi x1)]) (st2 := [vi x1, vr (gr h_11 w 12)]) rfl ?_
        obtain ⟨a_26, e_27, k⟩ := k
        rw [e_27]
        obtain ⟨t_28, k⟩ := k
        obtain ⟨t_29, k⟩ := k
        refine R_iald rfl (Or.inl t_28) t_29 ?_
        refine R_ps 1 (pc2 := 56) (L2 := [some (vr (some w)), some (vi x1)]) (st2 := [vi (gi h_11 a_26 (Int32.toNatClampNeg x1))]) rfl ?_
        exact R_iret rfl rfl ⟨_, rfl, k⟩
    · have k := k.1 (Classical.not_not.mp c_9)
      refine R_ps 1 (pc2 := 26) (L2 := [some (vr (some w)), some (vi x1)]) (st2 := [vi 0]) rfl ?_
      exact R_iret rfl rfl ⟨_, rfl, k⟩
  · have k := k.2 c_4
    refine R_ps 2 (pc2 := 14) (L2 := [some (vr (some w)), some (vi x1)]) (st2 := [vi 0, vr (some w)]) rfl ?_
    refine R_putI rfl t0 ?_
    show WP T N _ _ _ _ (si h_2 w 0 0) _
    generalize e_34 : si h_2 w 0 0 = h_33
    replace k := k h_33 e_34.symm
    refine R_ps 1 (pc2 := 18) (L2 := [some (vr (some w)), some (vi x1)]) (st2 := [vr (some w)]) rfl ?_
    refine R_getI rfl t0 ?_
    refine R_ps 1 (pc2 := 22) (L2 := [some (vr (some w)), some (vi x1)]) (st2 := [vi 1, vi (gi h_33 w 0)]) rfl ?_
    refine R_if rfl (fun c_36 => ?_) (fun c_36 => ?_)
    · have k := k.2 c_36
      refine R_ps 1 (pc2 := 28) (L2 := [some (vr (some w)), some (vi x1)]) (st2 := [vr (some w)]) rfl ?_
      refine R_cV (as := [vr (some w)]) rfl rfl ⟨Nat.le_of_ble_eq_true rfl, Nat.le_of_ble_eq_true rfl, rfl, (Or.inr ⟨_, rfl, t0⟩)⟩ rfl rfl k (fun h_38 k => ?_)
      refine R_ps 1 (pc2 := 32) (L2 := [some (vr (some w)), some (vi x1)]) (st2 := [vr (some w)]) rfl ?_
      refine R_getR rfl t0 ?_
      refine R_ps 1 (pc2 := 36) (L2 := [some (vr (some w)), some (vi x1)]) (st2 := [vi x1, vr (gr h_38 w 12)]) rfl ?_
      obtain ⟨a_42, e_43, k⟩ := k
      rw [e_43]
      obtain ⟨t_44, k⟩ := k
      obtain ⟨t_45, k⟩ := k
      refine R_iald rfl (Or.inl t_44) t_45 ?_
      refine R_ps 1 (pc2 := 39) (L2 := [some (vr (some w)), some (vi x1)]) (st2 := [vi 1000000, vi (gi h_38 a_42 (Int32.toNatClampNeg x1))]) rfl ?_
      refine R_if rfl (fun c_46 => ?_) (fun c_46 => ?_)
      · have k := k.2 (i32_nlt c_46)
        refine R_ps 2 (pc2 := 53) (L2 := [some (vr (some w)), some (vi x1)]) (st2 := [vi 2, vr (some w)]) rfl ?_
        refine R_cI (as := [vr (some w), vi 2]) rfl rfl ⟨Nat.le_of_ble_eq_true rfl, Nat.le_of_ble_eq_true rfl, rfl, (Or.inr ⟨_, rfl, t0⟩)⟩ rfl rfl k (fun x_49 h_48 k => ?_)
        exact R_iret rfl rfl ⟨_, rfl, k⟩
      · have k := k.1 (i32_lt c_46)
        refine R_ps 1 (pc2 := 43) (L2 := [some (vr (some w)), some (vi x1)]) (st2 := [vr (some w)]) rfl ?_
        refine R_getR rfl t0 ?_
        refine R_ps 1 (pc2 := 47) (L2 := [some (vr (some w)), some (vi x1)]) (st2 := [vi x1, vr (gr h_38 w 12)]) rfl ?_
        obtain ⟨a_53, e_54, k⟩ := k
        rw [e_54]
        obtain ⟨t_55, k⟩ := k
        obtain ⟨t_56, k⟩ := k
        refine R_iald rfl (Or.inl t_55) t_56 ?_
        refine R_ps 1 (pc2 := 56) (L2 := [some (vr (some w)), some (vi x1)]) (st2 := [vi (gi h_38 a_53 (Int32.toNatClampNeg x1))]) rfl ?_
        exact R_iret rfl rfl ⟨_, rfl, k⟩
    · have k := k.1 (Classical.not_not.mp c_36)
      refine R_ps 1 (pc2 := 26) (L2 := [some (vr (some w)), some (vi x1)]) (st2 := [vi 0]) rfl ?_
      exact R_iret rfl rfl ⟨_, rfl, k⟩
/-- DroneCorridorsModel.ticksBetween -/
theorem m184 {T N : Nat → Nat} {h : PH} {w : Nat} {x1 : Int32} {x2 : Int32} {K : Int32 → PH → Prop} (t0 : T w = 12) (k : (CI T N 162 [vr (some w), vi x1] h (fun x_3 h_2 => (((x_3 = 0 → (∀ h_6, h_6 = si h_2 w 0 1 → (((gi h_6 w 0) = 1 → (K 0 h_6)) ∧ (¬ ((gi h_6 w 0) = 1) → (WI T N 184 37 [some (vr (some w)), some (vi x1), some (vi x2), some (vi 0), none, none, none, none] [] h_6 K))))) ∧ (¬ (x_3 = 0) → (CI T N 162 [vr (some w), vi x2] h_2 (fun x_13 h_12 => (((x_13 = 0 → (∀ h_16, h_16 = si h_12 w 0 1 → (((gi h_16 w 0) = 1 → (K 0 h_16)) ∧ (¬ ((gi h_16 w 0) = 1) → (WI T N 184 37 [some (vr (some w)), some (vi x1), some (vi x2), some (vi 0), none, none, none, none] [] h_16 K))))) ∧ (¬ (x_13 = 0) → (∀ h_22, h_22 = si h_12 w 0 0 → (((gi h_22 w 0) = 1 → (K 0 h_22)) ∧ (¬ ((gi h_22 w 0) = 1) → (WI T N 184 37 [some (vr (some w)), some (vi x1), some (vi x2), some (vi 0), none, none, none, none] [] h_22 K))))))))))))))) : CI T N 184 [vr (some w), vi x1, vi x2] h K := by
  show WP T N 184 0 [some (vr (some w)), some (vi x1), some (vi x2), none, none, none, none, none] [] h _
  refine R_ps 3 (pc2 := 3) (L2 := [some (vr (some w)), some (vi x1), some (vi x2), none, none, none, none, none]) (st2 := [vi x1, vr (some w), vr (some w)]) rfl ?_
  refine R_cI (as := [vr (some w), vi x1]) rfl rfl ⟨Nat.le_of_ble_eq_true rfl, Nat.le_of_ble_eq_true rfl, rfl, (Or.inr ⟨_, rfl, t0⟩)⟩ rfl rfl k (fun x_3 h_2 k => ?_)
  refine R_if0 rfl (fun c_4 => ?_) (fun c_4 => ?_)
  · have k := k.1 c_4
    refine R_ps 1 (pc2 := 22) (L2 := [some (vr (some w)), some (vi x1), some (vi x2), none, none, none, none, none]) (st2 := [vi 1, vr (some w)]) rfl ?_
    refine R_putI rfl t0 ?_
    show WP T N _ _ _ _ (si h_2 w 0 1) _
    generalize e_7 : si h_2 w 0 1 = h_6
    replace k := k h_6 e_7.symm
    refine R_ps 1 (pc2 := 26) (L2 := [some (vr (some w)), some (vi x1), some (vi x2), none, none, none, none, none]) (st2 := [vr (some w)]) rfl ?_
    refine R_getI rfl t0 ?_
    refine R_ps 1 (pc2 := 30) (L2 := [some (vr (some w)), some (vi x1), some (vi x2), none, none, none, none, none]) (st2 := [vi 1, vi (gi h_6 w 0)]) rfl ?_
    refine R_if rfl (fun c_9 => ?_) (fun c_9 => ?_)
    · have k := k.2 c_9
      refine R_ps 2 (pc2 := 37) (L2 := [some (vr (some w)), some (vi x1), some (vi x2), some (vi 0), none, none, none, none]) (st2 := []) rfl ?_
      exact k
    · have k := k.1 (Classical.not_not.mp c_9)
      refine R_ps 1 (pc2 := 34) (L2 := [some (vr (some w)), some (vi x1), some (vi x2), none, none, none, none, none]) (st2 := [vi 0]) rfl ?_
      exact R_iret rfl rfl ⟨_, rfl, k⟩
  · have k := k.2 c_4
    refine R_ps 2 (pc2 := 11) (L2 := [some (vr (some w)), some (vi x1), some (vi x2), none, none, none, none, none]) (st2 := [vi x2, vr (some w), vr (some w)]) rfl ?_
    refine R_cI (as := [vr (some w), vi x2]) rfl rfl ⟨Nat.le_of_ble_eq_true rfl, Nat.le_of_ble_eq_true rfl, rfl, (Or.inr ⟨_, rfl, t0⟩)⟩ rfl rfl k (fun x_13 h_12 k => ?_)
    refine R_if0 rfl (fun c_14 => ?_) (fun c_14 => ?_)
    · have k := k.1 c_14
      refine R_ps 1 (pc2 := 22) (L2 := [some (vr (some w)), some (vi x1), some (vi x2), none, none, none, none, none]) (st2 := [vi 1, vr (some w)]) rfl ?_
      refine R_putI rfl t0 ?_
      show WP T N _ _ _ _ (si h_12 w 0 1) _
      generalize e_17 : si h_12 w 0 1 = h_16
      replace k := k h_16 e_17.symm
      refine R_ps 1 (pc2 := 26) (L2 := [some (vr (some w)), some (vi x1), some (vi x2), none, none, none, none, none]) (st2 := [vr (some w)]) rfl ?_
      refine R_getI rfl t0 ?_
      refine R_ps 1 (pc2 := 30) (L2 := [some (vr (some w)), some (vi x1), some (vi x2), none, none, none, none, none]) (st2 := [vi 1, vi (gi h_16 w 0)]) rfl ?_
      refine R_if rfl (fun c_19 => ?_) (fun c_19 => ?_)
      · have k := k.2 c_19
        refine R_ps 2 (pc2 := 37) (L2 := [some (vr (some w)), some (vi x1), some (vi x2), some (vi 0), none, none, none, none]) (st2 := []) rfl ?_
        exact k
      · have k := k.1 (Classical.not_not.mp c_19)
        refine R_ps 1 (pc2 := 34) (L2 := [some (vr (some w)), some (vi x1), some (vi x2), none, none, none, none, none]) (st2 := [vi 0]) rfl ?_
        exact R_iret rfl rfl ⟨_, rfl, k⟩
    · have k := k.2 c_14
      refine R_ps 2 (pc2 := 22) (L2 := [some (vr (some w)), some (vi x1), some (vi x2), none, none, none, none, none]) (st2 := [vi 0, vr (some w)]) rfl ?_
      refine R_putI rfl t0 ?_
      show WP T N _ _ _ _ (si h_12 w 0 0) _
      generalize e_23 : si h_12 w 0 0 = h_22
      replace k := k h_22 e_23.symm
      refine R_ps 1 (pc2 := 26) (L2 := [some (vr (some w)), some (vi x1), some (vi x2), none, none, none, none, none]) (st2 := [vr (some w)]) rfl ?_
      refine R_getI rfl t0 ?_
      refine R_ps 1 (pc2 := 30) (L2 := [some (vr (some w)), some (vi x1), some (vi x2), none, none, none, none, none]) (st2 := [vi 1, vi (gi h_22 w 0)]) rfl ?_
      refine R_if rfl (fun c_25 => ?_) (fun c_25 => ?_)
      · have k := k.2 c_25
        refine R_ps 2 (pc2 := 37) (L2 := [some (vr (some w)), some (vi x1), some (vi x2), some (vi 0), none, none, none, none]) (st2 := []) rfl ?_
        exact k
      · have k := k.1 (Classical.not_not.mp c_25)
        refine R_ps 1 (pc2 := 34) (L2 := [some (vr (some w)), some (vi x1), some (vi x2), none, none, none, none, none]) (st2 := [vi 0]) rfl ?_
        exact R_iret rfl rfl ⟨_, rfl, k⟩
theorem m184_37 {T N : Nat → Nat} {h : PH} {w : Nat} {x1 : Int32} {x2 : Int32} {x3 : Int32} {K : Int32 → PH → Prop} (t0 : T w = 12) (k : (∃ a_3, (gr h w 1) = some a_3 ∧ T a_3 = 22 ∧ inb 0 (N a_3) ∧ ((x3 < (gi h a_3 0) → (((x3 = x2 → (∃ a_18, (gr h w 13) = some a_18 ∧ T a_18 = 22 ∧ inb x3 (N a_18) ∧ ∀ h_20, h_20 = si h a_18 (Int32.toNatClampNeg x3) 0 → WI T N 184 37 [some (vr (some w)), some (vi x1), some (vi x2), some (vi (x3 + 1)), none, none, none, none] [] h_20 K)) ∧ (¬ (x3 = x2) → (∃ a_11, (gr h w 13) = some a_11 ∧ T a_11 = 22 ∧ inb x3 (N a_11) ∧ ∀ h_13, h_13 = si h a_11 (Int32.toNatClampNeg x3) 1000000 → WI T N 184 37 [some (vr (some w)), some (vi x1), some (vi x2), some (vi (x3 + 1)), none, none, none, none] [] h_13 K))))) ∧ (¬ (x3 < (gi h a_3 0)) → (WI T N 184 72 [some (vr (some w)), some (vi x1), none, some (vi 0), none, none, none, none] [] h K))))) : WI T N 184 37 [some (vr (some w)), some (vi x1), some (vi x2), some (vi x3), none, none, none, none] [] h K := by
  show WP T N 184 37 [some (vr (some w)), some (vi x1), some (vi x2), some (vi x3), none, none, none, none] [] h _
  refine R_ps 2 (pc2 := 39) (L2 := [some (vr (some w)), some (vi x1), some (vi x2), some (vi x3), none, none, none, none]) (st2 := [vr (some w), vi x3]) rfl ?_
  refine R_getR rfl t0 ?_
  refine R_ps 1 (pc2 := 43) (L2 := [some (vr (some w)), some (vi x1), some (vi x2), some (vi x3), none, none, none, none]) (st2 := [vi 0, vr (gr h w 1), vi x3]) rfl ?_
  obtain ⟨a_3, e_4, k⟩ := k
  rw [e_4]
  obtain ⟨t_5, k⟩ := k
  obtain ⟨t_6, k⟩ := k
  refine R_iald rfl (Or.inl t_5) t_6 ?_
  refine R_if rfl (fun c_7 => ?_) (fun c_7 => ?_)
  · have k := k.2 (i32_nlt c_7)
    refine R_ps 2 (pc2 := 72) (L2 := [some (vr (some w)), some (vi x1), some (vi x2), some (vi 0), none, none, none, none]) (st2 := []) rfl ?_
    exact R_drop k (LE_of (L := [some (vr (some w)), some (vi x1), none, some (vi 0), none, none, none, none]) (L2 := [some (vr (some w)), some (vi x1), some (vi x2), some (vi 0), none, none, none, none]) ⟨rfl, rfl, rfl, trivial⟩)
  · have k := k.1 (i32_lt c_7)
    refine R_ps 1 (pc2 := 48) (L2 := [some (vr (some w)), some (vi x1), some (vi x2), some (vi x3), none, none, none, none]) (st2 := [vr (some w)]) rfl ?_
    refine R_getR rfl t0 ?_
    refine R_ps 3 (pc2 := 54) (L2 := [some (vr (some w)), some (vi x1), some (vi x2), some (vi x3), none, none, none, none]) (st2 := [vi x2, vi x3, vi x3, vr (gr h w 13)]) rfl ?_
    refine R_if rfl (fun c_9 => ?_) (fun c_9 => ?_)
    · have k := k.2 c_9
      refine R_ps 1 (pc2 := 63) (L2 := [some (vr (some w)), some (vi x1), some (vi x2), some (vi x3), none, none, none, none]) (st2 := [vi 1000000, vi x3, vr (gr h w 13)]) rfl ?_
      obtain ⟨a_11, e_12, k⟩ := k
      rw [e_12]
      obtain ⟨t_15, k⟩ := k
      obtain ⟨t_16, k⟩ := k
      refine R_iast rfl t_15 t_16  ?_
      show WP T N _ _ _ _ (si h a_11 (Int32.toNatClampNeg x3) 1000000) _
      generalize e_14 : si h a_11 (Int32.toNatClampNeg x3) 1000000 = h_13
      replace k := k h_13 e_14.symm
      refine R_ps 2 (pc2 := 37) (L2 := [some (vr (some w)), some (vi x1), some (vi x2), some (vi (x3 + 1)), none, none, none, none]) (st2 := []) rfl ?_
      exact k
    · have k := k.1 (Classical.not_not.mp c_9)
      refine R_ps 2 (pc2 := 63) (L2 := [some (vr (some w)), some (vi x1), some (vi x2), some (vi x3), none, none, none, none]) (st2 := [vi 0, vi x3, vr (gr h w 13)]) rfl ?_
      obtain ⟨a_18, e_19, k⟩ := k
      rw [e_19]
      obtain ⟨t_22, k⟩ := k
      obtain ⟨t_23, k⟩ := k
      refine R_iast rfl t_22 t_23  ?_
      show WP T N _ _ _ _ (si h a_18 (Int32.toNatClampNeg x3) 0) _
      generalize e_21 : si h a_18 (Int32.toNatClampNeg x3) 0 = h_20
      replace k := k h_20 e_21.symm
      refine R_ps 2 (pc2 := 37) (L2 := [some (vr (some w)), some (vi x1), some (vi x2), some (vi (x3 + 1)), none, none, none, none]) (st2 := []) rfl ?_
      exact k
theorem m184_72 {T N : Nat → Nat} {h : PH} {w : Nat} {x1 : Int32} {x3 : Int32} {K : Int32 → PH → Prop} (t0 : T w = 12) (k : (∃ a_3, (gr h w 1) = some a_3 ∧ T a_3 = 22 ∧ inb 0 (N a_3) ∧ ((x3 < (gi h a_3 0) → (WI T N 184 85 [some (vr (some w)), some (vi x1), none, some (vi x3), some (vi 0), none, none, none] [] h K)) ∧ (¬ (x3 < (gi h a_3 0)) → (∃ a_10, (gr h w 13) = some a_10 ∧ T a_10 = 22 ∧ inb x1 (N a_10) ∧ (((gi h a_10 (Int32.toNatClampNeg x1)) < 1000000 → (∃ a_21, (gr h w 13) = some a_21 ∧ T a_21 = 22 ∧ inb x1 (N a_21) ∧ K (gi h a_21 (Int32.toNatClampNeg x1)) h)) ∧ (¬ ((gi h a_10 (Int32.toNatClampNeg x1)) < 1000000) → (CI T N 157 [vr (some w), vi 2] h (fun x_17 h_16 => (K x_17 h_16)))))))))) : WI T N 184 72 [some (vr (some w)), some (vi x1), none, some (vi x3), none, none, none, none] [] h K := by
  show WP T N 184 72 [some (vr (some w)), some (vi x1), none, some (vi x3), none, none, none, none] [] h _
  refine R_ps 2 (pc2 := 74) (L2 := [some (vr (some w)), some (vi x1), none, some (vi x3), none, none, none, none]) (st2 := [vr (some w), vi x3]) rfl ?_
  refine R_getR rfl t0 ?_
  refine R_ps 1 (pc2 := 78) (L2 := [some (vr (some w)), some (vi x1), none, some (vi x3), none, none, none, none]) (st2 := [vi 0, vr (gr h w 1), vi x3]) rfl ?_
  obtain ⟨a_3, e_4, k⟩ := k
  rw [e_4]
  obtain ⟨t_5, k⟩ := k
  obtain ⟨t_6, k⟩ := k
  refine R_iald rfl (Or.inl t_5) t_6 ?_
  refine R_if rfl (fun c_7 => ?_) (fun c_7 => ?_)
  · have k := k.2 (i32_nlt c_7)
    refine R_ps 1 (pc2 := 190) (L2 := [some (vr (some w)), some (vi x1), none, some (vi x3), none, none, none, none]) (st2 := [vr (some w)]) rfl ?_
    refine R_getR rfl t0 ?_
    refine R_ps 1 (pc2 := 194) (L2 := [some (vr (some w)), some (vi x1), none, some (vi x3), none, none, none, none]) (st2 := [vi x1, vr (gr h w 13)]) rfl ?_
    obtain ⟨a_10, e_11, k⟩ := k
    rw [e_11]
    obtain ⟨t_12, k⟩ := k
    obtain ⟨t_13, k⟩ := k
    refine R_iald rfl (Or.inl t_12) t_13 ?_
    refine R_ps 1 (pc2 := 197) (L2 := [some (vr (some w)), some (vi x1), none, some (vi x3), none, none, none, none]) (st2 := [vi 1000000, vi (gi h a_10 (Int32.toNatClampNeg x1))]) rfl ?_
    refine R_if rfl (fun c_14 => ?_) (fun c_14 => ?_)
    · have k := k.2 (i32_nlt c_14)
      refine R_ps 2 (pc2 := 211) (L2 := [some (vr (some w)), some (vi x1), none, some (vi x3), none, none, none, none]) (st2 := [vi 2, vr (some w)]) rfl ?_
      refine R_cI (as := [vr (some w), vi 2]) rfl rfl ⟨Nat.le_of_ble_eq_true rfl, Nat.le_of_ble_eq_true rfl, rfl, (Or.inr ⟨_, rfl, t0⟩)⟩ rfl rfl k (fun x_17 h_16 k => ?_)
      exact R_iret rfl rfl ⟨_, rfl, k⟩
    · have k := k.1 (i32_lt c_14)
      refine R_ps 1 (pc2 := 201) (L2 := [some (vr (some w)), some (vi x1), none, some (vi x3), none, none, none, none]) (st2 := [vr (some w)]) rfl ?_
      refine R_getR rfl t0 ?_
      refine R_ps 1 (pc2 := 205) (L2 := [some (vr (some w)), some (vi x1), none, some (vi x3), none, none, none, none]) (st2 := [vi x1, vr (gr h w 13)]) rfl ?_
      obtain ⟨a_21, e_22, k⟩ := k
      rw [e_22]
      obtain ⟨t_23, k⟩ := k
      obtain ⟨t_24, k⟩ := k
      refine R_iald rfl (Or.inl t_23) t_24 ?_
      refine R_ps 1 (pc2 := 214) (L2 := [some (vr (some w)), some (vi x1), none, some (vi x3), none, none, none, none]) (st2 := [vi (gi h a_21 (Int32.toNatClampNeg x1))]) rfl ?_
      exact R_iret rfl rfl ⟨_, rfl, k⟩
  · have k := k.1 (i32_lt c_7)
    refine R_ps 2 (pc2 := 85) (L2 := [some (vr (some w)), some (vi x1), none, some (vi x3), some (vi 0), none, none, none]) (st2 := []) rfl ?_
    exact k
theorem m184_85 {T N : Nat → Nat} {h : PH} {w : Nat} {x1 : Int32} {x3 : Int32} {x4 : Int32} {K : Int32 → PH → Prop} (t0 : T w = 12) (k : (∃ a_3, (gr h w 1) = some a_3 ∧ T a_3 = 22 ∧ inb 11 (N a_3) ∧ ((x4 < (gi h a_3 11) → (WI T N 184 100 [some (vr (some w)), some (vi x1), none, some (vi x3), some (vi x4), some (vi 0), none, none] [] h K)) ∧ (¬ (x4 < (gi h a_3 11)) → (WI T N 184 72 [some (vr (some w)), some (vi x1), none, some (vi (x3 + 1)), none, none, none, none] [] h K))))) : WI T N 184 85 [some (vr (some w)), some (vi x1), none, some (vi x3), some (vi x4), none, none, none] [] h K := by
  show WP T N 184 85 [some (vr (some w)), some (vi x1), none, some (vi x3), some (vi x4), none, none, none] [] h _
  refine R_ps 2 (pc2 := 88) (L2 := [some (vr (some w)), some (vi x1), none, some (vi x3), some (vi x4), none, none, none]) (st2 := [vr (some w), vi x4]) rfl ?_
  refine R_getR rfl t0 ?_
  refine R_ps 1 (pc2 := 93) (L2 := [some (vr (some w)), some (vi x1), none, some (vi x3), some (vi x4), none, none, none]) (st2 := [vi 11, vr (gr h w 1), vi x4]) rfl ?_
  obtain ⟨a_3, e_4, k⟩ := k
  rw [e_4]
  obtain ⟨t_5, k⟩ := k
  obtain ⟨t_6, k⟩ := k
  refine R_iald rfl (Or.inl t_5) t_6 ?_
  refine R_if rfl (fun c_7 => ?_) (fun c_7 => ?_)
  · have k := k.2 (i32_nlt c_7)
    refine R_ps 2 (pc2 := 72) (L2 := [some (vr (some w)), some (vi x1), none, some (vi (x3 + 1)), some (vi x4), none, none, none]) (st2 := []) rfl ?_
    exact R_drop k (LE_of (L := [some (vr (some w)), some (vi x1), none, some (vi (x3 + 1)), none, none, none, none]) (L2 := [some (vr (some w)), some (vi x1), none, some (vi (x3 + 1)), some (vi x4), none, none, none]) ⟨rfl, rfl, rfl, trivial⟩)
  · have k := k.1 (i32_lt c_7)
    refine R_ps 2 (pc2 := 100) (L2 := [some (vr (some w)), some (vi x1), none, some (vi x3), some (vi x4), some (vi 0), none, none]) (st2 := []) rfl ?_
    exact k
theorem m184_100 {T N : Nat → Nat} {h : PH} {w : Nat} {x1 : Int32} {x3 : Int32} {x4 : Int32} {x5 : Int32} {K : Int32 → PH → Prop} (t0 : T w = 12) (k : (((x5 < 2 → (CI T N 165 [vr (some w), vi x4, vi (1 - x5)] h (fun x_5 h_4 => (∃ a_7, (gr h w 13) = some a_7 ∧ T a_7 = 22 ∧ inb x_5 (N a_7) ∧ CI T N 166 [vr (some w), vi x4] h_4 (fun x_13 h_12 => (CI T N 165 [vr (some w), vi x4, vi x5] h_12 (fun x_16 h_15 => (∃ a_20, (gr h_15 w 13) = some a_20 ∧ T a_20 = 22 ∧ inb x_16 (N a_20) ∧ ((((gi h_4 a_7 (Int32.toNatClampNeg x_5)) + x_13) < (gi h_15 a_20 (Int32.toNatClampNeg x_16)) → (∀ h_35, h_35 = si h_15 a_20 (Int32.toNatClampNeg x_16) ((gi h_4 a_7 (Int32.toNatClampNeg x_5)) + x_13) → WI T N 184 100 [some (vr (some w)), some (vi x1), none, some (vi x3), some (vi x4), some (vi (x5 + 1)), none, none] [] h_35 K)) ∧ (¬ (((gi h_4 a_7 (Int32.toNatClampNeg x_5)) + x_13) < (gi h_15 a_20 (Int32.toNatClampNeg x_16))) → (∃ a_27, (gr h_15 w 13) = some a_27 ∧ T a_27 = 22 ∧ inb x_16 (N a_27) ∧ ∀ h_32, h_32 = si h_15 a_20 (Int32.toNatClampNeg x_16) (gi h_15 a_27 (Int32.toNatClampNeg x_16)) → WI T N 184 100 [some (vr (some w)), some (vi x1), none, some (vi x3), some (vi x4), some (vi (x5 + 1)), none, none] [] h_32 K))))))))))) ∧ (¬ (x5 < 2) → (WI T N 184 85 [some (vr (some w)), some (vi x1), none, some (vi x3), some (vi (x4 + 1)), none, none, none] [] h K))))) : WI T N 184 100 [some (vr (some w)), some (vi x1), none, some (vi x3), some (vi x4), some (vi x5), none, none] [] h K := by
  show WP T N 184 100 [some (vr (some w)), some (vi x1), none, some (vi x3), some (vi x4), some (vi x5), none, none] [] h _
  refine R_ps 2 (pc2 := 103) (L2 := [some (vr (some w)), some (vi x1), none, some (vi x3), some (vi x4), some (vi x5), none, none]) (st2 := [vi 2, vi x5]) rfl ?_
  refine R_if rfl (fun c_1 => ?_) (fun c_1 => ?_)
  · have k := k.2 (i32_nlt c_1)
    refine R_ps 2 (pc2 := 85) (L2 := [some (vr (some w)), some (vi x1), none, some (vi x3), some (vi (x4 + 1)), some (vi x5), none, none]) (st2 := []) rfl ?_
    exact R_drop k (LE_of (L := [some (vr (some w)), some (vi x1), none, some (vi x3), some (vi (x4 + 1)), none, none, none]) (L2 := [some (vr (some w)), some (vi x1), none, some (vi x3), some (vi (x4 + 1)), some (vi x5), none, none]) ⟨rfl, rfl, rfl, rfl, trivial⟩)
  · have k := k.1 (i32_lt c_1)
    refine R_ps 1 (pc2 := 107) (L2 := [some (vr (some w)), some (vi x1), none, some (vi x3), some (vi x4), some (vi x5), none, none]) (st2 := [vr (some w)]) rfl ?_
    refine R_getR rfl t0 ?_
    refine R_ps 5 (pc2 := 117) (L2 := [some (vr (some w)), some (vi x1), none, some (vi x3), some (vi x4), some (vi x5), none, none]) (st2 := [vi (1 - x5), vi x4, vr (some w), vr (gr h w 13)]) rfl ?_
    refine R_cI (as := [vr (some w), vi x4, vi (1 - x5)]) rfl rfl ⟨Nat.le_of_ble_eq_true rfl, Nat.le_of_ble_eq_true rfl, rfl, (Or.inr ⟨_, rfl, t0⟩)⟩ rfl rfl k (fun x_5 h_4 k => ?_)
    obtain ⟨a_7, e_8, k⟩ := k
    rw [e_8]
    obtain ⟨t_9, k⟩ := k
    obtain ⟨t_10, k⟩ := k
    refine R_iald rfl (Or.inl t_9) t_10 ?_
    refine R_ps 2 (pc2 := 124) (L2 := [some (vr (some w)), some (vi x1), none, some (vi x3), some (vi x4), some (vi x5), none, none]) (st2 := [vi x4, vr (some w), vi (gi h_4 a_7 (Int32.toNatClampNeg x_5))]) rfl ?_
    refine R_cI (as := [vr (some w), vi x4]) rfl rfl ⟨Nat.le_of_ble_eq_true rfl, Nat.le_of_ble_eq_true rfl, rfl, (Or.inr ⟨_, rfl, t0⟩)⟩ rfl rfl k (fun x_13 h_12 k => ?_)
    refine R_ps 5 (pc2 := 135) (L2 := [some (vr (some w)), some (vi x1), none, some (vi x3), some (vi x4), some (vi x5), some (vi ((gi h_4 a_7 (Int32.toNatClampNeg x_5)) + x_13)), none]) (st2 := [vi x5, vi x4, vr (some w)]) rfl ?_
    refine R_cI (as := [vr (some w), vi x4, vi x5]) rfl rfl ⟨Nat.le_of_ble_eq_true rfl, Nat.le_of_ble_eq_true rfl, rfl, (Or.inr ⟨_, rfl, t0⟩)⟩ rfl rfl k (fun x_16 h_15 k => ?_)
    refine R_ps 2 (pc2 := 141) (L2 := [some (vr (some w)), some (vi x1), none, some (vi x3), some (vi x4), some (vi x5), some (vi ((gi h_4 a_7 (Int32.toNatClampNeg x_5)) + x_13)), some (vi x_16)]) (st2 := [vr (some w)]) rfl ?_
    refine R_getR rfl t0 ?_
    refine R_ps 3 (pc2 := 149) (L2 := [some (vr (some w)), some (vi x1), none, some (vi x3), some (vi x4), some (vi x5), some (vi ((gi h_4 a_7 (Int32.toNatClampNeg x_5)) + x_13)), some (vi x_16)]) (st2 := [vr (some w), vi ((gi h_4 a_7 (Int32.toNatClampNeg x_5)) + x_13), vi x_16, vr (gr h_15 w 13)]) rfl ?_
    refine R_getR rfl t0 ?_
    refine R_ps 1 (pc2 := 154) (L2 := [some (vr (some w)), some (vi x1), none, some (vi x3), some (vi x4), some (vi x5), some (vi ((gi h_4 a_7 (Int32.toNatClampNeg x_5)) + x_13)), some (vi x_16)]) (st2 := [vi x_16, vr (gr h_15 w 13), vi ((gi h_4 a_7 (Int32.toNatClampNeg x_5)) + x_13), vi x_16, vr (gr h_15 w 13)]) rfl ?_
    obtain ⟨a_20, e_21, k⟩ := k
    rw [e_21]
    obtain ⟨t_22, k⟩ := k
    obtain ⟨t_23, k⟩ := k
    refine R_iald rfl (Or.inl t_22) t_23 ?_
    refine R_if rfl (fun c_24 => ?_) (fun c_24 => ?_)
    · have k := k.2 (i32_nlt c_24)
      refine R_ps 1 (pc2 := 164) (L2 := [some (vr (some w)), some (vi x1), none, some (vi x3), some (vi x4), some (vi x5), some (vi ((gi h_4 a_7 (Int32.toNatClampNeg x_5)) + x_13)), some (vi x_16)]) (st2 := [vr (some w), vi x_16, vr (some a_20)]) rfl ?_
      refine R_getR rfl t0 ?_
      refine R_ps 1 (pc2 := 169) (L2 := [some (vr (some w)), some (vi x1), none, some (vi x3), some (vi x4), some (vi x5), some (vi ((gi h_4 a_7 (Int32.toNatClampNeg x_5)) + x_13)), some (vi x_16)]) (st2 := [vi x_16, vr (gr h_15 w 13), vi x_16, vr (some a_20)]) rfl ?_
      obtain ⟨a_27, e_28, k⟩ := k
      rw [e_28]
      obtain ⟨t_29, k⟩ := k
      obtain ⟨t_30, k⟩ := k
      refine R_iald rfl (Or.inl t_29) t_30 ?_
      refine R_iast rfl t_22 t_23  ?_
      show WP T N _ _ _ _ (si h_15 a_20 (Int32.toNatClampNeg x_16) (gi h_15 a_27 (Int32.toNatClampNeg x_16))) _
      generalize e_33 : si h_15 a_20 (Int32.toNatClampNeg x_16) (gi h_15 a_27 (Int32.toNatClampNeg x_16)) = h_32
      replace k := k h_32 e_33.symm
      refine R_ps 2 (pc2 := 100) (L2 := [some (vr (some w)), some (vi x1), none, some (vi x3), some (vi x4), some (vi (x5 + 1)), some (vi ((gi h_4 a_7 (Int32.toNatClampNeg x_5)) + x_13)), some (vi x_16)]) (st2 := []) rfl ?_
      exact R_drop k (LE_of (L := [some (vr (some w)), some (vi x1), none, some (vi x3), some (vi x4), some (vi (x5 + 1)), none, none]) (L2 := [some (vr (some w)), some (vi x1), none, some (vi x3), some (vi x4), some (vi (x5 + 1)), some (vi ((gi h_4 a_7 (Int32.toNatClampNeg x_5)) + x_13)), some (vi x_16)]) ⟨rfl, rfl, rfl, rfl, rfl, trivial⟩)
    · have k := k.1 (i32_lt c_24)
      refine R_ps 2 (pc2 := 170) (L2 := [some (vr (some w)), some (vi x1), none, some (vi x3), some (vi x4), some (vi x5), some (vi ((gi h_4 a_7 (Int32.toNatClampNeg x_5)) + x_13)), some (vi x_16)]) (st2 := [vi ((gi h_4 a_7 (Int32.toNatClampNeg x_5)) + x_13), vi x_16, vr (some a_20)]) rfl ?_
      refine R_iast rfl t_22 t_23  ?_
      show WP T N _ _ _ _ (si h_15 a_20 (Int32.toNatClampNeg x_16) ((gi h_4 a_7 (Int32.toNatClampNeg x_5)) + x_13)) _
      generalize e_36 : si h_15 a_20 (Int32.toNatClampNeg x_16) ((gi h_4 a_7 (Int32.toNatClampNeg x_5)) + x_13) = h_35
      replace k := k h_35 e_36.symm
      refine R_ps 2 (pc2 := 100) (L2 := [some (vr (some w)), some (vi x1), none, some (vi x3), some (vi x4), some (vi (x5 + 1)), some (vi ((gi h_4 a_7 (Int32.toNatClampNeg x_5)) + x_13)), some (vi x_16)]) (st2 := []) rfl ?_
      exact R_drop k (LE_of (L := [some (vr (some w)), some (vi x1), none, some (vi x3), some (vi x4), some (vi (x5 + 1)), none, none]) (L2 := [some (vr (some w)), some (vi x1), none, some (vi x3), some (vi x4), some (vi (x5 + 1)), some (vi ((gi h_4 a_7 (Int32.toNatClampNeg x_5)) + x_13)), some (vi x_16)]) ⟨rfl, rfl, rfl, rfl, rfl, trivial⟩)
/-- DroneCorridorsModel.count -/
theorem m185 {T N : Nat → Nat} {h : PH} {w : Nat} {x1 : Int32} {K : Int32 → PH → Prop} (t0 : T w = 12) (k : (CI T N 158 [vi x1, vi 0, vi 8] h (fun x_3 h_2 => (((x_3 = 0 → (∀ h_6, h_6 = si h_2 w 0 1 → (((gi h_6 w 0) = 1 → (K 0 h_6)) ∧ (¬ ((gi h_6 w 0) = 1) → (((x1 < 5 → (((x1 = 0 → (∃ a_41, (gr h_6 w 1) = some a_41 ∧ T a_41 = 22 ∧ inb 0 (N a_41) ∧ K (gi h_6 a_41 0) h_6)) ∧ (¬ (x1 = 0) → (((x1 = 1 → (∃ a_35, (gr h_6 w 1) = some a_35 ∧ T a_35 = 22 ∧ inb 11 (N a_35) ∧ K (gi h_6 a_35 11) h_6)) ∧ (¬ (x1 = 1) → (((x1 = 2 → (∃ a_29, (gr h_6 w 1) = some a_29 ∧ T a_29 = 22 ∧ inb 117 (N a_29) ∧ K (gi h_6 a_29 117) h_6)) ∧ (¬ (x1 = 2) → (((x1 = 3 → (∃ a_23, (gr h_6 w 1) = some a_23 ∧ T a_23 = 22 ∧ inb 76 (N a_23) ∧ K (gi h_6 a_23 76) h_6)) ∧ (¬ (x1 = 3) → (∃ a_17, (gr h_6 w 1) = some a_17 ∧ T a_17 = 22 ∧ inb 448 (N a_17) ∧ K (gi h_6 a_17 448) h_6)))))))))))))) ∧ (¬ (x1 < 5) → (WI T N 185 85 [some (vr (some w)), some (vi x1), some (vi 0), some (vi 0)] [] h_6 K)))))))) ∧ (¬ (x_3 = 0) → (∀ h_48, h_48 = si h_2 w 0 0 → (((gi h_48 w 0) = 1 → (K 0 h_48)) ∧ (¬ ((gi h_48 w 0) = 1) → (((x1 < 5 → (((x1 = 0 → (∃ a_83, (gr h_48 w 1) = some a_83 ∧ T a_83 = 22 ∧ inb 0 (N a_83) ∧ K (gi h_48 a_83 0) h_48)) ∧ (¬ (x1 = 0) → (((x1 = 1 → (∃ a_77, (gr h_48 w 1) = some a_77 ∧ T a_77 = 22 ∧ inb 11 (N a_77) ∧ K (gi h_48 a_77 11) h_48)) ∧ (¬ (x1 = 1) → (((x1 = 2 → (∃ a_71, (gr h_48 w 1) = some a_71 ∧ T a_71 = 22 ∧ inb 117 (N a_71) ∧ K (gi h_48 a_71 117) h_48)) ∧ (¬ (x1 = 2) → (((x1 = 3 → (∃ a_65, (gr h_48 w 1) = some a_65 ∧ T a_65 = 22 ∧ inb 76 (N a_65) ∧ K (gi h_48 a_65 76) h_48)) ∧ (¬ (x1 = 3) → (∃ a_59, (gr h_48 w 1) = some a_59 ∧ T a_59 = 22 ∧ inb 448 (N a_59) ∧ K (gi h_48 a_59 448) h_48)))))))))))))) ∧ (¬ (x1 < 5) → (WI T N 185 85 [some (vr (some w)), some (vi x1), some (vi 0), some (vi 0)] [] h_48 K))))))))))))) : CI T N 185 [vr (some w), vi x1] h K := by
  show WP T N 185 0 [some (vr (some w)), some (vi x1), none, none] [] h _
  refine R_ps 4 (pc2 := 5) (L2 := [some (vr (some w)), some (vi x1), none, none]) (st2 := [vi 8, vi 0, vi x1, vr (some w)]) rfl ?_
  refine R_cI (as := [vi x1, vi 0, vi 8]) rfl rfl ⟨Nat.le_of_ble_eq_true rfl, Nat.le_of_ble_eq_true rfl, rfl, (Or.inl rfl)⟩ rfl rfl k (fun x_3 h_2 k => ?_)
  refine R_if0 rfl (fun c_4 => ?_) (fun c_4 => ?_)
  · have k := k.1 c_4
    refine R_ps 1 (pc2 := 16) (L2 := [some (vr (some w)), some (vi x1), none, none]) (st2 := [vi 1, vr (some w)]) rfl ?_
    refine R_putI rfl t0 ?_
    show WP T N _ _ _ _ (si h_2 w 0 1) _
    generalize e_7 : si h_2 w 0 1 = h_6
    replace k := k h_6 e_7.symm
    refine R_ps 1 (pc2 := 20) (L2 := [some (vr (some w)), some (vi x1), none, none]) (st2 := [vr (some w)]) rfl ?_
    refine R_getI rfl t0 ?_
    refine R_ps 1 (pc2 := 24) (L2 := [some (vr (some w)), some (vi x1), none, none]) (st2 := [vi 1, vi (gi h_6 w 0)]) rfl ?_
    refine R_if rfl (fun c_9 => ?_) (fun c_9 => ?_)
    · have k := k.2 c_9
      refine R_ps 2 (pc2 := 31) (L2 := [some (vr (some w)), some (vi x1), none, none]) (st2 := [vi 5, vi x1]) rfl ?_
      refine R_if rfl (fun c_10 => ?_) (fun c_10 => ?_)
      · have k := k.2 (i32_nlt c_10)
        refine R_ps 4 (pc2 := 85) (L2 := [some (vr (some w)), some (vi x1), some (vi 0), some (vi 0)]) (st2 := []) rfl ?_
        exact k
      · have k := k.1 (i32_lt c_10)
        refine R_ps 1 (pc2 := 35) (L2 := [some (vr (some w)), some (vi x1), none, none]) (st2 := [vr (some w)]) rfl ?_
        refine R_getR rfl t0 ?_
        refine R_ps 1 (pc2 := 39) (L2 := [some (vr (some w)), some (vi x1), none, none]) (st2 := [vi x1, vr (gr h_6 w 1)]) rfl ?_
        refine R_if0 rfl (fun c_12 => ?_) (fun c_12 => ?_)
        · have k := k.2 c_12
          refine R_ps 2 (pc2 := 48) (L2 := [some (vr (some w)), some (vi x1), none, none]) (st2 := [vi 1, vi x1, vr (gr h_6 w 1)]) rfl ?_
          refine R_if rfl (fun c_13 => ?_) (fun c_13 => ?_)
          · have k := k.2 c_13
            refine R_ps 2 (pc2 := 58) (L2 := [some (vr (some w)), some (vi x1), none, none]) (st2 := [vi 2, vi x1, vr (gr h_6 w 1)]) rfl ?_
            refine R_if rfl (fun c_14 => ?_) (fun c_14 => ?_)
            · have k := k.2 c_14
              refine R_ps 2 (pc2 := 68) (L2 := [some (vr (some w)), some (vi x1), none, none]) (st2 := [vi 3, vi x1, vr (gr h_6 w 1)]) rfl ?_
              refine R_if rfl (fun c_15 => ?_) (fun c_15 => ?_)
              · have k := k.2 c_15
                refine R_ps 1 (pc2 := 79) (L2 := [some (vr (some w)), some (vi x1), none, none]) (st2 := [vi 448, vr (gr h_6 w 1)]) rfl ?_
                obtain ⟨a_17, e_18, k⟩ := k
                rw [e_18]
                obtain ⟨t_19, k⟩ := k
                obtain ⟨t_20, k⟩ := k
                refine R_iald rfl (Or.inl t_19) t_20 ?_
                exact R_iret rfl rfl ⟨_, rfl, k⟩
              · have k := k.1 (Classical.not_not.mp c_15)
                refine R_ps 2 (pc2 := 79) (L2 := [some (vr (some w)), some (vi x1), none, none]) (st2 := [vi 76, vr (gr h_6 w 1)]) rfl ?_
                obtain ⟨a_23, e_24, k⟩ := k
                rw [e_24]
                obtain ⟨t_25, k⟩ := k
                obtain ⟨t_26, k⟩ := k
                refine R_iald rfl (Or.inl t_25) t_26 ?_
                exact R_iret rfl rfl ⟨_, rfl, k⟩
            · have k := k.1 (Classical.not_not.mp c_14)
              refine R_ps 2 (pc2 := 79) (L2 := [some (vr (some w)), some (vi x1), none, none]) (st2 := [vi 117, vr (gr h_6 w 1)]) rfl ?_
              obtain ⟨a_29, e_30, k⟩ := k
              rw [e_30]
              obtain ⟨t_31, k⟩ := k
              obtain ⟨t_32, k⟩ := k
              refine R_iald rfl (Or.inl t_31) t_32 ?_
              exact R_iret rfl rfl ⟨_, rfl, k⟩
          · have k := k.1 (Classical.not_not.mp c_13)
            refine R_ps 2 (pc2 := 79) (L2 := [some (vr (some w)), some (vi x1), none, none]) (st2 := [vi 11, vr (gr h_6 w 1)]) rfl ?_
            obtain ⟨a_35, e_36, k⟩ := k
            rw [e_36]
            obtain ⟨t_37, k⟩ := k
            obtain ⟨t_38, k⟩ := k
            refine R_iald rfl (Or.inl t_37) t_38 ?_
            exact R_iret rfl rfl ⟨_, rfl, k⟩
        · have k := k.1 (Classical.not_not.mp c_12)
          refine R_ps 2 (pc2 := 79) (L2 := [some (vr (some w)), some (vi x1), none, none]) (st2 := [vi 0, vr (gr h_6 w 1)]) rfl ?_
          obtain ⟨a_41, e_42, k⟩ := k
          rw [e_42]
          obtain ⟨t_43, k⟩ := k
          obtain ⟨t_44, k⟩ := k
          refine R_iald rfl (Or.inl t_43) t_44 ?_
          exact R_iret rfl rfl ⟨_, rfl, k⟩
    · have k := k.1 (Classical.not_not.mp c_9)
      refine R_ps 1 (pc2 := 28) (L2 := [some (vr (some w)), some (vi x1), none, none]) (st2 := [vi 0]) rfl ?_
      exact R_iret rfl rfl ⟨_, rfl, k⟩
  · have k := k.2 c_4
    refine R_ps 2 (pc2 := 16) (L2 := [some (vr (some w)), some (vi x1), none, none]) (st2 := [vi 0, vr (some w)]) rfl ?_
    refine R_putI rfl t0 ?_
    show WP T N _ _ _ _ (si h_2 w 0 0) _
    generalize e_49 : si h_2 w 0 0 = h_48
    replace k := k h_48 e_49.symm
    refine R_ps 1 (pc2 := 20) (L2 := [some (vr (some w)), some (vi x1), none, none]) (st2 := [vr (some w)]) rfl ?_
    refine R_getI rfl t0 ?_
    refine R_ps 1 (pc2 := 24) (L2 := [some (vr (some w)), some (vi x1), none, none]) (st2 := [vi 1, vi (gi h_48 w 0)]) rfl ?_
    refine R_if rfl (fun c_51 => ?_) (fun c_51 => ?_)
    · have k := k.2 c_51
      refine R_ps 2 (pc2 := 31) (L2 := [some (vr (some w)), some (vi x1), none, none]) (st2 := [vi 5, vi x1]) rfl ?_
      refine R_if rfl (fun c_52 => ?_) (fun c_52 => ?_)
      · have k := k.2 (i32_nlt c_52)
        refine R_ps 4 (pc2 := 85) (L2 := [some (vr (some w)), some (vi x1), some (vi 0), some (vi 0)]) (st2 := []) rfl ?_
        exact k
      · have k := k.1 (i32_lt c_52)
        refine R_ps 1 (pc2 := 35) (L2 := [some (vr (some w)), some (vi x1), none, none]) (st2 := [vr (some w)]) rfl ?_
        refine R_getR rfl t0 ?_
        refine R_ps 1 (pc2 := 39) (L2 := [some (vr (some w)), some (vi x1), none, none]) (st2 := [vi x1, vr (gr h_48 w 1)]) rfl ?_
        refine R_if0 rfl (fun c_54 => ?_) (fun c_54 => ?_)
        · have k := k.2 c_54
          refine R_ps 2 (pc2 := 48) (L2 := [some (vr (some w)), some (vi x1), none, none]) (st2 := [vi 1, vi x1, vr (gr h_48 w 1)]) rfl ?_
          refine R_if rfl (fun c_55 => ?_) (fun c_55 => ?_)
          · have k := k.2 c_55
            refine R_ps 2 (pc2 := 58) (L2 := [some (vr (some w)), some (vi x1), none, none]) (st2 := [vi 2, vi x1, vr (gr h_48 w 1)]) rfl ?_
            refine R_if rfl (fun c_56 => ?_) (fun c_56 => ?_)
            · have k := k.2 c_56
              refine R_ps 2 (pc2 := 68) (L2 := [some (vr (some w)), some (vi x1), none, none]) (st2 := [vi 3, vi x1, vr (gr h_48 w 1)]) rfl ?_
              refine R_if rfl (fun c_57 => ?_) (fun c_57 => ?_)
              · have k := k.2 c_57
                refine R_ps 1 (pc2 := 79) (L2 := [some (vr (some w)), some (vi x1), none, none]) (st2 := [vi 448, vr (gr h_48 w 1)]) rfl ?_
                obtain ⟨a_59, e_60, k⟩ := k
                rw [e_60]
                obtain ⟨t_61, k⟩ := k
                obtain ⟨t_62, k⟩ := k
                refine R_iald rfl (Or.inl t_61) t_62 ?_
                exact R_iret rfl rfl ⟨_, rfl, k⟩
              · have k := k.1 (Classical.not_not.mp c_57)
                refine R_ps 2 (pc2 := 79) (L2 := [some (vr (some w)), some (vi x1), none, none]) (st2 := [vi 76, vr (gr h_48 w 1)]) rfl ?_
                obtain ⟨a_65, e_66, k⟩ := k
                rw [e_66]
                obtain ⟨t_67, k⟩ := k
                obtain ⟨t_68, k⟩ := k
                refine R_iald rfl (Or.inl t_67) t_68 ?_
                exact R_iret rfl rfl ⟨_, rfl, k⟩
            · have k := k.1 (Classical.not_not.mp c_56)
              refine R_ps 2 (pc2 := 79) (L2 := [some (vr (some w)), some (vi x1), none, none]) (st2 := [vi 117, vr (gr h_48 w 1)]) rfl ?_
              obtain ⟨a_71, e_72, k⟩ := k
              rw [e_72]
              obtain ⟨t_73, k⟩ := k
              obtain ⟨t_74, k⟩ := k
              refine R_iald rfl (Or.inl t_73) t_74 ?_
              exact R_iret rfl rfl ⟨_, rfl, k⟩
          · have k := k.1 (Classical.not_not.mp c_55)
            refine R_ps 2 (pc2 := 79) (L2 := [some (vr (some w)), some (vi x1), none, none]) (st2 := [vi 11, vr (gr h_48 w 1)]) rfl ?_
            obtain ⟨a_77, e_78, k⟩ := k
            rw [e_78]
            obtain ⟨t_79, k⟩ := k
            obtain ⟨t_80, k⟩ := k
            refine R_iald rfl (Or.inl t_79) t_80 ?_
            exact R_iret rfl rfl ⟨_, rfl, k⟩
        · have k := k.1 (Classical.not_not.mp c_54)
          refine R_ps 2 (pc2 := 79) (L2 := [some (vr (some w)), some (vi x1), none, none]) (st2 := [vi 0, vr (gr h_48 w 1)]) rfl ?_
          obtain ⟨a_83, e_84, k⟩ := k
          rw [e_84]
          obtain ⟨t_85, k⟩ := k
          obtain ⟨t_86, k⟩ := k
          refine R_iald rfl (Or.inl t_85) t_86 ?_
          exact R_iret rfl rfl ⟨_, rfl, k⟩
    · have k := k.1 (Classical.not_not.mp c_51)
      refine R_ps 1 (pc2 := 28) (L2 := [some (vr (some w)), some (vi x1), none, none]) (st2 := [vi 0]) rfl ?_
      exact R_iret rfl rfl ⟨_, rfl, k⟩
theorem m185_85 {T N : Nat → Nat} {h : PH} {w : Nat} {x1 : Int32} {x2 : Int32} {x3 : Int32} {K : Int32 → PH → Prop} (t0 : T w = 12) (k : (∃ a_3, (gr h w 1) = some a_3 ∧ T a_3 = 22 ∧ inb 117 (N a_3) ∧ ((x3 < (gi h a_3 117) → (CI T N 168 [vr (some w), vi x3, vi 0] h (fun x_11 h_10 => (((x_11 = (x1 - 5) → (WI T N 185 85 [some (vr (some w)), some (vi x1), some (vi (x2 + 1)), some (vi (x3 + 1))] [] h_10 K)) ∧ (¬ (x_11 = (x1 - 5)) → (WI T N 185 85 [some (vr (some w)), some (vi x1), some (vi (x2 + 0)), some (vi (x3 + 1))] [] h_10 K))))))) ∧ (¬ (x3 < (gi h a_3 117)) → (K x2 h))))) : WI T N 185 85 [some (vr (some w)), some (vi x1), some (vi x2), some (vi x3)] [] h K := by
  show WP T N 185 85 [some (vr (some w)), some (vi x1), some (vi x2), some (vi x3)] [] h _
  refine R_ps 2 (pc2 := 87) (L2 := [some (vr (some w)), some (vi x1), some (vi x2), some (vi x3)]) (st2 := [vr (some w), vi x3]) rfl ?_
  refine R_getR rfl t0 ?_
  refine R_ps 1 (pc2 := 92) (L2 := [some (vr (some w)), some (vi x1), some (vi x2), some (vi x3)]) (st2 := [vi 117, vr (gr h w 1), vi x3]) rfl ?_
  obtain ⟨a_3, e_4, k⟩ := k
  rw [e_4]
  obtain ⟨t_5, k⟩ := k
  obtain ⟨t_6, k⟩ := k
  refine R_iald rfl (Or.inl t_5) t_6 ?_
  refine R_if rfl (fun c_7 => ?_) (fun c_7 => ?_)
  · have k := k.2 (i32_nlt c_7)
    refine R_ps 1 (pc2 := 123) (L2 := [some (vr (some w)), some (vi x1), some (vi x2), some (vi x3)]) (st2 := [vi x2]) rfl ?_
    exact R_iret rfl rfl ⟨_, rfl, k⟩
  · have k := k.1 (i32_lt c_7)
    refine R_ps 4 (pc2 := 100) (L2 := [some (vr (some w)), some (vi x1), some (vi x2), some (vi x3)]) (st2 := [vi 0, vi x3, vr (some w), vi x2]) rfl ?_
    refine R_cI (as := [vr (some w), vi x3, vi 0]) rfl rfl ⟨Nat.le_of_ble_eq_true rfl, Nat.le_of_ble_eq_true rfl, rfl, (Or.inr ⟨_, rfl, t0⟩)⟩ rfl rfl k (fun x_11 h_10 k => ?_)
    refine R_ps 3 (pc2 := 106) (L2 := [some (vr (some w)), some (vi x1), some (vi x2), some (vi x3)]) (st2 := [vi (x1 - 5), vi x_11, vi x2]) rfl ?_
    refine R_if rfl (fun c_12 => ?_) (fun c_12 => ?_)
    · have k := k.2 c_12
      refine R_ps 5 (pc2 := 85) (L2 := [some (vr (some w)), some (vi x1), some (vi (x2 + 0)), some (vi (x3 + 1))]) (st2 := []) rfl ?_
      exact k
    · have k := k.1 (Classical.not_not.mp c_12)
      refine R_ps 6 (pc2 := 85) (L2 := [some (vr (some w)), some (vi x1), some (vi (x2 + 1)), some (vi (x3 + 1))]) (st2 := []) rfl ?_
      exact k
/-- DroneCorridorsModel.leg -/
theorem m186 {T N : Nat → Nat} {h : PH} {w : Nat} {x1 : Int32} {x2 : Int32} {K : Int32 → PH → Prop} (t0 : T w = 12) (k : (CI T N 168 [vr (some w), vi x1, vi (13 + x2)] h (fun x_3 h_2 => (K x_3 h_2)))) : CI T N 186 [vr (some w), vi x1, vi x2] h K := by
  show WP T N 186 0 [some (vr (some w)), some (vi x1), some (vi x2)] [] h _
  refine R_ps 5 (pc2 := 6) (L2 := [some (vr (some w)), some (vi x1), some (vi x2)]) (st2 := [vi (13 + x2), vi x1, vr (some w)]) rfl ?_
  refine R_cI (as := [vr (some w), vi x1, vi (13 + x2)]) rfl rfl ⟨Nat.le_of_ble_eq_true rfl, Nat.le_of_ble_eq_true rfl, rfl, (Or.inr ⟨_, rfl, t0⟩)⟩ rfl rfl k (fun x_3 h_2 k => ?_)
  exact R_iret rfl rfl ⟨_, rfl, k⟩
/-- DroneCorridorsModel.corridorOf -/
theorem m187 {T N : Nat → Nat} {h : PH} {x0 : Int32} {K : Int32 → PH → Prop} (k : (K (x0 - x0 / 16 * 16) h)) : CI T N 187 [vi x0] h K := by
  show WP T N 187 0 [some (vi x0)] [] h _
  refine R_ps 2 (pc2 := 3) (L2 := [some (vi x0)]) (st2 := [vi 16, vi x0]) rfl ?_
  refine R_rem rfl (by decide) ?_
  exact R_iret rfl rfl ⟨_, rfl, k⟩
/-- DroneCorridorsModel.wayOf -/
theorem m188 {T N : Nat → Nat} {h : PH} {x0 : Int32} {K : Int32 → PH → Prop} (k : (K ((x0 / 16) - (x0 / 16) / 2 * 2) h)) : CI T N 188 [vi x0] h K := by
  show WP T N 188 0 [some (vi x0)] [] h _
  refine R_ps 2 (pc2 := 3) (L2 := [some (vi x0)]) (st2 := [vi 16, vi x0]) rfl ?_
  refine R_div rfl (by decide) ?_
  refine R_ps 1 (pc2 := 5) (L2 := [some (vi x0)]) (st2 := [vi 2, vi (x0 / 16)]) rfl ?_
  refine R_rem rfl (by decide) ?_
  exact R_iret rfl rfl ⟨_, rfl, k⟩
/-- DroneCorridorsModel.layerOf -/
theorem m189 {T N : Nat → Nat} {h : PH} {x0 : Int32} {K : Int32 → PH → Prop} (k : (K ((x0 / 32) - (x0 / 32) / 4 * 4) h)) : CI T N 189 [vi x0] h K := by
  show WP T N 189 0 [some (vi x0)] [] h _
  refine R_ps 2 (pc2 := 3) (L2 := [some (vi x0)]) (st2 := [vi 32, vi x0]) rfl ?_
  refine R_div rfl (by decide) ?_
  refine R_ps 1 (pc2 := 5) (L2 := [some (vi x0)]) (st2 := [vi 4, vi (x0 / 32)]) rfl ?_
  refine R_rem rfl (by decide) ?_
  exact R_iret rfl rfl ⟨_, rfl, k⟩
/-- DroneCorridorsModel.startOf -/
theorem m190 {T N : Nat → Nat} {h : PH} {x0 : Int32} {K : Int32 → PH → Prop} (k : (K (x0 / 128) h)) : CI T N 190 [vi x0] h K := by
  show WP T N 190 0 [some (vi x0)] [] h _
  refine R_ps 2 (pc2 := 4) (L2 := [some (vi x0)]) (st2 := [vi 128, vi x0]) rfl ?_
  refine R_div rfl (by decide) ?_
  exact R_iret rfl rfl ⟨_, rfl, k⟩
/-- DroneCorridorsModel.endOf -/
theorem m191 {T N : Nat → Nat} {h : PH} {w : Nat} {x1 : Int32} {K : Int32 → PH → Prop} (t0 : T w = 12) (k : (CI T N 190 [vi x1] h (fun x_3 h_2 => (CI T N 187 [vi x1] h_2 (fun x_6 h_5 => (CI T N 166 [vr (some w), vi x_6] h_5 (fun x_9 h_8 => (K (x_3 + x_9) h_8)))))))) : CI T N 191 [vr (some w), vi x1] h K := by
  show WP T N 191 0 [some (vr (some w)), some (vi x1)] [] h _
  refine R_ps 1 (pc2 := 1) (L2 := [some (vr (some w)), some (vi x1)]) (st2 := [vi x1]) rfl ?_
  refine R_cI (as := [vi x1]) rfl rfl ⟨Nat.le_of_ble_eq_true rfl, Nat.le_of_ble_eq_true rfl, rfl, (Or.inl rfl)⟩ rfl rfl k (fun x_3 h_2 k => ?_)
  refine R_ps 2 (pc2 := 6) (L2 := [some (vr (some w)), some (vi x1)]) (st2 := [vi x1, vr (some w), vi x_3]) rfl ?_
  refine R_cI (as := [vi x1]) rfl rfl ⟨Nat.le_of_ble_eq_true rfl, Nat.le_of_ble_eq_true rfl, rfl, (Or.inl rfl)⟩ rfl rfl k (fun x_6 h_5 k => ?_)
  refine R_cI (as := [vr (some w), vi x_6]) rfl rfl ⟨Nat.le_of_ble_eq_true rfl, Nat.le_of_ble_eq_true rfl, rfl, (Or.inr ⟨_, rfl, t0⟩)⟩ rfl rfl k (fun x_9 h_8 k => ?_)
  refine R_ps 1 (pc2 := 13) (L2 := [some (vr (some w)), some (vi x1)]) (st2 := [vi (x_3 + x_9)]) rfl ?_
  exact R_iret rfl rfl ⟨_, rfl, k⟩
/-- DroneCorridorsModel.asLeg -/
theorem m192 {T N : Nat → Nat} {h : PH} {x0 : Int32} {x1 : Int32} {x2 : Int32} {x3 : Int32} {K : Int32 → PH → Prop} (k : (K (((x0 + (16 * x1)) + (32 * x2)) + (128 * x3)) h)) : CI T N 192 [vi x0, vi x1, vi x2, vi x3] h K := by
  show WP T N 192 0 [some (vi x0), some (vi x1), some (vi x2), some (vi x3)] [] h _
  refine R_ps 13 (pc2 := 17) (L2 := [some (vi x0), some (vi x1), some (vi x2), some (vi x3)]) (st2 := [vi (((x0 + (16 * x1)) + (32 * x2)) + (128 * x3))]) rfl ?_
  exact R_iret rfl rfl ⟨_, rfl, k⟩
/-- DroneCorridorsModel.ahead -/
theorem m193 {T N : Nat → Nat} {h : PH} {w : Nat} {x1 : Int32} {K : Int32 → PH → Prop} (t0 : T w = 12) (k : (CI T N 168 [vr (some w), vi x1, vi 0] h (fun x_3 h_2 => (((x_3 = 2 → (K 1 h_2)) ∧ (¬ (x_3 = 2) → (K 0 h_2))))))) : CI T N 193 [vr (some w), vi x1] h K := by
  show WP T N 193 0 [some (vr (some w)), some (vi x1)] [] h _
  refine R_ps 3 (pc2 := 3) (L2 := [some (vr (some w)), some (vi x1)]) (st2 := [vi 0, vi x1, vr (some w)]) rfl ?_
  refine R_cI (as := [vr (some w), vi x1, vi 0]) rfl rfl ⟨Nat.le_of_ble_eq_true rfl, Nat.le_of_ble_eq_true rfl, rfl, (Or.inr ⟨_, rfl, t0⟩)⟩ rfl rfl k (fun x_3 h_2 k => ?_)
  refine R_ps 1 (pc2 := 7) (L2 := [some (vr (some w)), some (vi x1)]) (st2 := [vi 2, vi x_3]) rfl ?_
  refine R_if rfl (fun c_4 => ?_) (fun c_4 => ?_)
  · have k := k.2 c_4
    refine R_ps 1 (pc2 := 15) (L2 := [some (vr (some w)), some (vi x1)]) (st2 := [vi 0]) rfl ?_
    exact R_iret rfl rfl ⟨_, rfl, k⟩
  · have k := k.1 (Classical.not_not.mp c_4)
    refine R_ps 2 (pc2 := 15) (L2 := [some (vr (some w)), some (vi x1)]) (st2 := [vi 1]) rfl ?_
    exact R_iret rfl rfl ⟨_, rfl, k⟩
/-- DroneCorridorsModel.refuses -/
theorem m194 {T N : Nat → Nat} {h : PH} {w : Nat} {x1 : Int32} {x2 : Int32} {K : Int32 → PH → Prop} (t0 : T w = 12) (k : (CI T N 162 [vr (some w), vi x1] h (fun x_3 h_2 => (((x_3 = 0 → (K 1 h_2)) ∧ (¬ (x_3 = 0) → (CI T N 158 [vi x2, vi 1, vi 200] h_2 (fun x_7 h_6 => (((x_7 = 0 → (K 2 h_6)) ∧ (¬ (x_7 = 0) → (∃ a_11, (gr h_6 w 1) = some a_11 ∧ T a_11 = 22 ∧ inb 117 (N a_11) ∧ (((gi h_6 a_11 117) = 6 → (K 3 h_6)) ∧ (¬ ((gi h_6 a_11 117) = 6) → (K 0 h_6))))))))))))))) : CI T N 194 [vr (some w), vi x1, vi x2] h K := by
  show WP T N 194 0 [some (vr (some w)), some (vi x1), some (vi x2)] [] h _
  refine R_ps 2 (pc2 := 2) (L2 := [some (vr (some w)), some (vi x1), some (vi x2)]) (st2 := [vi x1, vr (some w)]) rfl ?_
  refine R_cI (as := [vr (some w), vi x1]) rfl rfl ⟨Nat.le_of_ble_eq_true rfl, Nat.le_of_ble_eq_true rfl, rfl, (Or.inr ⟨_, rfl, t0⟩)⟩ rfl rfl k (fun x_3 h_2 k => ?_)
  refine R_if0 rfl (fun c_4 => ?_) (fun c_4 => ?_)
  · have k := k.2 c_4
    refine R_ps 3 (pc2 := 17) (L2 := [some (vr (some w)), some (vi x1), some (vi x2)]) (st2 := [vi 200, vi 1, vi x2]) rfl ?_
    refine R_cI (as := [vi x2, vi 1, vi 200]) rfl rfl ⟨Nat.le_of_ble_eq_true rfl, Nat.le_of_ble_eq_true rfl, rfl, (Or.inl rfl)⟩ rfl rfl k (fun x_7 h_6 k => ?_)
    refine R_if0 rfl (fun c_8 => ?_) (fun c_8 => ?_)
    · have k := k.2 c_8
      refine R_ps 1 (pc2 := 28) (L2 := [some (vr (some w)), some (vi x1), some (vi x2)]) (st2 := [vr (some w)]) rfl ?_
      refine R_getR rfl t0 ?_
      refine R_ps 1 (pc2 := 33) (L2 := [some (vr (some w)), some (vi x1), some (vi x2)]) (st2 := [vi 117, vr (gr h_6 w 1)]) rfl ?_
      obtain ⟨a_11, e_12, k⟩ := k
      rw [e_12]
      obtain ⟨t_13, k⟩ := k
      obtain ⟨t_14, k⟩ := k
      refine R_iald rfl (Or.inl t_13) t_14 ?_
      refine R_ps 1 (pc2 := 36) (L2 := [some (vr (some w)), some (vi x1), some (vi x2)]) (st2 := [vi 6, vi (gi h_6 a_11 117)]) rfl ?_
      refine R_if rfl (fun c_15 => ?_) (fun c_15 => ?_)
      · have k := k.2 c_15
        refine R_ps 1 (pc2 := 44) (L2 := [some (vr (some w)), some (vi x1), some (vi x2)]) (st2 := [vi 0]) rfl ?_
        exact R_iret rfl rfl ⟨_, rfl, k⟩
      · have k := k.1 (Classical.not_not.mp c_15)
        refine R_ps 2 (pc2 := 44) (L2 := [some (vr (some w)), some (vi x1), some (vi x2)]) (st2 := [vi 3]) rfl ?_
        exact R_iret rfl rfl ⟨_, rfl, k⟩
    · have k := k.1 (Classical.not_not.mp c_8)
      refine R_ps 2 (pc2 := 44) (L2 := [some (vr (some w)), some (vi x1), some (vi x2)]) (st2 := [vi 2]) rfl ?_
      exact R_iret rfl rfl ⟨_, rfl, k⟩
  · have k := k.1 (Classical.not_not.mp c_4)
    refine R_ps 2 (pc2 := 44) (L2 := [some (vr (some w)), some (vi x1), some (vi x2)]) (st2 := [vi 1]) rfl ?_
    exact R_iret rfl rfl ⟨_, rfl, k⟩
/-- DroneCorridorsModel.addsDrone -/
theorem m195 {T N : Nat → Nat} {h : PH} {w : Nat} {x1 : Int32} {x2 : Int32} {K : Int32 → PH → Prop} (t0 : T w = 12) (k : (CI T N 194 [vr (some w), vi x1, vi x2] h (fun x_3 h_2 => (∀ h_5, h_5 = si h_2 w 0 x_3 → ((0 < (gi h_5 w 0) → (K 0 h_5)) ∧ (¬ (0 < (gi h_5 w 0)) → (∃ a_11, (gr h_5 w 1) = some a_11 ∧ T a_11 = 22 ∧ inb 117 (N a_11) ∧ WI T N 195 30 [some (vr (some w)), some (vi x1), some (vi x2), some (vi (gi h_5 a_11 117)), some (vi 0)] [] h_5 K))))))) : CI T N 195 [vr (some w), vi x1, vi x2] h K := by
  show WP T N 195 0 [some (vr (some w)), some (vi x1), some (vi x2), none, none] [] h _
  refine R_ps 4 (pc2 := 4) (L2 := [some (vr (some w)), some (vi x1), some (vi x2), none, none]) (st2 := [vi x2, vi x1, vr (some w), vr (some w)]) rfl ?_
  refine R_cI (as := [vr (some w), vi x1, vi x2]) rfl rfl ⟨Nat.le_of_ble_eq_true rfl, Nat.le_of_ble_eq_true rfl, rfl, (Or.inr ⟨_, rfl, t0⟩)⟩ rfl rfl k (fun x_3 h_2 k => ?_)
  refine R_putI rfl t0 ?_
  show WP T N _ _ _ _ (si h_2 w 0 x_3) _
  generalize e_6 : si h_2 w 0 x_3 = h_5
  replace k := k h_5 e_6.symm
  refine R_ps 1 (pc2 := 11) (L2 := [some (vr (some w)), some (vi x1), some (vi x2), none, none]) (st2 := [vr (some w)]) rfl ?_
  refine R_getI rfl t0 ?_
  refine R_if0 rfl (fun c_8 => ?_) (fun c_8 => ?_)
  · have k := k.2 (i32_nlt c_8)
    refine R_ps 1 (pc2 := 20) (L2 := [some (vr (some w)), some (vi x1), some (vi x2), none, none]) (st2 := [vr (some w)]) rfl ?_
    refine R_getR rfl t0 ?_
    refine R_ps 1 (pc2 := 25) (L2 := [some (vr (some w)), some (vi x1), some (vi x2), none, none]) (st2 := [vi 117, vr (gr h_5 w 1)]) rfl ?_
    obtain ⟨a_11, e_12, k⟩ := k
    rw [e_12]
    obtain ⟨t_13, k⟩ := k
    obtain ⟨t_14, k⟩ := k
    refine R_iald rfl (Or.inl t_13) t_14 ?_
    refine R_ps 3 (pc2 := 30) (L2 := [some (vr (some w)), some (vi x1), some (vi x2), some (vi (gi h_5 a_11 117)), some (vi 0)]) (st2 := []) rfl ?_
    exact k
  · have k := k.1 (i32_lt c_8)
    refine R_ps 1 (pc2 := 18) (L2 := [some (vr (some w)), some (vi x1), some (vi x2), none, none]) (st2 := [vi 0]) rfl ?_
    exact R_iret rfl rfl ⟨_, rfl, k⟩
theorem m195_30 {T N : Nat → Nat} {h : PH} {w : Nat} {x1 : Int32} {x2 : Int32} {x3 : Int32} {x4 : Int32} {K : Int32 → PH → Prop} (t0 : T w = 12) (k : (((x4 < 55 → (CV T N 169 [vr (some w), vi x3, vi x4, vi 0] h (fun h_60 => (WI T N 195 30 [some (vr (some w)), some (vi x1), some (vi x2), some (vi x3), some (vi (x4 + 1))] [] h_60 K)))) ∧ (¬ (x4 < 55) → (∃ a_4, (gr h w 1) = some a_4 ∧ T a_4 = 22 ∧ inb (1 + x1) (N a_4) ∧ (((gi h a_4 (Int32.toNatClampNeg (1 + x1))) = 1 → (CV T N 169 [vr (some w), vi x3, vi 0, vi 0] h (fun h_35 => (CV T N 169 [vr (some w), vi x3, vi 1, vi x2] h_35 (fun h_38 => (CV T N 169 [vr (some w), vi x3, vi 6, vi x2] h_38 (fun h_41 => (CV T N 169 [vr (some w), vi x3, vi 3, vi x1] h_41 (fun h_44 => (CV T N 169 [vr (some w), vi x3, vi 4, vi (-1)] h_44 (fun h_47 => (∃ a_51, (gr h_47 w 1) = some a_51 ∧ T a_51 = 22 ∧ inb 117 (N a_51) ∧ ∀ h_56, h_56 = si h_47 a_51 117 ((gi h_47 a_51 117) + 1) → K x3 h_56)))))))))))) ∧ (¬ ((gi h a_4 (Int32.toNatClampNeg (1 + x1))) = 1) → (CV T N 169 [vr (some w), vi x3, vi 0, vi 1] h (fun h_10 => (CV T N 169 [vr (some w), vi x3, vi 1, vi x2] h_10 (fun h_13 => (CV T N 169 [vr (some w), vi x3, vi 6, vi x2] h_13 (fun h_16 => (CV T N 169 [vr (some w), vi x3, vi 3, vi x1] h_16 (fun h_19 => (CV T N 169 [vr (some w), vi x3, vi 4, vi (-1)] h_19 (fun h_22 => (∃ a_26, (gr h_22 w 1) = some a_26 ∧ T a_26 = 22 ∧ inb 117 (N a_26) ∧ ∀ h_31, h_31 = si h_22 a_26 117 ((gi h_22 a_26 117) + 1) → K x3 h_31)))))))))))))))))) : WI T N 195 30 [some (vr (some w)), some (vi x1), some (vi x2), some (vi x3), some (vi x4)] [] h K := by
  show WP T N 195 30 [some (vr (some w)), some (vi x1), some (vi x2), some (vi x3), some (vi x4)] [] h _
  refine R_ps 2 (pc2 := 34) (L2 := [some (vr (some w)), some (vi x1), some (vi x2), some (vi x3), some (vi x4)]) (st2 := [vi 55, vi x4]) rfl ?_
  refine R_if rfl (fun c_1 => ?_) (fun c_1 => ?_)
  · have k := k.2 (i32_nlt c_1)
    refine R_ps 4 (pc2 := 55) (L2 := [some (vr (some w)), some (vi x1), some (vi x2), some (vi x3), some (vi x4)]) (st2 := [vr (some w), vi 0, vi x3, vr (some w)]) rfl ?_
    refine R_getR rfl t0 ?_
    refine R_ps 3 (pc2 := 61) (L2 := [some (vr (some w)), some (vi x1), some (vi x2), some (vi x3), some (vi x4)]) (st2 := [vi (1 + x1), vr (gr h w 1), vi 0, vi x3, vr (some w)]) rfl ?_
    obtain ⟨a_4, e_5, k⟩ := k
    rw [e_5]
    obtain ⟨t_6, k⟩ := k
    obtain ⟨t_7, k⟩ := k
    refine R_iald rfl (Or.inl t_6) t_7 ?_
    refine R_ps 1 (pc2 := 63) (L2 := [some (vr (some w)), some (vi x1), some (vi x2), some (vi x3), some (vi x4)]) (st2 := [vi 1, vi (gi h a_4 (Int32.toNatClampNeg (1 + x1))), vi 0, vi x3, vr (some w)]) rfl ?_
    refine R_if rfl (fun c_8 => ?_) (fun c_8 => ?_)
    · have k := k.2 c_8
      refine R_ps 1 (pc2 := 71) (L2 := [some (vr (some w)), some (vi x1), some (vi x2), some (vi x3), some (vi x4)]) (st2 := [vi 1, vi 0, vi x3, vr (some w)]) rfl ?_
      refine R_cV (as := [vr (some w), vi x3, vi 0, vi 1]) rfl rfl ⟨Nat.le_of_ble_eq_true rfl, Nat.le_of_ble_eq_true rfl, rfl, (Or.inr ⟨_, rfl, t0⟩)⟩ rfl rfl k (fun h_10 k => ?_)
      refine R_ps 4 (pc2 := 78) (L2 := [some (vr (some w)), some (vi x1), some (vi x2), some (vi x3), some (vi x4)]) (st2 := [vi x2, vi 1, vi x3, vr (some w)]) rfl ?_
      refine R_cV (as := [vr (some w), vi x3, vi 1, vi x2]) rfl rfl ⟨Nat.le_of_ble_eq_true rfl, Nat.le_of_ble_eq_true rfl, rfl, (Or.inr ⟨_, rfl, t0⟩)⟩ rfl rfl k (fun h_13 k => ?_)
      refine R_ps 4 (pc2 := 86) (L2 := [some (vr (some w)), some (vi x1), some (vi x2), some (vi x3), some (vi x4)]) (st2 := [vi x2, vi 6, vi x3, vr (some w)]) rfl ?_
      refine R_cV (as := [vr (some w), vi x3, vi 6, vi x2]) rfl rfl ⟨Nat.le_of_ble_eq_true rfl, Nat.le_of_ble_eq_true rfl, rfl, (Or.inr ⟨_, rfl, t0⟩)⟩ rfl rfl k (fun h_16 k => ?_)
      refine R_ps 4 (pc2 := 93) (L2 := [some (vr (some w)), some (vi x1), some (vi x2), some (vi x3), some (vi x4)]) (st2 := [vi x1, vi 3, vi x3, vr (some w)]) rfl ?_
      refine R_cV (as := [vr (some w), vi x3, vi 3, vi x1]) rfl rfl ⟨Nat.le_of_ble_eq_true rfl, Nat.le_of_ble_eq_true rfl, rfl, (Or.inr ⟨_, rfl, t0⟩)⟩ rfl rfl k (fun h_19 k => ?_)
      refine R_ps 4 (pc2 := 100) (L2 := [some (vr (some w)), some (vi x1), some (vi x2), some (vi x3), some (vi x4)]) (st2 := [vi (-1), vi 4, vi x3, vr (some w)]) rfl ?_
      refine R_cV (as := [vr (some w), vi x3, vi 4, vi (-1)]) rfl rfl ⟨Nat.le_of_ble_eq_true rfl, Nat.le_of_ble_eq_true rfl, rfl, (Or.inr ⟨_, rfl, t0⟩)⟩ rfl rfl k (fun h_22 k => ?_)
      refine R_ps 1 (pc2 := 104) (L2 := [some (vr (some w)), some (vi x1), some (vi x2), some (vi x3), some (vi x4)]) (st2 := [vr (some w)]) rfl ?_
      refine R_getR rfl t0 ?_
      refine R_ps 2 (pc2 := 110) (L2 := [some (vr (some w)), some (vi x1), some (vi x2), some (vi x3), some (vi x4)]) (st2 := [vi 117, vr (gr h_22 w 1), vi 117, vr (gr h_22 w 1)]) rfl ?_
      obtain ⟨a_26, e_27, k⟩ := k
      rw [e_27]
      obtain ⟨t_28, k⟩ := k
      obtain ⟨t_29, k⟩ := k
      refine R_iald rfl (Or.inl t_28) t_29 ?_
      refine R_ps 2 (pc2 := 113) (L2 := [some (vr (some w)), some (vi x1), some (vi x2), some (vi x3), some (vi x4)]) (st2 := [vi ((gi h_22 a_26 117) + 1), vi 117, vr (some a_26)]) rfl ?_
      refine R_iast rfl t_28 t_29  ?_
      show WP T N _ _ _ _ (si h_22 a_26 117 ((gi h_22 a_26 117) + 1)) _
      generalize e_32 : si h_22 a_26 117 ((gi h_22 a_26 117) + 1) = h_31
      replace k := k h_31 e_32.symm
      refine R_ps 1 (pc2 := 115) (L2 := [some (vr (some w)), some (vi x1), some (vi x2), some (vi x3), some (vi x4)]) (st2 := [vi x3]) rfl ?_
      exact R_iret rfl rfl ⟨_, rfl, k⟩
    · have k := k.1 (Classical.not_not.mp c_8)
      refine R_ps 2 (pc2 := 71) (L2 := [some (vr (some w)), some (vi x1), some (vi x2), some (vi x3), some (vi x4)]) (st2 := [vi 0, vi 0, vi x3, vr (some w)]) rfl ?_
      refine R_cV (as := [vr (some w), vi x3, vi 0, vi 0]) rfl rfl ⟨Nat.le_of_ble_eq_true rfl, Nat.le_of_ble_eq_true rfl, rfl, (Or.inr ⟨_, rfl, t0⟩)⟩ rfl rfl k (fun h_35 k => ?_)
      refine R_ps 4 (pc2 := 78) (L2 := [some (vr (some w)), some (vi x1), some (vi x2), some (vi x3), some (vi x4)]) (st2 := [vi x2, vi 1, vi x3, vr (some w)]) rfl ?_
      refine R_cV (as := [vr (some w), vi x3, vi 1, vi x2]) rfl rfl ⟨Nat.le_of_ble_eq_true rfl, Nat.le_of_ble_eq_true rfl, rfl, (Or.inr ⟨_, rfl, t0⟩)⟩ rfl rfl k (fun h_38 k => ?_)
      refine R_ps 4 (pc2 := 86) (L2 := [some (vr (some w)), some (vi x1), some (vi x2), some (vi x3), some (vi x4)]) (st2 := [vi x2, vi 6, vi x3, vr (some w)]) rfl ?_
      refine R_cV (as := [vr (some w), vi x3, vi 6, vi x2]) rfl rfl ⟨Nat.le_of_ble_eq_true rfl, Nat.le_of_ble_eq_true rfl, rfl, (Or.inr ⟨_, rfl, t0⟩)⟩ rfl rfl k (fun h_41 k => ?_)
      refine R_ps 4 (pc2 := 93) (L2 := [some (vr (some w)), some (vi x1), some (vi x2), some (vi x3), some (vi x4)]) (st2 := [vi x1, vi 3, vi x3, vr (some w)]) rfl ?_
      refine R_cV (as := [vr (some w), vi x3, vi 3, vi x1]) rfl rfl ⟨Nat.le_of_ble_eq_true rfl, Nat.le_of_ble_eq_true rfl, rfl, (Or.inr ⟨_, rfl, t0⟩)⟩ rfl rfl k (fun h_44 k => ?_)
      refine R_ps 4 (pc2 := 100) (L2 := [some (vr (some w)), some (vi x1), some (vi x2), some (vi x3), some (vi x4)]) (st2 := [vi (-1), vi 4, vi x3, vr (some w)]) rfl ?_
      refine R_cV (as := [vr (some w), vi x3, vi 4, vi (-1)]) rfl rfl ⟨Nat.le_of_ble_eq_true rfl, Nat.le_of_ble_eq_true rfl, rfl, (Or.inr ⟨_, rfl, t0⟩)⟩ rfl rfl k (fun h_47 k => ?_)
      refine R_ps 1 (pc2 := 104) (L2 := [some (vr (some w)), some (vi x1), some (vi x2), some (vi x3), some (vi x4)]) (st2 := [vr (some w)]) rfl ?_
      refine R_getR rfl t0 ?_
      refine R_ps 2 (pc2 := 110) (L2 := [some (vr (some w)), some (vi x1), some (vi x2), some (vi x3), some (vi x4)]) (st2 := [vi 117, vr (gr h_47 w 1), vi 117, vr (gr h_47 w 1)]) rfl ?_
      obtain ⟨a_51, e_52, k⟩ := k
      rw [e_52]
      obtain ⟨t_53, k⟩ := k
      obtain ⟨t_54, k⟩ := k
      refine R_iald rfl (Or.inl t_53) t_54 ?_
      refine R_ps 2 (pc2 := 113) (L2 := [some (vr (some w)), some (vi x1), some (vi x2), some (vi x3), some (vi x4)]) (st2 := [vi ((gi h_47 a_51 117) + 1), vi 117, vr (some a_51)]) rfl ?_
      refine R_iast rfl t_53 t_54  ?_
      show WP T N _ _ _ _ (si h_47 a_51 117 ((gi h_47 a_51 117) + 1)) _
      generalize e_57 : si h_47 a_51 117 ((gi h_47 a_51 117) + 1) = h_56
      replace k := k h_56 e_57.symm
      refine R_ps 1 (pc2 := 115) (L2 := [some (vr (some w)), some (vi x1), some (vi x2), some (vi x3), some (vi x4)]) (st2 := [vi x3]) rfl ?_
      exact R_iret rfl rfl ⟨_, rfl, k⟩
  · have k := k.1 (i32_lt c_1)
    refine R_ps 4 (pc2 := 42) (L2 := [some (vr (some w)), some (vi x1), some (vi x2), some (vi x3), some (vi x4)]) (st2 := [vi 0, vi x4, vi x3, vr (some w)]) rfl ?_
    refine R_cV (as := [vr (some w), vi x3, vi x4, vi 0]) rfl rfl ⟨Nat.le_of_ble_eq_true rfl, Nat.le_of_ble_eq_true rfl, rfl, (Or.inr ⟨_, rfl, t0⟩)⟩ rfl rfl k (fun h_60 k => ?_)
    refine R_ps 2 (pc2 := 30) (L2 := [some (vr (some w)), some (vi x1), some (vi x2), some (vi x3), some (vi (x4 + 1))]) (st2 := []) rfl ?_
    exact k
/-- DroneCorridorsModel.addDrone -/
theorem m196 {T N : Nat → Nat} {h : PH} {w : Nat} {x1 : Int32} {x2 : Int32} {K : Int32 → PH → Prop} (t0 : T w = 12) (k : (CI T N 194 [vr (some w), vi x1, vi x2] h (fun x_3 h_2 => (∀ h_5, h_5 = si h_2 w 0 x_3 → ((0 < (gi h_5 w 0) → (K 0 h_5)) ∧ (¬ (0 < (gi h_5 w 0)) → (CV T N 160 [vr (some w)] h_5 (fun h_10 => (CI T N 195 [vr (some w), vi x1, vi x2] h_10 (fun x_14 h_13 => (K x_14 h_13))))))))))) : CI T N 196 [vr (some w), vi x1, vi x2] h K := by
  show WP T N 196 0 [some (vr (some w)), some (vi x1), some (vi x2)] [] h _
  refine R_ps 4 (pc2 := 4) (L2 := [some (vr (some w)), some (vi x1), some (vi x2)]) (st2 := [vi x2, vi x1, vr (some w), vr (some w)]) rfl ?_
  refine R_cI (as := [vr (some w), vi x1, vi x2]) rfl rfl ⟨Nat.le_of_ble_eq_true rfl, Nat.le_of_ble_eq_true rfl, rfl, (Or.inr ⟨_, rfl, t0⟩)⟩ rfl rfl k (fun x_3 h_2 k => ?_)
  refine R_putI rfl t0 ?_
  show WP T N _ _ _ _ (si h_2 w 0 x_3) _
  generalize e_6 : si h_2 w 0 x_3 = h_5
  replace k := k h_5 e_6.symm
  refine R_ps 1 (pc2 := 11) (L2 := [some (vr (some w)), some (vi x1), some (vi x2)]) (st2 := [vr (some w)]) rfl ?_
  refine R_getI rfl t0 ?_
  refine R_if0 rfl (fun c_8 => ?_) (fun c_8 => ?_)
  · have k := k.2 (i32_nlt c_8)
    refine R_ps 1 (pc2 := 20) (L2 := [some (vr (some w)), some (vi x1), some (vi x2)]) (st2 := [vr (some w)]) rfl ?_
    refine R_cV (as := [vr (some w)]) rfl rfl ⟨Nat.le_of_ble_eq_true rfl, Nat.le_of_ble_eq_true rfl, rfl, (Or.inr ⟨_, rfl, t0⟩)⟩ rfl rfl k (fun h_10 k => ?_)
    refine R_ps 3 (pc2 := 26) (L2 := [some (vr (some w)), some (vi x1), some (vi x2)]) (st2 := [vi x2, vi x1, vr (some w)]) rfl ?_
    refine R_cI (as := [vr (some w), vi x1, vi x2]) rfl rfl ⟨Nat.le_of_ble_eq_true rfl, Nat.le_of_ble_eq_true rfl, rfl, (Or.inr ⟨_, rfl, t0⟩)⟩ rfl rfl k (fun x_14 h_13 k => ?_)
    exact R_iret rfl rfl ⟨_, rfl, k⟩
  · have k := k.1 (i32_lt c_8)
    refine R_ps 1 (pc2 := 18) (L2 := [some (vr (some w)), some (vi x1), some (vi x2)]) (st2 := [vi 0]) rfl ?_
    exact R_iret rfl rfl ⟨_, rfl, k⟩
/-- DroneCorridorsModel.drone -/
theorem m197 {T N : Nat → Nat} {h : PH} {w : Nat} {x1 : Int32} {x2 : Int32} {K : Int32 → PH → Prop} (t0 : T w = 12) (k : (CI T N 164 [vr (some w), vi x1] h (fun x_3 h_2 => (((x_3 = 0 → (∀ h_74, h_74 = si h_2 w 0 1 → ((0 < (gi h_74 w 0) → (K 0 h_74)) ∧ (¬ (0 < (gi h_74 w 0)) → (((x2 < 6 → (CI T N 168 [vr (some w), vi x1, vi x2] h_74 (fun x_102 h_101 => (K x_102 h_101)))) ∧ (¬ (x2 < 6) → (CI T N 168 [vr (some w), vi x1, vi 5] h_74 (fun x_81 h_80 => (((x_81 = 0 → (∃ a_95, (gr h_80 w 1) = some a_95 ∧ T a_95 = 22 ∧ inb 448 (N a_95) ∧ K (gi h_80 a_95 448) h_80)) ∧ (¬ (x_81 = 0) → (CI T N 168 [vr (some w), vi x1, vi 5] h_80 (fun x_85 h_84 => (CI T N 186 [vr (some w), vi x1, vi (x_85 - 1)] h_84 (fun x_88 h_87 => (CI T N 191 [vr (some w), vi x_88] h_87 (fun x_91 h_90 => (K x_91 h_90))))))))))))))))))) ∧ (¬ (x_3 = 0) → (CI T N 158 [vi x2, vi 0, vi 6] h_2 (fun x_7 h_6 => (((x_7 = 0 → (∀ h_42, h_42 = si h_6 w 0 2 → ((0 < (gi h_42 w 0) → (K 0 h_42)) ∧ (¬ (0 < (gi h_42 w 0)) → (((x2 < 6 → (CI T N 168 [vr (some w), vi x1, vi x2] h_42 (fun x_70 h_69 => (K x_70 h_69)))) ∧ (¬ (x2 < 6) → (CI T N 168 [vr (some w), vi x1, vi 5] h_42 (fun x_49 h_48 => (((x_49 = 0 → (∃ a_63, (gr h_48 w 1) = some a_63 ∧ T a_63 = 22 ∧ inb 448 (N a_63) ∧ K (gi h_48 a_63 448) h_48)) ∧ (¬ (x_49 = 0) → (CI T N 168 [vr (some w), vi x1, vi 5] h_48 (fun x_53 h_52 => (CI T N 186 [vr (some w), vi x1, vi (x_53 - 1)] h_52 (fun x_56 h_55 => (CI T N 191 [vr (some w), vi x_56] h_55 (fun x_59 h_58 => (K x_59 h_58))))))))))))))))))) ∧ (¬ (x_7 = 0) → (∀ h_10, h_10 = si h_6 w 0 0 → ((0 < (gi h_10 w 0) → (K 0 h_10)) ∧ (¬ (0 < (gi h_10 w 0)) → (((x2 < 6 → (CI T N 168 [vr (some w), vi x1, vi x2] h_10 (fun x_38 h_37 => (K x_38 h_37)))) ∧ (¬ (x2 < 6) → (CI T N 168 [vr (some w), vi x1, vi 5] h_10 (fun x_17 h_16 => (((x_17 = 0 → (∃ a_31, (gr h_16 w 1) = some a_31 ∧ T a_31 = 22 ∧ inb 448 (N a_31) ∧ K (gi h_16 a_31 448) h_16)) ∧ (¬ (x_17 = 0) → (CI T N 168 [vr (some w), vi x1, vi 5] h_16 (fun x_21 h_20 => (CI T N 186 [vr (some w), vi x1, vi (x_21 - 1)] h_20 (fun x_24 h_23 => (CI T N 191 [vr (some w), vi x_24] h_23 (fun x_27 h_26 => (K x_27 h_26))))))))))))))))))))))))))))) : CI T N 197 [vr (some w), vi x1, vi x2] h K := by
  show WP T N 197 0 [some (vr (some w)), some (vi x1), some (vi x2)] [] h _
  refine R_ps 3 (pc2 := 3) (L2 := [some (vr (some w)), some (vi x1), some (vi x2)]) (st2 := [vi x1, vr (some w), vr (some w)]) rfl ?_
  refine R_cI (as := [vr (some w), vi x1]) rfl rfl ⟨Nat.le_of_ble_eq_true rfl, Nat.le_of_ble_eq_true rfl, rfl, (Or.inr ⟨_, rfl, t0⟩)⟩ rfl rfl k (fun x_3 h_2 k => ?_)
  refine R_if0 rfl (fun c_4 => ?_) (fun c_4 => ?_)
  · have k := k.2 c_4
    refine R_ps 3 (pc2 := 17) (L2 := [some (vr (some w)), some (vi x1), some (vi x2)]) (st2 := [vi 6, vi 0, vi x2, vr (some w)]) rfl ?_
    refine R_cI (as := [vi x2, vi 0, vi 6]) rfl rfl ⟨Nat.le_of_ble_eq_true rfl, Nat.le_of_ble_eq_true rfl, rfl, (Or.inl rfl)⟩ rfl rfl k (fun x_7 h_6 k => ?_)
    refine R_if0 rfl (fun c_8 => ?_) (fun c_8 => ?_)
    · have k := k.2 c_8
      refine R_ps 1 (pc2 := 28) (L2 := [some (vr (some w)), some (vi x1), some (vi x2)]) (st2 := [vi 0, vr (some w)]) rfl ?_
      refine R_putI rfl t0 ?_
      show WP T N _ _ _ _ (si h_6 w 0 0) _
      generalize e_11 : si h_6 w 0 0 = h_10
      replace k := k h_10 e_11.symm
      refine R_ps 1 (pc2 := 32) (L2 := [some (vr (some w)), some (vi x1), some (vi x2)]) (st2 := [vr (some w)]) rfl ?_
      refine R_getI rfl t0 ?_
      refine R_if0 rfl (fun c_13 => ?_) (fun c_13 => ?_)
      · have k := k.2 (i32_nlt c_13)
        refine R_ps 2 (pc2 := 43) (L2 := [some (vr (some w)), some (vi x1), some (vi x2)]) (st2 := [vi 6, vi x2]) rfl ?_
        refine R_if rfl (fun c_14 => ?_) (fun c_14 => ?_)
        · have k := k.2 (i32_nlt c_14)
          refine R_ps 3 (pc2 := 56) (L2 := [some (vr (some w)), some (vi x1), some (vi x2)]) (st2 := [vi 5, vi x1, vr (some w)]) rfl ?_
          refine R_cI (as := [vr (some w), vi x1, vi 5]) rfl rfl ⟨Nat.le_of_ble_eq_true rfl, Nat.le_of_ble_eq_true rfl, rfl, (Or.inr ⟨_, rfl, t0⟩)⟩ rfl rfl k (fun x_17 h_16 k => ?_)
          refine R_if0 rfl (fun c_18 => ?_) (fun c_18 => ?_)
          · have k := k.2 c_18
            refine R_ps 6 (pc2 := 79) (L2 := [some (vr (some w)), some (vi x1), some (vi x2)]) (st2 := [vi 5, vi x1, vr (some w), vi x1, vr (some w), vr (some w)]) rfl ?_
            refine R_cI (as := [vr (some w), vi x1, vi 5]) rfl rfl ⟨Nat.le_of_ble_eq_true rfl, Nat.le_of_ble_eq_true rfl, rfl, (Or.inr ⟨_, rfl, t0⟩)⟩ rfl rfl k (fun x_21 h_20 k => ?_)
            refine R_ps 2 (pc2 := 84) (L2 := [some (vr (some w)), some (vi x1), some (vi x2)]) (st2 := [vi (x_21 - 1), vi x1, vr (some w), vr (some w)]) rfl ?_
            refine R_cI (as := [vr (some w), vi x1, vi (x_21 - 1)]) rfl rfl ⟨Nat.le_of_ble_eq_true rfl, Nat.le_of_ble_eq_true rfl, rfl, (Or.inr ⟨_, rfl, t0⟩)⟩ rfl rfl k (fun x_24 h_23 k => ?_)
            refine R_cI (as := [vr (some w), vi x_24]) rfl rfl ⟨Nat.le_of_ble_eq_true rfl, Nat.le_of_ble_eq_true rfl, rfl, (Or.inr ⟨_, rfl, t0⟩)⟩ rfl rfl k (fun x_27 h_26 k => ?_)
            exact R_iret rfl rfl ⟨_, rfl, k⟩
          · have k := k.1 (Classical.not_not.mp c_18)
            refine R_ps 1 (pc2 := 63) (L2 := [some (vr (some w)), some (vi x1), some (vi x2)]) (st2 := [vr (some w)]) rfl ?_
            refine R_getR rfl t0 ?_
            refine R_ps 1 (pc2 := 69) (L2 := [some (vr (some w)), some (vi x1), some (vi x2)]) (st2 := [vi 448, vr (gr h_16 w 1)]) rfl ?_
            obtain ⟨a_31, e_32, k⟩ := k
            rw [e_32]
            obtain ⟨t_33, k⟩ := k
            obtain ⟨t_34, k⟩ := k
            refine R_iald rfl (Or.inl t_33) t_34 ?_
            refine R_ps 1 (pc2 := 90) (L2 := [some (vr (some w)), some (vi x1), some (vi x2)]) (st2 := [vi (gi h_16 a_31 448)]) rfl ?_
            exact R_iret rfl rfl ⟨_, rfl, k⟩
        · have k := k.1 (i32_lt c_14)
          refine R_ps 3 (pc2 := 49) (L2 := [some (vr (some w)), some (vi x1), some (vi x2)]) (st2 := [vi x2, vi x1, vr (some w)]) rfl ?_
          refine R_cI (as := [vr (some w), vi x1, vi x2]) rfl rfl ⟨Nat.le_of_ble_eq_true rfl, Nat.le_of_ble_eq_true rfl, rfl, (Or.inr ⟨_, rfl, t0⟩)⟩ rfl rfl k (fun x_38 h_37 k => ?_)
          exact R_iret rfl rfl ⟨_, rfl, k⟩
      · have k := k.1 (i32_lt c_13)
        refine R_ps 1 (pc2 := 39) (L2 := [some (vr (some w)), some (vi x1), some (vi x2)]) (st2 := [vi 0]) rfl ?_
        exact R_iret rfl rfl ⟨_, rfl, k⟩
    · have k := k.1 (Classical.not_not.mp c_8)
      refine R_ps 2 (pc2 := 28) (L2 := [some (vr (some w)), some (vi x1), some (vi x2)]) (st2 := [vi 2, vr (some w)]) rfl ?_
      refine R_putI rfl t0 ?_
      show WP T N _ _ _ _ (si h_6 w 0 2) _
      generalize e_43 : si h_6 w 0 2 = h_42
      replace k := k h_42 e_43.symm
      refine R_ps 1 (pc2 := 32) (L2 := [some (vr (some w)), some (vi x1), some (vi x2)]) (st2 := [vr (some w)]) rfl ?_
      refine R_getI rfl t0 ?_
      refine R_if0 rfl (fun c_45 => ?_) (fun c_45 => ?_)
      · have k := k.2 (i32_nlt c_45)
        refine R_ps 2 (pc2 := 43) (L2 := [some (vr (some w)), some (vi x1), some (vi x2)]) (st2 := [vi 6, vi x2]) rfl ?_
        refine R_if rfl (fun c_46 => ?_) (fun c_46 => ?_)
        · have k := k.2 (i32_nlt c_46)
          refine R_ps 3 (pc2 := 56) (L2 := [some (vr (some w)), some (vi x1), some (vi x2)]) (st2 := [vi 5, vi x1, vr (some w)]) rfl ?_
          refine R_cI (as := [vr (some w), vi x1, vi 5]) rfl rfl ⟨Nat.le_of_ble_eq_true rfl, Nat.le_of_ble_eq_true rfl, rfl, (Or.inr ⟨_, rfl, t0⟩)⟩ rfl rfl k (fun x_49 h_48 k => ?_)
          refine R_if0 rfl (fun c_50 => ?_) (fun c_50 => ?_)
          · have k := k.2 c_50
            refine R_ps 6 (pc2 := 79) (L2 := [some (vr (some w)), some (vi x1), some (vi x2)]) (st2 := [vi 5, vi x1, vr (some w), vi x1, vr (some w), vr (some w)]) rfl ?_
            refine R_cI (as := [vr (some w), vi x1, vi 5]) rfl rfl ⟨Nat.le_of_ble_eq_true rfl, Nat.le_of_ble_eq_true rfl, rfl, (Or.inr ⟨_, rfl, t0⟩)⟩ rfl rfl k (fun x_53 h_52 k => ?_)
            refine R_ps 2 (pc2 := 84) (L2 := [some (vr (some w)), some (vi x1), some (vi x2)]) (st2 := [vi (x_53 - 1), vi x1, vr (some w), vr (some w)]) rfl ?_
            refine R_cI (as := [vr (some w), vi x1, vi (x_53 - 1)]) rfl rfl ⟨Nat.le_of_ble_eq_true rfl, Nat.le_of_ble_eq_true rfl, rfl, (Or.inr ⟨_, rfl, t0⟩)⟩ rfl rfl k (fun x_56 h_55 k => ?_)
            refine R_cI (as := [vr (some w), vi x_56]) rfl rfl ⟨Nat.le_of_ble_eq_true rfl, Nat.le_of_ble_eq_true rfl, rfl, (Or.inr ⟨_, rfl, t0⟩)⟩ rfl rfl k (fun x_59 h_58 k => ?_)
            exact R_iret rfl rfl ⟨_, rfl, k⟩
          · have k := k.1 (Classical.not_not.mp c_50)
            refine R_ps 1 (pc2 := 63) (L2 := [some (vr (some w)), some (vi x1), some (vi x2)]) (st2 := [vr (some w)]) rfl ?_
            refine R_getR rfl t0 ?_
            refine R_ps 1 (pc2 := 69) (L2 := [some (vr (some w)), some (vi x1), some (vi x2)]) (st2 := [vi 448, vr (gr h_48 w 1)]) rfl ?_
            obtain ⟨a_63, e_64, k⟩ := k
            rw [e_64]
            obtain ⟨t_65, k⟩ := k
            obtain ⟨t_66, k⟩ := k
            refine R_iald rfl (Or.inl t_65) t_66 ?_
            refine R_ps 1 (pc2 := 90) (L2 := [some (vr (some w)), some (vi x1), some (vi x2)]) (st2 := [vi (gi h_48 a_63 448)]) rfl ?_
            exact R_iret rfl rfl ⟨_, rfl, k⟩
        · have k := k.1 (i32_lt c_46)
          refine R_ps 3 (pc2 := 49) (L2 := [some (vr (some w)), some (vi x1), some (vi x2)]) (st2 := [vi x2, vi x1, vr (some w)]) rfl ?_
          refine R_cI (as := [vr (some w), vi x1, vi x2]) rfl rfl ⟨Nat.le_of_ble_eq_true rfl, Nat.le_of_ble_eq_true rfl, rfl, (Or.inr ⟨_, rfl, t0⟩)⟩ rfl rfl k (fun x_70 h_69 k => ?_)
          exact R_iret rfl rfl ⟨_, rfl, k⟩
      · have k := k.1 (i32_lt c_45)
        refine R_ps 1 (pc2 := 39) (L2 := [some (vr (some w)), some (vi x1), some (vi x2)]) (st2 := [vi 0]) rfl ?_
        exact R_iret rfl rfl ⟨_, rfl, k⟩
  · have k := k.1 (Classical.not_not.mp c_4)
    refine R_ps 2 (pc2 := 28) (L2 := [some (vr (some w)), some (vi x1), some (vi x2)]) (st2 := [vi 1, vr (some w)]) rfl ?_
    refine R_putI rfl t0 ?_
    show WP T N _ _ _ _ (si h_2 w 0 1) _
    generalize e_75 : si h_2 w 0 1 = h_74
    replace k := k h_74 e_75.symm
    refine R_ps 1 (pc2 := 32) (L2 := [some (vr (some w)), some (vi x1), some (vi x2)]) (st2 := [vr (some w)]) rfl ?_
    refine R_getI rfl t0 ?_
    refine R_if0 rfl (fun c_77 => ?_) (fun c_77 => ?_)
    · have k := k.2 (i32_nlt c_77)
      refine R_ps 2 (pc2 := 43) (L2 := [some (vr (some w)), some (vi x1), some (vi x2)]) (st2 := [vi 6, vi x2]) rfl ?_
      refine R_if rfl (fun c_78 => ?_) (fun c_78 => ?_)
      · have k := k.2 (i32_nlt c_78)
        refine R_ps 3 (pc2 := 56) (L2 := [some (vr (some w)), some (vi x1), some (vi x2)]) (st2 := [vi 5, vi x1, vr (some w)]) rfl ?_
        refine R_cI (as := [vr (some w), vi x1, vi 5]) rfl rfl ⟨Nat.le_of_ble_eq_true rfl, Nat.le_of_ble_eq_true rfl, rfl, (Or.inr ⟨_, rfl, t0⟩)⟩ rfl rfl k (fun x_81 h_80 k => ?_)
        refine R_if0 rfl (fun c_82 => ?_) (fun c_82 => ?_)
        · have k := k.2 c_82
          refine R_ps 6 (pc2 := 79) (L2 := [some (vr (some w)), some (vi x1), some (vi x2)]) (st2 := [vi 5, vi x1, vr (some w), vi x1, vr (some w), vr (some w)]) rfl ?_
          refine R_cI (as := [vr (some w), vi x1, vi 5]) rfl rfl ⟨Nat.le_of_ble_eq_true rfl, Nat.le_of_ble_eq_true rfl, rfl, (Or.inr ⟨_, rfl, t0⟩)⟩ rfl rfl k (fun x_85 h_84 k => ?_)
          refine R_ps 2 (pc2 := 84) (L2 := [some (vr (some w)), some (vi x1), some (vi x2)]) (st2 := [vi (x_85 - 1), vi x1, vr (some w), vr (some w)]) rfl ?_
          refine R_cI (as := [vr (some w), vi x1, vi (x_85 - 1)]) rfl rfl ⟨Nat.le_of_ble_eq_true rfl, Nat.le_of_ble_eq_true rfl, rfl, (Or.inr ⟨_, rfl, t0⟩)⟩ rfl rfl k (fun x_88 h_87 k => ?_)
          refine R_cI (as := [vr (some w), vi x_88]) rfl rfl ⟨Nat.le_of_ble_eq_true rfl, Nat.le_of_ble_eq_true rfl, rfl, (Or.inr ⟨_, rfl, t0⟩)⟩ rfl rfl k (fun x_91 h_90 k => ?_)
          exact R_iret rfl rfl ⟨_, rfl, k⟩
        · have k := k.1 (Classical.not_not.mp c_82)
          refine R_ps 1 (pc2 := 63) (L2 := [some (vr (some w)), some (vi x1), some (vi x2)]) (st2 := [vr (some w)]) rfl ?_
          refine R_getR rfl t0 ?_
          refine R_ps 1 (pc2 := 69) (L2 := [some (vr (some w)), some (vi x1), some (vi x2)]) (st2 := [vi 448, vr (gr h_80 w 1)]) rfl ?_
          obtain ⟨a_95, e_96, k⟩ := k
          rw [e_96]
          obtain ⟨t_97, k⟩ := k
          obtain ⟨t_98, k⟩ := k
          refine R_iald rfl (Or.inl t_97) t_98 ?_
          refine R_ps 1 (pc2 := 90) (L2 := [some (vr (some w)), some (vi x1), some (vi x2)]) (st2 := [vi (gi h_80 a_95 448)]) rfl ?_
          exact R_iret rfl rfl ⟨_, rfl, k⟩
      · have k := k.1 (i32_lt c_78)
        refine R_ps 3 (pc2 := 49) (L2 := [some (vr (some w)), some (vi x1), some (vi x2)]) (st2 := [vi x2, vi x1, vr (some w)]) rfl ?_
        refine R_cI (as := [vr (some w), vi x1, vi x2]) rfl rfl ⟨Nat.le_of_ble_eq_true rfl, Nat.le_of_ble_eq_true rfl, rfl, (Or.inr ⟨_, rfl, t0⟩)⟩ rfl rfl k (fun x_102 h_101 k => ?_)
        exact R_iret rfl rfl ⟨_, rfl, k⟩
    · have k := k.1 (i32_lt c_77)
      refine R_ps 1 (pc2 := 39) (L2 := [some (vr (some w)), some (vi x1), some (vi x2)]) (st2 := [vi 0]) rfl ?_
      exact R_iret rfl rfl ⟨_, rfl, k⟩
/-- DroneCorridorsModel.leg -/
theorem m198 {T N : Nat → Nat} {h : PH} {w : Nat} {x1 : Int32} {x2 : Int32} {x3 : Int32} {K : Int32 → PH → Prop} (t0 : T w = 12) (k : (CI T N 164 [vr (some w), vi x1] h (fun x_3 h_2 => (((x_3 = 0 → (∀ h_6, h_6 = si h_2 w 0 1 → ((0 < (gi h_6 w 0) → (K 0 h_6)) ∧ (¬ (0 < (gi h_6 w 0)) → (CI T N 186 [vr (some w), vi x1, vi x2] h_6 (fun x_12 h_11 => (((x3 = 0 → (CI T N 187 [vi x_12] h_11 (fun x_35 h_34 => (K x_35 h_34)))) ∧ (¬ (x3 = 0) → (((x3 = 1 → (CI T N 188 [vi x_12] h_11 (fun x_31 h_30 => (K x_31 h_30)))) ∧ (¬ (x3 = 1) → (((x3 = 2 → (CI T N 189 [vi x_12] h_11 (fun x_27 h_26 => (K x_27 h_26)))) ∧ (¬ (x3 = 2) → (((x3 = 3 → (CI T N 190 [vi x_12] h_11 (fun x_23 h_22 => (K x_23 h_22)))) ∧ (¬ (x3 = 3) → (CI T N 191 [vr (some w), vi x_12] h_11 (fun x_19 h_18 => (K x_19 h_18))))))))))))))))))))) ∧ (¬ (x_3 = 0) → (CI T N 168 [vr (some w), vi x1, vi 5] h_2 (fun x_40 h_39 => (CI T N 158 [vi x2, vi 0, vi (x_40 - 1)] h_39 (fun x_43 h_42 => (((x_43 = 0 → (∀ h_116, h_116 = si h_42 w 0 1 → ((0 < (gi h_116 w 0) → (K 0 h_116)) ∧ (¬ (0 < (gi h_116 w 0)) → (CI T N 186 [vr (some w), vi x1, vi x2] h_116 (fun x_122 h_121 => (((x3 = 0 → (CI T N 187 [vi x_122] h_121 (fun x_145 h_144 => (K x_145 h_144)))) ∧ (¬ (x3 = 0) → (((x3 = 1 → (CI T N 188 [vi x_122] h_121 (fun x_141 h_140 => (K x_141 h_140)))) ∧ (¬ (x3 = 1) → (((x3 = 2 → (CI T N 189 [vi x_122] h_121 (fun x_137 h_136 => (K x_137 h_136)))) ∧ (¬ (x3 = 2) → (((x3 = 3 → (CI T N 190 [vi x_122] h_121 (fun x_133 h_132 => (K x_133 h_132)))) ∧ (¬ (x3 = 3) → (CI T N 191 [vr (some w), vi x_122] h_121 (fun x_129 h_128 => (K x_129 h_128))))))))))))))))))))) ∧ (¬ (x_43 = 0) → (CI T N 158 [vi x3, vi 0, vi 4] h_42 (fun x_47 h_46 => (((x_47 = 0 → (∀ h_83, h_83 = si h_46 w 0 2 → ((0 < (gi h_83 w 0) → (K 0 h_83)) ∧ (¬ (0 < (gi h_83 w 0)) → (CI T N 186 [vr (some w), vi x1, vi x2] h_83 (fun x_89 h_88 => (((x3 = 0 → (CI T N 187 [vi x_89] h_88 (fun x_112 h_111 => (K x_112 h_111)))) ∧ (¬ (x3 = 0) → (((x3 = 1 → (CI T N 188 [vi x_89] h_88 (fun x_108 h_107 => (K x_108 h_107)))) ∧ (¬ (x3 = 1) → (((x3 = 2 → (CI T N 189 [vi x_89] h_88 (fun x_104 h_103 => (K x_104 h_103)))) ∧ (¬ (x3 = 2) → (((x3 = 3 → (CI T N 190 [vi x_89] h_88 (fun x_100 h_99 => (K x_100 h_99)))) ∧ (¬ (x3 = 3) → (CI T N 191 [vr (some w), vi x_89] h_88 (fun x_96 h_95 => (K x_96 h_95))))))))))))))))))))) ∧ (¬ (x_47 = 0) → (∀ h_50, h_50 = si h_46 w 0 0 → ((0 < (gi h_50 w 0) → (K 0 h_50)) ∧ (¬ (0 < (gi h_50 w 0)) → (CI T N 186 [vr (some w), vi x1, vi x2] h_50 (fun x_56 h_55 => (((x3 = 0 → (CI T N 187 [vi x_56] h_55 (fun x_79 h_78 => (K x_79 h_78)))) ∧ (¬ (x3 = 0) → (((x3 = 1 → (CI T N 188 [vi x_56] h_55 (fun x_75 h_74 => (K x_75 h_74)))) ∧ (¬ (x3 = 1) → (((x3 = 2 → (CI T N 189 [vi x_56] h_55 (fun x_71 h_70 => (K x_71 h_70)))) ∧ (¬ (x3 = 2) → (((x3 = 3 → (CI T N 190 [vi x_56] h_55 (fun x_67 h_66 => (K x_67 h_66)))) ∧ (¬ (x3 = 3) → (CI T N 191 [vr (some w), vi x_56] h_55 (fun x_63 h_62 => (K x_63 h_62)))))))))))))))))))))))))))))))))))))) : CI T N 198 [vr (some w), vi x1, vi x2, vi x3] h K := by
  show WP T N 198 0 [some (vr (some w)), some (vi x1), some (vi x2), some (vi x3), none] [] h _
  refine R_ps 3 (pc2 := 3) (L2 := [some (vr (some w)), some (vi x1), some (vi x2), some (vi x3), none]) (st2 := [vi x1, vr (some w), vr (some w)]) rfl ?_
  refine R_cI (as := [vr (some w), vi x1]) rfl rfl ⟨Nat.le_of_ble_eq_true rfl, Nat.le_of_ble_eq_true rfl, rfl, (Or.inr ⟨_, rfl, t0⟩)⟩ rfl rfl k (fun x_3 h_2 k => ?_)
  refine R_if0 rfl (fun c_4 => ?_) (fun c_4 => ?_)
  · have k := k.1 c_4
    refine R_ps 2 (pc2 := 43) (L2 := [some (vr (some w)), some (vi x1), some (vi x2), some (vi x3), none]) (st2 := [vi 1, vr (some w)]) rfl ?_
    refine R_putI rfl t0 ?_
    show WP T N _ _ _ _ (si h_2 w 0 1) _
    generalize e_7 : si h_2 w 0 1 = h_6
    replace k := k h_6 e_7.symm
    refine R_ps 1 (pc2 := 47) (L2 := [some (vr (some w)), some (vi x1), some (vi x2), some (vi x3), none]) (st2 := [vr (some w)]) rfl ?_
    refine R_getI rfl t0 ?_
    refine R_if0 rfl (fun c_9 => ?_) (fun c_9 => ?_)
    · have k := k.2 (i32_nlt c_9)
      refine R_ps 3 (pc2 := 58) (L2 := [some (vr (some w)), some (vi x1), some (vi x2), some (vi x3), none]) (st2 := [vi x2, vi x1, vr (some w)]) rfl ?_
      refine R_cI (as := [vr (some w), vi x1, vi x2]) rfl rfl ⟨Nat.le_of_ble_eq_true rfl, Nat.le_of_ble_eq_true rfl, rfl, (Or.inr ⟨_, rfl, t0⟩)⟩ rfl rfl k (fun x_12 h_11 k => ?_)
      refine R_ps 2 (pc2 := 64) (L2 := [some (vr (some w)), some (vi x1), some (vi x2), some (vi x3), some (vi x_12)]) (st2 := [vi x3]) rfl ?_
      refine R_if0 rfl (fun c_13 => ?_) (fun c_13 => ?_)
      · have k := k.2 c_13
        refine R_ps 2 (pc2 := 77) (L2 := [some (vr (some w)), some (vi x1), some (vi x2), some (vi x3), some (vi x_12)]) (st2 := [vi 1, vi x3]) rfl ?_
        refine R_if rfl (fun c_14 => ?_) (fun c_14 => ?_)
        · have k := k.2 c_14
          refine R_ps 2 (pc2 := 90) (L2 := [some (vr (some w)), some (vi x1), some (vi x2), some (vi x3), some (vi x_12)]) (st2 := [vi 2, vi x3]) rfl ?_
          refine R_if rfl (fun c_15 => ?_) (fun c_15 => ?_)
          · have k := k.2 c_15
            refine R_ps 2 (pc2 := 103) (L2 := [some (vr (some w)), some (vi x1), some (vi x2), some (vi x3), some (vi x_12)]) (st2 := [vi 3, vi x3]) rfl ?_
            refine R_if rfl (fun c_16 => ?_) (fun c_16 => ?_)
            · have k := k.2 c_16
              refine R_ps 2 (pc2 := 117) (L2 := [some (vr (some w)), some (vi x1), some (vi x2), some (vi x3), some (vi x_12)]) (st2 := [vi x_12, vr (some w)]) rfl ?_
              refine R_cI (as := [vr (some w), vi x_12]) rfl rfl ⟨Nat.le_of_ble_eq_true rfl, Nat.le_of_ble_eq_true rfl, rfl, (Or.inr ⟨_, rfl, t0⟩)⟩ rfl rfl k (fun x_19 h_18 k => ?_)
              exact R_iret rfl rfl ⟨_, rfl, k⟩
            · have k := k.1 (Classical.not_not.mp c_16)
              refine R_ps 1 (pc2 := 108) (L2 := [some (vr (some w)), some (vi x1), some (vi x2), some (vi x3), some (vi x_12)]) (st2 := [vi x_12]) rfl ?_
              refine R_cI (as := [vi x_12]) rfl rfl ⟨Nat.le_of_ble_eq_true rfl, Nat.le_of_ble_eq_true rfl, rfl, (Or.inl rfl)⟩ rfl rfl k (fun x_23 h_22 k => ?_)
              refine R_ps 1 (pc2 := 120) (L2 := [some (vr (some w)), some (vi x1), some (vi x2), some (vi x3), some (vi x_12)]) (st2 := [vi x_23]) rfl ?_
              exact R_iret rfl rfl ⟨_, rfl, k⟩
          · have k := k.1 (Classical.not_not.mp c_15)
            refine R_ps 1 (pc2 := 95) (L2 := [some (vr (some w)), some (vi x1), some (vi x2), some (vi x3), some (vi x_12)]) (st2 := [vi x_12]) rfl ?_
            refine R_cI (as := [vi x_12]) rfl rfl ⟨Nat.le_of_ble_eq_true rfl, Nat.le_of_ble_eq_true rfl, rfl, (Or.inl rfl)⟩ rfl rfl k (fun x_27 h_26 k => ?_)
            refine R_ps 1 (pc2 := 120) (L2 := [some (vr (some w)), some (vi x1), some (vi x2), some (vi x3), some (vi x_12)]) (st2 := [vi x_27]) rfl ?_
            exact R_iret rfl rfl ⟨_, rfl, k⟩
        · have k := k.1 (Classical.not_not.mp c_14)
          refine R_ps 1 (pc2 := 82) (L2 := [some (vr (some w)), some (vi x1), some (vi x2), some (vi x3), some (vi x_12)]) (st2 := [vi x_12]) rfl ?_
          refine R_cI (as := [vi x_12]) rfl rfl ⟨Nat.le_of_ble_eq_true rfl, Nat.le_of_ble_eq_true rfl, rfl, (Or.inl rfl)⟩ rfl rfl k (fun x_31 h_30 k => ?_)
          refine R_ps 1 (pc2 := 120) (L2 := [some (vr (some w)), some (vi x1), some (vi x2), some (vi x3), some (vi x_12)]) (st2 := [vi x_31]) rfl ?_
          exact R_iret rfl rfl ⟨_, rfl, k⟩
      · have k := k.1 (Classical.not_not.mp c_13)
        refine R_ps 1 (pc2 := 69) (L2 := [some (vr (some w)), some (vi x1), some (vi x2), some (vi x3), some (vi x_12)]) (st2 := [vi x_12]) rfl ?_
        refine R_cI (as := [vi x_12]) rfl rfl ⟨Nat.le_of_ble_eq_true rfl, Nat.le_of_ble_eq_true rfl, rfl, (Or.inl rfl)⟩ rfl rfl k (fun x_35 h_34 k => ?_)
        refine R_ps 1 (pc2 := 120) (L2 := [some (vr (some w)), some (vi x1), some (vi x2), some (vi x3), some (vi x_12)]) (st2 := [vi x_35]) rfl ?_
        exact R_iret rfl rfl ⟨_, rfl, k⟩
    · have k := k.1 (i32_lt c_9)
      refine R_ps 1 (pc2 := 54) (L2 := [some (vr (some w)), some (vi x1), some (vi x2), some (vi x3), none]) (st2 := [vi 0]) rfl ?_
      exact R_iret rfl rfl ⟨_, rfl, k⟩
  · have k := k.2 c_4
    refine R_ps 5 (pc2 := 14) (L2 := [some (vr (some w)), some (vi x1), some (vi x2), some (vi x3), none]) (st2 := [vi 5, vi x1, vr (some w), vi 0, vi x2, vr (some w)]) rfl ?_
    refine R_cI (as := [vr (some w), vi x1, vi 5]) rfl rfl ⟨Nat.le_of_ble_eq_true rfl, Nat.le_of_ble_eq_true rfl, rfl, (Or.inr ⟨_, rfl, t0⟩)⟩ rfl rfl k (fun x_40 h_39 k => ?_)
    refine R_ps 2 (pc2 := 19) (L2 := [some (vr (some w)), some (vi x1), some (vi x2), some (vi x3), none]) (st2 := [vi (x_40 - 1), vi 0, vi x2, vr (some w)]) rfl ?_
    refine R_cI (as := [vi x2, vi 0, vi (x_40 - 1)]) rfl rfl ⟨Nat.le_of_ble_eq_true rfl, Nat.le_of_ble_eq_true rfl, rfl, (Or.inl rfl)⟩ rfl rfl k (fun x_43 h_42 k => ?_)
    refine R_if0 rfl (fun c_44 => ?_) (fun c_44 => ?_)
    · have k := k.2 c_44
      refine R_ps 3 (pc2 := 32) (L2 := [some (vr (some w)), some (vi x1), some (vi x2), some (vi x3), none]) (st2 := [vi 4, vi 0, vi x3, vr (some w)]) rfl ?_
      refine R_cI (as := [vi x3, vi 0, vi 4]) rfl rfl ⟨Nat.le_of_ble_eq_true rfl, Nat.le_of_ble_eq_true rfl, rfl, (Or.inl rfl)⟩ rfl rfl k (fun x_47 h_46 k => ?_)
      refine R_if0 rfl (fun c_48 => ?_) (fun c_48 => ?_)
      · have k := k.2 c_48
        refine R_ps 1 (pc2 := 43) (L2 := [some (vr (some w)), some (vi x1), some (vi x2), some (vi x3), none]) (st2 := [vi 0, vr (some w)]) rfl ?_
        refine R_putI rfl t0 ?_
        show WP T N _ _ _ _ (si h_46 w 0 0) _
        generalize e_51 : si h_46 w 0 0 = h_50
        replace k := k h_50 e_51.symm
        refine R_ps 1 (pc2 := 47) (L2 := [some (vr (some w)), some (vi x1), some (vi x2), some (vi x3), none]) (st2 := [vr (some w)]) rfl ?_
        refine R_getI rfl t0 ?_
        refine R_if0 rfl (fun c_53 => ?_) (fun c_53 => ?_)
        · have k := k.2 (i32_nlt c_53)
          refine R_ps 3 (pc2 := 58) (L2 := [some (vr (some w)), some (vi x1), some (vi x2), some (vi x3), none]) (st2 := [vi x2, vi x1, vr (some w)]) rfl ?_
          refine R_cI (as := [vr (some w), vi x1, vi x2]) rfl rfl ⟨Nat.le_of_ble_eq_true rfl, Nat.le_of_ble_eq_true rfl, rfl, (Or.inr ⟨_, rfl, t0⟩)⟩ rfl rfl k (fun x_56 h_55 k => ?_)
          refine R_ps 2 (pc2 := 64) (L2 := [some (vr (some w)), some (vi x1), some (vi x2), some (vi x3), some (vi x_56)]) (st2 := [vi x3]) rfl ?_
          refine R_if0 rfl (fun c_57 => ?_) (fun c_57 => ?_)
          · have k := k.2 c_57
            refine R_ps 2 (pc2 := 77) (L2 := [some (vr (some w)), some (vi x1), some (vi x2), some (vi x3), some (vi x_56)]) (st2 := [vi 1, vi x3]) rfl ?_
            refine R_if rfl (fun c_58 => ?_) (fun c_58 => ?_)
            · have k := k.2 c_58
              refine R_ps 2 (pc2 := 90) (L2 := [some (vr (some w)), some (vi x1), some (vi x2), some (vi x3), some (vi x_56)]) (st2 := [vi 2, vi x3]) rfl ?_
              refine R_if rfl (fun c_59 => ?_) (fun c_59 => ?_)
              · have k := k.2 c_59
                refine R_ps 2 (pc2 := 103) (L2 := [some (vr (some w)), some (vi x1), some (vi x2), some (vi x3), some (vi x_56)]) (st2 := [vi 3, vi x3]) rfl ?_
                refine R_if rfl (fun c_60 => ?_) (fun c_60 => ?_)
                · have k := k.2 c_60
                  refine R_ps 2 (pc2 := 117) (L2 := [some (vr (some w)), some (vi x1), some (vi x2), some (vi x3), some (vi x_56)]) (st2 := [vi x_56, vr (some w)]) rfl ?_
                  refine R_cI (as := [vr (some w), vi x_56]) rfl rfl ⟨Nat.le_of_ble_eq_true rfl, Nat.le_of_ble_eq_true rfl, rfl, (Or.inr ⟨_, rfl, t0⟩)⟩ rfl rfl k (fun x_63 h_62 k => ?_)
                  exact R_iret rfl rfl ⟨_, rfl, k⟩
                · have k := k.1 (Classical.not_not.mp c_60)
                  refine R_ps 1 (pc2 := 108) (L2 := [some (vr (some w)), some (vi x1), some (vi x2), some (vi x3), some (vi x_56)]) (st2 := [vi x_56]) rfl ?_
                  refine R_cI (as := [vi x_56]) rfl rfl ⟨Nat.le_of_ble_eq_true rfl, Nat.le_of_ble_eq_true rfl, rfl, (Or.inl rfl)⟩ rfl rfl k (fun x_67 h_66 k => ?_)
                  refine R_ps 1 (pc2 := 120) (L2 := [some (vr (some w)), some (vi x1), some (vi x2), some (vi x3), some (vi x_56)]) (st2 := [vi x_67]) rfl ?_
                  exact R_iret rfl rfl ⟨_, rfl, k⟩
              · have k := k.1 (Classical.not_not.mp c_59)
                refine R_ps 1 (pc2 := 95) (L2 := [some (vr (some w)), some (vi x1), some (vi x2), some (vi x3), some (vi x_56)]) (st2 := [vi x_56]) rfl ?_
                refine R_cI (as := [vi x_56]) rfl rfl ⟨Nat.le_of_ble_eq_true rfl, Nat.le_of_ble_eq_true rfl, rfl, (Or.inl rfl)⟩ rfl rfl k (fun x_71 h_70 k => ?_)
                refine R_ps 1 (pc2 := 120) (L2 := [some (vr (some w)), some (vi x1), some (vi x2), some (vi x3), some (vi x_56)]) (st2 := [vi x_71]) rfl ?_
                exact R_iret rfl rfl ⟨_, rfl, k⟩
            · have k := k.1 (Classical.not_not.mp c_58)
              refine R_ps 1 (pc2 := 82) (L2 := [some (vr (some w)), some (vi x1), some (vi x2), some (vi x3), some (vi x_56)]) (st2 := [vi x_56]) rfl ?_
              refine R_cI (as := [vi x_56]) rfl rfl ⟨Nat.le_of_ble_eq_true rfl, Nat.le_of_ble_eq_true rfl, rfl, (Or.inl rfl)⟩ rfl rfl k (fun x_75 h_74 k => ?_)
              refine R_ps 1 (pc2 := 120) (L2 := [some (vr (some w)), some (vi x1), some (vi x2), some (vi x3), some (vi x_56)]) (st2 := [vi x_75]) rfl ?_
              exact R_iret rfl rfl ⟨_, rfl, k⟩
          · have k := k.1 (Classical.not_not.mp c_57)
            refine R_ps 1 (pc2 := 69) (L2 := [some (vr (some w)), some (vi x1), some (vi x2), some (vi x3), some (vi x_56)]) (st2 := [vi x_56]) rfl ?_
            refine R_cI (as := [vi x_56]) rfl rfl ⟨Nat.le_of_ble_eq_true rfl, Nat.le_of_ble_eq_true rfl, rfl, (Or.inl rfl)⟩ rfl rfl k (fun x_79 h_78 k => ?_)
            refine R_ps 1 (pc2 := 120) (L2 := [some (vr (some w)), some (vi x1), some (vi x2), some (vi x3), some (vi x_56)]) (st2 := [vi x_79]) rfl ?_
            exact R_iret rfl rfl ⟨_, rfl, k⟩
        · have k := k.1 (i32_lt c_53)
          refine R_ps 1 (pc2 := 54) (L2 := [some (vr (some w)), some (vi x1), some (vi x2), some (vi x3), none]) (st2 := [vi 0]) rfl ?_
          exact R_iret rfl rfl ⟨_, rfl, k⟩
      · have k := k.1 (Classical.not_not.mp c_48)
        refine R_ps 2 (pc2 := 43) (L2 := [some (vr (some w)), some (vi x1), some (vi x2), some (vi x3), none]) (st2 := [vi 2, vr (some w)]) rfl ?_
        refine R_putI rfl t0 ?_
        show WP T N _ _ _ _ (si h_46 w 0 2) _
        generalize e_84 : si h_46 w 0 2 = h_83
        replace k := k h_83 e_84.symm
        refine R_ps 1 (pc2 := 47) (L2 := [some (vr (some w)), some (vi x1), some (vi x2), some (vi x3), none]) (st2 := [vr (some w)]) rfl ?_
        refine R_getI rfl t0 ?_
        refine R_if0 rfl (fun c_86 => ?_) (fun c_86 => ?_)
        · have k := k.2 (i32_nlt c_86)
          refine R_ps 3 (pc2 := 58) (L2 := [some (vr (some w)), some (vi x1), some (vi x2), some (vi x3), none]) (st2 := [vi x2, vi x1, vr (some w)]) rfl ?_
          refine R_cI (as := [vr (some w), vi x1, vi x2]) rfl rfl ⟨Nat.le_of_ble_eq_true rfl, Nat.le_of_ble_eq_true rfl, rfl, (Or.inr ⟨_, rfl, t0⟩)⟩ rfl rfl k (fun x_89 h_88 k => ?_)
          refine R_ps 2 (pc2 := 64) (L2 := [some (vr (some w)), some (vi x1), some (vi x2), some (vi x3), some (vi x_89)]) (st2 := [vi x3]) rfl ?_
          refine R_if0 rfl (fun c_90 => ?_) (fun c_90 => ?_)
          · have k := k.2 c_90
            refine R_ps 2 (pc2 := 77) (L2 := [some (vr (some w)), some (vi x1), some (vi x2), some (vi x3), some (vi x_89)]) (st2 := [vi 1, vi x3]) rfl ?_
            refine R_if rfl (fun c_91 => ?_) (fun c_91 => ?_)
            · have k := k.2 c_91
              refine R_ps 2 (pc2 := 90) (L2 := [some (vr (some w)), some (vi x1), some (vi x2), some (vi x3), some (vi x_89)]) (st2 := [vi 2, vi x3]) rfl ?_
              refine R_if rfl (fun c_92 => ?_) (fun c_92 => ?_)
              · have k := k.2 c_92
                refine R_ps 2 (pc2 := 103) (L2 := [some (vr (some w)), some (vi x1), some (vi x2), some (vi x3), some (vi x_89)]) (st2 := [vi 3, vi x3]) rfl ?_
                refine R_if rfl (fun c_93 => ?_) (fun c_93 => ?_)
                · have k := k.2 c_93
                  refine R_ps 2 (pc2 := 117) (L2 := [some (vr (some w)), some (vi x1), some (vi x2), some (vi x3), some (vi x_89)]) (st2 := [vi x_89, vr (some w)]) rfl ?_
                  refine R_cI (as := [vr (some w), vi x_89]) rfl rfl ⟨Nat.le_of_ble_eq_true rfl, Nat.le_of_ble_eq_true rfl, rfl, (Or.inr ⟨_, rfl, t0⟩)⟩ rfl rfl k (fun x_96 h_95 k => ?_)
                  exact R_iret rfl rfl ⟨_, rfl, k⟩
                · have k := k.1 (Classical.not_not.mp c_93)
                  refine R_ps 1 (pc2 := 108) (L2 := [some (vr (some w)), some (vi x1), some (vi x2), some (vi x3), some (vi x_89)]) (st2 := [vi x_89]) rfl ?_
                  refine R_cI (as := [vi x_89]) rfl rfl ⟨Nat.le_of_ble_eq_true rfl, Nat.le_of_ble_eq_true rfl, rfl, (Or.inl rfl)⟩ rfl rfl k (fun x_100 h_99 k => ?_)
                  refine R_ps 1 (pc2 := 120) (L2 := [some (vr (some w)), some (vi x1), some (vi x2), some (vi x3), some (vi x_89)]) (st2 := [vi x_100]) rfl ?_
                  exact R_iret rfl rfl ⟨_, rfl, k⟩
              · have k := k.1 (Classical.not_not.mp c_92)
                refine R_ps 1 (pc2 := 95) (L2 := [some (vr (some w)), some (vi x1), some (vi x2), some (vi x3), some (vi x_89)]) (st2 := [vi x_89]) rfl ?_
                refine R_cI (as := [vi x_89]) rfl rfl ⟨Nat.le_of_ble_eq_true rfl, Nat.le_of_ble_eq_true rfl, rfl, (Or.inl rfl)⟩ rfl rfl k (fun x_104 h_103 k => ?_)
                refine R_ps 1 (pc2 := 120) (L2 := [some (vr (some w)), some (vi x1), some (vi x2), some (vi x3), some (vi x_89)]) (st2 := [vi x_104]) rfl ?_
                exact R_iret rfl rfl ⟨_, rfl, k⟩
            · have k := k.1 (Classical.not_not.mp c_91)
              refine R_ps 1 (pc2 := 82) (L2 := [some (vr (some w)), some (vi x1), some (vi x2), some (vi x3), some (vi x_89)]) (st2 := [vi x_89]) rfl ?_
              refine R_cI (as := [vi x_89]) rfl rfl ⟨Nat.le_of_ble_eq_true rfl, Nat.le_of_ble_eq_true rfl, rfl, (Or.inl rfl)⟩ rfl rfl k (fun x_108 h_107 k => ?_)
              refine R_ps 1 (pc2 := 120) (L2 := [some (vr (some w)), some (vi x1), some (vi x2), some (vi x3), some (vi x_89)]) (st2 := [vi x_108]) rfl ?_
              exact R_iret rfl rfl ⟨_, rfl, k⟩
          · have k := k.1 (Classical.not_not.mp c_90)
            refine R_ps 1 (pc2 := 69) (L2 := [some (vr (some w)), some (vi x1), some (vi x2), some (vi x3), some (vi x_89)]) (st2 := [vi x_89]) rfl ?_
            refine R_cI (as := [vi x_89]) rfl rfl ⟨Nat.le_of_ble_eq_true rfl, Nat.le_of_ble_eq_true rfl, rfl, (Or.inl rfl)⟩ rfl rfl k (fun x_112 h_111 k => ?_)
            refine R_ps 1 (pc2 := 120) (L2 := [some (vr (some w)), some (vi x1), some (vi x2), some (vi x3), some (vi x_89)]) (st2 := [vi x_112]) rfl ?_
            exact R_iret rfl rfl ⟨_, rfl, k⟩
        · have k := k.1 (i32_lt c_86)
          refine R_ps 1 (pc2 := 54) (L2 := [some (vr (some w)), some (vi x1), some (vi x2), some (vi x3), none]) (st2 := [vi 0]) rfl ?_
          exact R_iret rfl rfl ⟨_, rfl, k⟩
    · have k := k.1 (Classical.not_not.mp c_44)
      refine R_ps 2 (pc2 := 43) (L2 := [some (vr (some w)), some (vi x1), some (vi x2), some (vi x3), none]) (st2 := [vi 1, vr (some w)]) rfl ?_
      refine R_putI rfl t0 ?_
      show WP T N _ _ _ _ (si h_42 w 0 1) _
      generalize e_117 : si h_42 w 0 1 = h_116
      replace k := k h_116 e_117.symm
      refine R_ps 1 (pc2 := 47) (L2 := [some (vr (some w)), some (vi x1), some (vi x2), some (vi x3), none]) (st2 := [vr (some w)]) rfl ?_
      refine R_getI rfl t0 ?_
      refine R_if0 rfl (fun c_119 => ?_) (fun c_119 => ?_)
      · have k := k.2 (i32_nlt c_119)
        refine R_ps 3 (pc2 := 58) (L2 := [some (vr (some w)), some (vi x1), some (vi x2), some (vi x3), none]) (st2 := [vi x2, vi x1, vr (some w)]) rfl ?_
        refine R_cI (as := [vr (some w), vi x1, vi x2]) rfl rfl ⟨Nat.le_of_ble_eq_true rfl, Nat.le_of_ble_eq_true rfl, rfl, (Or.inr ⟨_, rfl, t0⟩)⟩ rfl rfl k (fun x_122 h_121 k => ?_)
        refine R_ps 2 (pc2 := 64) (L2 := [some (vr (some w)), some (vi x1), some (vi x2), some (vi x3), some (vi x_122)]) (st2 := [vi x3]) rfl ?_
        refine R_if0 rfl (fun c_123 => ?_) (fun c_123 => ?_)
        · have k := k.2 c_123
          refine R_ps 2 (pc2 := 77) (L2 := [some (vr (some w)), some (vi x1), some (vi x2), some (vi x3), some (vi x_122)]) (st2 := [vi 1, vi x3]) rfl ?_
          refine R_if rfl (fun c_124 => ?_) (fun c_124 => ?_)
          · have k := k.2 c_124
            refine R_ps 2 (pc2 := 90) (L2 := [some (vr (some w)), some (vi x1), some (vi x2), some (vi x3), some (vi x_122)]) (st2 := [vi 2, vi x3]) rfl ?_
            refine R_if rfl (fun c_125 => ?_) (fun c_125 => ?_)
            · have k := k.2 c_125
              refine R_ps 2 (pc2 := 103) (L2 := [some (vr (some w)), some (vi x1), some (vi x2), some (vi x3), some (vi x_122)]) (st2 := [vi 3, vi x3]) rfl ?_
              refine R_if rfl (fun c_126 => ?_) (fun c_126 => ?_)
              · have k := k.2 c_126
                refine R_ps 2 (pc2 := 117) (L2 := [some (vr (some w)), some (vi x1), some (vi x2), some (vi x3), some (vi x_122)]) (st2 := [vi x_122, vr (some w)]) rfl ?_
                refine R_cI (as := [vr (some w), vi x_122]) rfl rfl ⟨Nat.le_of_ble_eq_true rfl, Nat.le_of_ble_eq_true rfl, rfl, (Or.inr ⟨_, rfl, t0⟩)⟩ rfl rfl k (fun x_129 h_128 k => ?_)
                exact R_iret rfl rfl ⟨_, rfl, k⟩
              · have k := k.1 (Classical.not_not.mp c_126)
                refine R_ps 1 (pc2 := 108) (L2 := [some (vr (some w)), some (vi x1), some (vi x2), some (vi x3), some (vi x_122)]) (st2 := [vi x_122]) rfl ?_
                refine R_cI (as := [vi x_122]) rfl rfl ⟨Nat.le_of_ble_eq_true rfl, Nat.le_of_ble_eq_true rfl, rfl, (Or.inl rfl)⟩ rfl rfl k (fun x_133 h_132 k => ?_)
                refine R_ps 1 (pc2 := 120) (L2 := [some (vr (some w)), some (vi x1), some (vi x2), some (vi x3), some (vi x_122)]) (st2 := [vi x_133]) rfl ?_
                exact R_iret rfl rfl ⟨_, rfl, k⟩
            · have k := k.1 (Classical.not_not.mp c_125)
              refine R_ps 1 (pc2 := 95) (L2 := [some (vr (some w)), some (vi x1), some (vi x2), some (vi x3), some (vi x_122)]) (st2 := [vi x_122]) rfl ?_
              refine R_cI (as := [vi x_122]) rfl rfl ⟨Nat.le_of_ble_eq_true rfl, Nat.le_of_ble_eq_true rfl, rfl, (Or.inl rfl)⟩ rfl rfl k (fun x_137 h_136 k => ?_)
              refine R_ps 1 (pc2 := 120) (L2 := [some (vr (some w)), some (vi x1), some (vi x2), some (vi x3), some (vi x_122)]) (st2 := [vi x_137]) rfl ?_
              exact R_iret rfl rfl ⟨_, rfl, k⟩
          · have k := k.1 (Classical.not_not.mp c_124)
            refine R_ps 1 (pc2 := 82) (L2 := [some (vr (some w)), some (vi x1), some (vi x2), some (vi x3), some (vi x_122)]) (st2 := [vi x_122]) rfl ?_
            refine R_cI (as := [vi x_122]) rfl rfl ⟨Nat.le_of_ble_eq_true rfl, Nat.le_of_ble_eq_true rfl, rfl, (Or.inl rfl)⟩ rfl rfl k (fun x_141 h_140 k => ?_)
            refine R_ps 1 (pc2 := 120) (L2 := [some (vr (some w)), some (vi x1), some (vi x2), some (vi x3), some (vi x_122)]) (st2 := [vi x_141]) rfl ?_
            exact R_iret rfl rfl ⟨_, rfl, k⟩
        · have k := k.1 (Classical.not_not.mp c_123)
          refine R_ps 1 (pc2 := 69) (L2 := [some (vr (some w)), some (vi x1), some (vi x2), some (vi x3), some (vi x_122)]) (st2 := [vi x_122]) rfl ?_
          refine R_cI (as := [vi x_122]) rfl rfl ⟨Nat.le_of_ble_eq_true rfl, Nat.le_of_ble_eq_true rfl, rfl, (Or.inl rfl)⟩ rfl rfl k (fun x_145 h_144 k => ?_)
          refine R_ps 1 (pc2 := 120) (L2 := [some (vr (some w)), some (vi x1), some (vi x2), some (vi x3), some (vi x_122)]) (st2 := [vi x_145]) rfl ?_
          exact R_iret rfl rfl ⟨_, rfl, k⟩
      · have k := k.1 (i32_lt c_119)
        refine R_ps 1 (pc2 := 54) (L2 := [some (vr (some w)), some (vi x1), some (vi x2), some (vi x3), none]) (st2 := [vi 0]) rfl ?_
        exact R_iret rfl rfl ⟨_, rfl, k⟩
/-- DroneCorridorsModel.isStruck -/
theorem m199 {T N : Nat → Nat} {h : PH} {w : Nat} {x1 : Int32} {K : Int32 → PH → Prop} (k : (WI T N 199 2 [some (vr (some w)), some (vi x1), some (vi 0), none] [] h K)) : CI T N 199 [vr (some w), vi x1] h K := by
  show WP T N 199 0 [some (vr (some w)), some (vi x1), none, none] [] h _
  refine R_ps 2 (pc2 := 2) (L2 := [some (vr (some w)), some (vi x1), some (vi 0), none]) (st2 := []) rfl ?_
  exact k
theorem m199_2 {T N : Nat → Nat} {h : PH} {w : Nat} {x1 : Int32} {x2 : Int32} {K : Int32 → PH → Prop} (t0 : T w = 12) (k : (∃ a_3, (gr h w 1) = some a_3 ∧ T a_3 = 22 ∧ inb 76 (N a_3) ∧ ((x2 < (gi h a_3 76) → (∃ a_11, (gr h w 1) = some a_11 ∧ T a_11 = 22 ∧ inb (77 + (4 * x2)) (N a_11) ∧ CI T N 187 [vi x1] h (fun x_17 h_16 => ((((gi h a_11 (Int32.toNatClampNeg (77 + (4 * x2)))) = x_17 → (∃ a_21, (gr h_16 w 1) = some a_21 ∧ T a_21 = 22 ∧ inb ((77 + (4 * x2)) + 1) (N a_21) ∧ CI T N 189 [vi x1] h_16 (fun x_27 h_26 => ((((((gi h_16 a_21 (Int32.toNatClampNeg ((77 + (4 * x2)) + 1))) >>> (x_27 &&& 31)) &&& 1) = 1 → (CI T N 190 [vi x1] h_26 (fun x_31 h_30 => (∃ a_34, (gr h_30 w 1) = some a_34 ∧ T a_34 = 22 ∧ inb ((77 + (4 * x2)) + 3) (N a_34) ∧ ((x_31 < (gi h_30 a_34 (Int32.toNatClampNeg ((77 + (4 * x2)) + 3))) → (CI T N 191 [vr (some w), vi x1] h_30 (fun x_41 h_40 => (∃ a_44, (gr h_40 w 1) = some a_44 ∧ T a_44 = 22 ∧ inb ((77 + (4 * x2)) + 2) (N a_44) ∧ (((gi h_40 a_44 (Int32.toNatClampNeg ((77 + (4 * x2)) + 2))) < x_41 → (K 1 h_40)) ∧ (¬ ((gi h_40 a_44 (Int32.toNatClampNeg ((77 + (4 * x2)) + 2))) < x_41) → (WI T N 199 2 [some (vr (some w)), some (vi x1), some (vi (x2 + 1)), none] [] h_40 K))))))) ∧ (¬ (x_31 < (gi h_30 a_34 (Int32.toNatClampNeg ((77 + (4 * x2)) + 3)))) → (WI T N 199 2 [some (vr (some w)), some (vi x1), some (vi (x2 + 1)), none] [] h_30 K))))))) ∧ (¬ ((((gi h_16 a_21 (Int32.toNatClampNeg ((77 + (4 * x2)) + 1))) >>> (x_27 &&& 31)) &&& 1) = 1) → (WI T N 199 2 [some (vr (some w)), some (vi x1), some (vi (x2 + 1)), none] [] h_26 K))))))) ∧ (¬ ((gi h a_11 (Int32.toNatClampNeg (77 + (4 * x2)))) = x_17) → (WI T N 199 2 [some (vr (some w)), some (vi x1), some (vi (x2 + 1)), none] [] h_16 K))))))) ∧ (¬ (x2 < (gi h a_3 76)) → (K 0 h))))) : WI T N 199 2 [some (vr (some w)), some (vi x1), some (vi x2), none] [] h K := by
  show WP T N 199 2 [some (vr (some w)), some (vi x1), some (vi x2), none] [] h _
  refine R_ps 2 (pc2 := 4) (L2 := [some (vr (some w)), some (vi x1), some (vi x2), none]) (st2 := [vr (some w), vi x2]) rfl ?_
  refine R_getR rfl t0 ?_
  refine R_ps 1 (pc2 := 9) (L2 := [some (vr (some w)), some (vi x1), some (vi x2), none]) (st2 := [vi 76, vr (gr h w 1), vi x2]) rfl ?_
  obtain ⟨a_3, e_4, k⟩ := k
  rw [e_4]
  obtain ⟨t_5, k⟩ := k
  obtain ⟨t_6, k⟩ := k
  refine R_iald rfl (Or.inl t_5) t_6 ?_
  refine R_if rfl (fun c_7 => ?_) (fun c_7 => ?_)
  · have k := k.2 (i32_nlt c_7)
    refine R_ps 1 (pc2 := 92) (L2 := [some (vr (some w)), some (vi x1), some (vi x2), none]) (st2 := [vi 0]) rfl ?_
    exact R_zret rfl rfl (Or.inl rfl) ⟨_, rfl, k⟩
  · have k := k.1 (i32_lt c_7)
    refine R_ps 7 (pc2 := 21) (L2 := [some (vr (some w)), some (vi x1), some (vi x2), some (vi (77 + (4 * x2)))]) (st2 := [vr (some w)]) rfl ?_
    refine R_getR rfl t0 ?_
    refine R_ps 1 (pc2 := 25) (L2 := [some (vr (some w)), some (vi x1), some (vi x2), some (vi (77 + (4 * x2)))]) (st2 := [vi (77 + (4 * x2)), vr (gr h w 1)]) rfl ?_
    obtain ⟨a_11, e_12, k⟩ := k
    rw [e_12]
    obtain ⟨t_13, k⟩ := k
    obtain ⟨t_14, k⟩ := k
    refine R_iald rfl (Or.inl t_13) t_14 ?_
    refine R_ps 1 (pc2 := 27) (L2 := [some (vr (some w)), some (vi x1), some (vi x2), some (vi (77 + (4 * x2)))]) (st2 := [vi x1, vi (gi h a_11 (Int32.toNatClampNeg (77 + (4 * x2))))]) rfl ?_
    refine R_cI (as := [vi x1]) rfl rfl ⟨Nat.le_of_ble_eq_true rfl, Nat.le_of_ble_eq_true rfl, rfl, (Or.inl rfl)⟩ rfl rfl k (fun x_17 h_16 k => ?_)
    refine R_if rfl (fun c_18 => ?_) (fun c_18 => ?_)
    · have k := k.2 c_18
      refine R_ps 2 (pc2 := 2) (L2 := [some (vr (some w)), some (vi x1), some (vi (x2 + 1)), some (vi (77 + (4 * x2)))]) (st2 := []) rfl ?_
      exact R_drop k (LE_of (L := [some (vr (some w)), some (vi x1), some (vi (x2 + 1)), none]) (L2 := [some (vr (some w)), some (vi x1), some (vi (x2 + 1)), some (vi (77 + (4 * x2)))]) ⟨rfl, rfl, rfl, trivial⟩)
    · have k := k.1 (Classical.not_not.mp c_18)
      refine R_ps 1 (pc2 := 34) (L2 := [some (vr (some w)), some (vi x1), some (vi x2), some (vi (77 + (4 * x2)))]) (st2 := [vr (some w)]) rfl ?_
      refine R_getR rfl t0 ?_
      refine R_ps 3 (pc2 := 40) (L2 := [some (vr (some w)), some (vi x1), some (vi x2), some (vi (77 + (4 * x2)))]) (st2 := [vi ((77 + (4 * x2)) + 1), vr (gr h_16 w 1)]) rfl ?_
      obtain ⟨a_21, e_22, k⟩ := k
      rw [e_22]
      obtain ⟨t_23, k⟩ := k
      obtain ⟨t_24, k⟩ := k
      refine R_iald rfl (Or.inl t_23) t_24 ?_
      refine R_ps 1 (pc2 := 42) (L2 := [some (vr (some w)), some (vi x1), some (vi x2), some (vi (77 + (4 * x2)))]) (st2 := [vi x1, vi (gi h_16 a_21 (Int32.toNatClampNeg ((77 + (4 * x2)) + 1)))]) rfl ?_
      refine R_cI (as := [vi x1]) rfl rfl ⟨Nat.le_of_ble_eq_true rfl, Nat.le_of_ble_eq_true rfl, rfl, (Or.inl rfl)⟩ rfl rfl k (fun x_27 h_26 k => ?_)
      refine R_ps 4 (pc2 := 49) (L2 := [some (vr (some w)), some (vi x1), some (vi x2), some (vi (77 + (4 * x2)))]) (st2 := [vi 1, vi (((gi h_16 a_21 (Int32.toNatClampNeg ((77 + (4 * x2)) + 1))) >>> (x_27 &&& 31)) &&& 1)]) rfl ?_
      refine R_if rfl (fun c_28 => ?_) (fun c_28 => ?_)
      · have k := k.2 c_28
        refine R_ps 2 (pc2 := 2) (L2 := [some (vr (some w)), some (vi x1), some (vi (x2 + 1)), some (vi (77 + (4 * x2)))]) (st2 := []) rfl ?_
        exact R_drop k (LE_of (L := [some (vr (some w)), some (vi x1), some (vi (x2 + 1)), none]) (L2 := [some (vr (some w)), some (vi x1), some (vi (x2 + 1)), some (vi (77 + (4 * x2)))]) ⟨rfl, rfl, rfl, trivial⟩)
      · have k := k.1 (Classical.not_not.mp c_28)
        refine R_ps 1 (pc2 := 53) (L2 := [some (vr (some w)), some (vi x1), some (vi x2), some (vi (77 + (4 * x2)))]) (st2 := [vi x1]) rfl ?_
        refine R_cI (as := [vi x1]) rfl rfl ⟨Nat.le_of_ble_eq_true rfl, Nat.le_of_ble_eq_true rfl, rfl, (Or.inl rfl)⟩ rfl rfl k (fun x_31 h_30 k => ?_)
        refine R_ps 1 (pc2 := 57) (L2 := [some (vr (some w)), some (vi x1), some (vi x2), some (vi (77 + (4 * x2)))]) (st2 := [vr (some w), vi x_31]) rfl ?_
        refine R_getR rfl t0 ?_
        refine R_ps 3 (pc2 := 63) (L2 := [some (vr (some w)), some (vi x1), some (vi x2), some (vi (77 + (4 * x2)))]) (st2 := [vi ((77 + (4 * x2)) + 3), vr (gr h_30 w 1), vi x_31]) rfl ?_
        obtain ⟨a_34, e_35, k⟩ := k
        rw [e_35]
        obtain ⟨t_36, k⟩ := k
        obtain ⟨t_37, k⟩ := k
        refine R_iald rfl (Or.inl t_36) t_37 ?_
        refine R_if rfl (fun c_38 => ?_) (fun c_38 => ?_)
        · have k := k.2 (i32_nlt c_38)
          refine R_ps 2 (pc2 := 2) (L2 := [some (vr (some w)), some (vi x1), some (vi (x2 + 1)), some (vi (77 + (4 * x2)))]) (st2 := []) rfl ?_
          exact R_drop k (LE_of (L := [some (vr (some w)), some (vi x1), some (vi (x2 + 1)), none]) (L2 := [some (vr (some w)), some (vi x1), some (vi (x2 + 1)), some (vi (77 + (4 * x2)))]) ⟨rfl, rfl, rfl, trivial⟩)
        · have k := k.1 (i32_lt c_38)
          refine R_ps 2 (pc2 := 69) (L2 := [some (vr (some w)), some (vi x1), some (vi x2), some (vi (77 + (4 * x2)))]) (st2 := [vi x1, vr (some w)]) rfl ?_
          refine R_cI (as := [vr (some w), vi x1]) rfl rfl ⟨Nat.le_of_ble_eq_true rfl, Nat.le_of_ble_eq_true rfl, rfl, (Or.inr ⟨_, rfl, t0⟩)⟩ rfl rfl k (fun x_41 h_40 k => ?_)
          refine R_ps 1 (pc2 := 73) (L2 := [some (vr (some w)), some (vi x1), some (vi x2), some (vi (77 + (4 * x2)))]) (st2 := [vr (some w), vi x_41]) rfl ?_
          refine R_getR rfl t0 ?_
          refine R_ps 3 (pc2 := 79) (L2 := [some (vr (some w)), some (vi x1), some (vi x2), some (vi (77 + (4 * x2)))]) (st2 := [vi ((77 + (4 * x2)) + 2), vr (gr h_40 w 1), vi x_41]) rfl ?_
          obtain ⟨a_44, e_45, k⟩ := k
          rw [e_45]
          obtain ⟨t_46, k⟩ := k
          obtain ⟨t_47, k⟩ := k
          refine R_iald rfl (Or.inl t_46) t_47 ?_
          refine R_if rfl (fun c_48 => ?_) (fun c_48 => ?_)
          · have k := k.2 (i32_nlt c_48)
            refine R_ps 2 (pc2 := 2) (L2 := [some (vr (some w)), some (vi x1), some (vi (x2 + 1)), some (vi (77 + (4 * x2)))]) (st2 := []) rfl ?_
            exact R_drop k (LE_of (L := [some (vr (some w)), some (vi x1), some (vi (x2 + 1)), none]) (L2 := [some (vr (some w)), some (vi x1), some (vi (x2 + 1)), some (vi (77 + (4 * x2)))]) ⟨rfl, rfl, rfl, trivial⟩)
          · have k := k.1 (i32_lt c_48)
            refine R_ps 1 (pc2 := 84) (L2 := [some (vr (some w)), some (vi x1), some (vi x2), some (vi (77 + (4 * x2)))]) (st2 := [vi 1]) rfl ?_
            exact R_zret rfl rfl (Or.inr rfl) ⟨_, rfl, k⟩
/-- DroneCorridorsModel.strikes -/
theorem m200 {T N : Nat → Nat} {h : PH} {w : Nat} {K : Int32 → PH → Prop} (k : (WI T N 200 4 [some (vr (some w)), some (vi 0), some (vi 0), none] [] h K)) : CI T N 200 [vr (some w)] h K := by
  show WP T N 200 0 [some (vr (some w)), none, none, none] [] h _
  refine R_ps 4 (pc2 := 4) (L2 := [some (vr (some w)), some (vi 0), some (vi 0), none]) (st2 := []) rfl ?_
  exact k
theorem m200_4 {T N : Nat → Nat} {h : PH} {w : Nat} {x1 : Int32} {x2 : Int32} {K : Int32 → PH → Prop} (t0 : T w = 12) (k : (∃ a_3, (gr h w 1) = some a_3 ∧ T a_3 = 22 ∧ inb 117 (N a_3) ∧ ((x2 < (gi h a_3 117) → (CI T N 193 [vr (some w), vi x2] h (fun x_11 h_10 => (WI T N 200 21 [some (vr (some w)), some (vi x1), some (vi x2), some (vi x_11)] [] h_10 K)))) ∧ (¬ (x2 < (gi h a_3 117)) → (K x1 h))))) : WI T N 200 4 [some (vr (some w)), some (vi x1), some (vi x2), none] [] h K := by
  show WP T N 200 4 [some (vr (some w)), some (vi x1), some (vi x2), none] [] h _
  refine R_ps 2 (pc2 := 6) (L2 := [some (vr (some w)), some (vi x1), some (vi x2), none]) (st2 := [vr (some w), vi x2]) rfl ?_
  refine R_getR rfl t0 ?_
  refine R_ps 1 (pc2 := 11) (L2 := [some (vr (some w)), some (vi x1), some (vi x2), none]) (st2 := [vi 117, vr (gr h w 1), vi x2]) rfl ?_
  obtain ⟨a_3, e_4, k⟩ := k
  rw [e_4]
  obtain ⟨t_5, k⟩ := k
  obtain ⟨t_6, k⟩ := k
  refine R_iald rfl (Or.inl t_5) t_6 ?_
  refine R_if rfl (fun c_7 => ?_) (fun c_7 => ?_)
  · have k := k.2 (i32_nlt c_7)
    refine R_ps 1 (pc2 := 67) (L2 := [some (vr (some w)), some (vi x1), some (vi x2), none]) (st2 := [vi x1]) rfl ?_
    exact R_iret rfl rfl ⟨_, rfl, k⟩
  · have k := k.1 (i32_lt c_7)
    refine R_ps 2 (pc2 := 17) (L2 := [some (vr (some w)), some (vi x1), some (vi x2), none]) (st2 := [vi x2, vr (some w)]) rfl ?_
    refine R_cI (as := [vr (some w), vi x2]) rfl rfl ⟨Nat.le_of_ble_eq_true rfl, Nat.le_of_ble_eq_true rfl, rfl, (Or.inr ⟨_, rfl, t0⟩)⟩ rfl rfl k (fun x_11 h_10 k => ?_)
    refine R_ps 1 (pc2 := 21) (L2 := [some (vr (some w)), some (vi x1), some (vi x2), some (vi x_11)]) (st2 := []) rfl ?_
    exact k
theorem m200_21 {T N : Nat → Nat} {h : PH} {w : Nat} {x1 : Int32} {x2 : Int32} {x3 : Int32} {K : Int32 → PH → Prop} (t0 : T w = 12) (k : (CI T N 168 [vr (some w), vi x2, vi 5] h (fun x_3 h_2 => (((x3 < x_3 → (CI T N 186 [vr (some w), vi x2, vi x3] h_2 (fun x_7 h_6 => (CI T N 199 [vr (some w), vi x_7] h_6 (fun x_10 h_9 => (((x_10 = 0 → (WI T N 200 21 [some (vr (some w)), some (vi (x1 ||| 0)), some (vi x2), some (vi (x3 + 1))] [] h_9 K)) ∧ (¬ (x_10 = 0) → (WI T N 200 21 [some (vr (some w)), some (vi (x1 ||| (1 <<< (x2 &&& 31)))), some (vi x2), some (vi (x3 + 1))] [] h_9 K))))))))) ∧ (¬ (x3 < x_3) → (WI T N 200 4 [some (vr (some w)), some (vi x1), some (vi (x2 + 1)), none] [] h_2 K))))))) : WI T N 200 21 [some (vr (some w)), some (vi x1), some (vi x2), some (vi x3)] [] h K := by
  show WP T N 200 21 [some (vr (some w)), some (vi x1), some (vi x2), some (vi x3)] [] h _
  refine R_ps 4 (pc2 := 25) (L2 := [some (vr (some w)), some (vi x1), some (vi x2), some (vi x3)]) (st2 := [vi 5, vi x2, vr (some w), vi x3]) rfl ?_
  refine R_cI (as := [vr (some w), vi x2, vi 5]) rfl rfl ⟨Nat.le_of_ble_eq_true rfl, Nat.le_of_ble_eq_true rfl, rfl, (Or.inr ⟨_, rfl, t0⟩)⟩ rfl rfl k (fun x_3 h_2 k => ?_)
  refine R_if rfl (fun c_4 => ?_) (fun c_4 => ?_)
  · have k := k.2 (i32_nlt c_4)
    refine R_ps 2 (pc2 := 4) (L2 := [some (vr (some w)), some (vi x1), some (vi (x2 + 1)), some (vi x3)]) (st2 := []) rfl ?_
    exact R_drop k (LE_of (L := [some (vr (some w)), some (vi x1), some (vi (x2 + 1)), none]) (L2 := [some (vr (some w)), some (vi x1), some (vi (x2 + 1)), some (vi x3)]) ⟨rfl, rfl, rfl, trivial⟩)
  · have k := k.1 (i32_lt c_4)
    refine R_ps 5 (pc2 := 36) (L2 := [some (vr (some w)), some (vi x1), some (vi x2), some (vi x3)]) (st2 := [vi x3, vi x2, vr (some w), vr (some w), vi x1]) rfl ?_
    refine R_cI (as := [vr (some w), vi x2, vi x3]) rfl rfl ⟨Nat.le_of_ble_eq_true rfl, Nat.le_of_ble_eq_true rfl, rfl, (Or.inr ⟨_, rfl, t0⟩)⟩ rfl rfl k (fun x_7 h_6 k => ?_)
    refine R_cI (as := [vr (some w), vi x_7]) rfl rfl ⟨Nat.le_of_ble_eq_true rfl, Nat.le_of_ble_eq_true rfl, rfl, (Or.inr ⟨_, rfl, t0⟩)⟩ rfl rfl k (fun x_10 h_9 k => ?_)
    refine R_if0 rfl (fun c_11 => ?_) (fun c_11 => ?_)
    · have k := k.1 c_11
      refine R_ps 5 (pc2 := 21) (L2 := [some (vr (some w)), some (vi (x1 ||| 0)), some (vi x2), some (vi (x3 + 1))]) (st2 := []) rfl ?_
      exact k
    · have k := k.2 c_11
      refine R_ps 8 (pc2 := 21) (L2 := [some (vr (some w)), some (vi (x1 ||| (1 <<< (x2 &&& 31)))), some (vi x2), some (vi (x3 + 1))]) (st2 := []) rfl ?_
      exact k
/-- DroneCorridorsModel.struck -/
theorem m201 {T N : Nat → Nat} {h : PH} {w : Nat} {K : Int32 → PH → Prop} (t0 : T w = 12) (k : (∀ h_2, h_2 = si h w 0 0 → CI T N 200 [vr (some w)] h_2 (fun x_6 h_5 => (K x_6 h_5)))) : CI T N 201 [vr (some w)] h K := by
  show WP T N 201 0 [some (vr (some w))] [] h _
  refine R_ps 2 (pc2 := 2) (L2 := [some (vr (some w))]) (st2 := [vi 0, vr (some w)]) rfl ?_
  refine R_putI rfl t0 ?_
  show WP T N _ _ _ _ (si h w 0 0) _
  generalize e_3 : si h w 0 0 = h_2
  replace k := k h_2 e_3.symm
  refine R_ps 1 (pc2 := 6) (L2 := [some (vr (some w))]) (st2 := [vr (some w)]) rfl ?_
  refine R_cI (as := [vr (some w)]) rfl rfl ⟨Nat.le_of_ble_eq_true rfl, Nat.le_of_ble_eq_true rfl, rfl, (Or.inr ⟨_, rfl, t0⟩)⟩ rfl rfl k (fun x_6 h_5 k => ?_)
  exact R_iret rfl rfl ⟨_, rfl, k⟩
/-- DroneCorridorsModel.isAlike -/
theorem m202 {T N : Nat → Nat} {h : PH} {x0 : Int32} {x1 : Int32} {K : Int32 → PH → Prop} (k : (CI T N 187 [vi x0] h (fun x_3 h_2 => (CI T N 187 [vi x1] h_2 (fun x_6 h_5 => (((x_3 = x_6 → (CI T N 189 [vi x0] h_5 (fun x_11 h_10 => (CI T N 189 [vi x1] h_10 (fun x_14 h_13 => (((x_11 = x_14 → (K 1 h_13)) ∧ (¬ (x_11 = x_14) → (K 0 h_13))))))))) ∧ (¬ (x_3 = x_6) → (K 0 h_5))))))))) : CI T N 202 [vi x0, vi x1] h K := by
  show WP T N 202 0 [some (vi x0), some (vi x1)] [] h _
  refine R_ps 1 (pc2 := 1) (L2 := [some (vi x0), some (vi x1)]) (st2 := [vi x0]) rfl ?_
  refine R_cI (as := [vi x0]) rfl rfl ⟨Nat.le_of_ble_eq_true rfl, Nat.le_of_ble_eq_true rfl, rfl, (Or.inl rfl)⟩ rfl rfl k (fun x_3 h_2 k => ?_)
  refine R_ps 1 (pc2 := 5) (L2 := [some (vi x0), some (vi x1)]) (st2 := [vi x1, vi x_3]) rfl ?_
  refine R_cI (as := [vi x1]) rfl rfl ⟨Nat.le_of_ble_eq_true rfl, Nat.le_of_ble_eq_true rfl, rfl, (Or.inl rfl)⟩ rfl rfl k (fun x_6 h_5 k => ?_)
  refine R_if rfl (fun c_7 => ?_) (fun c_7 => ?_)
  · have k := k.2 c_7
    refine R_ps 1 (pc2 := 27) (L2 := [some (vi x0), some (vi x1)]) (st2 := [vi 0]) rfl ?_
    exact R_zret rfl rfl (Or.inl rfl) ⟨_, rfl, k⟩
  · have k := k.1 (Classical.not_not.mp c_7)
    refine R_ps 1 (pc2 := 12) (L2 := [some (vi x0), some (vi x1)]) (st2 := [vi x0]) rfl ?_
    refine R_cI (as := [vi x0]) rfl rfl ⟨Nat.le_of_ble_eq_true rfl, Nat.le_of_ble_eq_true rfl, rfl, (Or.inl rfl)⟩ rfl rfl k (fun x_11 h_10 k => ?_)
    refine R_ps 1 (pc2 := 16) (L2 := [some (vi x0), some (vi x1)]) (st2 := [vi x1, vi x_11]) rfl ?_
    refine R_cI (as := [vi x1]) rfl rfl ⟨Nat.le_of_ble_eq_true rfl, Nat.le_of_ble_eq_true rfl, rfl, (Or.inl rfl)⟩ rfl rfl k (fun x_14 h_13 k => ?_)
    refine R_if rfl (fun c_15 => ?_) (fun c_15 => ?_)
    · have k := k.2 c_15
      refine R_ps 1 (pc2 := 27) (L2 := [some (vi x0), some (vi x1)]) (st2 := [vi 0]) rfl ?_
      exact R_zret rfl rfl (Or.inl rfl) ⟨_, rfl, k⟩
    · have k := k.1 (Classical.not_not.mp c_15)
      refine R_ps 2 (pc2 := 27) (L2 := [some (vi x0), some (vi x1)]) (st2 := [vi 1]) rfl ?_
      exact R_zret rfl rfl (Or.inr rfl) ⟨_, rfl, k⟩
/-- DroneCorridorsModel.areApart -/
theorem m203 {T N : Nat → Nat} {h : PH} {w : Nat} {x1 : Int32} {x2 : Int32} {K : Int32 → PH → Prop} (t0 : T w = 12) (k : (CI T N 188 [vi x1] h (fun x_3 h_2 => (CI T N 188 [vi x2] h_2 (fun x_6 h_5 => (((x_3 = x_6 → (CI T N 190 [vi x1] h_5 (fun x_27 h_26 => (CI T N 190 [vi x2] h_26 (fun x_30 h_29 => (CI T N 159 [vi (x_27 - x_30)] h_29 (fun x_33 h_32 => (((x_33 < 2 → (K 0 h_32)) ∧ (¬ (x_33 < 2) → (K 1 h_32))))))))))) ∧ (¬ (x_3 = x_6) → (CI T N 191 [vr (some w), vi x1] h_5 (fun x_10 h_9 => (CI T N 190 [vi x2] h_9 (fun x_13 h_12 => (((x_13 < x_10 → (CI T N 191 [vr (some w), vi x2] h_12 (fun x_18 h_17 => (CI T N 190 [vi x1] h_17 (fun x_21 h_20 => (((x_21 < x_18 → (K 0 h_20)) ∧ (¬ (x_21 < x_18) → (K 1 h_20))))))))) ∧ (¬ (x_13 < x_10) → (K 1 h_12)))))))))))))))) : CI T N 203 [vr (some w), vi x1, vi x2] h K := by
  show WP T N 203 0 [some (vr (some w)), some (vi x1), some (vi x2)] [] h _
  refine R_ps 1 (pc2 := 1) (L2 := [some (vr (some w)), some (vi x1), some (vi x2)]) (st2 := [vi x1]) rfl ?_
  refine R_cI (as := [vi x1]) rfl rfl ⟨Nat.le_of_ble_eq_true rfl, Nat.le_of_ble_eq_true rfl, rfl, (Or.inl rfl)⟩ rfl rfl k (fun x_3 h_2 k => ?_)
  refine R_ps 1 (pc2 := 5) (L2 := [some (vr (some w)), some (vi x1), some (vi x2)]) (st2 := [vi x2, vi x_3]) rfl ?_
  refine R_cI (as := [vi x2]) rfl rfl ⟨Nat.le_of_ble_eq_true rfl, Nat.le_of_ble_eq_true rfl, rfl, (Or.inl rfl)⟩ rfl rfl k (fun x_6 h_5 k => ?_)
  refine R_if rfl (fun c_7 => ?_) (fun c_7 => ?_)
  · have k := k.2 c_7
    refine R_ps 2 (pc2 := 35) (L2 := [some (vr (some w)), some (vi x1), some (vi x2)]) (st2 := [vi x1, vr (some w)]) rfl ?_
    refine R_cI (as := [vr (some w), vi x1]) rfl rfl ⟨Nat.le_of_ble_eq_true rfl, Nat.le_of_ble_eq_true rfl, rfl, (Or.inr ⟨_, rfl, t0⟩)⟩ rfl rfl k (fun x_10 h_9 k => ?_)
    refine R_ps 1 (pc2 := 39) (L2 := [some (vr (some w)), some (vi x1), some (vi x2)]) (st2 := [vi x2, vi x_10]) rfl ?_
    refine R_cI (as := [vi x2]) rfl rfl ⟨Nat.le_of_ble_eq_true rfl, Nat.le_of_ble_eq_true rfl, rfl, (Or.inl rfl)⟩ rfl rfl k (fun x_13 h_12 k => ?_)
    refine R_if rfl (fun c_14 => ?_) (fun c_14 => ?_)
    · have k := k.2 (i32_nlt c_14)
      refine R_ps 2 (pc2 := 62) (L2 := [some (vr (some w)), some (vi x1), some (vi x2)]) (st2 := [vi 1]) rfl ?_
      exact R_zret rfl rfl (Or.inr rfl) ⟨_, rfl, k⟩
    · have k := k.1 (i32_lt c_14)
      refine R_ps 2 (pc2 := 47) (L2 := [some (vr (some w)), some (vi x1), some (vi x2)]) (st2 := [vi x2, vr (some w)]) rfl ?_
      refine R_cI (as := [vr (some w), vi x2]) rfl rfl ⟨Nat.le_of_ble_eq_true rfl, Nat.le_of_ble_eq_true rfl, rfl, (Or.inr ⟨_, rfl, t0⟩)⟩ rfl rfl k (fun x_18 h_17 k => ?_)
      refine R_ps 1 (pc2 := 51) (L2 := [some (vr (some w)), some (vi x1), some (vi x2)]) (st2 := [vi x1, vi x_18]) rfl ?_
      refine R_cI (as := [vi x1]) rfl rfl ⟨Nat.le_of_ble_eq_true rfl, Nat.le_of_ble_eq_true rfl, rfl, (Or.inl rfl)⟩ rfl rfl k (fun x_21 h_20 k => ?_)
      refine R_if rfl (fun c_22 => ?_) (fun c_22 => ?_)
      · have k := k.1 c_22
        refine R_ps 1 (pc2 := 62) (L2 := [some (vr (some w)), some (vi x1), some (vi x2)]) (st2 := [vi 0]) rfl ?_
        exact R_zret rfl rfl (Or.inl rfl) ⟨_, rfl, k⟩
      · have k := k.2 c_22
        refine R_ps 2 (pc2 := 62) (L2 := [some (vr (some w)), some (vi x1), some (vi x2)]) (st2 := [vi 1]) rfl ?_
        exact R_zret rfl rfl (Or.inr rfl) ⟨_, rfl, k⟩
  · have k := k.1 (Classical.not_not.mp c_7)
    refine R_ps 1 (pc2 := 12) (L2 := [some (vr (some w)), some (vi x1), some (vi x2)]) (st2 := [vi x1]) rfl ?_
    refine R_cI (as := [vi x1]) rfl rfl ⟨Nat.le_of_ble_eq_true rfl, Nat.le_of_ble_eq_true rfl, rfl, (Or.inl rfl)⟩ rfl rfl k (fun x_27 h_26 k => ?_)
    refine R_ps 1 (pc2 := 16) (L2 := [some (vr (some w)), some (vi x1), some (vi x2)]) (st2 := [vi x2, vi x_27]) rfl ?_
    refine R_cI (as := [vi x2]) rfl rfl ⟨Nat.le_of_ble_eq_true rfl, Nat.le_of_ble_eq_true rfl, rfl, (Or.inl rfl)⟩ rfl rfl k (fun x_30 h_29 k => ?_)
    refine R_ps 1 (pc2 := 20) (L2 := [some (vr (some w)), some (vi x1), some (vi x2)]) (st2 := [vi (x_27 - x_30)]) rfl ?_
    refine R_cI (as := [vi (x_27 - x_30)]) rfl rfl ⟨Nat.le_of_ble_eq_true rfl, Nat.le_of_ble_eq_true rfl, rfl, (Or.inl rfl)⟩ rfl rfl k (fun x_33 h_32 k => ?_)
    refine R_ps 1 (pc2 := 24) (L2 := [some (vr (some w)), some (vi x1), some (vi x2)]) (st2 := [vi 2, vi x_33]) rfl ?_
    refine R_if rfl (fun c_34 => ?_) (fun c_34 => ?_)
    · have k := k.1 c_34
      refine R_ps 1 (pc2 := 32) (L2 := [some (vr (some w)), some (vi x1), some (vi x2)]) (st2 := [vi 0]) rfl ?_
      exact R_zret rfl rfl (Or.inl rfl) ⟨_, rfl, k⟩
    · have k := k.2 c_34
      refine R_ps 2 (pc2 := 32) (L2 := [some (vr (some w)), some (vi x1), some (vi x2)]) (st2 := [vi 1]) rfl ?_
      exact R_zret rfl rfl (Or.inr rfl) ⟨_, rfl, k⟩
/-- DroneCorridorsModel.isSeparated -/
theorem m204 {T N : Nat → Nat} {h : PH} {w : Nat} {x1 : Int32} {x2 : Int32} {K : Int32 → PH → Prop} (k : (WI T N 204 2 [some (vr (some w)), some (vi x1), some (vi x2), some (vi 0), none] [] h K)) : CI T N 204 [vr (some w), vi x1, vi x2] h K := by
  show WP T N 204 0 [some (vr (some w)), some (vi x1), some (vi x2), none, none] [] h _
  refine R_ps 2 (pc2 := 2) (L2 := [some (vr (some w)), some (vi x1), some (vi x2), some (vi 0), none]) (st2 := []) rfl ?_
  exact k
theorem m204_2 {T N : Nat → Nat} {h : PH} {w : Nat} {x1 : Int32} {x2 : Int32} {x3 : Int32} {K : Int32 → PH → Prop} (t0 : T w = 12) (k : (∃ a_3, (gr h w 1) = some a_3 ∧ T a_3 = 22 ∧ inb 117 (N a_3) ∧ ((x3 < (gi h a_3 117) → (WI T N 204 16 [some (vr (some w)), some (vi x1), some (vi x2), some (vi x3), some (vi 0)] [] h K)) ∧ (¬ (x3 < (gi h a_3 117)) → (K 1 h))))) : WI T N 204 2 [some (vr (some w)), some (vi x1), some (vi x2), some (vi x3), none] [] h K := by
  show WP T N 204 2 [some (vr (some w)), some (vi x1), some (vi x2), some (vi x3), none] [] h _
  refine R_ps 2 (pc2 := 4) (L2 := [some (vr (some w)), some (vi x1), some (vi x2), some (vi x3), none]) (st2 := [vr (some w), vi x3]) rfl ?_
  refine R_getR rfl t0 ?_
  refine R_ps 1 (pc2 := 9) (L2 := [some (vr (some w)), some (vi x1), some (vi x2), some (vi x3), none]) (st2 := [vi 117, vr (gr h w 1), vi x3]) rfl ?_
  obtain ⟨a_3, e_4, k⟩ := k
  rw [e_4]
  obtain ⟨t_5, k⟩ := k
  obtain ⟨t_6, k⟩ := k
  refine R_iald rfl (Or.inl t_5) t_6 ?_
  refine R_if rfl (fun c_7 => ?_) (fun c_7 => ?_)
  · have k := k.2 (i32_nlt c_7)
    refine R_ps 1 (pc2 := 76) (L2 := [some (vr (some w)), some (vi x1), some (vi x2), some (vi x3), none]) (st2 := [vi 1]) rfl ?_
    exact R_zret rfl rfl (Or.inr rfl) ⟨_, rfl, k⟩
  · have k := k.1 (i32_lt c_7)
    refine R_ps 2 (pc2 := 16) (L2 := [some (vr (some w)), some (vi x1), some (vi x2), some (vi x3), some (vi 0)]) (st2 := []) rfl ?_
    exact k
theorem m204_16 {T N : Nat → Nat} {h : PH} {w : Nat} {x1 : Int32} {x2 : Int32} {x3 : Int32} {x4 : Int32} {K : Int32 → PH → Prop} (t0 : T w = 12) (k : (((x3 = x1 → (WI T N 204 2 [some (vr (some w)), some (vi x1), some (vi x2), some (vi (x3 + 1)), none] [] h K)) ∧ (¬ (x3 = x1) → (CI T N 168 [vr (some w), vi x3, vi 5] h (fun x_4 h_3 => (((x4 < x_4 → (CI T N 186 [vr (some w), vi x3, vi x4] h_3 (fun x_8 h_7 => (CI T N 202 [vi x2, vi x_8] h_7 (fun x_11 h_10 => (((x_11 = 0 → (WI T N 204 16 [some (vr (some w)), some (vi x1), some (vi x2), some (vi x3), some (vi (x4 + 1))] [] h_10 K)) ∧ (¬ (x_11 = 0) → (CI T N 186 [vr (some w), vi x3, vi x4] h_10 (fun x_15 h_14 => (CI T N 203 [vr (some w), vi x2, vi x_15] h_14 (fun x_18 h_17 => (((x_18 = 0 → (K 0 h_17)) ∧ (¬ (x_18 = 0) → (WI T N 204 16 [some (vr (some w)), some (vi x1), some (vi x2), some (vi x3), some (vi (x4 + 1))] [] h_17 K)))))))))))))))) ∧ (¬ (x4 < x_4) → (WI T N 204 2 [some (vr (some w)), some (vi x1), some (vi x2), some (vi (x3 + 1)), none] [] h_3 K)))))))))) : WI T N 204 16 [some (vr (some w)), some (vi x1), some (vi x2), some (vi x3), some (vi x4)] [] h K := by
  show WP T N 204 16 [some (vr (some w)), some (vi x1), some (vi x2), some (vi x3), some (vi x4)] [] h _
  refine R_ps 2 (pc2 := 18) (L2 := [some (vr (some w)), some (vi x1), some (vi x2), some (vi x3), some (vi x4)]) (st2 := [vi x1, vi x3]) rfl ?_
  refine R_if rfl (fun c_1 => ?_) (fun c_1 => ?_)
  · have k := k.1 c_1
    refine R_ps 2 (pc2 := 2) (L2 := [some (vr (some w)), some (vi x1), some (vi x2), some (vi (x3 + 1)), some (vi x4)]) (st2 := []) rfl ?_
    exact R_drop k (LE_of (L := [some (vr (some w)), some (vi x1), some (vi x2), some (vi (x3 + 1)), none]) (L2 := [some (vr (some w)), some (vi x1), some (vi x2), some (vi (x3 + 1)), some (vi x4)]) ⟨rfl, rfl, rfl, rfl, trivial⟩)
  · have k := k.2 c_1
    refine R_ps 4 (pc2 := 26) (L2 := [some (vr (some w)), some (vi x1), some (vi x2), some (vi x3), some (vi x4)]) (st2 := [vi 5, vi x3, vr (some w), vi x4]) rfl ?_
    refine R_cI (as := [vr (some w), vi x3, vi 5]) rfl rfl ⟨Nat.le_of_ble_eq_true rfl, Nat.le_of_ble_eq_true rfl, rfl, (Or.inr ⟨_, rfl, t0⟩)⟩ rfl rfl k (fun x_4 h_3 k => ?_)
    refine R_if rfl (fun c_5 => ?_) (fun c_5 => ?_)
    · have k := k.2 (i32_nlt c_5)
      refine R_ps 2 (pc2 := 2) (L2 := [some (vr (some w)), some (vi x1), some (vi x2), some (vi (x3 + 1)), some (vi x4)]) (st2 := []) rfl ?_
      exact R_drop k (LE_of (L := [some (vr (some w)), some (vi x1), some (vi x2), some (vi (x3 + 1)), none]) (L2 := [some (vr (some w)), some (vi x1), some (vi x2), some (vi (x3 + 1)), some (vi x4)]) ⟨rfl, rfl, rfl, rfl, trivial⟩)
    · have k := k.1 (i32_lt c_5)
      refine R_ps 4 (pc2 := 37) (L2 := [some (vr (some w)), some (vi x1), some (vi x2), some (vi x3), some (vi x4)]) (st2 := [vi x4, vi x3, vr (some w), vi x2]) rfl ?_
      refine R_cI (as := [vr (some w), vi x3, vi x4]) rfl rfl ⟨Nat.le_of_ble_eq_true rfl, Nat.le_of_ble_eq_true rfl, rfl, (Or.inr ⟨_, rfl, t0⟩)⟩ rfl rfl k (fun x_8 h_7 k => ?_)
      refine R_cI (as := [vi x2, vi x_8]) rfl rfl ⟨Nat.le_of_ble_eq_true rfl, Nat.le_of_ble_eq_true rfl, rfl, (Or.inl rfl)⟩ rfl rfl k (fun x_11 h_10 k => ?_)
      refine R_if0 rfl (fun c_12 => ?_) (fun c_12 => ?_)
      · have k := k.1 c_12
        refine R_ps 2 (pc2 := 16) (L2 := [some (vr (some w)), some (vi x1), some (vi x2), some (vi x3), some (vi (x4 + 1))]) (st2 := []) rfl ?_
        exact k
      · have k := k.2 c_12
        refine R_ps 5 (pc2 := 52) (L2 := [some (vr (some w)), some (vi x1), some (vi x2), some (vi x3), some (vi x4)]) (st2 := [vi x4, vi x3, vr (some w), vi x2, vr (some w)]) rfl ?_
        refine R_cI (as := [vr (some w), vi x3, vi x4]) rfl rfl ⟨Nat.le_of_ble_eq_true rfl, Nat.le_of_ble_eq_true rfl, rfl, (Or.inr ⟨_, rfl, t0⟩)⟩ rfl rfl k (fun x_15 h_14 k => ?_)
        refine R_cI (as := [vr (some w), vi x2, vi x_15]) rfl rfl ⟨Nat.le_of_ble_eq_true rfl, Nat.le_of_ble_eq_true rfl, rfl, (Or.inr ⟨_, rfl, t0⟩)⟩ rfl rfl k (fun x_18 h_17 k => ?_)
        refine R_if0 rfl (fun c_19 => ?_) (fun c_19 => ?_)
        · have k := k.2 c_19
          refine R_ps 2 (pc2 := 16) (L2 := [some (vr (some w)), some (vi x1), some (vi x2), some (vi x3), some (vi (x4 + 1))]) (st2 := []) rfl ?_
          exact k
        · have k := k.1 (Classical.not_not.mp c_19)
          refine R_ps 1 (pc2 := 62) (L2 := [some (vr (some w)), some (vi x1), some (vi x2), some (vi x3), some (vi x4)]) (st2 := [vi 0]) rfl ?_
          exact R_zret rfl rfl (Or.inl rfl) ⟨_, rfl, k⟩
/-- DroneCorridorsModel.legAt -/
theorem m205 {T N : Nat → Nat} {h : PH} {w : Nat} {x1 : Int32} {K : Int32 → PH → Prop} (t0 : T w = 12) (k : (CI T N 192 [vi ((x1 - x1 / 96 * 96) / 6), vi (((x1 - x1 / 96 * 96) / 3) - ((x1 - x1 / 96 * 96) / 3) / 2 * 2), vi ((x1 - x1 / 96 * 96) - (x1 - x1 / 96 * 96) / 3 * 3), vi ((gi h w 18) + (x1 / 96))] h (fun x_10 h_9 => (K x_10 h_9)))) : CI T N 205 [vr (some w), vi x1] h K := by
  show WP T N 205 0 [some (vr (some w)), some (vi x1), none] [] h _
  refine R_ps 2 (pc2 := 3) (L2 := [some (vr (some w)), some (vi x1), none]) (st2 := [vi 96, vi x1]) rfl ?_
  refine R_rem rfl (by decide) ?_
  refine R_ps 3 (pc2 := 8) (L2 := [some (vr (some w)), some (vi x1), some (vi (x1 - x1 / 96 * 96))]) (st2 := [vi 6, vi (x1 - x1 / 96 * 96)]) rfl ?_
  refine R_div rfl (by decide) ?_
  refine R_ps 2 (pc2 := 11) (L2 := [some (vr (some w)), some (vi x1), some (vi (x1 - x1 / 96 * 96))]) (st2 := [vi 3, vi (x1 - x1 / 96 * 96), vi ((x1 - x1 / 96 * 96) / 6)]) rfl ?_
  refine R_div rfl (by decide) ?_
  refine R_ps 1 (pc2 := 13) (L2 := [some (vr (some w)), some (vi x1), some (vi (x1 - x1 / 96 * 96))]) (st2 := [vi 2, vi ((x1 - x1 / 96 * 96) / 3), vi ((x1 - x1 / 96 * 96) / 6)]) rfl ?_
  refine R_rem rfl (by decide) ?_
  refine R_ps 2 (pc2 := 16) (L2 := [some (vr (some w)), some (vi x1), some (vi (x1 - x1 / 96 * 96))]) (st2 := [vi 3, vi (x1 - x1 / 96 * 96), vi (((x1 - x1 / 96 * 96) / 3) - ((x1 - x1 / 96 * 96) / 3) / 2 * 2), vi ((x1 - x1 / 96 * 96) / 6)]) rfl ?_
  refine R_rem rfl (by decide) ?_
  refine R_ps 1 (pc2 := 18) (L2 := [some (vr (some w)), some (vi x1), some (vi (x1 - x1 / 96 * 96))]) (st2 := [vr (some w), vi ((x1 - x1 / 96 * 96) - (x1 - x1 / 96 * 96) / 3 * 3), vi (((x1 - x1 / 96 * 96) / 3) - ((x1 - x1 / 96 * 96) / 3) / 2 * 2), vi ((x1 - x1 / 96 * 96) / 6)]) rfl ?_
  refine R_getI rfl t0 ?_
  refine R_ps 2 (pc2 := 24) (L2 := [some (vr (some w)), some (vi x1), some (vi (x1 - x1 / 96 * 96))]) (st2 := [vi 96, vi x1, vi (gi h w 18), vi ((x1 - x1 / 96 * 96) - (x1 - x1 / 96 * 96) / 3 * 3), vi (((x1 - x1 / 96 * 96) / 3) - ((x1 - x1 / 96 * 96) / 3) / 2 * 2), vi ((x1 - x1 / 96 * 96) / 6)]) rfl ?_
  refine R_div rfl (by decide) ?_
  refine R_ps 1 (pc2 := 26) (L2 := [some (vr (some w)), some (vi x1), some (vi (x1 - x1 / 96 * 96))]) (st2 := [vi ((gi h w 18) + (x1 / 96)), vi ((x1 - x1 / 96 * 96) - (x1 - x1 / 96 * 96) / 3 * 3), vi (((x1 - x1 / 96 * 96) / 3) - ((x1 - x1 / 96 * 96) / 3) / 2 * 2), vi ((x1 - x1 / 96 * 96) / 6)]) rfl ?_
  refine R_cI (as := [vi ((x1 - x1 / 96 * 96) / 6), vi (((x1 - x1 / 96 * 96) / 3) - ((x1 - x1 / 96 * 96) / 3) / 2 * 2), vi ((x1 - x1 / 96 * 96) - (x1 - x1 / 96 * 96) / 3 * 3), vi ((gi h w 18) + (x1 / 96))]) rfl rfl ⟨Nat.le_of_ble_eq_true rfl, Nat.le_of_ble_eq_true rfl, rfl, (Or.inl rfl)⟩ rfl rfl k (fun x_10 h_9 k => ?_)
  exact R_iret rfl rfl ⟨_, rfl, k⟩
