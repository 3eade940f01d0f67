/-! WHAT IS TO BE SHOWN OF EACH METHOD, by program (gen_z.py): 155 to 206 -/
/-- DroneCorridorsModel.<init> -/
theorem z155 {T N : Nat → Nat} {h : PH} {w : Nat} {K : PH → Prop} (t0 : T w = 12) (k : ((T (nx h) = 22 ∧ 449 = (N (nx h) : Int) ∧ N (nx h) ≤ 65536) ∧ ∀ a_3 h_4, a_3 = nx h → h_4 = grow h (N (nx h)) → ∀ h_9, h_9 = sr h_4 w 1 (some a_3) → (T (nx h_9) = 22 ∧ 449 = (N (nx h_9) : Int) ∧ N (nx h_9) ≤ 65536) ∧ ∀ a_12 h_13, a_12 = nx h_9 → h_13 = grow h_9 (N (nx h_9)) → ∀ h_18, h_18 = sr h_13 w 2 (some a_12) → (T (nx h_18) = 22 ∧ 449 = (N (nx h_18) : Int) ∧ N (nx h_18) ≤ 65536) ∧ ∀ a_21 h_22, a_21 = nx h_18 → h_22 = grow h_18 (N (nx h_18)) → ∀ h_27, h_27 = sr h_22 w 3 (some a_21) → (T (nx h_27) = 22 ∧ 449 = (N (nx h_27) : Int) ∧ N (nx h_27) ≤ 65536) ∧ ∀ a_30 h_31, a_30 = nx h_27 → h_31 = grow h_27 (N (nx h_27)) → ∀ h_36, h_36 = sr h_31 w 4 (some a_30) → (T (nx h_36) = 22 ∧ 3592 = (N (nx h_36) : Int) ∧ N (nx h_36) ≤ 65536) ∧ ∀ a_39 h_40, a_39 = nx h_36 → h_40 = grow h_36 (N (nx h_36)) → ∀ h_45, h_45 = sr h_40 w 5 (some a_39) → ∀ h_48, h_48 = wi h_45 w 8 (-1) → (T (nx h_48) = 23 ∧ 60 = (N (nx h_48) : Int) ∧ N (nx h_48) ≤ 65536) ∧ ∀ a_51 h_52, a_51 = nx h_48 → h_52 = grow h_48 (N (nx h_48)) → ∀ h_57, h_57 = sr h_52 w 10 (some a_51) → (T (nx h_57) = 22 ∧ 10 = (N (nx h_57) : Int) ∧ N (nx h_57) ≤ 65536) ∧ ∀ a_60 h_61, a_60 = nx h_57 → h_61 = grow h_57 (N (nx h_57)) → ∀ h_66, h_66 = sr h_61 w 12 (some a_60) → (T (nx h_66) = 22 ∧ 10 = (N (nx h_66) : Int) ∧ N (nx h_66) ≤ 65536) ∧ ∀ a_69 h_70, a_69 = nx h_66 → h_70 = grow h_66 (N (nx h_66)) → ∀ h_75, h_75 = sr h_70 w 13 (some a_69) → (T (nx h_75) = 22 ∧ 3936 = (N (nx h_75) : Int) ∧ N (nx h_75) ≤ 65536) ∧ ∀ a_78 h_79, a_78 = nx h_75 → h_79 = grow h_75 (N (nx h_75)) → ∀ h_84, h_84 = sr h_79 w 14 (some a_78) → (T (nx h_84) = 22 ∧ 3936 = (N (nx h_84) : Int) ∧ N (nx h_84) ≤ 65536) ∧ ∀ a_87 h_88, a_87 = nx h_84 → h_88 = grow h_84 (N (nx h_84)) → ∀ h_93, h_93 = sr h_88 w 15 (some a_87) → (T (nx h_93) = 22 ∧ 30 = (N (nx h_93) : Int) ∧ N (nx h_93) ≤ 65536) ∧ ∀ a_96 h_97, a_96 = nx h_93 → h_97 = grow h_93 (N (nx h_93)) → ∀ h_102, h_102 = sr h_97 w 16 (some a_96) → (T (nx h_102) = 22 ∧ 30 = (N (nx h_102) : Int) ∧ N (nx h_102) ≤ 65536) ∧ ∀ a_105 h_106, a_105 = nx h_102 → h_106 = grow h_102 (N (nx h_102)) → ∀ h_111, h_111 = sr h_106 w 17 (some a_105) → K h_111)) : CV T N 155 [vr (some w)] h K := by
  show WP T N 155 0 [some (vr (some w))] [] h _
  refine R_ps 1 (pc2 := 1) (L2 := [some (vr (some w))]) (st2 := [vr (some w)]) rfl ?_
  refine R_jdk (st2 := []) rfl rfl rfl rfl rfl rfl rfl rfl ?_
  refine R_ps 2 (pc2 := 8) (L2 := [some (vr (some w))]) (st2 := [vi (J 449), vr (some w)]) rfl ?_
  obtain ⟨t_7, k⟩ := k
  refine R_znewa (n := 449) rfl t_7 ?_
  generalize e_6 : grow h (N (nx h)) = h_4
  generalize e_5 : nx h = a_3
  replace k := k a_3 h_4 e_5.symm e_6.symm
  refine R_putR rfl t0 ?_
  show WP T N _ _ _ _ (sr h_4 w 1 (some a_3)) _
  generalize e_10 : sr h_4 w 1 (some a_3) = h_9
  replace k := k h_9 e_10.symm
  refine R_ps 2 (pc2 := 17) (L2 := [some (vr (some w))]) (st2 := [vi (J 449), vr (some w)]) rfl ?_
  obtain ⟨t_16, k⟩ := k
  refine R_znewa (n := 449) rfl t_16 ?_
  generalize e_15 : grow h_9 (N (nx h_9)) = h_13
  generalize e_14 : nx h_9 = a_12
  replace k := k a_12 h_13 e_14.symm e_15.symm
  refine R_putR rfl t0 ?_
  show WP T N _ _ _ _ (sr h_13 w 2 (some a_12)) _
  generalize e_19 : sr h_13 w 2 (some a_12) = h_18
  replace k := k h_18 e_19.symm
  refine R_ps 2 (pc2 := 26) (L2 := [some (vr (some w))]) (st2 := [vi (J 449), vr (some w)]) rfl ?_
  obtain ⟨t_25, k⟩ := k
  refine R_znewa (n := 449) rfl t_25 ?_
  generalize e_24 : grow h_18 (N (nx h_18)) = h_22
  generalize e_23 : nx h_18 = a_21
  replace k := k a_21 h_22 e_23.symm e_24.symm
  refine R_putR rfl t0 ?_
  show WP T N _ _ _ _ (sr h_22 w 3 (some a_21)) _
  generalize e_28 : sr h_22 w 3 (some a_21) = h_27
  replace k := k h_27 e_28.symm
  refine R_ps 2 (pc2 := 35) (L2 := [some (vr (some w))]) (st2 := [vi (J 449), vr (some w)]) rfl ?_
  obtain ⟨t_34, k⟩ := k
  refine R_znewa (n := 449) rfl t_34 ?_
  generalize e_33 : grow h_27 (N (nx h_27)) = h_31
  generalize e_32 : nx h_27 = a_30
  replace k := k a_30 h_31 e_32.symm e_33.symm
  refine R_putR rfl t0 ?_
  show WP T N _ _ _ _ (sr h_31 w 4 (some a_30)) _
  generalize e_37 : sr h_31 w 4 (some a_30) = h_36
  replace k := k h_36 e_37.symm
  refine R_ps 2 (pc2 := 44) (L2 := [some (vr (some w))]) (st2 := [vi (J 3592), vr (some w)]) rfl ?_
  obtain ⟨t_43, k⟩ := k
  refine R_znewa (n := 3592) rfl t_43 ?_
  generalize e_42 : grow h_36 (N (nx h_36)) = h_40
  generalize e_41 : nx h_36 = a_39
  replace k := k a_39 h_40 e_41.symm e_42.symm
  refine R_putR rfl t0 ?_
  show WP T N _ _ _ _ (sr h_40 w 5 (some a_39)) _
  generalize e_46 : sr h_40 w 5 (some a_39) = h_45
  replace k := k h_45 e_46.symm
  refine R_ps 2 (pc2 := 51) (L2 := [some (vr (some w))]) (st2 := [vi (J (-1)), vr (some w)]) rfl ?_
  refine R_zputI (x := (-1)) (z := 8) rfl t0 rfl ?_
  show WP T N _ _ _ _ (wi h_45 w 8 (-1)) _
  generalize e_49 : wi h_45 w 8 (-1) = h_48
  replace k := k h_48 e_49.symm
  refine R_ps 2 (pc2 := 57) (L2 := [some (vr (some w))]) (st2 := [vi (J 60), vr (some w)]) rfl ?_
  obtain ⟨t_55, k⟩ := k
  refine R_znewa (n := 60) rfl t_55 ?_
  generalize e_54 : grow h_48 (N (nx h_48)) = h_52
  generalize e_53 : nx h_48 = a_51
  replace k := k a_51 h_52 e_53.symm e_54.symm
  refine R_putR rfl t0 ?_
  show WP T N _ _ _ _ (sr h_52 w 10 (some a_51)) _
  generalize e_58 : sr h_52 w 10 (some a_51) = h_57
  replace k := k h_57 e_58.symm
  refine R_ps 2 (pc2 := 65) (L2 := [some (vr (some w))]) (st2 := [vi (J 10), vr (some w)]) rfl ?_
  obtain ⟨t_64, k⟩ := k
  refine R_znewa (n := 10) rfl t_64 ?_
  generalize e_63 : grow h_57 (N (nx h_57)) = h_61
  generalize e_62 : nx h_57 = a_60
  replace k := k a_60 h_61 e_62.symm e_63.symm
  refine R_putR rfl t0 ?_
  show WP T N _ _ _ _ (sr h_61 w 12 (some a_60)) _
  generalize e_67 : sr h_61 w 12 (some a_60) = h_66
  replace k := k h_66 e_67.symm
  refine R_ps 2 (pc2 := 73) (L2 := [some (vr (some w))]) (st2 := [vi (J 10), vr (some w)]) rfl ?_
  obtain ⟨t_73, k⟩ := k
  refine R_znewa (n := 10) rfl t_73 ?_
  generalize e_72 : grow h_66 (N (nx h_66)) = h_70
  generalize e_71 : nx h_66 = a_69
  replace k := k a_69 h_70 e_71.symm e_72.symm
  refine R_putR rfl t0 ?_
  show WP T N _ _ _ _ (sr h_70 w 13 (some a_69)) _
  generalize e_76 : sr h_70 w 13 (some a_69) = h_75
  replace k := k h_75 e_76.symm
  refine R_ps 2 (pc2 := 82) (L2 := [some (vr (some w))]) (st2 := [vi (J 3936), vr (some w)]) rfl ?_
  obtain ⟨t_82, k⟩ := k
  refine R_znewa (n := 3936) rfl t_82 ?_
  generalize e_81 : grow h_75 (N (nx h_75)) = h_79
  generalize e_80 : nx h_75 = a_78
  replace k := k a_78 h_79 e_80.symm e_81.symm
  refine R_putR rfl t0 ?_
  show WP T N _ _ _ _ (sr h_79 w 14 (some a_78)) _
  generalize e_85 : sr h_79 w 14 (some a_78) = h_84
  replace k := k h_84 e_85.symm
  refine R_ps 2 (pc2 := 91) (L2 := [some (vr (some w))]) (st2 := [vi (J 3936), vr (some w)]) rfl ?_
  obtain ⟨t_91, k⟩ := k
  refine R_znewa (n := 3936) rfl t_91 ?_
  generalize e_90 : grow h_84 (N (nx h_84)) = h_88
  generalize e_89 : nx h_84 = a_87
  replace k := k a_87 h_88 e_89.symm e_90.symm
  refine R_putR rfl t0 ?_
  show WP T N _ _ _ _ (sr h_88 w 15 (some a_87)) _
  generalize e_94 : sr h_88 w 15 (some a_87) = h_93
  replace k := k h_93 e_94.symm
  refine R_ps 2 (pc2 := 99) (L2 := [some (vr (some w))]) (st2 := [vi (J 30), vr (some w)]) rfl ?_
  obtain ⟨t_100, k⟩ := k
  refine R_znewa (n := 30) rfl t_100 ?_
  generalize e_99 : grow h_93 (N (nx h_93)) = h_97
  generalize e_98 : nx h_93 = a_96
  replace k := k a_96 h_97 e_98.symm e_99.symm
  refine R_putR rfl t0 ?_
  show WP T N _ _ _ _ (sr h_97 w 16 (some a_96)) _
  generalize e_103 : sr h_97 w 16 (some a_96) = h_102
  replace k := k h_102 e_103.symm
  refine R_ps 2 (pc2 := 107) (L2 := [some (vr (some w))]) (st2 := [vi (J 30), vr (some w)]) rfl ?_
  obtain ⟨t_109, k⟩ := k
  refine R_znewa (n := 30) rfl t_109 ?_
  generalize e_108 : grow h_102 (N (nx h_102)) = h_106
  generalize e_107 : nx h_102 = a_105
  replace k := k a_105 h_106 e_107.symm e_108.symm
  refine R_putR rfl t0 ?_
  show WP T N _ _ _ _ (sr h_106 w 17 (some a_105)) _
  generalize e_112 : sr h_106 w 17 (some a_105) = h_111
  replace k := k h_111 e_112.symm
  exact R_ret rfl rfl ⟨rfl, k⟩
/-- DroneCorridorsModel.thrown -/
theorem z156 {T N : Nat → Nat} {h : PH} {w : Nat} {K : Int → PH → Prop} (t0 : T w = 12) (k : (K (ai h w 0) h)) : ZI T N 156 [vr (some w)] h K := by
  show WP T N 156 0 [some (vr (some w))] [] h _
  refine R_ps 1 (pc2 := 1) (L2 := [some (vr (some w))]) (st2 := [vr (some w)]) rfl ?_
  refine R_zgetI (z := 0) rfl t0 rfl ?_
  exact R_iret rfl rfl (R_zr (x := ai h w 0) (K := K) (ai_in _ _ _) k)
/-- DroneCorridorsModel.no -/
theorem z157 {T N : Nat → Nat} {h : PH} {w : Nat} {x1 : Int} {K : Int → PH → Prop} (t0 : T w = 12) (r1 : In x1) (k : (∀ h_2, h_2 = wi h w 0 x1 → K 0 h_2)) : ZI T N 157 [vr (some w), vi (J x1)] h K := by
  show WP T N 157 0 [some (vr (some w)), some (vi (J x1))] [] h _
  refine R_ps 2 (pc2 := 2) (L2 := [some (vr (some w)), some (vi (J x1))]) (st2 := [vi (J x1), vr (some w)]) rfl ?_
  refine R_zputI (x := x1) (z := 0) rfl t0 rfl ?_
  show WP T N _ _ _ _ (wi h w 0 x1) _
  generalize e_3 : wi h w 0 x1 = h_2
  replace k := k h_2 e_3.symm
  refine R_ps 1 (pc2 := 6) (L2 := [some (vr (some w)), some (vi (J x1))]) (st2 := [vi (J 0)]) rfl ?_
  exact R_iret rfl rfl (R_zr (x := 0) (K := K) (by decide) k)
/-- DroneCorridorsModel.isIn -/
theorem z158 {T N : Nat → Nat} {h : PH} {x0 : Int} {x1 : Int} {x2 : Int} {K : Int → PH → Prop} (r0 : In x0) (r1 : In x1) (r2 : In x2) (k : (((x0 < x1 → (K 0 h)) ∧ (¬ (x0 < x1) → (((x2 < x0 → (K 0 h)) ∧ (¬ (x2 < x0) → (K 1 h)))))))) : ZI T N 158 [vi (J x0), vi (J x1), vi (J x2)] h K := by
  show WP T N 158 0 [some (vi (J x0)), some (vi (J x1)), some (vi (J x2))] [] h _
  refine R_ps 2 (pc2 := 2) (L2 := [some (vi (J x0)), some (vi (J x1)), some (vi (J x2))]) (st2 := [vi (J x1), vi (J x0)]) rfl ?_
  refine R_zif (x := x0) (z := x1) rfl r0 r1 (fun c_1 => ?_) (fun c_1 => ?_)
  · have k := k.1 c_1
    refine R_ps 1 (pc2 := 15) (L2 := [some (vi (J x0)), some (vi (J x1)), some (vi (J x2))]) (st2 := [vi (J 0)]) rfl ?_
    exact R_zzret (x := 0) rfl rfl (Or.inl rfl) (R_zr (x := 0) (K := K) (by decide) k)
  · have k := k.2 c_1
    refine R_ps 2 (pc2 := 7) (L2 := [some (vi (J x0)), some (vi (J x1)), some (vi (J x2))]) (st2 := [vi (J x2), vi (J x0)]) rfl ?_
    refine R_zif (x := x0) (z := x2) rfl r0 r2 (fun c_3 => ?_) (fun c_3 => ?_)
    · have k := k.1 c_3
      refine R_ps 1 (pc2 := 15) (L2 := [some (vi (J x0)), some (vi (J x1)), some (vi (J x2))]) (st2 := [vi (J 0)]) rfl ?_
      exact R_zzret (x := 0) rfl rfl (Or.inl rfl) (R_zr (x := 0) (K := K) (by decide) k)
    · have k := k.2 c_3
      refine R_ps 2 (pc2 := 15) (L2 := [some (vi (J x0)), some (vi (J x1)), some (vi (J x2))]) (st2 := [vi (J 1)]) rfl ?_
      exact R_zzret (x := 1) rfl rfl (Or.inr rfl) (R_zr (x := 1) (K := K) (by decide) k)
/-- DroneCorridorsModel.abs -/
theorem z159 {T N : Nat → Nat} {h : PH} {x0 : Int} {K : Int → PH → Prop} (r0 : In x0) (k : (((x0 < 0 → (In (-x0) ∧ K (-x0) h)) ∧ (¬ (x0 < 0) → (K x0 h))))) : ZI T N 159 [vi (J x0)] h K := by
  show WP T N 159 0 [some (vi (J x0))] [] h _
  refine R_ps 1 (pc2 := 1) (L2 := [some (vi (J x0))]) (st2 := [vi (J x0)]) rfl ?_
  refine R_zif0 (x := x0) rfl r0 (fun c_1 => ?_) (fun c_1 => ?_)
  · have k := k.2 c_1
    refine R_ps 1 (pc2 := 10) (L2 := [some (vi (J x0))]) (st2 := [vi (J x0)]) rfl ?_
    exact R_iret rfl rfl (R_zr (x := x0) (K := K) r0 k)
  · have k := k.1 (Classical.not_not.mp c_1)
    refine R_ps 3 (pc2 := 10) (L2 := [some (vi (J x0))]) (st2 := [vi (-(J x0))]) rfl ?_
    rw [show (-(J x0)) = J (-x0) from J_neg' rfl]
    obtain ⟨t_4, k⟩ := k
    exact R_iret rfl rfl (R_zr (x := -x0) (K := K) t_4 k)
/-- DroneCorridorsModel.keeps -/
theorem z160 {T N : Nat → Nat} {h : PH} {w : Nat} {K : PH → Prop} (t0 : T w = 12) (k : ((((ai h w 6) = 8 → (WV T N 160 11 [some (vr (some w)), some (vi (J 0))] [] h K)) ∧ (¬ ((ai h w 6) = 8) → (WV T N 160 52 [some (vr (some w)), some (vi (J 0))] [] h K))))) : CV T N 160 [vr (some w)] h K := by
  show WP T N 160 0 [some (vr (some w)), none] [] h _
  refine R_ps 1 (pc2 := 1) (L2 := [some (vr (some w)), none]) (st2 := [vr (some w)]) rfl ?_
  refine R_zgetI (z := 6) rfl t0 rfl ?_
  refine R_ps 1 (pc2 := 6) (L2 := [some (vr (some w)), none]) (st2 := [vi (J 8), vi (J (ai h w 6))]) rfl ?_
  refine R_zif (x := ai h w 6) (z := 8) rfl (ai_in _ _ _) (by decide) (fun c_2 => ?_) (fun c_2 => ?_)
  · have k := k.2 c_2
    refine R_ps 2 (pc2 := 52) (L2 := [some (vr (some w)), some (vi (J 0))]) (st2 := []) rfl ?_
    exact k
  · have k := k.1 (Classical.not_not.mp c_2)
    refine R_ps 2 (pc2 := 11) (L2 := [some (vr (some w)), some (vi (J 0))]) (st2 := []) rfl ?_
    exact k
theorem z160_11 {T N : Nat → Nat} {h : PH} {w : Nat} {x1 : Int} {K : PH → Prop} (t0 : T w = 12) (r1 : In x1) (k : (((x1 < 3143 → (∃ a_9, (gr h w 5) = some a_9 ∧ T a_9 = 22 ∧ (0 ≤ (x1 + 449) ∧ (x1 + 449) < (N a_9 : Int) ∧ (x1 + 449) < 2147483648) ∧ (0 ≤ x1 ∧ x1 < (N a_9 : Int) ∧ x1 < 2147483648) ∧ ∀ h_14, h_14 = wi h a_9 x1 (ai h a_9 (x1 + 449)) → WV T N 160 11 [some (vr (some w)), some (vi (J (x1 + 1)))] [] h_14 K)) ∧ (¬ (x1 < 3143) → (∀ h_4, h_4 = wi h w 6 ((ai h w 6) - 1) → WV T N 160 52 [some (vr (some w)), some (vi (J 0))] [] h_4 K))))) : WV T N 160 11 [some (vr (some w)), some (vi (J x1))] [] h K := by
  show WP T N 160 11 [some (vr (some w)), some (vi (J x1))] [] h _
  refine R_ps 2 (pc2 := 15) (L2 := [some (vr (some w)), some (vi (J x1))]) (st2 := [vi (J 3143), vi (J x1)]) rfl ?_
  refine R_zif (x := x1) (z := 3143) rfl r1 (by decide) (fun c_1 => ?_) (fun c_1 => ?_)
  · have k := k.2 c_1
    refine R_ps 2 (pc2 := 42) (L2 := [some (vr (some w)), some (vi (J x1))]) (st2 := [vr (some w), vr (some w)]) rfl ?_
    refine R_zgetI (z := 6) rfl t0 rfl ?_
    refine R_ps 2 (pc2 := 47) (L2 := [some (vr (some w)), some (vi (J x1))]) (st2 := [vi ((J (ai h w 6)) - (J 1)), vr (some w)]) rfl ?_
    rw [show ((J (ai h w 6)) - (J 1)) = J ((ai h w 6) - 1) from J_sub' rfl rfl]
    refine R_zputI (x := (ai h w 6) - 1) (z := 6) rfl t0 rfl ?_
    show WP T N _ _ _ _ (wi h w 6 ((ai h w 6) - 1)) _
    generalize e_5 : wi h w 6 ((ai h w 6) - 1) = h_4
    replace k := k h_4 e_5.symm
    refine R_ps 2 (pc2 := 52) (L2 := [some (vr (some w)), some (vi (J 0))]) (st2 := []) rfl ?_
    exact k
  · have k := k.1 (Classical.not_not.mp c_1)
    refine R_ps 1 (pc2 := 19) (L2 := [some (vr (some w)), some (vi (J x1))]) (st2 := [vr (some w)]) rfl ?_
    refine R_getR rfl t0 ?_
    refine R_ps 2 (pc2 := 24) (L2 := [some (vr (some w)), some (vi (J x1))]) (st2 := [vr (some w), vi (J x1), vr (gr h w 5)]) rfl ?_
    refine R_getR rfl t0 ?_
    refine R_ps 3 (pc2 := 32) (L2 := [some (vr (some w)), some (vi (J x1))]) (st2 := [vi ((J x1) + (J 449)), vr (gr h w 5), vi (J x1), vr (gr h w 5)]) rfl ?_
    rw [show ((J x1) + (J 449)) = J (x1 + 449) from J_add' rfl rfl]
    obtain ⟨a_9, e_10, k⟩ := k
    rw [e_10]
    obtain ⟨t_11, k⟩ := k
    obtain ⟨t_12, k⟩ := k
    refine R_ziald (i := x1 + 449) rfl (Or.inl t_11) t_12 ?_
    obtain ⟨t_16, k⟩ := k
    refine R_ziast (i := x1) (x := ai h a_9 (x1 + 449)) rfl t_11 t_16  ?_
    show WP T N _ _ _ _ (wi h a_9 x1 (ai h a_9 (x1 + 449))) _
    generalize e_15 : wi h a_9 x1 (ai h a_9 (x1 + 449)) = h_14
    replace k := k h_14 e_15.symm
    refine R_ps 2 (pc2 := 11) (L2 := [some (vr (some w)), some (vi ((J x1) + J 1))]) (st2 := []) rfl ?_
    rw [show ((J x1) + J 1) = J (x1 + 1) from J_add' rfl rfl]
    exact k
theorem z160_52 {T N : Nat → Nat} {h : PH} {w : Nat} {x1 : Int} {K : PH → Prop} (t0 : T w = 12) (r1 : In x1) (k : (((x1 < 449 → (∃ a_11, (gr h w 1) = some a_11 ∧ T a_11 = 22 ∧ (0 ≤ x1 ∧ x1 < (N a_11 : Int) ∧ x1 < 2147483648) ∧ ∃ a_16, (gr h w 5) = some a_16 ∧ T a_16 = 22 ∧ (0 ≤ (((ai h w 6) * 449) + x1) ∧ (((ai h w 6) * 449) + x1) < (N a_16 : Int) ∧ (((ai h w 6) * 449) + x1) < 2147483648) ∧ ∀ h_18, h_18 = wi h a_16 (((ai h w 6) * 449) + x1) (ai h a_11 x1) → WV T N 160 52 [some (vr (some w)), some (vi (J (x1 + 1)))] [] h_18 K)) ∧ (¬ (x1 < 449) → (∀ h_4, h_4 = wi h w 6 ((ai h w 6) + 1) → K h_4))))) : WV T N 160 52 [some (vr (some w)), some (vi (J x1))] [] h K := by
  show WP T N 160 52 [some (vr (some w)), some (vi (J x1))] [] h _
  refine R_ps 2 (pc2 := 56) (L2 := [some (vr (some w)), some (vi (J x1))]) (st2 := [vi (J 449), vi (J x1)]) rfl ?_
  refine R_zif (x := x1) (z := 449) rfl r1 (by decide) (fun c_1 => ?_) (fun c_1 => ?_)
  · have k := k.2 c_1
    refine R_ps 2 (pc2 := 88) (L2 := [some (vr (some w)), some (vi (J x1))]) (st2 := [vr (some w), vr (some w)]) rfl ?_
    refine R_zgetI (z := 6) rfl t0 rfl ?_
    refine R_ps 2 (pc2 := 93) (L2 := [some (vr (some w)), some (vi (J x1))]) (st2 := [vi ((J (ai h w 6)) + (J 1)), vr (some w)]) rfl ?_
    rw [show ((J (ai h w 6)) + (J 1)) = J ((ai h w 6) + 1) from J_add' rfl rfl]
    refine R_zputI (x := (ai h w 6) + 1) (z := 6) rfl t0 rfl ?_
    show WP T N _ _ _ _ (wi h w 6 ((ai h w 6) + 1)) _
    generalize e_5 : wi h w 6 ((ai h w 6) + 1) = h_4
    replace k := k h_4 e_5.symm
    exact R_ret rfl rfl ⟨rfl, k⟩
  · have k := k.1 (Classical.not_not.mp c_1)
    refine R_ps 1 (pc2 := 60) (L2 := [some (vr (some w)), some (vi (J x1))]) (st2 := [vr (some w)]) rfl ?_
    refine R_getR rfl t0 ?_
    refine R_ps 1 (pc2 := 64) (L2 := [some (vr (some w)), some (vi (J x1))]) (st2 := [vr (some w), vr (gr h w 5)]) rfl ?_
    refine R_zgetI (z := 6) rfl t0 rfl ?_
    refine R_ps 5 (pc2 := 74) (L2 := [some (vr (some w)), some (vi (J x1))]) (st2 := [vr (some w), vi (((J (ai h w 6)) * (J 449)) + (J x1)), vr (gr h w 5)]) rfl ?_
    rw [show (((J (ai h w 6)) * (J 449)) + (J x1)) = J (((ai h w 6) * 449) + x1) from J_add' (J_mul' rfl rfl) rfl]
    refine R_getR rfl t0 ?_
    refine R_ps 1 (pc2 := 78) (L2 := [some (vr (some w)), some (vi (J x1))]) (st2 := [vi (J x1), vr (gr h w 1), vi (J (((ai h w 6) * 449) + x1)), vr (gr h w 5)]) rfl ?_
    obtain ⟨a_11, e_12, k⟩ := k
    rw [e_12]
    obtain ⟨t_13, k⟩ := k
    obtain ⟨t_14, k⟩ := k
    refine R_ziald (i := x1) rfl (Or.inl t_13) t_14 ?_
    obtain ⟨a_16, e_17, k⟩ := k
    rw [e_17]
    obtain ⟨t_20, k⟩ := k
    obtain ⟨t_21, k⟩ := k
    refine R_ziast (i := ((ai h w 6) * 449) + x1) (x := ai h a_11 x1) rfl t_20 t_21  ?_
    show WP T N _ _ _ _ (wi h a_16 (((ai h w 6) * 449) + x1) (ai h a_11 x1)) _
    generalize e_19 : wi h a_16 (((ai h w 6) * 449) + x1) (ai h a_11 x1) = h_18
    replace k := k h_18 e_19.symm
    refine R_ps 2 (pc2 := 52) (L2 := [some (vr (some w)), some (vi ((J x1) + J 1))]) (st2 := []) rfl ?_
    rw [show ((J x1) + J 1) = J (x1 + 1) from J_add' rfl rfl]
    exact k
/-- DroneCorridorsModel.copies -/
theorem z161 {T N : Nat → Nat} {h : PH} {a0 : Nat} {a1 : Nat} {K : PH → Prop} (k : (WV T N 161 2 [some (vr (some a0)), some (vr (some a1)), some (vi (J 0))] [] h K)) : CV T N 161 [vr (some a0), vr (some a1)] h K := by
  show WP T N 161 0 [some (vr (some a0)), some (vr (some a1)), none] [] h _
  refine R_ps 2 (pc2 := 2) (L2 := [some (vr (some a0)), some (vr (some a1)), some (vi (J 0))]) (st2 := []) rfl ?_
  exact k
theorem z161_2 {T N : Nat → Nat} {h : PH} {a0 : Nat} {a1 : Nat} {x2 : Int} {K : PH → Prop} (t0 : T a0 = 22) (t1 : T a1 = 22) (r2 : In x2) (k : (((x2 < 449 → ((0 ≤ x2 ∧ x2 < (N a0 : Int) ∧ x2 < 2147483648) ∧ (0 ≤ x2 ∧ x2 < (N a1 : Int) ∧ x2 < 2147483648) ∧ ∀ h_6, h_6 = wi h a1 x2 (ai h a0 x2) → WV T N 161 2 [some (vr (some a0)), some (vr (some a1)), some (vi (J (x2 + 1)))] [] h_6 K)) ∧ (¬ (x2 < 449) → (K h))))) : WV T N 161 2 [some (vr (some a0)), some (vr (some a1)), some (vi (J x2))] [] h K := by
  show WP T N 161 2 [some (vr (some a0)), some (vr (some a1)), some (vi (J x2))] [] h _
  refine R_ps 2 (pc2 := 6) (L2 := [some (vr (some a0)), some (vr (some a1)), some (vi (J x2))]) (st2 := [vi (J 449), vi (J x2)]) rfl ?_
  refine R_zif (x := x2) (z := 449) rfl r2 (by decide) (fun c_1 => ?_) (fun c_1 => ?_)
  · have k := k.2 c_1
    exact R_ret rfl rfl ⟨rfl, k⟩
  · have k := k.1 (Classical.not_not.mp c_1)
    refine R_ps 4 (pc2 := 13) (L2 := [some (vr (some a0)), some (vr (some a1)), some (vi (J x2))]) (st2 := [vi (J x2), vr (some a0), vi (J x2), vr (some a1)]) rfl ?_
    obtain ⟨t_4, k⟩ := k
    refine R_ziald (i := x2) rfl (Or.inl t0) t_4 ?_
    obtain ⟨t_8, k⟩ := k
    refine R_ziast (i := x2) (x := ai h a0 x2) rfl t1 t_8  ?_
    show WP T N _ _ _ _ (wi h a1 x2 (ai h a0 x2)) _
    generalize e_7 : wi h a1 x2 (ai h a0 x2) = h_6
    replace k := k h_6 e_7.symm
    refine R_ps 2 (pc2 := 2) (L2 := [some (vr (some a0)), some (vr (some a1)), some (vi ((J x2) + J 1))]) (st2 := []) rfl ?_
    rw [show ((J x2) + J 1) = J (x2 + 1) from J_add' rfl rfl]
    exact k
/-- DroneCorridorsModel.isNode -/
theorem z162 {T N : Nat → Nat} {h : PH} {w : Nat} {x1 : Int} {K : Int → PH → Prop} (t0 : T w = 12) (r1 : In x1) (k : (∃ a_3, (gr h w 1) = some a_3 ∧ T a_3 = 22 ∧ (0 ≤ (0 : Int) ∧ (0 : Int) < (N a_3 : Int) ∧ (0 : Int) < 2147483648) ∧ ZI T N 158 [vi (J x1), vi (J 0), vi (J ((ai h a_3 0) - 1))] h (fun x_9 h_8 => ((x_9 = 0 ∨ x_9 = 1) ∧ K x_9 h_8)))) : ZI T N 162 [vr (some w), vi (J x1)] h K := by
  show WP T N 162 0 [some (vr (some w)), some (vi (J x1))] [] h _
  refine R_ps 3 (pc2 := 3) (L2 := [some (vr (some w)), some (vi (J x1))]) (st2 := [vr (some w), vi (J 0), vi (J x1)]) rfl ?_
  refine R_getR rfl t0 ?_
  refine R_ps 1 (pc2 := 7) (L2 := [some (vr (some w)), some (vi (J x1))]) (st2 := [vi (J 0), vr (gr h w 1), vi (J 0), vi (J x1)]) rfl ?_
  obtain ⟨a_3, e_4, k⟩ := k
  rw [e_4]
  obtain ⟨t_5, k⟩ := k
  obtain ⟨t_6, k⟩ := k
  refine R_ziald (i := 0) rfl (Or.inl t_5) t_6 ?_
  refine R_ps 2 (pc2 := 10) (L2 := [some (vr (some w)), some (vi (J x1))]) (st2 := [vi ((J (ai h a_3 0)) - (J 1)), vi (J 0), vi (J x1)]) rfl ?_
  rw [show ((J (ai h a_3 0)) - (J 1)) = J ((ai h a_3 0) - 1) from J_sub' rfl rfl]
  refine R_zcI (as := [vi (J x1), vi (J 0), vi (J ((ai h a_3 0) - 1))]) rfl rfl ⟨Nat.le_of_ble_eq_true rfl, Nat.le_of_ble_eq_true rfl, rfl, (Or.inl rfl)⟩ rfl rfl k (fun x_9 h_8 r_10 k => ?_)
  obtain ⟨t_12, k⟩ := k
  exact R_zzret (x := x_9) rfl rfl t_12 (R_zr (x := x_9) (K := K) r_10 k)
/-- DroneCorridorsModel.isCorridor -/
theorem z163 {T N : Nat → Nat} {h : PH} {w : Nat} {x1 : Int} {K : Int → PH → Prop} (t0 : T w = 12) (r1 : In x1) (k : (∃ a_3, (gr h w 1) = some a_3 ∧ T a_3 = 22 ∧ (0 ≤ (11 : Int) ∧ (11 : Int) < (N a_3 : Int) ∧ (11 : Int) < 2147483648) ∧ ZI T N 158 [vi (J x1), vi (J 0), vi (J ((ai h a_3 11) - 1))] h (fun x_9 h_8 => ((x_9 = 0 ∨ x_9 = 1) ∧ K x_9 h_8)))) : ZI T N 163 [vr (some w), vi (J x1)] h K := by
  show WP T N 163 0 [some (vr (some w)), some (vi (J x1))] [] h _
  refine R_ps 3 (pc2 := 3) (L2 := [some (vr (some w)), some (vi (J x1))]) (st2 := [vr (some w), vi (J 0), vi (J x1)]) rfl ?_
  refine R_getR rfl t0 ?_
  refine R_ps 1 (pc2 := 8) (L2 := [some (vr (some w)), some (vi (J x1))]) (st2 := [vi (J 11), vr (gr h w 1), vi (J 0), vi (J x1)]) rfl ?_
  obtain ⟨a_3, e_4, k⟩ := k
  rw [e_4]
  obtain ⟨t_5, k⟩ := k
  obtain ⟨t_6, k⟩ := k
  refine R_ziald (i := 11) rfl (Or.inl t_5) t_6 ?_
  refine R_ps 2 (pc2 := 11) (L2 := [some (vr (some w)), some (vi (J x1))]) (st2 := [vi ((J (ai h a_3 11)) - (J 1)), vi (J 0), vi (J x1)]) rfl ?_
  rw [show ((J (ai h a_3 11)) - (J 1)) = J ((ai h a_3 11) - 1) from J_sub' rfl rfl]
  refine R_zcI (as := [vi (J x1), vi (J 0), vi (J ((ai h a_3 11) - 1))]) rfl rfl ⟨Nat.le_of_ble_eq_true rfl, Nat.le_of_ble_eq_true rfl, rfl, (Or.inl rfl)⟩ rfl rfl k (fun x_9 h_8 r_10 k => ?_)
  obtain ⟨t_12, k⟩ := k
  exact R_zzret (x := x_9) rfl rfl t_12 (R_zr (x := x_9) (K := K) r_10 k)
/-- DroneCorridorsModel.isDrone -/
theorem z164 {T N : Nat → Nat} {h : PH} {w : Nat} {x1 : Int} {K : Int → PH → Prop} (t0 : T w = 12) (r1 : In x1) (k : (∃ a_3, (gr h w 1) = some a_3 ∧ T a_3 = 22 ∧ (0 ≤ (117 : Int) ∧ (117 : Int) < (N a_3 : Int) ∧ (117 : Int) < 2147483648) ∧ ZI T N 158 [vi (J x1), vi (J 0), vi (J ((ai h a_3 117) - 1))] h (fun x_9 h_8 => ((x_9 = 0 ∨ x_9 = 1) ∧ K x_9 h_8)))) : ZI T N 164 [vr (some w), vi (J x1)] h K := by
  show WP T N 164 0 [some (vr (some w)), some (vi (J x1))] [] h _
  refine R_ps 3 (pc2 := 3) (L2 := [some (vr (some w)), some (vi (J x1))]) (st2 := [vr (some w), vi (J 0), vi (J x1)]) rfl ?_
  refine R_getR rfl t0 ?_
  refine R_ps 1 (pc2 := 8) (L2 := [some (vr (some w)), some (vi (J x1))]) (st2 := [vi (J 117), vr (gr h w 1), vi (J 0), vi (J x1)]) rfl ?_
  obtain ⟨a_3, e_4, k⟩ := k
  rw [e_4]
  obtain ⟨t_5, k⟩ := k
  obtain ⟨t_6, k⟩ := k
  refine R_ziald (i := 117) rfl (Or.inl t_5) t_6 ?_
  refine R_ps 2 (pc2 := 11) (L2 := [some (vr (some w)), some (vi (J x1))]) (st2 := [vi ((J (ai h a_3 117)) - (J 1)), vi (J 0), vi (J x1)]) rfl ?_
  rw [show ((J (ai h a_3 117)) - (J 1)) = J ((ai h a_3 117) - 1) from J_sub' rfl rfl]
  refine R_zcI (as := [vi (J x1), vi (J 0), vi (J ((ai h a_3 117) - 1))]) rfl rfl ⟨Nat.le_of_ble_eq_true rfl, Nat.le_of_ble_eq_true rfl, rfl, (Or.inl rfl)⟩ rfl rfl k (fun x_9 h_8 r_10 k => ?_)
  obtain ⟨t_12, k⟩ := k
  exact R_zzret (x := x_9) rfl rfl t_12 (R_zr (x := x_9) (K := K) r_10 k)
/-- DroneCorridorsModel.end -/
theorem z165 {T N : Nat → Nat} {h : PH} {w : Nat} {x1 : Int} {x2 : Int} {K : Int → PH → Prop} (t0 : T w = 12) (r1 : In x1) (r2 : In x2) (k : (∃ a_3, (gr h w 1) = some a_3 ∧ T a_3 = 22 ∧ (0 ≤ ((12 + (4 * x1)) + x2) ∧ ((12 + (4 * x1)) + x2) < (N a_3 : Int) ∧ ((12 + (4 * x1)) + x2) < 2147483648) ∧ K (ai h a_3 ((12 + (4 * x1)) + x2)) h)) : ZI T N 165 [vr (some w), vi (J x1), vi (J x2)] h K := by
  show WP T N 165 0 [some (vr (some w)), some (vi (J x1)), some (vi (J x2))] [] h _
  refine R_ps 1 (pc2 := 1) (L2 := [some (vr (some w)), some (vi (J x1)), some (vi (J x2))]) (st2 := [vr (some w)]) rfl ?_
  refine R_getR rfl t0 ?_
  refine R_ps 7 (pc2 := 12) (L2 := [some (vr (some w)), some (vi (J x1)), some (vi (J x2))]) (st2 := [vi (((J 12) + ((J 4) * (J x1))) + (J x2)), vr (gr h w 1)]) rfl ?_
  rw [show (((J 12) + ((J 4) * (J x1))) + (J x2)) = J ((12 + (4 * x1)) + x2) from J_add' (J_add' rfl (J_mul' rfl rfl)) rfl]
  obtain ⟨a_3, e_4, k⟩ := k
  rw [e_4]
  obtain ⟨t_5, k⟩ := k
  obtain ⟨t_6, k⟩ := k
  refine R_ziald (i := (12 + (4 * x1)) + x2) rfl (Or.inl t_5) t_6 ?_
  exact R_iret rfl rfl (R_zr (x := ai h a_3 ((12 + (4 * x1)) + x2)) (K := K) (ai_in _ _ _) k)
/-- DroneCorridorsModel.length -/
theorem z166 {T N : Nat → Nat} {h : PH} {w : Nat} {x1 : Int} {K : Int → PH → Prop} (t0 : T w = 12) (r1 : In x1) (k : (∃ a_3, (gr h w 1) = some a_3 ∧ T a_3 = 22 ∧ (0 ≤ ((12 + (4 * x1)) + 2) ∧ ((12 + (4 * x1)) + 2) < (N a_3 : Int) ∧ ((12 + (4 * x1)) + 2) < 2147483648) ∧ K (ai h a_3 ((12 + (4 * x1)) + 2)) h)) : ZI T N 166 [vr (some w), vi (J x1)] h K := by
  show WP T N 166 0 [some (vr (some w)), some (vi (J x1))] [] h _
  refine R_ps 1 (pc2 := 1) (L2 := [some (vr (some w)), some (vi (J x1))]) (st2 := [vr (some w)]) rfl ?_
  refine R_getR rfl t0 ?_
  refine R_ps 7 (pc2 := 12) (L2 := [some (vr (some w)), some (vi (J x1))]) (st2 := [vi (((J 12) + ((J 4) * (J x1))) + (J 2)), vr (gr h w 1)]) rfl ?_
  rw [show (((J 12) + ((J 4) * (J x1))) + (J 2)) = J ((12 + (4 * x1)) + 2) from J_add' (J_add' rfl (J_mul' rfl rfl)) rfl]
  obtain ⟨a_3, e_4, k⟩ := k
  rw [e_4]
  obtain ⟨t_5, k⟩ := k
  obtain ⟨t_6, k⟩ := k
  refine R_ziald (i := (12 + (4 * x1)) + 2) rfl (Or.inl t_5) t_6 ?_
  exact R_iret rfl rfl (R_zr (x := ai h a_3 ((12 + (4 * x1)) + 2)) (K := K) (ai_in _ _ _) k)
/-- DroneCorridorsModel.costs -/
theorem z167 {T N : Nat → Nat} {h : PH} {w : Nat} {x1 : Int} {x2 : Int} {K : Int → PH → Prop} (t0 : T w = 12) (r1 : In x1) (r2 : In x2) (k : (∃ a_3, (gr h w 1) = some a_3 ∧ T a_3 = 22 ∧ (0 ≤ ((12 + (4 * x1)) + 3) ∧ ((12 + (4 * x1)) + 3) < (N a_3 : Int) ∧ ((12 + (4 * x1)) + 3) < 2147483648) ∧ ZI T N 166 [vr (some w), vi (J x1)] h (fun x_9 h_8 => (((x2 = 0 → (In ((2 * x_9) - (ai h a_3 ((12 + (4 * x1)) + 3))) ∧ K ((2 * x_9) - (ai h a_3 ((12 + (4 * x1)) + 3))) h_8)) ∧ (¬ (x2 = 0) → (In ((2 * x_9) - (-(ai h a_3 ((12 + (4 * x1)) + 3)))) ∧ K ((2 * x_9) - (-(ai h a_3 ((12 + (4 * x1)) + 3)))) h_8))))))) : ZI T N 167 [vr (some w), vi (J x1), vi (J x2)] h K := by
  show WP T N 167 0 [some (vr (some w)), some (vi (J x1)), some (vi (J x2)), none] [] h _
  refine R_ps 1 (pc2 := 1) (L2 := [some (vr (some w)), some (vi (J x1)), some (vi (J x2)), none]) (st2 := [vr (some w)]) rfl ?_
  refine R_getR rfl t0 ?_
  refine R_ps 7 (pc2 := 12) (L2 := [some (vr (some w)), some (vi (J x1)), some (vi (J x2)), none]) (st2 := [vi (((J 12) + ((J 4) * (J x1))) + (J 3)), vr (gr h w 1)]) rfl ?_
  rw [show (((J 12) + ((J 4) * (J x1))) + (J 3)) = J ((12 + (4 * x1)) + 3) from J_add' (J_add' rfl (J_mul' rfl rfl)) rfl]
  obtain ⟨a_3, e_4, k⟩ := k
  rw [e_4]
  obtain ⟨t_5, k⟩ := k
  obtain ⟨t_6, k⟩ := k
  refine R_ziald (i := (12 + (4 * x1)) + 3) rfl (Or.inl t_5) t_6 ?_
  refine R_ps 4 (pc2 := 17) (L2 := [some (vr (some w)), some (vi (J x1)), some (vi (J x2)), some (vi (J (ai h a_3 ((12 + (4 * x1)) + 3))))]) (st2 := [vi (J x1), vr (some w), vi (J 2)]) rfl ?_
  refine R_zcI (as := [vr (some w), vi (J x1)]) rfl rfl ⟨Nat.le_of_ble_eq_true rfl, Nat.le_of_ble_eq_true rfl, rfl, (Or.inr ⟨_, rfl, t0⟩)⟩ rfl rfl k (fun x_9 h_8 r_10 k => ?_)
  refine R_ps 2 (pc2 := 22) (L2 := [some (vr (some w)), some (vi (J x1)), some (vi (J x2)), some (vi (J (ai h a_3 ((12 + (4 * x1)) + 3))))]) (st2 := [vi (J x2), vi ((J 2) * (J x_9))]) rfl ?_
  rw [show ((J 2) * (J x_9)) = J (2 * x_9) from J_mul' rfl rfl]
  refine R_zif0 (x := x2) rfl r2 (fun c_11 => ?_) (fun c_11 => ?_)
  · have k := k.2 c_11
    refine R_ps 3 (pc2 := 32) (L2 := [some (vr (some w)), some (vi (J x1)), some (vi (J x2)), some (vi (J (ai h a_3 ((12 + (4 * x1)) + 3))))]) (st2 := [vi ((J (2 * x_9)) - (-(J (ai h a_3 ((12 + (4 * x1)) + 3)))))]) rfl ?_
    rw [show ((J (2 * x_9)) - (-(J (ai h a_3 ((12 + (4 * x1)) + 3))))) = J ((2 * x_9) - (-(ai h a_3 ((12 + (4 * x1)) + 3)))) from J_sub' rfl (J_neg' rfl)]
    obtain ⟨t_13, k⟩ := k
    exact R_iret rfl rfl (R_zr (x := (2 * x_9) - (-(ai h a_3 ((12 + (4 * x1)) + 3)))) (K := K) t_13 k)
  · have k := k.1 (Classical.not_not.mp c_11)
    refine R_ps 3 (pc2 := 32) (L2 := [some (vr (some w)), some (vi (J x1)), some (vi (J x2)), some (vi (J (ai h a_3 ((12 + (4 * x1)) + 3))))]) (st2 := [vi ((J (2 * x_9)) - (J (ai h a_3 ((12 + (4 * x1)) + 3))))]) rfl ?_
    rw [show ((J (2 * x_9)) - (J (ai h a_3 ((12 + (4 * x1)) + 3)))) = J ((2 * x_9) - (ai h a_3 ((12 + (4 * x1)) + 3))) from J_sub' rfl rfl]
    obtain ⟨t_15, k⟩ := k
    exact R_iret rfl rfl (R_zr (x := (2 * x_9) - (ai h a_3 ((12 + (4 * x1)) + 3))) (K := K) t_15 k)
/-- DroneCorridorsModel.of -/
theorem z168 {T N : Nat → Nat} {h : PH} {w : Nat} {x1 : Int} {x2 : Int} {K : Int → PH → Prop} (t0 : T w = 12) (r1 : In x1) (r2 : In x2) (k : (∃ a_3, (gr h w 1) = some a_3 ∧ T a_3 = 22 ∧ (0 ≤ ((118 + (55 * x1)) + x2) ∧ ((118 + (55 * x1)) + x2) < (N a_3 : Int) ∧ ((118 + (55 * x1)) + x2) < 2147483648) ∧ K (ai h a_3 ((118 + (55 * x1)) + x2)) h)) : ZI T N 168 [vr (some w), vi (J x1), vi (J x2)] h K := by
  show WP T N 168 0 [some (vr (some w)), some (vi (J x1)), some (vi (J x2))] [] h _
  refine R_ps 1 (pc2 := 1) (L2 := [some (vr (some w)), some (vi (J x1)), some (vi (J x2))]) (st2 := [vr (some w)]) rfl ?_
  refine R_getR rfl t0 ?_
  refine R_ps 7 (pc2 := 13) (L2 := [some (vr (some w)), some (vi (J x1)), some (vi (J x2))]) (st2 := [vi (((J 118) + ((J 55) * (J x1))) + (J x2)), vr (gr h w 1)]) rfl ?_
  rw [show (((J 118) + ((J 55) * (J x1))) + (J x2)) = J ((118 + (55 * x1)) + x2) from J_add' (J_add' rfl (J_mul' rfl rfl)) rfl]
  obtain ⟨a_3, e_4, k⟩ := k
  rw [e_4]
  obtain ⟨t_5, k⟩ := k
  obtain ⟨t_6, k⟩ := k
  refine R_ziald (i := (118 + (55 * x1)) + x2) rfl (Or.inl t_5) t_6 ?_
  exact R_iret rfl rfl (R_zr (x := ai h a_3 ((118 + (55 * x1)) + x2)) (K := K) (ai_in _ _ _) k)
/-- DroneCorridorsModel.sets -/
theorem z169 {T N : Nat → Nat} {h : PH} {w : Nat} {x1 : Int} {x2 : Int} {x3 : Int} {K : PH → Prop} (t0 : T w = 12) (r1 : In x1) (r2 : In x2) (r3 : In x3) (k : (∃ a_3, (gr h w 1) = some a_3 ∧ T a_3 = 22 ∧ (0 ≤ ((118 + (55 * x1)) + x2) ∧ ((118 + (55 * x1)) + x2) < (N a_3 : Int) ∧ ((118 + (55 * x1)) + x2) < 2147483648) ∧ ∀ h_5, h_5 = wi h a_3 ((118 + (55 * x1)) + x2) x3 → K h_5)) : CV T N 169 [vr (some w), vi (J x1), vi (J x2), vi (J x3)] h K := by
  show WP T N 169 0 [some (vr (some w)), some (vi (J x1)), some (vi (J x2)), some (vi (J x3))] [] h _
  refine R_ps 1 (pc2 := 1) (L2 := [some (vr (some w)), some (vi (J x1)), some (vi (J x2)), some (vi (J x3))]) (st2 := [vr (some w)]) rfl ?_
  refine R_getR rfl t0 ?_
  refine R_ps 8 (pc2 := 14) (L2 := [some (vr (some w)), some (vi (J x1)), some (vi (J x2)), some (vi (J x3))]) (st2 := [vi (J x3), vi (((J 118) + ((J 55) * (J x1))) + (J x2)), vr (gr h w 1)]) rfl ?_
  rw [show (((J 118) + ((J 55) * (J x1))) + (J x2)) = J ((118 + (55 * x1)) + x2) from J_add' (J_add' rfl (J_mul' rfl rfl)) rfl]
  obtain ⟨a_3, e_4, k⟩ := k
  rw [e_4]
  obtain ⟨t_7, k⟩ := k
  obtain ⟨t_8, k⟩ := k
  refine R_ziast (i := (118 + (55 * x1)) + x2) (x := x3) rfl t_7 t_8  ?_
  show WP T N _ _ _ _ (wi h a_3 ((118 + (55 * x1)) + x2) x3) _
  generalize e_6 : wi h a_3 ((118 + (55 * x1)) + x2) x3 = h_5
  replace k := k h_5 e_6.symm
  exact R_ret rfl rfl ⟨rfl, k⟩
/-- DroneCorridorsModel.clear -/
theorem z170 {T N : Nat → Nat} {h : PH} {w : Nat} {K : Int → PH → Prop} (t0 : T w = 12) (k : (∀ h_2, h_2 = wi h w 0 0 → ∃ a_6, (gr h_2 w 1) = some a_6 ∧ T a_6 = 22 ∧ (0 ≤ (0 : Int) ∧ (0 : Int) < (N a_6 : Int) ∧ (0 : Int) < 2147483648) ∧ ZW T N 170 14 [some (vr (some w)), some (vi (J (ai h_2 a_6 0))), some (vi (J 0))] [] h_2 K)) : ZI T N 170 [vr (some w)] h K := by
  show WP T N 170 0 [some (vr (some w)), none, none] [] h _
  refine R_ps 2 (pc2 := 2) (L2 := [some (vr (some w)), none, none]) (st2 := [vi (J 0), vr (some w)]) rfl ?_
  refine R_zputI (x := 0) (z := 0) rfl t0 rfl ?_
  show WP T N _ _ _ _ (wi h w 0 0) _
  generalize e_3 : wi h w 0 0 = h_2
  replace k := k h_2 e_3.symm
  refine R_ps 1 (pc2 := 6) (L2 := [some (vr (some w)), none, none]) (st2 := [vr (some w)]) rfl ?_
  refine R_getR rfl t0 ?_
  refine R_ps 1 (pc2 := 10) (L2 := [some (vr (some w)), none, none]) (st2 := [vi (J 0), vr (gr h_2 w 1)]) rfl ?_
  obtain ⟨a_6, e_7, k⟩ := k
  rw [e_7]
  obtain ⟨t_8, k⟩ := k
  obtain ⟨t_9, k⟩ := k
  refine R_ziald (i := 0) rfl (Or.inl t_8) t_9 ?_
  refine R_ps 3 (pc2 := 14) (L2 := [some (vr (some w)), some (vi (J (ai h_2 a_6 0))), some (vi (J 0))]) (st2 := []) rfl ?_
  exact k
theorem z170_14 {T N : Nat → Nat} {h : PH} {w : Nat} {x1 : Int} {x2 : Int} {K : Int → PH → Prop} (t0 : T w = 12) (r1 : In x1) (r2 : In x2) (k : (((x2 < 449 → (∃ a_8, (gr h w 1) = some a_8 ∧ T a_8 = 22 ∧ (0 ≤ x2 ∧ x2 < (N a_8 : Int) ∧ x2 < 2147483648) ∧ ∀ h_10, h_10 = wi h a_8 x2 0 → ZW T N 170 14 [some (vr (some w)), some (vi (J x1)), some (vi (J (x2 + 1)))] [] h_10 K)) ∧ (¬ (x2 < 449) → (∀ h_3, h_3 = wi h w 6 0 → K x1 h_3))))) : ZW T N 170 14 [some (vr (some w)), some (vi (J x1)), some (vi (J x2))] [] h K := by
  show WP T N 170 14 [some (vr (some w)), some (vi (J x1)), some (vi (J x2))] [] h _
  refine R_ps 2 (pc2 := 18) (L2 := [some (vr (some w)), some (vi (J x1)), some (vi (J x2))]) (st2 := [vi (J 449), vi (J x2)]) rfl ?_
  refine R_zif (x := x2) (z := 449) rfl r2 (by decide) (fun c_1 => ?_) (fun c_1 => ?_)
  · have k := k.2 c_1
    refine R_ps 2 (pc2 := 36) (L2 := [some (vr (some w)), some (vi (J x1)), some (vi (J x2))]) (st2 := [vi (J 0), vr (some w)]) rfl ?_
    refine R_zputI (x := 0) (z := 6) rfl t0 rfl ?_
    show WP T N _ _ _ _ (wi h w 6 0) _
    generalize e_4 : wi h w 6 0 = h_3
    replace k := k h_3 e_4.symm
    refine R_ps 1 (pc2 := 40) (L2 := [some (vr (some w)), some (vi (J x1)), some (vi (J x2))]) (st2 := [vi (J x1)]) rfl ?_
    exact R_iret rfl rfl (R_zr (x := x1) (K := K) r1 k)
  · have k := k.1 (Classical.not_not.mp c_1)
    refine R_ps 1 (pc2 := 22) (L2 := [some (vr (some w)), some (vi (J x1)), some (vi (J x2))]) (st2 := [vr (some w)]) rfl ?_
    refine R_getR rfl t0 ?_
    refine R_ps 2 (pc2 := 27) (L2 := [some (vr (some w)), some (vi (J x1)), some (vi (J x2))]) (st2 := [vi (J 0), vi (J x2), vr (gr h w 1)]) rfl ?_
    obtain ⟨a_8, e_9, k⟩ := k
    rw [e_9]
    obtain ⟨t_12, k⟩ := k
    obtain ⟨t_13, k⟩ := k
    refine R_ziast (i := x2) (x := 0) rfl t_12 t_13  ?_
    show WP T N _ _ _ _ (wi h a_8 x2 0) _
    generalize e_11 : wi h a_8 x2 0 = h_10
    replace k := k h_10 e_11.symm
    refine R_ps 2 (pc2 := 14) (L2 := [some (vr (some w)), some (vi (J x1)), some (vi ((J x2) + J 1))]) (st2 := []) rfl ?_
    rw [show ((J x2) + J 1) = J (x2 + 1) from J_add' rfl rfl]
    exact k
/-- DroneCorridorsModel.addsNode -/
theorem z171 {T N : Nat → Nat} {h : PH} {w : Nat} {x1 : Int} {K : Int → PH → Prop} (t0 : T w = 12) (r1 : In x1) (k : (∃ a_3, (gr h w 1) = some a_3 ∧ T a_3 = 22 ∧ (0 ≤ (0 : Int) ∧ (0 : Int) < (N a_3 : Int) ∧ (0 : Int) < 2147483648) ∧ (((ai h a_3 0) = 10 → (ZI T N 157 [vr (some w), vi (J 1)] h (fun x_60 h_59 => (K x_60 h_59)))) ∧ (¬ ((ai h a_3 0) = 10) → (∃ a_11, (gr h w 1) = some a_11 ∧ T a_11 = 22 ∧ (0 ≤ (0 : Int) ∧ (0 : Int) < (N a_11 : Int) ∧ (0 : Int) < 2147483648) ∧ ((x1 = 0 → ((0 ≤ (1 + (ai h a_11 0)) ∧ (1 + (ai h a_11 0)) < (N a_11 : Int) ∧ (1 + (ai h a_11 0)) < 2147483648) ∧ ∀ h_17, h_17 = wi h a_11 (1 + (ai h a_11 0)) 0 → ∃ a_22, (gr h_17 w 1) = some a_22 ∧ T a_22 = 22 ∧ (0 ≤ (0 : Int) ∧ (0 : Int) < (N a_22 : Int) ∧ (0 : Int) < 2147483648) ∧ ∀ h_27, h_27 = wi h_17 a_22 0 ((ai h_17 a_22 0) + 1) → ∃ a_31, (gr h_27 w 1) = some a_31 ∧ T a_31 = 22 ∧ (0 ≤ (0 : Int) ∧ (0 : Int) < (N a_31 : Int) ∧ (0 : Int) < 2147483648) ∧ In ((ai h_27 a_31 0) - 1) ∧ K ((ai h_27 a_31 0) - 1) h_27)) ∧ (¬ (x1 = 0) → ((0 ≤ (1 + (ai h a_11 0)) ∧ (1 + (ai h a_11 0)) < (N a_11 : Int) ∧ (1 + (ai h a_11 0)) < 2147483648) ∧ ∀ h_38, h_38 = wi h a_11 (1 + (ai h a_11 0)) 1 → ∃ a_43, (gr h_38 w 1) = some a_43 ∧ T a_43 = 22 ∧ (0 ≤ (0 : Int) ∧ (0 : Int) < (N a_43 : Int) ∧ (0 : Int) < 2147483648) ∧ ∀ h_48, h_48 = wi h_38 a_43 0 ((ai h_38 a_43 0) + 1) → ∃ a_52, (gr h_48 w 1) = some a_52 ∧ T a_52 = 22 ∧ (0 ≤ (0 : Int) ∧ (0 : Int) < (N a_52 : Int) ∧ (0 : Int) < 2147483648) ∧ In ((ai h_48 a_52 0) - 1) ∧ K ((ai h_48 a_52 0) - 1) h_48)))))))) : ZI T N 171 [vr (some w), vi (J x1)] h K := by
  show WP T N 171 0 [some (vr (some w)), some (vi (J x1))] [] h _
  refine R_ps 1 (pc2 := 1) (L2 := [some (vr (some w)), some (vi (J x1))]) (st2 := [vr (some w)]) rfl ?_
  refine R_getR rfl t0 ?_
  refine R_ps 1 (pc2 := 5) (L2 := [some (vr (some w)), some (vi (J x1))]) (st2 := [vi (J 0), vr (gr h w 1)]) rfl ?_
  obtain ⟨a_3, e_4, k⟩ := k
  rw [e_4]
  obtain ⟨t_5, k⟩ := k
  obtain ⟨t_6, k⟩ := k
  refine R_ziald (i := 0) rfl (Or.inl t_5) t_6 ?_
  refine R_ps 1 (pc2 := 8) (L2 := [some (vr (some w)), some (vi (J x1))]) (st2 := [vi (J 10), vi (J (ai h a_3 0))]) rfl ?_
  refine R_zif (x := ai h a_3 0) (z := 10) rfl (ai_in _ _ _) (by decide) (fun c_7 => ?_) (fun c_7 => ?_)
  · have k := k.2 c_7
    refine R_ps 1 (pc2 := 18) (L2 := [some (vr (some w)), some (vi (J x1))]) (st2 := [vr (some w)]) rfl ?_
    refine R_getR rfl t0 ?_
    refine R_ps 2 (pc2 := 23) (L2 := [some (vr (some w)), some (vi (J x1))]) (st2 := [vr (some w), vi (J 1), vr (gr h w 1)]) rfl ?_
    refine R_getR rfl t0 ?_
    refine R_ps 1 (pc2 := 27) (L2 := [some (vr (some w)), some (vi (J x1))]) (st2 := [vi (J 0), vr (gr h w 1), vi (J 1), vr (gr h w 1)]) rfl ?_
    obtain ⟨a_11, e_12, k⟩ := k
    rw [e_12]
    obtain ⟨t_13, k⟩ := k
    obtain ⟨t_14, k⟩ := k
    refine R_ziald (i := 0) rfl (Or.inl t_13) t_14 ?_
    refine R_ps 2 (pc2 := 30) (L2 := [some (vr (some w)), some (vi (J x1))]) (st2 := [vi (J x1), vi ((J 1) + (J (ai h a_11 0))), vr (some a_11)]) rfl ?_
    rw [show ((J 1) + (J (ai h a_11 0))) = J (1 + (ai h a_11 0)) from J_add' rfl rfl]
    refine R_zif0 (x := x1) rfl r1 (fun c_15 => ?_) (fun c_15 => ?_)
    · have k := k.1 c_15
      refine R_ps 1 (pc2 := 38) (L2 := [some (vr (some w)), some (vi (J x1))]) (st2 := [vi (J 0), vi (J (1 + (ai h a_11 0))), vr (some a_11)]) rfl ?_
      obtain ⟨t_19, k⟩ := k
      refine R_ziast (i := 1 + (ai h a_11 0)) (x := 0) rfl t_13 t_19  ?_
      show WP T N _ _ _ _ (wi h a_11 (1 + (ai h a_11 0)) 0) _
      generalize e_18 : wi h a_11 (1 + (ai h a_11 0)) 0 = h_17
      replace k := k h_17 e_18.symm
      refine R_ps 1 (pc2 := 40) (L2 := [some (vr (some w)), some (vi (J x1))]) (st2 := [vr (some w)]) rfl ?_
      refine R_getR rfl t0 ?_
      refine R_ps 2 (pc2 := 45) (L2 := [some (vr (some w)), some (vi (J x1))]) (st2 := [vi (J 0), vr (gr h_17 w 1), vi (J 0), vr (gr h_17 w 1)]) rfl ?_
      obtain ⟨a_22, e_23, k⟩ := k
      rw [e_23]
      obtain ⟨t_24, k⟩ := k
      obtain ⟨t_25, k⟩ := k
      refine R_ziald (i := 0) rfl (Or.inl t_24) t_25 ?_
      refine R_ps 2 (pc2 := 48) (L2 := [some (vr (some w)), some (vi (J x1))]) (st2 := [vi ((J (ai h_17 a_22 0)) + (J 1)), vi (J 0), vr (some a_22)]) rfl ?_
      rw [show ((J (ai h_17 a_22 0)) + (J 1)) = J ((ai h_17 a_22 0) + 1) from J_add' rfl rfl]
      refine R_ziast (i := 0) (x := (ai h_17 a_22 0) + 1) rfl t_24 t_25  ?_
      show WP T N _ _ _ _ (wi h_17 a_22 0 ((ai h_17 a_22 0) + 1)) _
      generalize e_28 : wi h_17 a_22 0 ((ai h_17 a_22 0) + 1) = h_27
      replace k := k h_27 e_28.symm
      refine R_ps 1 (pc2 := 50) (L2 := [some (vr (some w)), some (vi (J x1))]) (st2 := [vr (some w)]) rfl ?_
      refine R_getR rfl t0 ?_
      refine R_ps 1 (pc2 := 54) (L2 := [some (vr (some w)), some (vi (J x1))]) (st2 := [vi (J 0), vr (gr h_27 w 1)]) rfl ?_
      obtain ⟨a_31, e_32, k⟩ := k
      rw [e_32]
      obtain ⟨t_33, k⟩ := k
      obtain ⟨t_34, k⟩ := k
      refine R_ziald (i := 0) rfl (Or.inl t_33) t_34 ?_
      refine R_ps 2 (pc2 := 57) (L2 := [some (vr (some w)), some (vi (J x1))]) (st2 := [vi ((J (ai h_27 a_31 0)) - (J 1))]) rfl ?_
      rw [show ((J (ai h_27 a_31 0)) - (J 1)) = J ((ai h_27 a_31 0) - 1) from J_sub' rfl rfl]
      obtain ⟨t_36, k⟩ := k
      exact R_iret rfl rfl (R_zr (x := (ai h_27 a_31 0) - 1) (K := K) t_36 k)
    · have k := k.2 c_15
      refine R_ps 2 (pc2 := 38) (L2 := [some (vr (some w)), some (vi (J x1))]) (st2 := [vi (J 1), vi (J (1 + (ai h a_11 0))), vr (some a_11)]) rfl ?_
      obtain ⟨t_40, k⟩ := k
      refine R_ziast (i := 1 + (ai h a_11 0)) (x := 1) rfl t_13 t_40  ?_
      show WP T N _ _ _ _ (wi h a_11 (1 + (ai h a_11 0)) 1) _
      generalize e_39 : wi h a_11 (1 + (ai h a_11 0)) 1 = h_38
      replace k := k h_38 e_39.symm
      refine R_ps 1 (pc2 := 40) (L2 := [some (vr (some w)), some (vi (J x1))]) (st2 := [vr (some w)]) rfl ?_
      refine R_getR rfl t0 ?_
      refine R_ps 2 (pc2 := 45) (L2 := [some (vr (some w)), some (vi (J x1))]) (st2 := [vi (J 0), vr (gr h_38 w 1), vi (J 0), vr (gr h_38 w 1)]) rfl ?_
      obtain ⟨a_43, e_44, k⟩ := k
      rw [e_44]
      obtain ⟨t_45, k⟩ := k
      obtain ⟨t_46, k⟩ := k
      refine R_ziald (i := 0) rfl (Or.inl t_45) t_46 ?_
      refine R_ps 2 (pc2 := 48) (L2 := [some (vr (some w)), some (vi (J x1))]) (st2 := [vi ((J (ai h_38 a_43 0)) + (J 1)), vi (J 0), vr (some a_43)]) rfl ?_
      rw [show ((J (ai h_38 a_43 0)) + (J 1)) = J ((ai h_38 a_43 0) + 1) from J_add' rfl rfl]
      refine R_ziast (i := 0) (x := (ai h_38 a_43 0) + 1) rfl t_45 t_46  ?_
      show WP T N _ _ _ _ (wi h_38 a_43 0 ((ai h_38 a_43 0) + 1)) _
      generalize e_49 : wi h_38 a_43 0 ((ai h_38 a_43 0) + 1) = h_48
      replace k := k h_48 e_49.symm
      refine R_ps 1 (pc2 := 50) (L2 := [some (vr (some w)), some (vi (J x1))]) (st2 := [vr (some w)]) rfl ?_
      refine R_getR rfl t0 ?_
      refine R_ps 1 (pc2 := 54) (L2 := [some (vr (some w)), some (vi (J x1))]) (st2 := [vi (J 0), vr (gr h_48 w 1)]) rfl ?_
      obtain ⟨a_52, e_53, k⟩ := k
      rw [e_53]
      obtain ⟨t_54, k⟩ := k
      obtain ⟨t_55, k⟩ := k
      refine R_ziald (i := 0) rfl (Or.inl t_54) t_55 ?_
      refine R_ps 2 (pc2 := 57) (L2 := [some (vr (some w)), some (vi (J x1))]) (st2 := [vi ((J (ai h_48 a_52 0)) - (J 1))]) rfl ?_
      rw [show ((J (ai h_48 a_52 0)) - (J 1)) = J ((ai h_48 a_52 0) - 1) from J_sub' rfl rfl]
      obtain ⟨t_57, k⟩ := k
      exact R_iret rfl rfl (R_zr (x := (ai h_48 a_52 0) - 1) (K := K) t_57 k)
  · have k := k.1 (Classical.not_not.mp c_7)
    refine R_ps 2 (pc2 := 13) (L2 := [some (vr (some w)), some (vi (J x1))]) (st2 := [vi (J 1), vr (some w)]) rfl ?_
    refine R_zcI (as := [vr (some w), vi (J 1)]) rfl rfl ⟨Nat.le_of_ble_eq_true rfl, Nat.le_of_ble_eq_true rfl, rfl, (Or.inr ⟨_, rfl, t0⟩)⟩ rfl rfl k (fun x_60 h_59 r_61 k => ?_)
    exact R_iret rfl rfl (R_zr (x := x_60) (K := K) r_61 k)
/-- DroneCorridorsModel.addNode -/
theorem z172 {T N : Nat → Nat} {h : PH} {w : Nat} {x1 : Int} {K : Int → PH → Prop} (t0 : T w = 12) (r1 : In x1) (k : (∀ h_2, h_2 = wi h w 0 0 → ∃ a_6, (gr h_2 w 1) = some a_6 ∧ T a_6 = 22 ∧ (0 ≤ (0 : Int) ∧ (0 : Int) < (N a_6 : Int) ∧ (0 : Int) < 2147483648) ∧ (((ai h_2 a_6 0) = 10 → (ZI T N 157 [vr (some w), vi (J 1)] h_2 (fun x_21 h_20 => (K x_21 h_20)))) ∧ (¬ ((ai h_2 a_6 0) = 10) → (CV T N 160 [vr (some w)] h_2 (fun h_12 => (ZI T N 171 [vr (some w), vi (J x1)] h_12 (fun x_16 h_15 => (K x_16 h_15))))))))) : ZI T N 172 [vr (some w), vi (J x1)] h K := by
  show WP T N 172 0 [some (vr (some w)), some (vi (J x1))] [] h _
  refine R_ps 2 (pc2 := 2) (L2 := [some (vr (some w)), some (vi (J x1))]) (st2 := [vi (J 0), vr (some w)]) rfl ?_
  refine R_zputI (x := 0) (z := 0) rfl t0 rfl ?_
  show WP T N _ _ _ _ (wi h w 0 0) _
  generalize e_3 : wi h w 0 0 = h_2
  replace k := k h_2 e_3.symm
  refine R_ps 1 (pc2 := 6) (L2 := [some (vr (some w)), some (vi (J x1))]) (st2 := [vr (some w)]) rfl ?_
  refine R_getR rfl t0 ?_
  refine R_ps 1 (pc2 := 10) (L2 := [some (vr (some w)), some (vi (J x1))]) (st2 := [vi (J 0), vr (gr h_2 w 1)]) rfl ?_
  obtain ⟨a_6, e_7, k⟩ := k
  rw [e_7]
  obtain ⟨t_8, k⟩ := k
  obtain ⟨t_9, k⟩ := k
  refine R_ziald (i := 0) rfl (Or.inl t_8) t_9 ?_
  refine R_ps 1 (pc2 := 13) (L2 := [some (vr (some w)), some (vi (J x1))]) (st2 := [vi (J 10), vi (J (ai h_2 a_6 0))]) rfl ?_
  refine R_zif (x := ai h_2 a_6 0) (z := 10) rfl (ai_in _ _ _) (by decide) (fun c_10 => ?_) (fun c_10 => ?_)
  · have k := k.2 c_10
    refine R_ps 1 (pc2 := 23) (L2 := [some (vr (some w)), some (vi (J x1))]) (st2 := [vr (some w)]) rfl ?_
    refine R_cV (as := [vr (some w)]) rfl rfl ⟨Nat.le_of_ble_eq_true rfl, Nat.le_of_ble_eq_true rfl, rfl, (Or.inr ⟨_, rfl, t0⟩)⟩ rfl rfl k (fun h_12 k => ?_)
    refine R_ps 2 (pc2 := 28) (L2 := [some (vr (some w)), some (vi (J x1))]) (st2 := [vi (J x1), vr (some w)]) rfl ?_
    refine R_zcI (as := [vr (some w), vi (J x1)]) rfl rfl ⟨Nat.le_of_ble_eq_true rfl, Nat.le_of_ble_eq_true rfl, rfl, (Or.inr ⟨_, rfl, t0⟩)⟩ rfl rfl k (fun x_16 h_15 r_17 k => ?_)
    exact R_iret rfl rfl (R_zr (x := x_16) (K := K) r_17 k)
  · have k := k.1 (Classical.not_not.mp c_10)
    refine R_ps 2 (pc2 := 18) (L2 := [some (vr (some w)), some (vi (J x1))]) (st2 := [vi (J 1), vr (some w)]) rfl ?_
    refine R_zcI (as := [vr (some w), vi (J 1)]) rfl rfl ⟨Nat.le_of_ble_eq_true rfl, Nat.le_of_ble_eq_true rfl, rfl, (Or.inr ⟨_, rfl, t0⟩)⟩ rfl rfl k (fun x_21 h_20 r_22 k => ?_)
    exact R_iret rfl rfl (R_zr (x := x_21) (K := K) r_22 k)
/-- DroneCorridorsModel.refusal -/
theorem z173 {T N : Nat → Nat} {h : PH} {w : Nat} {x1 : Int} {x2 : Int} {x3 : Int} {x4 : Int} {K : Int → PH → Prop} (t0 : T w = 12) (r1 : In x1) (r2 : In x2) (r3 : In x3) (r4 : In x4) (k : (ZI T N 162 [vr (some w), vi (J x1)] h (fun x_3 h_2 => (((x_3 = 0 → (K 1 h_2)) ∧ (¬ (x_3 = 0) → (ZI T N 162 [vr (some w), vi (J x2)] h_2 (fun x_9 h_8 => (((x_9 = 0 → (K 1 h_8)) ∧ (¬ (x_9 = 0) → (((x1 = x2 → (K 2 h_8)) ∧ (¬ (x1 = x2) → (ZI T N 158 [vi (J x3), vi (J 1), vi (J 9)] h_8 (fun x_16 h_15 => (((x_16 = 0 → (K 2 h_15)) ∧ (¬ (x_16 = 0) → (ZI T N 158 [vi (J x4), vi (J (-x3)), vi (J x3)] h_15 (fun x_22 h_21 => (((x_22 = 0 → (K 2 h_21)) ∧ (¬ (x_22 = 0) → (∃ a_27, (gr h_21 w 1) = some a_27 ∧ T a_27 = 22 ∧ (0 ≤ (11 : Int) ∧ (11 : Int) < (N a_27 : Int) ∧ (11 : Int) < 2147483648) ∧ (((ai h_21 a_27 11) = 16 → (K 3 h_21)) ∧ (¬ ((ai h_21 a_27 11) = 16) → (K 0 h_21)))))))))))))))))))))))))))) : ZI T N 173 [vr (some w), vi (J x1), vi (J x2), vi (J x3), vi (J x4)] h K := by
  show WP T N 173 0 [some (vr (some w)), some (vi (J x1)), some (vi (J x2)), some (vi (J x3)), some (vi (J x4))] [] h _
  refine R_ps 2 (pc2 := 2) (L2 := [some (vr (some w)), some (vi (J x1)), some (vi (J x2)), some (vi (J x3)), some (vi (J x4))]) (st2 := [vi (J x1), vr (some w)]) rfl ?_
  refine R_zcI (as := [vr (some w), vi (J x1)]) rfl rfl ⟨Nat.le_of_ble_eq_true rfl, Nat.le_of_ble_eq_true rfl, rfl, (Or.inr ⟨_, rfl, t0⟩)⟩ rfl rfl k (fun x_3 h_2 r_4 k => ?_)
  refine R_zif0 (x := x_3) rfl r_4 (fun c_5 => ?_) (fun c_5 => ?_)
  · have k := k.1 c_5
    refine R_ps 2 (pc2 := 67) (L2 := [some (vr (some w)), some (vi (J x1)), some (vi (J x2)), some (vi (J x3)), some (vi (J x4))]) (st2 := [vi (J 1)]) rfl ?_
    exact R_iret rfl rfl (R_zr (x := 1) (K := K) (by decide) k)
  · have k := k.2 c_5
    refine R_ps 2 (pc2 := 10) (L2 := [some (vr (some w)), some (vi (J x1)), some (vi (J x2)), some (vi (J x3)), some (vi (J x4))]) (st2 := [vi (J x2), vr (some w)]) rfl ?_
    refine R_zcI (as := [vr (some w), vi (J x2)]) rfl rfl ⟨Nat.le_of_ble_eq_true rfl, Nat.le_of_ble_eq_true rfl, rfl, (Or.inr ⟨_, rfl, t0⟩)⟩ rfl rfl k (fun x_9 h_8 r_10 k => ?_)
    refine R_zif0 (x := x_9) rfl r_10 (fun c_11 => ?_) (fun c_11 => ?_)
    · have k := k.2 c_11
      refine R_ps 2 (pc2 := 22) (L2 := [some (vr (some w)), some (vi (J x1)), some (vi (J x2)), some (vi (J x3)), some (vi (J x4))]) (st2 := [vi (J x2), vi (J x1)]) rfl ?_
      refine R_zif (x := x1) (z := x2) rfl r1 r2 (fun c_12 => ?_) (fun c_12 => ?_)
      · have k := k.1 c_12
        refine R_ps 2 (pc2 := 67) (L2 := [some (vr (some w)), some (vi (J x1)), some (vi (J x2)), some (vi (J x3)), some (vi (J x4))]) (st2 := [vi (J 2)]) rfl ?_
        exact R_iret rfl rfl (R_zr (x := 2) (K := K) (by decide) k)
      · have k := k.2 c_12
        refine R_ps 3 (pc2 := 29) (L2 := [some (vr (some w)), some (vi (J x1)), some (vi (J x2)), some (vi (J x3)), some (vi (J x4))]) (st2 := [vi (J 9), vi (J 1), vi (J x3)]) rfl ?_
        refine R_zcI (as := [vi (J x3), vi (J 1), vi (J 9)]) rfl rfl ⟨Nat.le_of_ble_eq_true rfl, Nat.le_of_ble_eq_true rfl, rfl, (Or.inl rfl)⟩ rfl rfl k (fun x_16 h_15 r_17 k => ?_)
        refine R_zif0 (x := x_16) rfl r_17 (fun c_18 => ?_) (fun c_18 => ?_)
        · have k := k.1 c_18
          refine R_ps 2 (pc2 := 67) (L2 := [some (vr (some w)), some (vi (J x1)), some (vi (J x2)), some (vi (J x3)), some (vi (J x4))]) (st2 := [vi (J 2)]) rfl ?_
          exact R_iret rfl rfl (R_zr (x := 2) (K := K) (by decide) k)
        · have k := k.2 c_18
          refine R_ps 4 (pc2 := 40) (L2 := [some (vr (some w)), some (vi (J x1)), some (vi (J x2)), some (vi (J x3)), some (vi (J x4))]) (st2 := [vi (J x3), vi (-(J x3)), vi (J x4)]) rfl ?_
          rw [show (-(J x3)) = J (-x3) from J_neg' rfl]
          refine R_zcI (as := [vi (J x4), vi (J (-x3)), vi (J x3)]) rfl rfl ⟨Nat.le_of_ble_eq_true rfl, Nat.le_of_ble_eq_true rfl, rfl, (Or.inl rfl)⟩ rfl rfl k (fun x_22 h_21 r_23 k => ?_)
          refine R_zif0 (x := x_22) rfl r_23 (fun c_24 => ?_) (fun c_24 => ?_)
          · have k := k.2 c_24
            refine R_ps 1 (pc2 := 51) (L2 := [some (vr (some w)), some (vi (J x1)), some (vi (J x2)), some (vi (J x3)), some (vi (J x4))]) (st2 := [vr (some w)]) rfl ?_
            refine R_getR rfl t0 ?_
            refine R_ps 1 (pc2 := 56) (L2 := [some (vr (some w)), some (vi (J x1)), some (vi (J x2)), some (vi (J x3)), some (vi (J x4))]) (st2 := [vi (J 11), vr (gr h_21 w 1)]) rfl ?_
            obtain ⟨a_27, e_28, k⟩ := k
            rw [e_28]
            obtain ⟨t_29, k⟩ := k
            obtain ⟨t_30, k⟩ := k
            refine R_ziald (i := 11) rfl (Or.inl t_29) t_30 ?_
            refine R_ps 1 (pc2 := 59) (L2 := [some (vr (some w)), some (vi (J x1)), some (vi (J x2)), some (vi (J x3)), some (vi (J x4))]) (st2 := [vi (J 16), vi (J (ai h_21 a_27 11))]) rfl ?_
            refine R_zif (x := ai h_21 a_27 11) (z := 16) rfl (ai_in _ _ _) (by decide) (fun c_31 => ?_) (fun c_31 => ?_)
            · have k := k.2 c_31
              refine R_ps 1 (pc2 := 67) (L2 := [some (vr (some w)), some (vi (J x1)), some (vi (J x2)), some (vi (J x3)), some (vi (J x4))]) (st2 := [vi (J 0)]) rfl ?_
              exact R_iret rfl rfl (R_zr (x := 0) (K := K) (by decide) k)
            · have k := k.1 (Classical.not_not.mp c_31)
              refine R_ps 2 (pc2 := 67) (L2 := [some (vr (some w)), some (vi (J x1)), some (vi (J x2)), some (vi (J x3)), some (vi (J x4))]) (st2 := [vi (J 3)]) rfl ?_
              exact R_iret rfl rfl (R_zr (x := 3) (K := K) (by decide) k)
          · have k := k.1 (Classical.not_not.mp c_24)
            refine R_ps 2 (pc2 := 67) (L2 := [some (vr (some w)), some (vi (J x1)), some (vi (J x2)), some (vi (J x3)), some (vi (J x4))]) (st2 := [vi (J 2)]) rfl ?_
            exact R_iret rfl rfl (R_zr (x := 2) (K := K) (by decide) k)
    · have k := k.1 (Classical.not_not.mp c_11)
      refine R_ps 2 (pc2 := 67) (L2 := [some (vr (some w)), some (vi (J x1)), some (vi (J x2)), some (vi (J x3)), some (vi (J x4))]) (st2 := [vi (J 1)]) rfl ?_
      exact R_iret rfl rfl (R_zr (x := 1) (K := K) (by decide) k)
/-- DroneCorridorsModel.addsCorridor -/
theorem z174 {T N : Nat → Nat} {h : PH} {w : Nat} {x1 : Int} {x2 : Int} {x3 : Int} {x4 : Int} {K : Int → PH → Prop} (t0 : T w = 12) (r1 : In x1) (r2 : In x2) (r3 : In x3) (r4 : In x4) (k : (ZI T N 173 [vr (some w), vi (J x1), vi (J x2), vi (J x3), vi (J x4)] h (fun x_3 h_2 => (∀ h_6, h_6 = wi h_2 w 0 x_3 → ((0 < (ai h_6 w 0) → (K 0 h_6)) ∧ (¬ (0 < (ai h_6 w 0)) → (∃ a_12, (gr h_6 w 1) = some a_12 ∧ T a_12 = 22 ∧ (0 ≤ (11 : Int) ∧ (11 : Int) < (N a_12 : Int) ∧ (11 : Int) < 2147483648) ∧ ∃ a_18, (gr h_6 w 1) = some a_18 ∧ T a_18 = 22 ∧ (0 ≤ (12 + (4 * (ai h_6 a_12 11))) ∧ (12 + (4 * (ai h_6 a_12 11))) < (N a_18 : Int) ∧ (12 + (4 * (ai h_6 a_12 11))) < 2147483648) ∧ ∀ h_20, h_20 = wi h_6 a_18 (12 + (4 * (ai h_6 a_12 11))) x1 → ∃ a_26, (gr h_20 w 1) = some a_26 ∧ T a_26 = 22 ∧ (0 ≤ ((12 + (4 * (ai h_6 a_12 11))) + 1) ∧ ((12 + (4 * (ai h_6 a_12 11))) + 1) < (N a_26 : Int) ∧ ((12 + (4 * (ai h_6 a_12 11))) + 1) < 2147483648) ∧ ∀ h_28, h_28 = wi h_20 a_26 ((12 + (4 * (ai h_6 a_12 11))) + 1) x2 → ∃ a_34, (gr h_28 w 1) = some a_34 ∧ T a_34 = 22 ∧ (0 ≤ ((12 + (4 * (ai h_6 a_12 11))) + 2) ∧ ((12 + (4 * (ai h_6 a_12 11))) + 2) < (N a_34 : Int) ∧ ((12 + (4 * (ai h_6 a_12 11))) + 2) < 2147483648) ∧ ∀ h_36, h_36 = wi h_28 a_34 ((12 + (4 * (ai h_6 a_12 11))) + 2) x3 → ∃ a_42, (gr h_36 w 1) = some a_42 ∧ T a_42 = 22 ∧ (0 ≤ ((12 + (4 * (ai h_6 a_12 11))) + 3) ∧ ((12 + (4 * (ai h_6 a_12 11))) + 3) < (N a_42 : Int) ∧ ((12 + (4 * (ai h_6 a_12 11))) + 3) < 2147483648) ∧ ∀ h_44, h_44 = wi h_36 a_42 ((12 + (4 * (ai h_6 a_12 11))) + 3) x4 → ∃ a_50, (gr h_44 w 1) = some a_50 ∧ T a_50 = 22 ∧ (0 ≤ (11 : Int) ∧ (11 : Int) < (N a_50 : Int) ∧ (11 : Int) < 2147483648) ∧ ∀ h_55, h_55 = wi h_44 a_50 11 ((ai h_44 a_50 11) + 1) → ∃ a_59, (gr h_55 w 1) = some a_59 ∧ T a_59 = 22 ∧ (0 ≤ (11 : Int) ∧ (11 : Int) < (N a_59 : Int) ∧ (11 : Int) < 2147483648) ∧ In ((ai h_55 a_59 11) - 1) ∧ K ((ai h_55 a_59 11) - 1) h_55))))))) : ZI T N 174 [vr (some w), vi (J x1), vi (J x2), vi (J x3), vi (J x4)] h K := by
  show WP T N 174 0 [some (vr (some w)), some (vi (J x1)), some (vi (J x2)), some (vi (J x3)), some (vi (J x4)), none] [] h _
  refine R_ps 6 (pc2 := 7) (L2 := [some (vr (some w)), some (vi (J x1)), some (vi (J x2)), some (vi (J x3)), some (vi (J x4)), none]) (st2 := [vi (J x4), vi (J x3), vi (J x2), vi (J x1), vr (some w), vr (some w)]) rfl ?_
  refine R_zcI (as := [vr (some w), vi (J x1), vi (J x2), vi (J x3), vi (J x4)]) rfl rfl ⟨Nat.le_of_ble_eq_true rfl, Nat.le_of_ble_eq_true rfl, rfl, (Or.inr ⟨_, rfl, t0⟩)⟩ rfl rfl k (fun x_3 h_2 r_4 k => ?_)
  refine R_zputI (x := x_3) (z := 0) rfl t0 rfl ?_
  show WP T N _ _ _ _ (wi h_2 w 0 x_3) _
  generalize e_7 : wi h_2 w 0 x_3 = h_6
  replace k := k h_6 e_7.symm
  refine R_ps 1 (pc2 := 14) (L2 := [some (vr (some w)), some (vi (J x1)), some (vi (J x2)), some (vi (J x3)), some (vi (J x4)), none]) (st2 := [vr (some w)]) rfl ?_
  refine R_zgetI (z := 0) rfl t0 rfl ?_
  refine R_zif0 (x := ai h_6 w 0) rfl (ai_in _ _ _) (fun c_9 => ?_) (fun c_9 => ?_)
  · have k := k.2 c_9
    refine R_ps 3 (pc2 := 26) (L2 := [some (vr (some w)), some (vi (J x1)), some (vi (J x2)), some (vi (J x3)), some (vi (J x4)), none]) (st2 := [vr (some w), vi (J 4), vi (J 12)]) rfl ?_
    refine R_getR rfl t0 ?_
    refine R_ps 1 (pc2 := 31) (L2 := [some (vr (some w)), some (vi (J x1)), some (vi (J x2)), some (vi (J x3)), some (vi (J x4)), none]) (st2 := [vi (J 11), vr (gr h_6 w 1), vi (J 4), vi (J 12)]) rfl ?_
    obtain ⟨a_12, e_13, k⟩ := k
    rw [e_13]
    obtain ⟨t_14, k⟩ := k
    obtain ⟨t_15, k⟩ := k
    refine R_ziald (i := 11) rfl (Or.inl t_14) t_15 ?_
    refine R_ps 4 (pc2 := 37) (L2 := [some (vr (some w)), some (vi (J x1)), some (vi (J x2)), some (vi (J x3)), some (vi (J x4)), some (vi ((J 12) + ((J 4) * (J (ai h_6 a_12 11)))))]) (st2 := [vr (some w)]) rfl ?_
    rw [show ((J 12) + ((J 4) * (J (ai h_6 a_12 11)))) = J (12 + (4 * (ai h_6 a_12 11))) from J_add' rfl (J_mul' rfl rfl)]
    refine R_getR rfl t0 ?_
    refine R_ps 2 (pc2 := 43) (L2 := [some (vr (some w)), some (vi (J x1)), some (vi (J x2)), some (vi (J x3)), some (vi (J x4)), some (vi (J (12 + (4 * (ai h_6 a_12 11)))))]) (st2 := [vi (J x1), vi (J (12 + (4 * (ai h_6 a_12 11)))), vr (gr h_6 w 1)]) rfl ?_
    obtain ⟨a_18, e_19, k⟩ := k
    rw [e_19]
    obtain ⟨t_22, k⟩ := k
    obtain ⟨t_23, k⟩ := k
    refine R_ziast (i := 12 + (4 * (ai h_6 a_12 11))) (x := x1) rfl t_22 t_23  ?_
    show WP T N _ _ _ _ (wi h_6 a_18 (12 + (4 * (ai h_6 a_12 11))) x1) _
    generalize e_21 : wi h_6 a_18 (12 + (4 * (ai h_6 a_12 11))) x1 = h_20
    replace k := k h_20 e_21.symm
    refine R_ps 1 (pc2 := 45) (L2 := [some (vr (some w)), some (vi (J x1)), some (vi (J x2)), some (vi (J x3)), some (vi (J x4)), some (vi (J (12 + (4 * (ai h_6 a_12 11)))))]) (st2 := [vr (some w)]) rfl ?_
    refine R_getR rfl t0 ?_
    refine R_ps 4 (pc2 := 53) (L2 := [some (vr (some w)), some (vi (J x1)), some (vi (J x2)), some (vi (J x3)), some (vi (J x4)), some (vi (J (12 + (4 * (ai h_6 a_12 11)))))]) (st2 := [vi (J x2), vi ((J (12 + (4 * (ai h_6 a_12 11)))) + (J 1)), vr (gr h_20 w 1)]) rfl ?_
    rw [show ((J (12 + (4 * (ai h_6 a_12 11)))) + (J 1)) = J ((12 + (4 * (ai h_6 a_12 11))) + 1) from J_add' rfl rfl]
    obtain ⟨a_26, e_27, k⟩ := k
    rw [e_27]
    obtain ⟨t_30, k⟩ := k
    obtain ⟨t_31, k⟩ := k
    refine R_ziast (i := (12 + (4 * (ai h_6 a_12 11))) + 1) (x := x2) rfl t_30 t_31  ?_
    show WP T N _ _ _ _ (wi h_20 a_26 ((12 + (4 * (ai h_6 a_12 11))) + 1) x2) _
    generalize e_29 : wi h_20 a_26 ((12 + (4 * (ai h_6 a_12 11))) + 1) x2 = h_28
    replace k := k h_28 e_29.symm
    refine R_ps 1 (pc2 := 55) (L2 := [some (vr (some w)), some (vi (J x1)), some (vi (J x2)), some (vi (J x3)), some (vi (J x4)), some (vi (J (12 + (4 * (ai h_6 a_12 11)))))]) (st2 := [vr (some w)]) rfl ?_
    refine R_getR rfl t0 ?_
    refine R_ps 4 (pc2 := 63) (L2 := [some (vr (some w)), some (vi (J x1)), some (vi (J x2)), some (vi (J x3)), some (vi (J x4)), some (vi (J (12 + (4 * (ai h_6 a_12 11)))))]) (st2 := [vi (J x3), vi ((J (12 + (4 * (ai h_6 a_12 11)))) + (J 2)), vr (gr h_28 w 1)]) rfl ?_
    rw [show ((J (12 + (4 * (ai h_6 a_12 11)))) + (J 2)) = J ((12 + (4 * (ai h_6 a_12 11))) + 2) from J_add' rfl rfl]
    obtain ⟨a_34, e_35, k⟩ := k
    rw [e_35]
    obtain ⟨t_38, k⟩ := k
    obtain ⟨t_39, k⟩ := k
    refine R_ziast (i := (12 + (4 * (ai h_6 a_12 11))) + 2) (x := x3) rfl t_38 t_39  ?_
    show WP T N _ _ _ _ (wi h_28 a_34 ((12 + (4 * (ai h_6 a_12 11))) + 2) x3) _
    generalize e_37 : wi h_28 a_34 ((12 + (4 * (ai h_6 a_12 11))) + 2) x3 = h_36
    replace k := k h_36 e_37.symm
    refine R_ps 1 (pc2 := 65) (L2 := [some (vr (some w)), some (vi (J x1)), some (vi (J x2)), some (vi (J x3)), some (vi (J x4)), some (vi (J (12 + (4 * (ai h_6 a_12 11)))))]) (st2 := [vr (some w)]) rfl ?_
    refine R_getR rfl t0 ?_
    refine R_ps 4 (pc2 := 74) (L2 := [some (vr (some w)), some (vi (J x1)), some (vi (J x2)), some (vi (J x3)), some (vi (J x4)), some (vi (J (12 + (4 * (ai h_6 a_12 11)))))]) (st2 := [vi (J x4), vi ((J (12 + (4 * (ai h_6 a_12 11)))) + (J 3)), vr (gr h_36 w 1)]) rfl ?_
    rw [show ((J (12 + (4 * (ai h_6 a_12 11)))) + (J 3)) = J ((12 + (4 * (ai h_6 a_12 11))) + 3) from J_add' rfl rfl]
    obtain ⟨a_42, e_43, k⟩ := k
    rw [e_43]
    obtain ⟨t_46, k⟩ := k
    obtain ⟨t_47, k⟩ := k
    refine R_ziast (i := (12 + (4 * (ai h_6 a_12 11))) + 3) (x := x4) rfl t_46 t_47  ?_
    show WP T N _ _ _ _ (wi h_36 a_42 ((12 + (4 * (ai h_6 a_12 11))) + 3) x4) _
    generalize e_45 : wi h_36 a_42 ((12 + (4 * (ai h_6 a_12 11))) + 3) x4 = h_44
    replace k := k h_44 e_45.symm
    refine R_ps 1 (pc2 := 76) (L2 := [some (vr (some w)), some (vi (J x1)), some (vi (J x2)), some (vi (J x3)), some (vi (J x4)), some (vi (J (12 + (4 * (ai h_6 a_12 11)))))]) (st2 := [vr (some w)]) rfl ?_
    refine R_getR rfl t0 ?_
    refine R_ps 2 (pc2 := 82) (L2 := [some (vr (some w)), some (vi (J x1)), some (vi (J x2)), some (vi (J x3)), some (vi (J x4)), some (vi (J (12 + (4 * (ai h_6 a_12 11)))))]) (st2 := [vi (J 11), vr (gr h_44 w 1), vi (J 11), vr (gr h_44 w 1)]) rfl ?_
    obtain ⟨a_50, e_51, k⟩ := k
    rw [e_51]
    obtain ⟨t_52, k⟩ := k
    obtain ⟨t_53, k⟩ := k
    refine R_ziald (i := 11) rfl (Or.inl t_52) t_53 ?_
    refine R_ps 2 (pc2 := 85) (L2 := [some (vr (some w)), some (vi (J x1)), some (vi (J x2)), some (vi (J x3)), some (vi (J x4)), some (vi (J (12 + (4 * (ai h_6 a_12 11)))))]) (st2 := [vi ((J (ai h_44 a_50 11)) + (J 1)), vi (J 11), vr (some a_50)]) rfl ?_
    rw [show ((J (ai h_44 a_50 11)) + (J 1)) = J ((ai h_44 a_50 11) + 1) from J_add' rfl rfl]
    refine R_ziast (i := 11) (x := (ai h_44 a_50 11) + 1) rfl t_52 t_53  ?_
    show WP T N _ _ _ _ (wi h_44 a_50 11 ((ai h_44 a_50 11) + 1)) _
    generalize e_56 : wi h_44 a_50 11 ((ai h_44 a_50 11) + 1) = h_55
    replace k := k h_55 e_56.symm
    refine R_ps 1 (pc2 := 87) (L2 := [some (vr (some w)), some (vi (J x1)), some (vi (J x2)), some (vi (J x3)), some (vi (J x4)), some (vi (J (12 + (4 * (ai h_6 a_12 11)))))]) (st2 := [vr (some w)]) rfl ?_
    refine R_getR rfl t0 ?_
    refine R_ps 1 (pc2 := 92) (L2 := [some (vr (some w)), some (vi (J x1)), some (vi (J x2)), some (vi (J x3)), some (vi (J x4)), some (vi (J (12 + (4 * (ai h_6 a_12 11)))))]) (st2 := [vi (J 11), vr (gr h_55 w 1)]) rfl ?_
    obtain ⟨a_59, e_60, k⟩ := k
    rw [e_60]
    obtain ⟨t_61, k⟩ := k
    obtain ⟨t_62, k⟩ := k
    refine R_ziald (i := 11) rfl (Or.inl t_61) t_62 ?_
    refine R_ps 2 (pc2 := 95) (L2 := [some (vr (some w)), some (vi (J x1)), some (vi (J x2)), some (vi (J x3)), some (vi (J x4)), some (vi (J (12 + (4 * (ai h_6 a_12 11)))))]) (st2 := [vi ((J (ai h_55 a_59 11)) - (J 1))]) rfl ?_
    rw [show ((J (ai h_55 a_59 11)) - (J 1)) = J ((ai h_55 a_59 11) - 1) from J_sub' rfl rfl]
    obtain ⟨t_64, k⟩ := k
    exact R_iret rfl rfl (R_zr (x := (ai h_55 a_59 11) - 1) (K := K) t_64 k)
  · have k := k.1 (Classical.not_not.mp c_9)
    refine R_ps 1 (pc2 := 21) (L2 := [some (vr (some w)), some (vi (J x1)), some (vi (J x2)), some (vi (J x3)), some (vi (J x4)), none]) (st2 := [vi (J 0)]) rfl ?_
    exact R_iret rfl rfl (R_zr (x := 0) (K := K) (by decide) k)
/-- DroneCorridorsModel.addCorridor -/
theorem z175 {T N : Nat → Nat} {h : PH} {w : Nat} {x1 : Int} {x2 : Int} {x3 : Int} {x4 : Int} {K : Int → PH → Prop} (t0 : T w = 12) (r1 : In x1) (r2 : In x2) (r3 : In x3) (r4 : In x4) (k : (ZI T N 173 [vr (some w), vi (J x1), vi (J x2), vi (J x3), vi (J x4)] h (fun x_3 h_2 => (∀ h_6, h_6 = wi h_2 w 0 x_3 → ((0 < (ai h_6 w 0) → (K 0 h_6)) ∧ (¬ (0 < (ai h_6 w 0)) → (CV T N 160 [vr (some w)] h_6 (fun h_11 => (ZI T N 174 [vr (some w), vi (J x1), vi (J x2), vi (J x3), vi (J x4)] h_11 (fun x_15 h_14 => (K x_15 h_14))))))))))) : ZI T N 175 [vr (some w), vi (J x1), vi (J x2), vi (J x3), vi (J x4)] h K := by
  show WP T N 175 0 [some (vr (some w)), some (vi (J x1)), some (vi (J x2)), some (vi (J x3)), some (vi (J x4))] [] h _
  refine R_ps 6 (pc2 := 7) (L2 := [some (vr (some w)), some (vi (J x1)), some (vi (J x2)), some (vi (J x3)), some (vi (J x4))]) (st2 := [vi (J x4), vi (J x3), vi (J x2), vi (J x1), vr (some w), vr (some w)]) rfl ?_
  refine R_zcI (as := [vr (some w), vi (J x1), vi (J x2), vi (J x3), vi (J x4)]) rfl rfl ⟨Nat.le_of_ble_eq_true rfl, Nat.le_of_ble_eq_true rfl, rfl, (Or.inr ⟨_, rfl, t0⟩)⟩ rfl rfl k (fun x_3 h_2 r_4 k => ?_)
  refine R_zputI (x := x_3) (z := 0) rfl t0 rfl ?_
  show WP T N _ _ _ _ (wi h_2 w 0 x_3) _
  generalize e_7 : wi h_2 w 0 x_3 = h_6
  replace k := k h_6 e_7.symm
  refine R_ps 1 (pc2 := 14) (L2 := [some (vr (some w)), some (vi (J x1)), some (vi (J x2)), some (vi (J x3)), some (vi (J x4))]) (st2 := [vr (some w)]) rfl ?_
  refine R_zgetI (z := 0) rfl t0 rfl ?_
  refine R_zif0 (x := ai h_6 w 0) rfl (ai_in _ _ _) (fun c_9 => ?_) (fun c_9 => ?_)
  · have k := k.2 c_9
    refine R_ps 1 (pc2 := 23) (L2 := [some (vr (some w)), some (vi (J x1)), some (vi (J x2)), some (vi (J x3)), some (vi (J x4))]) (st2 := [vr (some w)]) rfl ?_
    refine R_cV (as := [vr (some w)]) rfl rfl ⟨Nat.le_of_ble_eq_true rfl, Nat.le_of_ble_eq_true rfl, rfl, (Or.inr ⟨_, rfl, t0⟩)⟩ rfl rfl k (fun h_11 k => ?_)
    refine R_ps 5 (pc2 := 32) (L2 := [some (vr (some w)), some (vi (J x1)), some (vi (J x2)), some (vi (J x3)), some (vi (J x4))]) (st2 := [vi (J x4), vi (J x3), vi (J x2), vi (J x1), vr (some w)]) rfl ?_
    refine R_zcI (as := [vr (some w), vi (J x1), vi (J x2), vi (J x3), vi (J x4)]) rfl rfl ⟨Nat.le_of_ble_eq_true rfl, Nat.le_of_ble_eq_true rfl, rfl, (Or.inr ⟨_, rfl, t0⟩)⟩ rfl rfl k (fun x_15 h_14 r_16 k => ?_)
    exact R_iret rfl rfl (R_zr (x := x_15) (K := K) r_16 k)
  · have k := k.1 (Classical.not_not.mp c_9)
    refine R_ps 1 (pc2 := 21) (L2 := [some (vr (some w)), some (vi (J x1)), some (vi (J x2)), some (vi (J x3)), some (vi (J x4))]) (st2 := [vi (J 0)]) rfl ?_
    exact R_iret rfl rfl (R_zr (x := 0) (K := K) (by decide) k)
/-- DroneCorridorsModel.setWind -/
theorem z176 {T N : Nat → Nat} {h : PH} {w : Nat} {x1 : Int} {x2 : Int} {K : Int → PH → Prop} (t0 : T w = 12) (r1 : In x1) (r2 : In x2) (k : (ZI T N 163 [vr (some w), vi (J x1)] h (fun x_3 h_2 => (((x_3 = 0 → (∀ h_68, h_68 = wi h_2 w 0 1 → ((0 < (ai h_68 w 0) → (K 0 h_68)) ∧ (¬ (0 < (ai h_68 w 0)) → (CV T N 160 [vr (some w)] h_68 (fun h_73 => (∃ a_77, (gr h_73 w 1) = some a_77 ∧ T a_77 = 22 ∧ (0 ≤ ((12 + (4 * x1)) + 3) ∧ ((12 + (4 * x1)) + 3) < (N a_77 : Int) ∧ ((12 + (4 * x1)) + 3) < 2147483648) ∧ ∃ a_83, (gr h_73 w 1) = some a_83 ∧ T a_83 = 22 ∧ (0 ≤ ((12 + (4 * x1)) + 3) ∧ ((12 + (4 * x1)) + 3) < (N a_83 : Int) ∧ ((12 + (4 * x1)) + 3) < 2147483648) ∧ ∀ h_85, h_85 = wi h_73 a_83 ((12 + (4 * x1)) + 3) x2 → K (ai h_73 a_77 ((12 + (4 * x1)) + 3)) h_85))))))) ∧ (¬ (x_3 = 0) → (ZI T N 166 [vr (some w), vi (J x1)] h_2 (fun x_8 h_7 => (ZI T N 166 [vr (some w), vi (J x1)] h_7 (fun x_12 h_11 => (ZI T N 158 [vi (J x2), vi (J (-x_8)), vi (J x_12)] h_11 (fun x_16 h_15 => (((x_16 = 0 → (∀ h_44, h_44 = wi h_15 w 0 2 → ((0 < (ai h_44 w 0) → (K 0 h_44)) ∧ (¬ (0 < (ai h_44 w 0)) → (CV T N 160 [vr (some w)] h_44 (fun h_49 => (∃ a_53, (gr h_49 w 1) = some a_53 ∧ T a_53 = 22 ∧ (0 ≤ ((12 + (4 * x1)) + 3) ∧ ((12 + (4 * x1)) + 3) < (N a_53 : Int) ∧ ((12 + (4 * x1)) + 3) < 2147483648) ∧ ∃ a_59, (gr h_49 w 1) = some a_59 ∧ T a_59 = 22 ∧ (0 ≤ ((12 + (4 * x1)) + 3) ∧ ((12 + (4 * x1)) + 3) < (N a_59 : Int) ∧ ((12 + (4 * x1)) + 3) < 2147483648) ∧ ∀ h_61, h_61 = wi h_49 a_59 ((12 + (4 * x1)) + 3) x2 → K (ai h_49 a_53 ((12 + (4 * x1)) + 3)) h_61))))))) ∧ (¬ (x_16 = 0) → (∀ h_20, h_20 = wi h_15 w 0 0 → ((0 < (ai h_20 w 0) → (K 0 h_20)) ∧ (¬ (0 < (ai h_20 w 0)) → (CV T N 160 [vr (some w)] h_20 (fun h_25 => (∃ a_29, (gr h_25 w 1) = some a_29 ∧ T a_29 = 22 ∧ (0 ≤ ((12 + (4 * x1)) + 3) ∧ ((12 + (4 * x1)) + 3) < (N a_29 : Int) ∧ ((12 + (4 * x1)) + 3) < 2147483648) ∧ ∃ a_35, (gr h_25 w 1) = some a_35 ∧ T a_35 = 22 ∧ (0 ≤ ((12 + (4 * x1)) + 3) ∧ ((12 + (4 * x1)) + 3) < (N a_35 : Int) ∧ ((12 + (4 * x1)) + 3) < 2147483648) ∧ ∀ h_37, h_37 = wi h_25 a_35 ((12 + (4 * x1)) + 3) x2 → K (ai h_25 a_29 ((12 + (4 * x1)) + 3)) h_37))))))))))))))))))))) : ZI T N 176 [vr (some w), vi (J x1), vi (J x2)] h K := by
  show WP T N 176 0 [some (vr (some w)), some (vi (J x1)), some (vi (J x2)), none] [] h _
  refine R_ps 3 (pc2 := 3) (L2 := [some (vr (some w)), some (vi (J x1)), some (vi (J x2)), none]) (st2 := [vi (J x1), vr (some w), vr (some w)]) rfl ?_
  refine R_zcI (as := [vr (some w), vi (J x1)]) rfl rfl ⟨Nat.le_of_ble_eq_true rfl, Nat.le_of_ble_eq_true rfl, rfl, (Or.inr ⟨_, rfl, t0⟩)⟩ rfl rfl k (fun x_3 h_2 r_4 k => ?_)
  refine R_zif0 (x := x_3) rfl r_4 (fun c_5 => ?_) (fun c_5 => ?_)
  · have k := k.2 c_5
    refine R_ps 3 (pc2 := 16) (L2 := [some (vr (some w)), some (vi (J x1)), some (vi (J x2)), none]) (st2 := [vi (J x1), vr (some w), vi (J x2), vr (some w)]) rfl ?_
    refine R_zcI (as := [vr (some w), vi (J x1)]) rfl rfl ⟨Nat.le_of_ble_eq_true rfl, Nat.le_of_ble_eq_true rfl, rfl, (Or.inr ⟨_, rfl, t0⟩)⟩ rfl rfl k (fun x_8 h_7 r_9 k => ?_)
    refine R_ps 3 (pc2 := 22) (L2 := [some (vr (some w)), some (vi (J x1)), some (vi (J x2)), none]) (st2 := [vi (J x1), vr (some w), vi (-(J x_8)), vi (J x2), vr (some w)]) rfl ?_
    rw [show (-(J x_8)) = J (-x_8) from J_neg' rfl]
    refine R_zcI (as := [vr (some w), vi (J x1)]) rfl rfl ⟨Nat.le_of_ble_eq_true rfl, Nat.le_of_ble_eq_true rfl, rfl, (Or.inr ⟨_, rfl, t0⟩)⟩ rfl rfl k (fun x_12 h_11 r_13 k => ?_)
    refine R_zcI (as := [vi (J x2), vi (J (-x_8)), vi (J x_12)]) rfl rfl ⟨Nat.le_of_ble_eq_true rfl, Nat.le_of_ble_eq_true rfl, rfl, (Or.inl rfl)⟩ rfl rfl k (fun x_16 h_15 r_17 k => ?_)
    refine R_zif0 (x := x_16) rfl r_17 (fun c_18 => ?_) (fun c_18 => ?_)
    · have k := k.2 c_18
      refine R_ps 1 (pc2 := 36) (L2 := [some (vr (some w)), some (vi (J x1)), some (vi (J x2)), none]) (st2 := [vi (J 0), vr (some w)]) rfl ?_
      refine R_zputI (x := 0) (z := 0) rfl t0 rfl ?_
      show WP T N _ _ _ _ (wi h_15 w 0 0) _
      generalize e_21 : wi h_15 w 0 0 = h_20
      replace k := k h_20 e_21.symm
      refine R_ps 1 (pc2 := 40) (L2 := [some (vr (some w)), some (vi (J x1)), some (vi (J x2)), none]) (st2 := [vr (some w)]) rfl ?_
      refine R_zgetI (z := 0) rfl t0 rfl ?_
      refine R_zif0 (x := ai h_20 w 0) rfl (ai_in _ _ _) (fun c_23 => ?_) (fun c_23 => ?_)
      · have k := k.2 c_23
        refine R_ps 1 (pc2 := 49) (L2 := [some (vr (some w)), some (vi (J x1)), some (vi (J x2)), none]) (st2 := [vr (some w)]) rfl ?_
        refine R_cV (as := [vr (some w)]) rfl rfl ⟨Nat.le_of_ble_eq_true rfl, Nat.le_of_ble_eq_true rfl, rfl, (Or.inr ⟨_, rfl, t0⟩)⟩ rfl rfl k (fun h_25 k => ?_)
        refine R_ps 1 (pc2 := 53) (L2 := [some (vr (some w)), some (vi (J x1)), some (vi (J x2)), none]) (st2 := [vr (some w)]) rfl ?_
        refine R_getR rfl t0 ?_
        refine R_ps 7 (pc2 := 64) (L2 := [some (vr (some w)), some (vi (J x1)), some (vi (J x2)), none]) (st2 := [vi (((J 12) + ((J 4) * (J x1))) + (J 3)), vr (gr h_25 w 1)]) rfl ?_
        rw [show (((J 12) + ((J 4) * (J x1))) + (J 3)) = J ((12 + (4 * x1)) + 3) from J_add' (J_add' rfl (J_mul' rfl rfl)) rfl]
        obtain ⟨a_29, e_30, k⟩ := k
        rw [e_30]
        obtain ⟨t_31, k⟩ := k
        obtain ⟨t_32, k⟩ := k
        refine R_ziald (i := (12 + (4 * x1)) + 3) rfl (Or.inl t_31) t_32 ?_
        refine R_ps 2 (pc2 := 67) (L2 := [some (vr (some w)), some (vi (J x1)), some (vi (J x2)), some (vi (J (ai h_25 a_29 ((12 + (4 * x1)) + 3))))]) (st2 := [vr (some w)]) rfl ?_
        refine R_getR rfl t0 ?_
        refine R_ps 8 (pc2 := 79) (L2 := [some (vr (some w)), some (vi (J x1)), some (vi (J x2)), some (vi (J (ai h_25 a_29 ((12 + (4 * x1)) + 3))))]) (st2 := [vi (J x2), vi (((J 12) + ((J 4) * (J x1))) + (J 3)), vr (gr h_25 w 1)]) rfl ?_
        rw [show (((J 12) + ((J 4) * (J x1))) + (J 3)) = J ((12 + (4 * x1)) + 3) from J_add' (J_add' rfl (J_mul' rfl rfl)) rfl]
        obtain ⟨a_35, e_36, k⟩ := k
        rw [e_36]
        obtain ⟨t_39, k⟩ := k
        obtain ⟨t_40, k⟩ := k
        refine R_ziast (i := (12 + (4 * x1)) + 3) (x := x2) rfl t_39 t_40  ?_
        show WP T N _ _ _ _ (wi h_25 a_35 ((12 + (4 * x1)) + 3) x2) _
        generalize e_38 : wi h_25 a_35 ((12 + (4 * x1)) + 3) x2 = h_37
        replace k := k h_37 e_38.symm
        refine R_ps 1 (pc2 := 81) (L2 := [some (vr (some w)), some (vi (J x1)), some (vi (J x2)), some (vi (J (ai h_25 a_29 ((12 + (4 * x1)) + 3))))]) (st2 := [vi (J (ai h_25 a_29 ((12 + (4 * x1)) + 3)))]) rfl ?_
        exact R_iret rfl rfl (R_zr (x := ai h_25 a_29 ((12 + (4 * x1)) + 3)) (K := K) (ai_in _ _ _) k)
      · have k := k.1 (Classical.not_not.mp c_23)
        refine R_ps 1 (pc2 := 47) (L2 := [some (vr (some w)), some (vi (J x1)), some (vi (J x2)), none]) (st2 := [vi (J 0)]) rfl ?_
        exact R_iret rfl rfl (R_zr (x := 0) (K := K) (by decide) k)
    · have k := k.1 (Classical.not_not.mp c_18)
      refine R_ps 2 (pc2 := 36) (L2 := [some (vr (some w)), some (vi (J x1)), some (vi (J x2)), none]) (st2 := [vi (J 2), vr (some w)]) rfl ?_
      refine R_zputI (x := 2) (z := 0) rfl t0 rfl ?_
      show WP T N _ _ _ _ (wi h_15 w 0 2) _
      generalize e_45 : wi h_15 w 0 2 = h_44
      replace k := k h_44 e_45.symm
      refine R_ps 1 (pc2 := 40) (L2 := [some (vr (some w)), some (vi (J x1)), some (vi (J x2)), none]) (st2 := [vr (some w)]) rfl ?_
      refine R_zgetI (z := 0) rfl t0 rfl ?_
      refine R_zif0 (x := ai h_44 w 0) rfl (ai_in _ _ _) (fun c_47 => ?_) (fun c_47 => ?_)
      · have k := k.2 c_47
        refine R_ps 1 (pc2 := 49) (L2 := [some (vr (some w)), some (vi (J x1)), some (vi (J x2)), none]) (st2 := [vr (some w)]) rfl ?_
        refine R_cV (as := [vr (some w)]) rfl rfl ⟨Nat.le_of_ble_eq_true rfl, Nat.le_of_ble_eq_true rfl, rfl, (Or.inr ⟨_, rfl, t0⟩)⟩ rfl rfl k (fun h_49 k => ?_)
        refine R_ps 1 (pc2 := 53) (L2 := [some (vr (some w)), some (vi (J x1)), some (vi (J x2)), none]) (st2 := [vr (some w)]) rfl ?_
        refine R_getR rfl t0 ?_
        refine R_ps 7 (pc2 := 64) (L2 := [some (vr (some w)), some (vi (J x1)), some (vi (J x2)), none]) (st2 := [vi (((J 12) + ((J 4) * (J x1))) + (J 3)), vr (gr h_49 w 1)]) rfl ?_
        rw [show (((J 12) + ((J 4) * (J x1))) + (J 3)) = J ((12 + (4 * x1)) + 3) from J_add' (J_add' rfl (J_mul' rfl rfl)) rfl]
        obtain ⟨a_53, e_54, k⟩ := k
        rw [e_54]
        obtain ⟨t_55, k⟩ := k
        obtain ⟨t_56, k⟩ := k
        refine R_ziald (i := (12 + (4 * x1)) + 3) rfl (Or.inl t_55) t_56 ?_
        refine R_ps 2 (pc2 := 67) (L2 := [some (vr (some w)), some (vi (J x1)), some (vi (J x2)), some (vi (J (ai h_49 a_53 ((12 + (4 * x1)) + 3))))]) (st2 := [vr (some w)]) rfl ?_
        refine R_getR rfl t0 ?_
        refine R_ps 8 (pc2 := 79) (L2 := [some (vr (some w)), some (vi (J x1)), some (vi (J x2)), some (vi (J (ai h_49 a_53 ((12 + (4 * x1)) + 3))))]) (st2 := [vi (J x2), vi (((J 12) + ((J 4) * (J x1))) + (J 3)), vr (gr h_49 w 1)]) rfl ?_
        rw [show (((J 12) + ((J 4) * (J x1))) + (J 3)) = J ((12 + (4 * x1)) + 3) from J_add' (J_add' rfl (J_mul' rfl rfl)) rfl]
        obtain ⟨a_59, e_60, k⟩ := k
        rw [e_60]
        obtain ⟨t_63, k⟩ := k
        obtain ⟨t_64, k⟩ := k
        refine R_ziast (i := (12 + (4 * x1)) + 3) (x := x2) rfl t_63 t_64  ?_
        show WP T N _ _ _ _ (wi h_49 a_59 ((12 + (4 * x1)) + 3) x2) _
        generalize e_62 : wi h_49 a_59 ((12 + (4 * x1)) + 3) x2 = h_61
        replace k := k h_61 e_62.symm
        refine R_ps 1 (pc2 := 81) (L2 := [some (vr (some w)), some (vi (J x1)), some (vi (J x2)), some (vi (J (ai h_49 a_53 ((12 + (4 * x1)) + 3))))]) (st2 := [vi (J (ai h_49 a_53 ((12 + (4 * x1)) + 3)))]) rfl ?_
        exact R_iret rfl rfl (R_zr (x := ai h_49 a_53 ((12 + (4 * x1)) + 3)) (K := K) (ai_in _ _ _) k)
      · have k := k.1 (Classical.not_not.mp c_47)
        refine R_ps 1 (pc2 := 47) (L2 := [some (vr (some w)), some (vi (J x1)), some (vi (J x2)), none]) (st2 := [vi (J 0)]) rfl ?_
        exact R_iret rfl rfl (R_zr (x := 0) (K := K) (by decide) k)
  · have k := k.1 (Classical.not_not.mp c_5)
    refine R_ps 2 (pc2 := 36) (L2 := [some (vr (some w)), some (vi (J x1)), some (vi (J x2)), none]) (st2 := [vi (J 1), vr (some w)]) rfl ?_
    refine R_zputI (x := 1) (z := 0) rfl t0 rfl ?_
    show WP T N _ _ _ _ (wi h_2 w 0 1) _
    generalize e_69 : wi h_2 w 0 1 = h_68
    replace k := k h_68 e_69.symm
    refine R_ps 1 (pc2 := 40) (L2 := [some (vr (some w)), some (vi (J x1)), some (vi (J x2)), none]) (st2 := [vr (some w)]) rfl ?_
    refine R_zgetI (z := 0) rfl t0 rfl ?_
    refine R_zif0 (x := ai h_68 w 0) rfl (ai_in _ _ _) (fun c_71 => ?_) (fun c_71 => ?_)
    · have k := k.2 c_71
      refine R_ps 1 (pc2 := 49) (L2 := [some (vr (some w)), some (vi (J x1)), some (vi (J x2)), none]) (st2 := [vr (some w)]) rfl ?_
      refine R_cV (as := [vr (some w)]) rfl rfl ⟨Nat.le_of_ble_eq_true rfl, Nat.le_of_ble_eq_true rfl, rfl, (Or.inr ⟨_, rfl, t0⟩)⟩ rfl rfl k (fun h_73 k => ?_)
      refine R_ps 1 (pc2 := 53) (L2 := [some (vr (some w)), some (vi (J x1)), some (vi (J x2)), none]) (st2 := [vr (some w)]) rfl ?_
      refine R_getR rfl t0 ?_
      refine R_ps 7 (pc2 := 64) (L2 := [some (vr (some w)), some (vi (J x1)), some (vi (J x2)), none]) (st2 := [vi (((J 12) + ((J 4) * (J x1))) + (J 3)), vr (gr h_73 w 1)]) rfl ?_
      rw [show (((J 12) + ((J 4) * (J x1))) + (J 3)) = J ((12 + (4 * x1)) + 3) from J_add' (J_add' rfl (J_mul' rfl rfl)) rfl]
      obtain ⟨a_77, e_78, k⟩ := k
      rw [e_78]
      obtain ⟨t_79, k⟩ := k
      obtain ⟨t_80, k⟩ := k
      refine R_ziald (i := (12 + (4 * x1)) + 3) rfl (Or.inl t_79) t_80 ?_
      refine R_ps 2 (pc2 := 67) (L2 := [some (vr (some w)), some (vi (J x1)), some (vi (J x2)), some (vi (J (ai h_73 a_77 ((12 + (4 * x1)) + 3))))]) (st2 := [vr (some w)]) rfl ?_
      refine R_getR rfl t0 ?_
      refine R_ps 8 (pc2 := 79) (L2 := [some (vr (some w)), some (vi (J x1)), some (vi (J x2)), some (vi (J (ai h_73 a_77 ((12 + (4 * x1)) + 3))))]) (st2 := [vi (J x2), vi (((J 12) + ((J 4) * (J x1))) + (J 3)), vr (gr h_73 w 1)]) rfl ?_
      rw [show (((J 12) + ((J 4) * (J x1))) + (J 3)) = J ((12 + (4 * x1)) + 3) from J_add' (J_add' rfl (J_mul' rfl rfl)) rfl]
      obtain ⟨a_83, e_84, k⟩ := k
      rw [e_84]
      obtain ⟨t_87, k⟩ := k
      obtain ⟨t_88, k⟩ := k
      refine R_ziast (i := (12 + (4 * x1)) + 3) (x := x2) rfl t_87 t_88  ?_
      show WP T N _ _ _ _ (wi h_73 a_83 ((12 + (4 * x1)) + 3) x2) _
      generalize e_86 : wi h_73 a_83 ((12 + (4 * x1)) + 3) x2 = h_85
      replace k := k h_85 e_86.symm
      refine R_ps 1 (pc2 := 81) (L2 := [some (vr (some w)), some (vi (J x1)), some (vi (J x2)), some (vi (J (ai h_73 a_77 ((12 + (4 * x1)) + 3))))]) (st2 := [vi (J (ai h_73 a_77 ((12 + (4 * x1)) + 3)))]) rfl ?_
      exact R_iret rfl rfl (R_zr (x := ai h_73 a_77 ((12 + (4 * x1)) + 3)) (K := K) (ai_in _ _ _) k)
    · have k := k.1 (Classical.not_not.mp c_71)
      refine R_ps 1 (pc2 := 47) (L2 := [some (vr (some w)), some (vi (J x1)), some (vi (J x2)), none]) (st2 := [vi (J 0)]) rfl ?_
      exact R_iret rfl rfl (R_zr (x := 0) (K := K) (by decide) k)
/-- DroneCorridorsModel.addFence -/
theorem z177 {T N : Nat → Nat} {h : PH} {w : Nat} {x1 : Int} {x2 : Int} {x3 : Int} {x4 : Int} {K : Int → PH → Prop} (t0 : T w = 12) (r1 : In x1) (r2 : In x2) (r3 : In x3) (r4 : In x4) (k : (ZI T N 163 [vr (some w), vi (J x1)] h (fun x_3 h_2 => (((x_3 = 0 → (∀ h_388, h_388 = wi h_2 w 0 1 → ((0 < (ai h_388 w 0) → (K 0 h_388)) ∧ (¬ (0 < (ai h_388 w 0)) → (CV T N 160 [vr (some w)] h_388 (fun h_393 => (∃ a_397, (gr h_393 w 1) = some a_397 ∧ T a_397 = 22 ∧ (0 ≤ (76 : Int) ∧ (76 : Int) < (N a_397 : Int) ∧ (76 : Int) < 2147483648) ∧ ∃ a_403, (gr h_393 w 1) = some a_403 ∧ T a_403 = 22 ∧ (0 ≤ (77 + (4 * (ai h_393 a_397 76))) ∧ (77 + (4 * (ai h_393 a_397 76))) < (N a_403 : Int) ∧ (77 + (4 * (ai h_393 a_397 76))) < 2147483648) ∧ ∀ h_405, h_405 = wi h_393 a_403 (77 + (4 * (ai h_393 a_397 76))) x1 → ∃ a_411, (gr h_405 w 1) = some a_411 ∧ T a_411 = 22 ∧ (0 ≤ ((77 + (4 * (ai h_393 a_397 76))) + 1) ∧ ((77 + (4 * (ai h_393 a_397 76))) + 1) < (N a_411 : Int) ∧ ((77 + (4 * (ai h_393 a_397 76))) + 1) < 2147483648) ∧ ∀ h_413, h_413 = wi h_405 a_411 ((77 + (4 * (ai h_393 a_397 76))) + 1) x2 → ∃ a_419, (gr h_413 w 1) = some a_419 ∧ T a_419 = 22 ∧ (0 ≤ ((77 + (4 * (ai h_393 a_397 76))) + 2) ∧ ((77 + (4 * (ai h_393 a_397 76))) + 2) < (N a_419 : Int) ∧ ((77 + (4 * (ai h_393 a_397 76))) + 2) < 2147483648) ∧ ∀ h_421, h_421 = wi h_413 a_419 ((77 + (4 * (ai h_393 a_397 76))) + 2) x3 → ∃ a_427, (gr h_421 w 1) = some a_427 ∧ T a_427 = 22 ∧ (0 ≤ ((77 + (4 * (ai h_393 a_397 76))) + 3) ∧ ((77 + (4 * (ai h_393 a_397 76))) + 3) < (N a_427 : Int) ∧ ((77 + (4 * (ai h_393 a_397 76))) + 3) < 2147483648) ∧ ∀ h_429, h_429 = wi h_421 a_427 ((77 + (4 * (ai h_393 a_397 76))) + 3) x4 → ∃ a_435, (gr h_429 w 1) = some a_435 ∧ T a_435 = 22 ∧ (0 ≤ (76 : Int) ∧ (76 : Int) < (N a_435 : Int) ∧ (76 : Int) < 2147483648) ∧ ∀ h_440, h_440 = wi h_429 a_435 76 ((ai h_429 a_435 76) + 1) → ZI T N 200 [vr (some w)] h_440 (fun x_444 h_443 => (K x_444 h_443))))))))) ∧ (¬ (x_3 = 0) → (ZI T N 158 [vi (J x2), vi (J 1), vi (J 7)] h_2 (fun x_8 h_7 => (((x_8 = 0 → (∀ h_12, h_12 = wi h_7 w 0 2 → ((0 < (ai h_12 w 0) → (K 0 h_12)) ∧ (¬ (0 < (ai h_12 w 0)) → (CV T N 160 [vr (some w)] h_12 (fun h_17 => (∃ a_21, (gr h_17 w 1) = some a_21 ∧ T a_21 = 22 ∧ (0 ≤ (76 : Int) ∧ (76 : Int) < (N a_21 : Int) ∧ (76 : Int) < 2147483648) ∧ ∃ a_27, (gr h_17 w 1) = some a_27 ∧ T a_27 = 22 ∧ (0 ≤ (77 + (4 * (ai h_17 a_21 76))) ∧ (77 + (4 * (ai h_17 a_21 76))) < (N a_27 : Int) ∧ (77 + (4 * (ai h_17 a_21 76))) < 2147483648) ∧ ∀ h_29, h_29 = wi h_17 a_27 (77 + (4 * (ai h_17 a_21 76))) x1 → ∃ a_35, (gr h_29 w 1) = some a_35 ∧ T a_35 = 22 ∧ (0 ≤ ((77 + (4 * (ai h_17 a_21 76))) + 1) ∧ ((77 + (4 * (ai h_17 a_21 76))) + 1) < (N a_35 : Int) ∧ ((77 + (4 * (ai h_17 a_21 76))) + 1) < 2147483648) ∧ ∀ h_37, h_37 = wi h_29 a_35 ((77 + (4 * (ai h_17 a_21 76))) + 1) x2 → ∃ a_43, (gr h_37 w 1) = some a_43 ∧ T a_43 = 22 ∧ (0 ≤ ((77 + (4 * (ai h_17 a_21 76))) + 2) ∧ ((77 + (4 * (ai h_17 a_21 76))) + 2) < (N a_43 : Int) ∧ ((77 + (4 * (ai h_17 a_21 76))) + 2) < 2147483648) ∧ ∀ h_45, h_45 = wi h_37 a_43 ((77 + (4 * (ai h_17 a_21 76))) + 2) x3 → ∃ a_51, (gr h_45 w 1) = some a_51 ∧ T a_51 = 22 ∧ (0 ≤ ((77 + (4 * (ai h_17 a_21 76))) + 3) ∧ ((77 + (4 * (ai h_17 a_21 76))) + 3) < (N a_51 : Int) ∧ ((77 + (4 * (ai h_17 a_21 76))) + 3) < 2147483648) ∧ ∀ h_53, h_53 = wi h_45 a_51 ((77 + (4 * (ai h_17 a_21 76))) + 3) x4 → ∃ a_59, (gr h_53 w 1) = some a_59 ∧ T a_59 = 22 ∧ (0 ≤ (76 : Int) ∧ (76 : Int) < (N a_59 : Int) ∧ (76 : Int) < 2147483648) ∧ ∀ h_64, h_64 = wi h_53 a_59 76 ((ai h_53 a_59 76) + 1) → ZI T N 200 [vr (some w)] h_64 (fun x_68 h_67 => (K x_68 h_67))))))))) ∧ (¬ (x_8 = 0) → (((x3 < 0 → (∀ h_74, h_74 = wi h_7 w 0 2 → ((0 < (ai h_74 w 0) → (K 0 h_74)) ∧ (¬ (0 < (ai h_74 w 0)) → (CV T N 160 [vr (some w)] h_74 (fun h_79 => (∃ a_83, (gr h_79 w 1) = some a_83 ∧ T a_83 = 22 ∧ (0 ≤ (76 : Int) ∧ (76 : Int) < (N a_83 : Int) ∧ (76 : Int) < 2147483648) ∧ ∃ a_89, (gr h_79 w 1) = some a_89 ∧ T a_89 = 22 ∧ (0 ≤ (77 + (4 * (ai h_79 a_83 76))) ∧ (77 + (4 * (ai h_79 a_83 76))) < (N a_89 : Int) ∧ (77 + (4 * (ai h_79 a_83 76))) < 2147483648) ∧ ∀ h_91, h_91 = wi h_79 a_89 (77 + (4 * (ai h_79 a_83 76))) x1 → ∃ a_97, (gr h_91 w 1) = some a_97 ∧ T a_97 = 22 ∧ (0 ≤ ((77 + (4 * (ai h_79 a_83 76))) + 1) ∧ ((77 + (4 * (ai h_79 a_83 76))) + 1) < (N a_97 : Int) ∧ ((77 + (4 * (ai h_79 a_83 76))) + 1) < 2147483648) ∧ ∀ h_99, h_99 = wi h_91 a_97 ((77 + (4 * (ai h_79 a_83 76))) + 1) x2 → ∃ a_105, (gr h_99 w 1) = some a_105 ∧ T a_105 = 22 ∧ (0 ≤ ((77 + (4 * (ai h_79 a_83 76))) + 2) ∧ ((77 + (4 * (ai h_79 a_83 76))) + 2) < (N a_105 : Int) ∧ ((77 + (4 * (ai h_79 a_83 76))) + 2) < 2147483648) ∧ ∀ h_107, h_107 = wi h_99 a_105 ((77 + (4 * (ai h_79 a_83 76))) + 2) x3 → ∃ a_113, (gr h_107 w 1) = some a_113 ∧ T a_113 = 22 ∧ (0 ≤ ((77 + (4 * (ai h_79 a_83 76))) + 3) ∧ ((77 + (4 * (ai h_79 a_83 76))) + 3) < (N a_113 : Int) ∧ ((77 + (4 * (ai h_79 a_83 76))) + 3) < 2147483648) ∧ ∀ h_115, h_115 = wi h_107 a_113 ((77 + (4 * (ai h_79 a_83 76))) + 3) x4 → ∃ a_121, (gr h_115 w 1) = some a_121 ∧ T a_121 = 22 ∧ (0 ≤ (76 : Int) ∧ (76 : Int) < (N a_121 : Int) ∧ (76 : Int) < 2147483648) ∧ ∀ h_126, h_126 = wi h_115 a_121 76 ((ai h_115 a_121 76) + 1) → ZI T N 200 [vr (some w)] h_126 (fun x_130 h_129 => (K x_130 h_129))))))))) ∧ (¬ (x3 < 0) → (((x3 < x4 → (((10000 < x4 → (∀ h_327, h_327 = wi h_7 w 0 2 → ((0 < (ai h_327 w 0) → (K 0 h_327)) ∧ (¬ (0 < (ai h_327 w 0)) → (CV T N 160 [vr (some w)] h_327 (fun h_332 => (∃ a_336, (gr h_332 w 1) = some a_336 ∧ T a_336 = 22 ∧ (0 ≤ (76 : Int) ∧ (76 : Int) < (N a_336 : Int) ∧ (76 : Int) < 2147483648) ∧ ∃ a_342, (gr h_332 w 1) = some a_342 ∧ T a_342 = 22 ∧ (0 ≤ (77 + (4 * (ai h_332 a_336 76))) ∧ (77 + (4 * (ai h_332 a_336 76))) < (N a_342 : Int) ∧ (77 + (4 * (ai h_332 a_336 76))) < 2147483648) ∧ ∀ h_344, h_344 = wi h_332 a_342 (77 + (4 * (ai h_332 a_336 76))) x1 → ∃ a_350, (gr h_344 w 1) = some a_350 ∧ T a_350 = 22 ∧ (0 ≤ ((77 + (4 * (ai h_332 a_336 76))) + 1) ∧ ((77 + (4 * (ai h_332 a_336 76))) + 1) < (N a_350 : Int) ∧ ((77 + (4 * (ai h_332 a_336 76))) + 1) < 2147483648) ∧ ∀ h_352, h_352 = wi h_344 a_350 ((77 + (4 * (ai h_332 a_336 76))) + 1) x2 → ∃ a_358, (gr h_352 w 1) = some a_358 ∧ T a_358 = 22 ∧ (0 ≤ ((77 + (4 * (ai h_332 a_336 76))) + 2) ∧ ((77 + (4 * (ai h_332 a_336 76))) + 2) < (N a_358 : Int) ∧ ((77 + (4 * (ai h_332 a_336 76))) + 2) < 2147483648) ∧ ∀ h_360, h_360 = wi h_352 a_358 ((77 + (4 * (ai h_332 a_336 76))) + 2) x3 → ∃ a_366, (gr h_360 w 1) = some a_366 ∧ T a_366 = 22 ∧ (0 ≤ ((77 + (4 * (ai h_332 a_336 76))) + 3) ∧ ((77 + (4 * (ai h_332 a_336 76))) + 3) < (N a_366 : Int) ∧ ((77 + (4 * (ai h_332 a_336 76))) + 3) < 2147483648) ∧ ∀ h_368, h_368 = wi h_360 a_366 ((77 + (4 * (ai h_332 a_336 76))) + 3) x4 → ∃ a_374, (gr h_368 w 1) = some a_374 ∧ T a_374 = 22 ∧ (0 ≤ (76 : Int) ∧ (76 : Int) < (N a_374 : Int) ∧ (76 : Int) < 2147483648) ∧ ∀ h_379, h_379 = wi h_368 a_374 76 ((ai h_368 a_374 76) + 1) → ZI T N 200 [vr (some w)] h_379 (fun x_383 h_382 => (K x_383 h_382))))))))) ∧ (¬ (10000 < x4) → (∃ a_199, (gr h_7 w 1) = some a_199 ∧ T a_199 = 22 ∧ (0 ≤ (76 : Int) ∧ (76 : Int) < (N a_199 : Int) ∧ (76 : Int) < 2147483648) ∧ (((ai h_7 a_199 76) = 10 → (∀ h_266, h_266 = wi h_7 w 0 3 → ((0 < (ai h_266 w 0) → (K 0 h_266)) ∧ (¬ (0 < (ai h_266 w 0)) → (CV T N 160 [vr (some w)] h_266 (fun h_271 => (∃ a_275, (gr h_271 w 1) = some a_275 ∧ T a_275 = 22 ∧ (0 ≤ (76 : Int) ∧ (76 : Int) < (N a_275 : Int) ∧ (76 : Int) < 2147483648) ∧ ∃ a_281, (gr h_271 w 1) = some a_281 ∧ T a_281 = 22 ∧ (0 ≤ (77 + (4 * (ai h_271 a_275 76))) ∧ (77 + (4 * (ai h_271 a_275 76))) < (N a_281 : Int) ∧ (77 + (4 * (ai h_271 a_275 76))) < 2147483648) ∧ ∀ h_283, h_283 = wi h_271 a_281 (77 + (4 * (ai h_271 a_275 76))) x1 → ∃ a_289, (gr h_283 w 1) = some a_289 ∧ T a_289 = 22 ∧ (0 ≤ ((77 + (4 * (ai h_271 a_275 76))) + 1) ∧ ((77 + (4 * (ai h_271 a_275 76))) + 1) < (N a_289 : Int) ∧ ((77 + (4 * (ai h_271 a_275 76))) + 1) < 2147483648) ∧ ∀ h_291, h_291 = wi h_283 a_289 ((77 + (4 * (ai h_271 a_275 76))) + 1) x2 → ∃ a_297, (gr h_291 w 1) = some a_297 ∧ T a_297 = 22 ∧ (0 ≤ ((77 + (4 * (ai h_271 a_275 76))) + 2) ∧ ((77 + (4 * (ai h_271 a_275 76))) + 2) < (N a_297 : Int) ∧ ((77 + (4 * (ai h_271 a_275 76))) + 2) < 2147483648) ∧ ∀ h_299, h_299 = wi h_291 a_297 ((77 + (4 * (ai h_271 a_275 76))) + 2) x3 → ∃ a_305, (gr h_299 w 1) = some a_305 ∧ T a_305 = 22 ∧ (0 ≤ ((77 + (4 * (ai h_271 a_275 76))) + 3) ∧ ((77 + (4 * (ai h_271 a_275 76))) + 3) < (N a_305 : Int) ∧ ((77 + (4 * (ai h_271 a_275 76))) + 3) < 2147483648) ∧ ∀ h_307, h_307 = wi h_299 a_305 ((77 + (4 * (ai h_271 a_275 76))) + 3) x4 → ∃ a_313, (gr h_307 w 1) = some a_313 ∧ T a_313 = 22 ∧ (0 ≤ (76 : Int) ∧ (76 : Int) < (N a_313 : Int) ∧ (76 : Int) < 2147483648) ∧ ∀ h_318, h_318 = wi h_307 a_313 76 ((ai h_307 a_313 76) + 1) → ZI T N 200 [vr (some w)] h_318 (fun x_322 h_321 => (K x_322 h_321))))))))) ∧ (¬ ((ai h_7 a_199 76) = 10) → (∀ h_205, h_205 = wi h_7 w 0 0 → ((0 < (ai h_205 w 0) → (K 0 h_205)) ∧ (¬ (0 < (ai h_205 w 0)) → (CV T N 160 [vr (some w)] h_205 (fun h_210 => (∃ a_214, (gr h_210 w 1) = some a_214 ∧ T a_214 = 22 ∧ (0 ≤ (76 : Int) ∧ (76 : Int) < (N a_214 : Int) ∧ (76 : Int) < 2147483648) ∧ ∃ a_220, (gr h_210 w 1) = some a_220 ∧ T a_220 = 22 ∧ (0 ≤ (77 + (4 * (ai h_210 a_214 76))) ∧ (77 + (4 * (ai h_210 a_214 76))) < (N a_220 : Int) ∧ (77 + (4 * (ai h_210 a_214 76))) < 2147483648) ∧ ∀ h_222, h_222 = wi h_210 a_220 (77 + (4 * (ai h_210 a_214 76))) x1 → ∃ a_228, (gr h_222 w 1) = some a_228 ∧ T a_228 = 22 ∧ (0 ≤ ((77 + (4 * (ai h_210 a_214 76))) + 1) ∧ ((77 + (4 * (ai h_210 a_214 76))) + 1) < (N a_228 : Int) ∧ ((77 + (4 * (ai h_210 a_214 76))) + 1) < 2147483648) ∧ ∀ h_230, h_230 = wi h_222 a_228 ((77 + (4 * (ai h_210 a_214 76))) + 1) x2 → ∃ a_236, (gr h_230 w 1) = some a_236 ∧ T a_236 = 22 ∧ (0 ≤ ((77 + (4 * (ai h_210 a_214 76))) + 2) ∧ ((77 + (4 * (ai h_210 a_214 76))) + 2) < (N a_236 : Int) ∧ ((77 + (4 * (ai h_210 a_214 76))) + 2) < 2147483648) ∧ ∀ h_238, h_238 = wi h_230 a_236 ((77 + (4 * (ai h_210 a_214 76))) + 2) x3 → ∃ a_244, (gr h_238 w 1) = some a_244 ∧ T a_244 = 22 ∧ (0 ≤ ((77 + (4 * (ai h_210 a_214 76))) + 3) ∧ ((77 + (4 * (ai h_210 a_214 76))) + 3) < (N a_244 : Int) ∧ ((77 + (4 * (ai h_210 a_214 76))) + 3) < 2147483648) ∧ ∀ h_246, h_246 = wi h_238 a_244 ((77 + (4 * (ai h_210 a_214 76))) + 3) x4 → ∃ a_252, (gr h_246 w 1) = some a_252 ∧ T a_252 = 22 ∧ (0 ≤ (76 : Int) ∧ (76 : Int) < (N a_252 : Int) ∧ (76 : Int) < 2147483648) ∧ ∀ h_257, h_257 = wi h_246 a_252 76 ((ai h_246 a_252 76) + 1) → ZI T N 200 [vr (some w)] h_257 (fun x_261 h_260 => (K x_261 h_260))))))))))))))) ∧ (¬ (x3 < x4) → (∀ h_136, h_136 = wi h_7 w 0 2 → ((0 < (ai h_136 w 0) → (K 0 h_136)) ∧ (¬ (0 < (ai h_136 w 0)) → (CV T N 160 [vr (some w)] h_136 (fun h_141 => (∃ a_145, (gr h_141 w 1) = some a_145 ∧ T a_145 = 22 ∧ (0 ≤ (76 : Int) ∧ (76 : Int) < (N a_145 : Int) ∧ (76 : Int) < 2147483648) ∧ ∃ a_151, (gr h_141 w 1) = some a_151 ∧ T a_151 = 22 ∧ (0 ≤ (77 + (4 * (ai h_141 a_145 76))) ∧ (77 + (4 * (ai h_141 a_145 76))) < (N a_151 : Int) ∧ (77 + (4 * (ai h_141 a_145 76))) < 2147483648) ∧ ∀ h_153, h_153 = wi h_141 a_151 (77 + (4 * (ai h_141 a_145 76))) x1 → ∃ a_159, (gr h_153 w 1) = some a_159 ∧ T a_159 = 22 ∧ (0 ≤ ((77 + (4 * (ai h_141 a_145 76))) + 1) ∧ ((77 + (4 * (ai h_141 a_145 76))) + 1) < (N a_159 : Int) ∧ ((77 + (4 * (ai h_141 a_145 76))) + 1) < 2147483648) ∧ ∀ h_161, h_161 = wi h_153 a_159 ((77 + (4 * (ai h_141 a_145 76))) + 1) x2 → ∃ a_167, (gr h_161 w 1) = some a_167 ∧ T a_167 = 22 ∧ (0 ≤ ((77 + (4 * (ai h_141 a_145 76))) + 2) ∧ ((77 + (4 * (ai h_141 a_145 76))) + 2) < (N a_167 : Int) ∧ ((77 + (4 * (ai h_141 a_145 76))) + 2) < 2147483648) ∧ ∀ h_169, h_169 = wi h_161 a_167 ((77 + (4 * (ai h_141 a_145 76))) + 2) x3 → ∃ a_175, (gr h_169 w 1) = some a_175 ∧ T a_175 = 22 ∧ (0 ≤ ((77 + (4 * (ai h_141 a_145 76))) + 3) ∧ ((77 + (4 * (ai h_141 a_145 76))) + 3) < (N a_175 : Int) ∧ ((77 + (4 * (ai h_141 a_145 76))) + 3) < 2147483648) ∧ ∀ h_177, h_177 = wi h_169 a_175 ((77 + (4 * (ai h_141 a_145 76))) + 3) x4 → ∃ a_183, (gr h_177 w 1) = some a_183 ∧ T a_183 = 22 ∧ (0 ≤ (76 : Int) ∧ (76 : Int) < (N a_183 : Int) ∧ (76 : Int) < 2147483648) ∧ ∀ h_188, h_188 = wi h_177 a_183 76 ((ai h_177 a_183 76) + 1) → ZI T N 200 [vr (some w)] h_188 (fun x_192 h_191 => (K x_192 h_191))))))))))))))))))))))))) : ZI T N 177 [vr (some w), vi (J x1), vi (J x2), vi (J x3), vi (J x4)] h K := by
  show WP T N 177 0 [some (vr (some w)), some (vi (J x1)), some (vi (J x2)), some (vi (J x3)), some (vi (J x4)), none] [] h _
  refine R_ps 3 (pc2 := 3) (L2 := [some (vr (some w)), some (vi (J x1)), some (vi (J x2)), some (vi (J x3)), some (vi (J x4)), none]) (st2 := [vi (J x1), vr (some w), vr (some w)]) rfl ?_
  refine R_zcI (as := [vr (some w), vi (J x1)]) rfl rfl ⟨Nat.le_of_ble_eq_true rfl, Nat.le_of_ble_eq_true rfl, rfl, (Or.inr ⟨_, rfl, t0⟩)⟩ rfl rfl k (fun x_3 h_2 r_4 k => ?_)
  refine R_zif0 (x := x_3) rfl r_4 (fun c_5 => ?_) (fun c_5 => ?_)
  · have k := k.2 c_5
    refine R_ps 3 (pc2 := 17) (L2 := [some (vr (some w)), some (vi (J x1)), some (vi (J x2)), some (vi (J x3)), some (vi (J x4)), none]) (st2 := [vi (J 7), vi (J 1), vi (J x2), vr (some w)]) rfl ?_
    refine R_zcI (as := [vi (J x2), vi (J 1), vi (J 7)]) rfl rfl ⟨Nat.le_of_ble_eq_true rfl, Nat.le_of_ble_eq_true rfl, rfl, (Or.inl rfl)⟩ rfl rfl k (fun x_8 h_7 r_9 k => ?_)
    refine R_zif0 (x := x_8) rfl r_9 (fun c_10 => ?_) (fun c_10 => ?_)
    · have k := k.1 c_10
      refine R_ps 2 (pc2 := 62) (L2 := [some (vr (some w)), some (vi (J x1)), some (vi (J x2)), some (vi (J x3)), some (vi (J x4)), none]) (st2 := [vi (J 2), vr (some w)]) rfl ?_
      refine R_zputI (x := 2) (z := 0) rfl t0 rfl ?_
      show WP T N _ _ _ _ (wi h_7 w 0 2) _
      generalize e_13 : wi h_7 w 0 2 = h_12
      replace k := k h_12 e_13.symm
      refine R_ps 1 (pc2 := 66) (L2 := [some (vr (some w)), some (vi (J x1)), some (vi (J x2)), some (vi (J x3)), some (vi (J x4)), none]) (st2 := [vr (some w)]) rfl ?_
      refine R_zgetI (z := 0) rfl t0 rfl ?_
      refine R_zif0 (x := ai h_12 w 0) rfl (ai_in _ _ _) (fun c_15 => ?_) (fun c_15 => ?_)
      · have k := k.2 c_15
        refine R_ps 1 (pc2 := 75) (L2 := [some (vr (some w)), some (vi (J x1)), some (vi (J x2)), some (vi (J x3)), some (vi (J x4)), none]) (st2 := [vr (some w)]) rfl ?_
        refine R_cV (as := [vr (some w)]) rfl rfl ⟨Nat.le_of_ble_eq_true rfl, Nat.le_of_ble_eq_true rfl, rfl, (Or.inr ⟨_, rfl, t0⟩)⟩ rfl rfl k (fun h_17 k => ?_)
        refine R_ps 3 (pc2 := 82) (L2 := [some (vr (some w)), some (vi (J x1)), some (vi (J x2)), some (vi (J x3)), some (vi (J x4)), none]) (st2 := [vr (some w), vi (J 4), vi (J 77)]) rfl ?_
        refine R_getR rfl t0 ?_
        refine R_ps 1 (pc2 := 87) (L2 := [some (vr (some w)), some (vi (J x1)), some (vi (J x2)), some (vi (J x3)), some (vi (J x4)), none]) (st2 := [vi (J 76), vr (gr h_17 w 1), vi (J 4), vi (J 77)]) rfl ?_
        obtain ⟨a_21, e_22, k⟩ := k
        rw [e_22]
        obtain ⟨t_23, k⟩ := k
        obtain ⟨t_24, k⟩ := k
        refine R_ziald (i := 76) rfl (Or.inl t_23) t_24 ?_
        refine R_ps 4 (pc2 := 93) (L2 := [some (vr (some w)), some (vi (J x1)), some (vi (J x2)), some (vi (J x3)), some (vi (J x4)), some (vi ((J 77) + ((J 4) * (J (ai h_17 a_21 76)))))]) (st2 := [vr (some w)]) rfl ?_
        rw [show ((J 77) + ((J 4) * (J (ai h_17 a_21 76)))) = J (77 + (4 * (ai h_17 a_21 76))) from J_add' rfl (J_mul' rfl rfl)]
        refine R_getR rfl t0 ?_
        refine R_ps 2 (pc2 := 99) (L2 := [some (vr (some w)), some (vi (J x1)), some (vi (J x2)), some (vi (J x3)), some (vi (J x4)), some (vi (J (77 + (4 * (ai h_17 a_21 76)))))]) (st2 := [vi (J x1), vi (J (77 + (4 * (ai h_17 a_21 76)))), vr (gr h_17 w 1)]) rfl ?_
        obtain ⟨a_27, e_28, k⟩ := k
        rw [e_28]
        obtain ⟨t_31, k⟩ := k
        obtain ⟨t_32, k⟩ := k
        refine R_ziast (i := 77 + (4 * (ai h_17 a_21 76))) (x := x1) rfl t_31 t_32  ?_
        show WP T N _ _ _ _ (wi h_17 a_27 (77 + (4 * (ai h_17 a_21 76))) x1) _
        generalize e_30 : wi h_17 a_27 (77 + (4 * (ai h_17 a_21 76))) x1 = h_29
        replace k := k h_29 e_30.symm
        refine R_ps 1 (pc2 := 101) (L2 := [some (vr (some w)), some (vi (J x1)), some (vi (J x2)), some (vi (J x3)), some (vi (J x4)), some (vi (J (77 + (4 * (ai h_17 a_21 76)))))]) (st2 := [vr (some w)]) rfl ?_
        refine R_getR rfl t0 ?_
        refine R_ps 4 (pc2 := 109) (L2 := [some (vr (some w)), some (vi (J x1)), some (vi (J x2)), some (vi (J x3)), some (vi (J x4)), some (vi (J (77 + (4 * (ai h_17 a_21 76)))))]) (st2 := [vi (J x2), vi ((J (77 + (4 * (ai h_17 a_21 76)))) + (J 1)), vr (gr h_29 w 1)]) rfl ?_
        rw [show ((J (77 + (4 * (ai h_17 a_21 76)))) + (J 1)) = J ((77 + (4 * (ai h_17 a_21 76))) + 1) from J_add' rfl rfl]
        obtain ⟨a_35, e_36, k⟩ := k
        rw [e_36]
        obtain ⟨t_39, k⟩ := k
        obtain ⟨t_40, k⟩ := k
        refine R_ziast (i := (77 + (4 * (ai h_17 a_21 76))) + 1) (x := x2) rfl t_39 t_40  ?_
        show WP T N _ _ _ _ (wi h_29 a_35 ((77 + (4 * (ai h_17 a_21 76))) + 1) x2) _
        generalize e_38 : wi h_29 a_35 ((77 + (4 * (ai h_17 a_21 76))) + 1) x2 = h_37
        replace k := k h_37 e_38.symm
        refine R_ps 1 (pc2 := 111) (L2 := [some (vr (some w)), some (vi (J x1)), some (vi (J x2)), some (vi (J x3)), some (vi (J x4)), some (vi (J (77 + (4 * (ai h_17 a_21 76)))))]) (st2 := [vr (some w)]) rfl ?_
        refine R_getR rfl t0 ?_
        refine R_ps 4 (pc2 := 119) (L2 := [some (vr (some w)), some (vi (J x1)), some (vi (J x2)), some (vi (J x3)), some (vi (J x4)), some (vi (J (77 + (4 * (ai h_17 a_21 76)))))]) (st2 := [vi (J x3), vi ((J (77 + (4 * (ai h_17 a_21 76)))) + (J 2)), vr (gr h_37 w 1)]) rfl ?_
        rw [show ((J (77 + (4 * (ai h_17 a_21 76)))) + (J 2)) = J ((77 + (4 * (ai h_17 a_21 76))) + 2) from J_add' rfl rfl]
        obtain ⟨a_43, e_44, k⟩ := k
        rw [e_44]
        obtain ⟨t_47, k⟩ := k
        obtain ⟨t_48, k⟩ := k
        refine R_ziast (i := (77 + (4 * (ai h_17 a_21 76))) + 2) (x := x3) rfl t_47 t_48  ?_
        show WP T N _ _ _ _ (wi h_37 a_43 ((77 + (4 * (ai h_17 a_21 76))) + 2) x3) _
        generalize e_46 : wi h_37 a_43 ((77 + (4 * (ai h_17 a_21 76))) + 2) x3 = h_45
        replace k := k h_45 e_46.symm
        refine R_ps 1 (pc2 := 121) (L2 := [some (vr (some w)), some (vi (J x1)), some (vi (J x2)), some (vi (J x3)), some (vi (J x4)), some (vi (J (77 + (4 * (ai h_17 a_21 76)))))]) (st2 := [vr (some w)]) rfl ?_
        refine R_getR rfl t0 ?_
        refine R_ps 4 (pc2 := 130) (L2 := [some (vr (some w)), some (vi (J x1)), some (vi (J x2)), some (vi (J x3)), some (vi (J x4)), some (vi (J (77 + (4 * (ai h_17 a_21 76)))))]) (st2 := [vi (J x4), vi ((J (77 + (4 * (ai h_17 a_21 76)))) + (J 3)), vr (gr h_45 w 1)]) rfl ?_
        rw [show ((J (77 + (4 * (ai h_17 a_21 76)))) + (J 3)) = J ((77 + (4 * (ai h_17 a_21 76))) + 3) from J_add' rfl rfl]
        obtain ⟨a_51, e_52, k⟩ := k
        rw [e_52]
        obtain ⟨t_55, k⟩ := k
        obtain ⟨t_56, k⟩ := k
        refine R_ziast (i := (77 + (4 * (ai h_17 a_21 76))) + 3) (x := x4) rfl t_55 t_56  ?_
        show WP T N _ _ _ _ (wi h_45 a_51 ((77 + (4 * (ai h_17 a_21 76))) + 3) x4) _
        generalize e_54 : wi h_45 a_51 ((77 + (4 * (ai h_17 a_21 76))) + 3) x4 = h_53
        replace k := k h_53 e_54.symm
        refine R_ps 1 (pc2 := 132) (L2 := [some (vr (some w)), some (vi (J x1)), some (vi (J x2)), some (vi (J x3)), some (vi (J x4)), some (vi (J (77 + (4 * (ai h_17 a_21 76)))))]) (st2 := [vr (some w)]) rfl ?_
        refine R_getR rfl t0 ?_
        refine R_ps 2 (pc2 := 138) (L2 := [some (vr (some w)), some (vi (J x1)), some (vi (J x2)), some (vi (J x3)), some (vi (J x4)), some (vi (J (77 + (4 * (ai h_17 a_21 76)))))]) (st2 := [vi (J 76), vr (gr h_53 w 1), vi (J 76), vr (gr h_53 w 1)]) rfl ?_
        obtain ⟨a_59, e_60, k⟩ := k
        rw [e_60]
        obtain ⟨t_61, k⟩ := k
        obtain ⟨t_62, k⟩ := k
        refine R_ziald (i := 76) rfl (Or.inl t_61) t_62 ?_
        refine R_ps 2 (pc2 := 141) (L2 := [some (vr (some w)), some (vi (J x1)), some (vi (J x2)), some (vi (J x3)), some (vi (J x4)), some (vi (J (77 + (4 * (ai h_17 a_21 76)))))]) (st2 := [vi ((J (ai h_53 a_59 76)) + (J 1)), vi (J 76), vr (some a_59)]) rfl ?_
        rw [show ((J (ai h_53 a_59 76)) + (J 1)) = J ((ai h_53 a_59 76) + 1) from J_add' rfl rfl]
        refine R_ziast (i := 76) (x := (ai h_53 a_59 76) + 1) rfl t_61 t_62  ?_
        show WP T N _ _ _ _ (wi h_53 a_59 76 ((ai h_53 a_59 76) + 1)) _
        generalize e_65 : wi h_53 a_59 76 ((ai h_53 a_59 76) + 1) = h_64
        replace k := k h_64 e_65.symm
        refine R_ps 1 (pc2 := 143) (L2 := [some (vr (some w)), some (vi (J x1)), some (vi (J x2)), some (vi (J x3)), some (vi (J x4)), some (vi (J (77 + (4 * (ai h_17 a_21 76)))))]) (st2 := [vr (some w)]) rfl ?_
        refine R_zcI (as := [vr (some w)]) rfl rfl ⟨Nat.le_of_ble_eq_true rfl, Nat.le_of_ble_eq_true rfl, rfl, (Or.inr ⟨_, rfl, t0⟩)⟩ rfl rfl k (fun x_68 h_67 r_69 k => ?_)
        exact R_iret rfl rfl (R_zr (x := x_68) (K := K) r_69 k)
      · have k := k.1 (Classical.not_not.mp c_15)
        refine R_ps 1 (pc2 := 73) (L2 := [some (vr (some w)), some (vi (J x1)), some (vi (J x2)), some (vi (J x3)), some (vi (J x4)), none]) (st2 := [vi (J 0)]) rfl ?_
        exact R_iret rfl rfl (R_zr (x := 0) (K := K) (by decide) k)
    · have k := k.2 c_10
      refine R_ps 1 (pc2 := 24) (L2 := [some (vr (some w)), some (vi (J x1)), some (vi (J x2)), some (vi (J x3)), some (vi (J x4)), none]) (st2 := [vi (J x3), vr (some w)]) rfl ?_
      refine R_zif0 (x := x3) rfl r3 (fun c_72 => ?_) (fun c_72 => ?_)
      · have k := k.1 c_72
        refine R_ps 2 (pc2 := 62) (L2 := [some (vr (some w)), some (vi (J x1)), some (vi (J x2)), some (vi (J x3)), some (vi (J x4)), none]) (st2 := [vi (J 2), vr (some w)]) rfl ?_
        refine R_zputI (x := 2) (z := 0) rfl t0 rfl ?_
        show WP T N _ _ _ _ (wi h_7 w 0 2) _
        generalize e_75 : wi h_7 w 0 2 = h_74
        replace k := k h_74 e_75.symm
        refine R_ps 1 (pc2 := 66) (L2 := [some (vr (some w)), some (vi (J x1)), some (vi (J x2)), some (vi (J x3)), some (vi (J x4)), none]) (st2 := [vr (some w)]) rfl ?_
        refine R_zgetI (z := 0) rfl t0 rfl ?_
        refine R_zif0 (x := ai h_74 w 0) rfl (ai_in _ _ _) (fun c_77 => ?_) (fun c_77 => ?_)
        · have k := k.2 c_77
          refine R_ps 1 (pc2 := 75) (L2 := [some (vr (some w)), some (vi (J x1)), some (vi (J x2)), some (vi (J x3)), some (vi (J x4)), none]) (st2 := [vr (some w)]) rfl ?_
          refine R_cV (as := [vr (some w)]) rfl rfl ⟨Nat.le_of_ble_eq_true rfl, Nat.le_of_ble_eq_true rfl, rfl, (Or.inr ⟨_, rfl, t0⟩)⟩ rfl rfl k (fun h_79 k => ?_)
          refine R_ps 3 (pc2 := 82) (L2 := [some (vr (some w)), some (vi (J x1)), some (vi (J x2)), some (vi (J x3)), some (vi (J x4)), none]) (st2 := [vr (some w), vi (J 4), vi (J 77)]) rfl ?_
          refine R_getR rfl t0 ?_
          refine R_ps 1 (pc2 := 87) (L2 := [some (vr (some w)), some (vi (J x1)), some (vi (J x2)), some (vi (J x3)), some (vi (J x4)), none]) (st2 := [vi (J 76), vr (gr h_79 w 1), vi (J 4), vi (J 77)]) rfl ?_
          obtain ⟨a_83, e_84, k⟩ := k
          rw [e_84]
          obtain ⟨t_85, k⟩ := k
          obtain ⟨t_86, k⟩ := k
          refine R_ziald (i := 76) rfl (Or.inl t_85) t_86 ?_
          refine R_ps 4 (pc2 := 93) (L2 := [some (vr (some w)), some (vi (J x1)), some (vi (J x2)), some (vi (J x3)), some (vi (J x4)), some (vi ((J 77) + ((J 4) * (J (ai h_79 a_83 76)))))]) (st2 := [vr (some w)]) rfl ?_
          rw [show ((J 77) + ((J 4) * (J (ai h_79 a_83 76)))) = J (77 + (4 * (ai h_79 a_83 76))) from J_add' rfl (J_mul' rfl rfl)]
          refine R_getR rfl t0 ?_
          refine R_ps 2 (pc2 := 99) (L2 := [some (vr (some w)), some (vi (J x1)), some (vi (J x2)), some (vi (J x3)), some (vi (J x4)), some (vi (J (77 + (4 * (ai h_79 a_83 76)))))]) (st2 := [vi (J x1), vi (J (77 + (4 * (ai h_79 a_83 76)))), vr (gr h_79 w 1)]) rfl ?_
          obtain ⟨a_89, e_90, k⟩ := k
          rw [e_90]
          obtain ⟨t_93, k⟩ := k
          obtain ⟨t_94, k⟩ := k
          refine R_ziast (i := 77 + (4 * (ai h_79 a_83 76))) (x := x1) rfl t_93 t_94  ?_
          show WP T N _ _ _ _ (wi h_79 a_89 (77 + (4 * (ai h_79 a_83 76))) x1) _
          generalize e_92 : wi h_79 a_89 (77 + (4 * (ai h_79 a_83 76))) x1 = h_91
          replace k := k h_91 e_92.symm
          refine R_ps 1 (pc2 := 101) (L2 := [some (vr (some w)), some (vi (J x1)), some (vi (J x2)), some (vi (J x3)), some (vi (J x4)), some (vi (J (77 + (4 * (ai h_79 a_83 76)))))]) (st2 := [vr (some w)]) rfl ?_
          refine R_getR rfl t0 ?_
          refine R_ps 4 (pc2 := 109) (L2 := [some (vr (some w)), some (vi (J x1)), some (vi (J x2)), some (vi (J x3)), some (vi (J x4)), some (vi (J (77 + (4 * (ai h_79 a_83 76)))))]) (st2 := [vi (J x2), vi ((J (77 + (4 * (ai h_79 a_83 76)))) + (J 1)), vr (gr h_91 w 1)]) rfl ?_
          rw [show ((J (77 + (4 * (ai h_79 a_83 76)))) + (J 1)) = J ((77 + (4 * (ai h_79 a_83 76))) + 1) from J_add' rfl rfl]
          obtain ⟨a_97, e_98, k⟩ := k
          rw [e_98]
          obtain ⟨t_101, k⟩ := k
          obtain ⟨t_102, k⟩ := k
          refine R_ziast (i := (77 + (4 * (ai h_79 a_83 76))) + 1) (x := x2) rfl t_101 t_102  ?_
          show WP T N _ _ _ _ (wi h_91 a_97 ((77 + (4 * (ai h_79 a_83 76))) + 1) x2) _
          generalize e_100 : wi h_91 a_97 ((77 + (4 * (ai h_79 a_83 76))) + 1) x2 = h_99
          replace k := k h_99 e_100.symm
          refine R_ps 1 (pc2 := 111) (L2 := [some (vr (some w)), some (vi (J x1)), some (vi (J x2)), some (vi (J x3)), some (vi (J x4)), some (vi (J (77 + (4 * (ai h_79 a_83 76)))))]) (st2 := [vr (some w)]) rfl ?_
          refine R_getR rfl t0 ?_
          refine R_ps 4 (pc2 := 119) (L2 := [some (vr (some w)), some (vi (J x1)), some (vi (J x2)), some (vi (J x3)), some (vi (J x4)), some (vi (J (77 + (4 * (ai h_79 a_83 76)))))]) (st2 := [vi (J x3), vi ((J (77 + (4 * (ai h_79 a_83 76)))) + (J 2)), vr (gr h_99 w 1)]) rfl ?_
          rw [show ((J (77 + (4 * (ai h_79 a_83 76)))) + (J 2)) = J ((77 + (4 * (ai h_79 a_83 76))) + 2) from J_add' rfl rfl]
          obtain ⟨a_105, e_106, k⟩ := k
          rw [e_106]
          obtain ⟨t_109, k⟩ := k
          obtain ⟨t_110, k⟩ := k
          refine R_ziast (i := (77 + (4 * (ai h_79 a_83 76))) + 2) (x := x3) rfl t_109 t_110  ?_
          show WP T N _ _ _ _ (wi h_99 a_105 ((77 + (4 * (ai h_79 a_83 76))) + 2) x3) _
          generalize e_108 : wi h_99 a_105 ((77 + (4 * (ai h_79 a_83 76))) + 2) x3 = h_107
          replace k := k h_107 e_108.symm
          refine R_ps 1 (pc2 := 121) (L2 := [some (vr (some w)), some (vi (J x1)), some (vi (J x2)), some (vi (J x3)), some (vi (J x4)), some (vi (J (77 + (4 * (ai h_79 a_83 76)))))]) (st2 := [vr (some w)]) rfl ?_
          refine R_getR rfl t0 ?_
          refine R_ps 4 (pc2 := 130) (L2 := [some (vr (some w)), some (vi (J x1)), some (vi (J x2)), some (vi (J x3)), some (vi (J x4)), some (vi (J (77 + (4 * (ai h_79 a_83 76)))))]) (st2 := [vi (J x4), vi ((J (77 + (4 * (ai h_79 a_83 76)))) + (J 3)), vr (gr h_107 w 1)]) rfl ?_
          rw [show ((J (77 + (4 * (ai h_79 a_83 76)))) + (J 3)) = J ((77 + (4 * (ai h_79 a_83 76))) + 3) from J_add' rfl rfl]
          obtain ⟨a_113, e_114, k⟩ := k
          rw [e_114]
          obtain ⟨t_117, k⟩ := k
          obtain ⟨t_118, k⟩ := k
          refine R_ziast (i := (77 + (4 * (ai h_79 a_83 76))) + 3) (x := x4) rfl t_117 t_118  ?_
          show WP T N _ _ _ _ (wi h_107 a_113 ((77 + (4 * (ai h_79 a_83 76))) + 3) x4) _
          generalize e_116 : wi h_107 a_113 ((77 + (4 * (ai h_79 a_83 76))) + 3) x4 = h_115
          replace k := k h_115 e_116.symm
          refine R_ps 1 (pc2 := 132) (L2 := [some (vr (some w)), some (vi (J x1)), some (vi (J x2)), some (vi (J x3)), some (vi (J x4)), some (vi (J (77 + (4 * (ai h_79 a_83 76)))))]) (st2 := [vr (some w)]) rfl ?_
          refine R_getR rfl t0 ?_
          refine R_ps 2 (pc2 := 138) (L2 := [some (vr (some w)), some (vi (J x1)), some (vi (J x2)), some (vi (J x3)), some (vi (J x4)), some (vi (J (77 + (4 * (ai h_79 a_83 76)))))]) (st2 := [vi (J 76), vr (gr h_115 w 1), vi (J 76), vr (gr h_115 w 1)]) rfl ?_
          obtain ⟨a_121, e_122, k⟩ := k
          rw [e_122]
          obtain ⟨t_123, k⟩ := k
          obtain ⟨t_124, k⟩ := k
          refine R_ziald (i := 76) rfl (Or.inl t_123) t_124 ?_
          refine R_ps 2 (pc2 := 141) (L2 := [some (vr (some w)), some (vi (J x1)), some (vi (J x2)), some (vi (J x3)), some (vi (J x4)), some (vi (J (77 + (4 * (ai h_79 a_83 76)))))]) (st2 := [vi ((J (ai h_115 a_121 76)) + (J 1)), vi (J 76), vr (some a_121)]) rfl ?_
          rw [show ((J (ai h_115 a_121 76)) + (J 1)) = J ((ai h_115 a_121 76) + 1) from J_add' rfl rfl]
          refine R_ziast (i := 76) (x := (ai h_115 a_121 76) + 1) rfl t_123 t_124  ?_
          show WP T N _ _ _ _ (wi h_115 a_121 76 ((ai h_115 a_121 76) + 1)) _
          generalize e_127 : wi h_115 a_121 76 ((ai h_115 a_121 76) + 1) = h_126
          replace k := k h_126 e_127.symm
          refine R_ps 1 (pc2 := 143) (L2 := [some (vr (some w)), some (vi (J x1)), some (vi (J x2)), some (vi (J x3)), some (vi (J x4)), some (vi (J (77 + (4 * (ai h_79 a_83 76)))))]) (st2 := [vr (some w)]) rfl ?_
          refine R_zcI (as := [vr (some w)]) rfl rfl ⟨Nat.le_of_ble_eq_true rfl, Nat.le_of_ble_eq_true rfl, rfl, (Or.inr ⟨_, rfl, t0⟩)⟩ rfl rfl k (fun x_130 h_129 r_131 k => ?_)
          exact R_iret rfl rfl (R_zr (x := x_130) (K := K) r_131 k)
        · have k := k.1 (Classical.not_not.mp c_77)
          refine R_ps 1 (pc2 := 73) (L2 := [some (vr (some w)), some (vi (J x1)), some (vi (J x2)), some (vi (J x3)), some (vi (J x4)), none]) (st2 := [vi (J 0)]) rfl ?_
          exact R_iret rfl rfl (R_zr (x := 0) (K := K) (by decide) k)
      · have k := k.2 c_72
        refine R_ps 2 (pc2 := 30) (L2 := [some (vr (some w)), some (vi (J x1)), some (vi (J x2)), some (vi (J x3)), some (vi (J x4)), none]) (st2 := [vi (J x3), vi (J x4), vr (some w)]) rfl ?_
        refine R_zif (x := x4) (z := x3) rfl r4 r3 (fun c_134 => ?_) (fun c_134 => ?_)
        · have k := k.2 c_134
          refine R_ps 2 (pc2 := 62) (L2 := [some (vr (some w)), some (vi (J x1)), some (vi (J x2)), some (vi (J x3)), some (vi (J x4)), none]) (st2 := [vi (J 2), vr (some w)]) rfl ?_
          refine R_zputI (x := 2) (z := 0) rfl t0 rfl ?_
          show WP T N _ _ _ _ (wi h_7 w 0 2) _
          generalize e_137 : wi h_7 w 0 2 = h_136
          replace k := k h_136 e_137.symm
          refine R_ps 1 (pc2 := 66) (L2 := [some (vr (some w)), some (vi (J x1)), some (vi (J x2)), some (vi (J x3)), some (vi (J x4)), none]) (st2 := [vr (some w)]) rfl ?_
          refine R_zgetI (z := 0) rfl t0 rfl ?_
          refine R_zif0 (x := ai h_136 w 0) rfl (ai_in _ _ _) (fun c_139 => ?_) (fun c_139 => ?_)
          · have k := k.2 c_139
            refine R_ps 1 (pc2 := 75) (L2 := [some (vr (some w)), some (vi (J x1)), some (vi (J x2)), some (vi (J x3)), some (vi (J x4)), none]) (st2 := [vr (some w)]) rfl ?_
            refine R_cV (as := [vr (some w)]) rfl rfl ⟨Nat.le_of_ble_eq_true rfl, Nat.le_of_ble_eq_true rfl, rfl, (Or.inr ⟨_, rfl, t0⟩)⟩ rfl rfl k (fun h_141 k => ?_)
            refine R_ps 3 (pc2 := 82) (L2 := [some (vr (some w)), some (vi (J x1)), some (vi (J x2)), some (vi (J x3)), some (vi (J x4)), none]) (st2 := [vr (some w), vi (J 4), vi (J 77)]) rfl ?_
            refine R_getR rfl t0 ?_
            refine R_ps 1 (pc2 := 87) (L2 := [some (vr (some w)), some (vi (J x1)), some (vi (J x2)), some (vi (J x3)), some (vi (J x4)), none]) (st2 := [vi (J 76), vr (gr h_141 w 1), vi (J 4), vi (J 77)]) rfl ?_
            obtain ⟨a_145, e_146, k⟩ := k
            rw [e_146]
            obtain ⟨t_147, k⟩ := k
            obtain ⟨t_148, k⟩ := k
            refine R_ziald (i := 76) rfl (Or.inl t_147) t_148 ?_
            refine R_ps 4 (pc2 := 93) (L2 := [some (vr (some w)), some (vi (J x1)), some (vi (J x2)), some (vi (J x3)), some (vi (J x4)), some (vi ((J 77) + ((J 4) * (J (ai h_141 a_145 76)))))]) (st2 := [vr (some w)]) rfl ?_
            rw [show ((J 77) + ((J 4) * (J (ai h_141 a_145 76)))) = J (77 + (4 * (ai h_141 a_145 76))) from J_add' rfl (J_mul' rfl rfl)]
            refine R_getR rfl t0 ?_
            refine R_ps 2 (pc2 := 99) (L2 := [some (vr (some w)), some (vi (J x1)), some (vi (J x2)), some (vi (J x3)), some (vi (J x4)), some (vi (J (77 + (4 * (ai h_141 a_145 76)))))]) (st2 := [vi (J x1), vi (J (77 + (4 * (ai h_141 a_145 76)))), vr (gr h_141 w 1)]) rfl ?_
            obtain ⟨a_151, e_152, k⟩ := k
            rw [e_152]
            obtain ⟨t_155, k⟩ := k
            obtain ⟨t_156, k⟩ := k
            refine R_ziast (i := 77 + (4 * (ai h_141 a_145 76))) (x := x1) rfl t_155 t_156  ?_
            show WP T N _ _ _ _ (wi h_141 a_151 (77 + (4 * (ai h_141 a_145 76))) x1) _
            generalize e_154 : wi h_141 a_151 (77 + (4 * (ai h_141 a_145 76))) x1 = h_153
            replace k := k h_153 e_154.symm
            refine R_ps 1 (pc2 := 101) (L2 := [some (vr (some w)), some (vi (J x1)), some (vi (J x2)), some (vi (J x3)), some (vi (J x4)), some (vi (J (77 + (4 * (ai h_141 a_145 76)))))]) (st2 := [vr (some w)]) rfl ?_
            refine R_getR rfl t0 ?_
            refine R_ps 4 (pc2 := 109) (L2 := [some (vr (some w)), some (vi (J x1)), some (vi (J x2)), some (vi (J x3)), some (vi (J x4)), some (vi (J (77 + (4 * (ai h_141 a_145 76)))))]) (st2 := [vi (J x2), vi ((J (77 + (4 * (ai h_141 a_145 76)))) + (J 1)), vr (gr h_153 w 1)]) rfl ?_
            rw [show ((J (77 + (4 * (ai h_141 a_145 76)))) + (J 1)) = J ((77 + (4 * (ai h_141 a_145 76))) + 1) from J_add' rfl rfl]
            obtain ⟨a_159, e_160, k⟩ := k
            rw [e_160]
            obtain ⟨t_163, k⟩ := k
            obtain ⟨t_164, k⟩ := k
            refine R_ziast (i := (77 + (4 * (ai h_141 a_145 76))) + 1) (x := x2) rfl t_163 t_164  ?_
            show WP T N _ _ _ _ (wi h_153 a_159 ((77 + (4 * (ai h_141 a_145 76))) + 1) x2) _
            generalize e_162 : wi h_153 a_159 ((77 + (4 * (ai h_141 a_145 76))) + 1) x2 = h_161
            replace k := k h_161 e_162.symm
            refine R_ps 1 (pc2 := 111) (L2 := [some (vr (some w)), some (vi (J x1)), some (vi (J x2)), some (vi (J x3)), some (vi (J x4)), some (vi (J (77 + (4 * (ai h_141 a_145 76)))))]) (st2 := [vr (some w)]) rfl ?_
            refine R_getR rfl t0 ?_
            refine R_ps 4 (pc2 := 119) (L2 := [some (vr (some w)), some (vi (J x1)), some (vi (J x2)), some (vi (J x3)), some (vi (J x4)), some (vi (J (77 + (4 * (ai h_141 a_145 76)))))]) (st2 := [vi (J x3), vi ((J (77 + (4 * (ai h_141 a_145 76)))) + (J 2)), vr (gr h_161 w 1)]) rfl ?_
            rw [show ((J (77 + (4 * (ai h_141 a_145 76)))) + (J 2)) = J ((77 + (4 * (ai h_141 a_145 76))) + 2) from J_add' rfl rfl]
            obtain ⟨a_167, e_168, k⟩ := k
            rw [e_168]
            obtain ⟨t_171, k⟩ := k
            obtain ⟨t_172, k⟩ := k
            refine R_ziast (i := (77 + (4 * (ai h_141 a_145 76))) + 2) (x := x3) rfl t_171 t_172  ?_
            show WP T N _ _ _ _ (wi h_161 a_167 ((77 + (4 * (ai h_141 a_145 76))) + 2) x3) _
            generalize e_170 : wi h_161 a_167 ((77 + (4 * (ai h_141 a_145 76))) + 2) x3 = h_169
            replace k := k h_169 e_170.symm
            refine R_ps 1 (pc2 := 121) (L2 := [some (vr (some w)), some (vi (J x1)), some (vi (J x2)), some (vi (J x3)), some (vi (J x4)), some (vi (J (77 + (4 * (ai h_141 a_145 76)))))]) (st2 := [vr (some w)]) rfl ?_
            refine R_getR rfl t0 ?_
            refine R_ps 4 (pc2 := 130) (L2 := [some (vr (some w)), some (vi (J x1)), some (vi (J x2)), some (vi (J x3)), some (vi (J x4)), some (vi (J (77 + (4 * (ai h_141 a_145 76)))))]) (st2 := [vi (J x4), vi ((J (77 + (4 * (ai h_141 a_145 76)))) + (J 3)), vr (gr h_169 w 1)]) rfl ?_
            rw [show ((J (77 + (4 * (ai h_141 a_145 76)))) + (J 3)) = J ((77 + (4 * (ai h_141 a_145 76))) + 3) from J_add' rfl rfl]
            obtain ⟨a_175, e_176, k⟩ := k
            rw [e_176]
            obtain ⟨t_179, k⟩ := k
            obtain ⟨t_180, k⟩ := k
            refine R_ziast (i := (77 + (4 * (ai h_141 a_145 76))) + 3) (x := x4) rfl t_179 t_180  ?_
            show WP T N _ _ _ _ (wi h_169 a_175 ((77 + (4 * (ai h_141 a_145 76))) + 3) x4) _
            generalize e_178 : wi h_169 a_175 ((77 + (4 * (ai h_141 a_145 76))) + 3) x4 = h_177
            replace k := k h_177 e_178.symm
            refine R_ps 1 (pc2 := 132) (L2 := [some (vr (some w)), some (vi (J x1)), some (vi (J x2)), some (vi (J x3)), some (vi (J x4)), some (vi (J (77 + (4 * (ai h_141 a_145 76)))))]) (st2 := [vr (some w)]) rfl ?_
            refine R_getR rfl t0 ?_
            refine R_ps 2 (pc2 := 138) (L2 := [some (vr (some w)), some (vi (J x1)), some (vi (J x2)), some (vi (J x3)), some (vi (J x4)), some (vi (J (77 + (4 * (ai h_141 a_145 76)))))]) (st2 := [vi (J 76), vr (gr h_177 w 1), vi (J 76), vr (gr h_177 w 1)]) rfl ?_
            obtain ⟨a_183, e_184, k⟩ := k
            rw [e_184]
            obtain ⟨t_185, k⟩ := k
            obtain ⟨t_186, k⟩ := k
            refine R_ziald (i := 76) rfl (Or.inl t_185) t_186 ?_
            refine R_ps 2 (pc2 := 141) (L2 := [some (vr (some w)), some (vi (J x1)), some (vi (J x2)), some (vi (J x3)), some (vi (J x4)), some (vi (J (77 + (4 * (ai h_141 a_145 76)))))]) (st2 := [vi ((J (ai h_177 a_183 76)) + (J 1)), vi (J 76), vr (some a_183)]) rfl ?_
            rw [show ((J (ai h_177 a_183 76)) + (J 1)) = J ((ai h_177 a_183 76) + 1) from J_add' rfl rfl]
            refine R_ziast (i := 76) (x := (ai h_177 a_183 76) + 1) rfl t_185 t_186  ?_
            show WP T N _ _ _ _ (wi h_177 a_183 76 ((ai h_177 a_183 76) + 1)) _
            generalize e_189 : wi h_177 a_183 76 ((ai h_177 a_183 76) + 1) = h_188
            replace k := k h_188 e_189.symm
            refine R_ps 1 (pc2 := 143) (L2 := [some (vr (some w)), some (vi (J x1)), some (vi (J x2)), some (vi (J x3)), some (vi (J x4)), some (vi (J (77 + (4 * (ai h_141 a_145 76)))))]) (st2 := [vr (some w)]) rfl ?_
            refine R_zcI (as := [vr (some w)]) rfl rfl ⟨Nat.le_of_ble_eq_true rfl, Nat.le_of_ble_eq_true rfl, rfl, (Or.inr ⟨_, rfl, t0⟩)⟩ rfl rfl k (fun x_192 h_191 r_193 k => ?_)
            exact R_iret rfl rfl (R_zr (x := x_192) (K := K) r_193 k)
          · have k := k.1 (Classical.not_not.mp c_139)
            refine R_ps 1 (pc2 := 73) (L2 := [some (vr (some w)), some (vi (J x1)), some (vi (J x2)), some (vi (J x3)), some (vi (J x4)), none]) (st2 := [vi (J 0)]) rfl ?_
            exact R_iret rfl rfl (R_zr (x := 0) (K := K) (by decide) k)
        · have k := k.1 (Classical.not_not.mp c_134)
          refine R_ps 2 (pc2 := 38) (L2 := [some (vr (some w)), some (vi (J x1)), some (vi (J x2)), some (vi (J x3)), some (vi (J x4)), none]) (st2 := [vi (J 10000), vi (J x4), vr (some w)]) rfl ?_
          refine R_zif (x := x4) (z := 10000) rfl r4 (by decide) (fun c_196 => ?_) (fun c_196 => ?_)
          · have k := k.2 c_196
            refine R_ps 1 (pc2 := 46) (L2 := [some (vr (some w)), some (vi (J x1)), some (vi (J x2)), some (vi (J x3)), some (vi (J x4)), none]) (st2 := [vr (some w), vr (some w)]) rfl ?_
            refine R_getR rfl t0 ?_
            refine R_ps 1 (pc2 := 51) (L2 := [some (vr (some w)), some (vi (J x1)), some (vi (J x2)), some (vi (J x3)), some (vi (J x4)), none]) (st2 := [vi (J 76), vr (gr h_7 w 1), vr (some w)]) rfl ?_
            obtain ⟨a_199, e_200, k⟩ := k
            rw [e_200]
            obtain ⟨t_201, k⟩ := k
            obtain ⟨t_202, k⟩ := k
            refine R_ziald (i := 76) rfl (Or.inl t_201) t_202 ?_
            refine R_ps 1 (pc2 := 54) (L2 := [some (vr (some w)), some (vi (J x1)), some (vi (J x2)), some (vi (J x3)), some (vi (J x4)), none]) (st2 := [vi (J 10), vi (J (ai h_7 a_199 76)), vr (some w)]) rfl ?_
            refine R_zif (x := ai h_7 a_199 76) (z := 10) rfl (ai_in _ _ _) (by decide) (fun c_203 => ?_) (fun c_203 => ?_)
            · have k := k.2 c_203
              refine R_ps 1 (pc2 := 62) (L2 := [some (vr (some w)), some (vi (J x1)), some (vi (J x2)), some (vi (J x3)), some (vi (J x4)), none]) (st2 := [vi (J 0), vr (some w)]) rfl ?_
              refine R_zputI (x := 0) (z := 0) rfl t0 rfl ?_
              show WP T N _ _ _ _ (wi h_7 w 0 0) _
              generalize e_206 : wi h_7 w 0 0 = h_205
              replace k := k h_205 e_206.symm
              refine R_ps 1 (pc2 := 66) (L2 := [some (vr (some w)), some (vi (J x1)), some (vi (J x2)), some (vi (J x3)), some (vi (J x4)), none]) (st2 := [vr (some w)]) rfl ?_
              refine R_zgetI (z := 0) rfl t0 rfl ?_
              refine R_zif0 (x := ai h_205 w 0) rfl (ai_in _ _ _) (fun c_208 => ?_) (fun c_208 => ?_)
              · have k := k.2 c_208
                refine R_ps 1 (pc2 := 75) (L2 := [some (vr (some w)), some (vi (J x1)), some (vi (J x2)), some (vi (J x3)), some (vi (J x4)), none]) (st2 := [vr (some w)]) rfl ?_
                refine R_cV (as := [vr (some w)]) rfl rfl ⟨Nat.le_of_ble_eq_true rfl, Nat.le_of_ble_eq_true rfl, rfl, (Or.inr ⟨_, rfl, t0⟩)⟩ rfl rfl k (fun h_210 k => ?_)
                refine R_ps 3 (pc2 := 82) (L2 := [some (vr (some w)), some (vi (J x1)), some (vi (J x2)), some (vi (J x3)), some (vi (J x4)), none]) (st2 := [vr (some w), vi (J 4), vi (J 77)]) rfl ?_
                refine R_getR rfl t0 ?_
                refine R_ps 1 (pc2 := 87) (L2 := [some (vr (some w)), some (vi (J x1)), some (vi (J x2)), some (vi (J x3)), some (vi (J x4)), none]) (st2 := [vi (J 76), vr (gr h_210 w 1), vi (J 4), vi (J 77)]) rfl ?_
                obtain ⟨a_214, e_215, k⟩ := k
                rw [e_215]
                obtain ⟨t_216, k⟩ := k
                obtain ⟨t_217, k⟩ := k
                refine R_ziald (i := 76) rfl (Or.inl t_216) t_217 ?_
                refine R_ps 4 (pc2 := 93) (L2 := [some (vr (some w)), some (vi (J x1)), some (vi (J x2)), some (vi (J x3)), some (vi (J x4)), some (vi ((J 77) + ((J 4) * (J (ai h_210 a_214 76)))))]) (st2 := [vr (some w)]) rfl ?_
                rw [show ((J 77) + ((J 4) * (J (ai h_210 a_214 76)))) = J (77 + (4 * (ai h_210 a_214 76))) from J_add' rfl (J_mul' rfl rfl)]
                refine R_getR rfl t0 ?_
                refine R_ps 2 (pc2 := 99) (L2 := [some (vr (some w)), some (vi (J x1)), some (vi (J x2)), some (vi (J x3)), some (vi (J x4)), some (vi (J (77 + (4 * (ai h_210 a_214 76)))))]) (st2 := [vi (J x1), vi (J (77 + (4 * (ai h_210 a_214 76)))), vr (gr h_210 w 1)]) rfl ?_
                obtain ⟨a_220, e_221, k⟩ := k
                rw [e_221]
                obtain ⟨t_224, k⟩ := k
                obtain ⟨t_225, k⟩ := k
                refine R_ziast (i := 77 + (4 * (ai h_210 a_214 76))) (x := x1) rfl t_224 t_225  ?_
                show WP T N _ _ _ _ (wi h_210 a_220 (77 + (4 * (ai h_210 a_214 76))) x1) _
                generalize e_223 : wi h_210 a_220 (77 + (4 * (ai h_210 a_214 76))) x1 = h_222
                replace k := k h_222 e_223.symm
                refine R_ps 1 (pc2 := 101) (L2 := [some (vr (some w)), some (vi (J x1)), some (vi (J x2)), some (vi (J x3)), some (vi (J x4)), some (vi (J (77 + (4 * (ai h_210 a_214 76)))))]) (st2 := [vr (some w)]) rfl ?_
                refine R_getR rfl t0 ?_
                refine R_ps 4 (pc2 := 109) (L2 := [some (vr (some w)), some (vi (J x1)), some (vi (J x2)), some (vi (J x3)), some (vi (J x4)), some (vi (J (77 + (4 * (ai h_210 a_214 76)))))]) (st2 := [vi (J x2), vi ((J (77 + (4 * (ai h_210 a_214 76)))) + (J 1)), vr (gr h_222 w 1)]) rfl ?_
                rw [show ((J (77 + (4 * (ai h_210 a_214 76)))) + (J 1)) = J ((77 + (4 * (ai h_210 a_214 76))) + 1) from J_add' rfl rfl]
                obtain ⟨a_228, e_229, k⟩ := k
                rw [e_229]
                obtain ⟨t_232, k⟩ := k
                obtain ⟨t_233, k⟩ := k
                refine R_ziast (i := (77 + (4 * (ai h_210 a_214 76))) + 1) (x := x2) rfl t_232 t_233  ?_
                show WP T N _ _ _ _ (wi h_222 a_228 ((77 + (4 * (ai h_210 a_214 76))) + 1) x2) _
                generalize e_231 : wi h_222 a_228 ((77 + (4 * (ai h_210 a_214 76))) + 1) x2 = h_230
                replace k := k h_230 e_231.symm
                refine R_ps 1 (pc2 := 111) (L2 := [some (vr (some w)), some (vi (J x1)), some (vi (J x2)), some (vi (J x3)), some (vi (J x4)), some (vi (J (77 + (4 * (ai h_210 a_214 76)))))]) (st2 := [vr (some w)]) rfl ?_
                refine R_getR rfl t0 ?_
                refine R_ps 4 (pc2 := 119) (L2 := [some (vr (some w)), some (vi (J x1)), some (vi (J x2)), some (vi (J x3)), some (vi (J x4)), some (vi (J (77 + (4 * (ai h_210 a_214 76)))))]) (st2 := [vi (J x3), vi ((J (77 + (4 * (ai h_210 a_214 76)))) + (J 2)), vr (gr h_230 w 1)]) rfl ?_
                rw [show ((J (77 + (4 * (ai h_210 a_214 76)))) + (J 2)) = J ((77 + (4 * (ai h_210 a_214 76))) + 2) from J_add' rfl rfl]
                obtain ⟨a_236, e_237, k⟩ := k
                rw [e_237]
                obtain ⟨t_240, k⟩ := k
                obtain ⟨t_241, k⟩ := k
                refine R_ziast (i := (77 + (4 * (ai h_210 a_214 76))) + 2) (x := x3) rfl t_240 t_241  ?_
                show WP T N _ _ _ _ (wi h_230 a_236 ((77 + (4 * (ai h_210 a_214 76))) + 2) x3) _
                generalize e_239 : wi h_230 a_236 ((77 + (4 * (ai h_210 a_214 76))) + 2) x3 = h_238
                replace k := k h_238 e_239.symm
                refine R_ps 1 (pc2 := 121) (L2 := [some (vr (some w)), some (vi (J x1)), some (vi (J x2)), some (vi (J x3)), some (vi (J x4)), some (vi (J (77 + (4 * (ai h_210 a_214 76)))))]) (st2 := [vr (some w)]) rfl ?_
                refine R_getR rfl t0 ?_
                refine R_ps 4 (pc2 := 130) (L2 := [some (vr (some w)), some (vi (J x1)), some (vi (J x2)), some (vi (J x3)), some (vi (J x4)), some (vi (J (77 + (4 * (ai h_210 a_214 76)))))]) (st2 := [vi (J x4), vi ((J (77 + (4 * (ai h_210 a_214 76)))) + (J 3)), vr (gr h_238 w 1)]) rfl ?_
                rw [show ((J (77 + (4 * (ai h_210 a_214 76)))) + (J 3)) = J ((77 + (4 * (ai h_210 a_214 76))) + 3) from J_add' rfl rfl]
                obtain ⟨a_244, e_245, k⟩ := k
                rw [e_245]
                obtain ⟨t_248, k⟩ := k
                obtain ⟨t_249, k⟩ := k
                refine R_ziast (i := (77 + (4 * (ai h_210 a_214 76))) + 3) (x := x4) rfl t_248 t_249  ?_
                show WP T N _ _ _ _ (wi h_238 a_244 ((77 + (4 * (ai h_210 a_214 76))) + 3) x4) _
                generalize e_247 : wi h_238 a_244 ((77 + (4 * (ai h_210 a_214 76))) + 3) x4 = h_246
                replace k := k h_246 e_247.symm
                refine R_ps 1 (pc2 := 132) (L2 := [some (vr (some w)), some (vi (J x1)), some (vi (J x2)), some (vi (J x3)), some (vi (J x4)), some (vi (J (77 + (4 * (ai h_210 a_214 76)))))]) (st2 := [vr (some w)]) rfl ?_
                refine R_getR rfl t0 ?_
                refine R_ps 2 (pc2 := 138) (L2 := [some (vr (some w)), some (vi (J x1)), some (vi (J x2)), some (vi (J x3)), some (vi (J x4)), some (vi (J (77 + (4 * (ai h_210 a_214 76)))))]) (st2 := [vi (J 76), vr (gr h_246 w 1), vi (J 76), vr (gr h_246 w 1)]) rfl ?_
                obtain ⟨a_252, e_253, k⟩ := k
                rw [e_253]
                obtain ⟨t_254, k⟩ := k
                obtain ⟨t_255, k⟩ := k
                refine R_ziald (i := 76) rfl (Or.inl t_254) t_255 ?_
                refine R_ps 2 (pc2 := 141) (L2 := [some (vr (some w)), some (vi (J x1)), some (vi (J x2)), some (vi (J x3)), some (vi (J x4)), some (vi (J (77 + (4 * (ai h_210 a_214 76)))))]) (st2 := [vi ((J (ai h_246 a_252 76)) + (J 1)), vi (J 76), vr (some a_252)]) rfl ?_
                rw [show ((J (ai h_246 a_252 76)) + (J 1)) = J ((ai h_246 a_252 76) + 1) from J_add' rfl rfl]
                refine R_ziast (i := 76) (x := (ai h_246 a_252 76) + 1) rfl t_254 t_255  ?_
                show WP T N _ _ _ _ (wi h_246 a_252 76 ((ai h_246 a_252 76) + 1)) _
                generalize e_258 : wi h_246 a_252 76 ((ai h_246 a_252 76) + 1) = h_257
                replace k := k h_257 e_258.symm
                refine R_ps 1 (pc2 := 143) (L2 := [some (vr (some w)), some (vi (J x1)), some (vi (J x2)), some (vi (J x3)), some (vi (J x4)), some (vi (J (77 + (4 * (ai h_210 a_214 76)))))]) (st2 := [vr (some w)]) rfl ?_
                refine R_zcI (as := [vr (some w)]) rfl rfl ⟨Nat.le_of_ble_eq_true rfl, Nat.le_of_ble_eq_true rfl, rfl, (Or.inr ⟨_, rfl, t0⟩)⟩ rfl rfl k (fun x_261 h_260 r_262 k => ?_)
                exact R_iret rfl rfl (R_zr (x := x_261) (K := K) r_262 k)
              · have k := k.1 (Classical.not_not.mp c_208)
                refine R_ps 1 (pc2 := 73) (L2 := [some (vr (some w)), some (vi (J x1)), some (vi (J x2)), some (vi (J x3)), some (vi (J x4)), none]) (st2 := [vi (J 0)]) rfl ?_
                exact R_iret rfl rfl (R_zr (x := 0) (K := K) (by decide) k)
            · have k := k.1 (Classical.not_not.mp c_203)
              refine R_ps 2 (pc2 := 62) (L2 := [some (vr (some w)), some (vi (J x1)), some (vi (J x2)), some (vi (J x3)), some (vi (J x4)), none]) (st2 := [vi (J 3), vr (some w)]) rfl ?_
              refine R_zputI (x := 3) (z := 0) rfl t0 rfl ?_
              show WP T N _ _ _ _ (wi h_7 w 0 3) _
              generalize e_267 : wi h_7 w 0 3 = h_266
              replace k := k h_266 e_267.symm
              refine R_ps 1 (pc2 := 66) (L2 := [some (vr (some w)), some (vi (J x1)), some (vi (J x2)), some (vi (J x3)), some (vi (J x4)), none]) (st2 := [vr (some w)]) rfl ?_
              refine R_zgetI (z := 0) rfl t0 rfl ?_
              refine R_zif0 (x := ai h_266 w 0) rfl (ai_in _ _ _) (fun c_269 => ?_) (fun c_269 => ?_)
              · have k := k.2 c_269
                refine R_ps 1 (pc2 := 75) (L2 := [some (vr (some w)), some (vi (J x1)), some (vi (J x2)), some (vi (J x3)), some (vi (J x4)), none]) (st2 := [vr (some w)]) rfl ?_
                refine R_cV (as := [vr (some w)]) rfl rfl ⟨Nat.le_of_ble_eq_true rfl, Nat.le_of_ble_eq_true rfl, rfl, (Or.inr ⟨_, rfl, t0⟩)⟩ rfl rfl k (fun h_271 k => ?_)
                refine R_ps 3 (pc2 := 82) (L2 := [some (vr (some w)), some (vi (J x1)), some (vi (J x2)), some (vi (J x3)), some (vi (J x4)), none]) (st2 := [vr (some w), vi (J 4), vi (J 77)]) rfl ?_
                refine R_getR rfl t0 ?_
                refine R_ps 1 (pc2 := 87) (L2 := [some (vr (some w)), some (vi (J x1)), some (vi (J x2)), some (vi (J x3)), some (vi (J x4)), none]) (st2 := [vi (J 76), vr (gr h_271 w 1), vi (J 4), vi (J 77)]) rfl ?_
                obtain ⟨a_275, e_276, k⟩ := k
                rw [e_276]
                obtain ⟨t_277, k⟩ := k
                obtain ⟨t_278, k⟩ := k
                refine R_ziald (i := 76) rfl (Or.inl t_277) t_278 ?_
                refine R_ps 4 (pc2 := 93) (L2 := [some (vr (some w)), some (vi (J x1)), some (vi (J x2)), some (vi (J x3)), some (vi (J x4)), some (vi ((J 77) + ((J 4) * (J (ai h_271 a_275 76)))))]) (st2 := [vr (some w)]) rfl ?_
                rw [show ((J 77) + ((J 4) * (J (ai h_271 a_275 76)))) = J (77 + (4 * (ai h_271 a_275 76))) from J_add' rfl (J_mul' rfl rfl)]
                refine R_getR rfl t0 ?_
                refine R_ps 2 (pc2 := 99) (L2 := [some (vr (some w)), some (vi (J x1)), some (vi (J x2)), some (vi (J x3)), some (vi (J x4)), some (vi (J (77 + (4 * (ai h_271 a_275 76)))))]) (st2 := [vi (J x1), vi (J (77 + (4 * (ai h_271 a_275 76)))), vr (gr h_271 w 1)]) rfl ?_
                obtain ⟨a_281, e_282, k⟩ := k
                rw [e_282]
                obtain ⟨t_285, k⟩ := k
                obtain ⟨t_286, k⟩ := k
                refine R_ziast (i := 77 + (4 * (ai h_271 a_275 76))) (x := x1) rfl t_285 t_286  ?_
                show WP T N _ _ _ _ (wi h_271 a_281 (77 + (4 * (ai h_271 a_275 76))) x1) _
                generalize e_284 : wi h_271 a_281 (77 + (4 * (ai h_271 a_275 76))) x1 = h_283
                replace k := k h_283 e_284.symm
                refine R_ps 1 (pc2 := 101) (L2 := [some (vr (some w)), some (vi (J x1)), some (vi (J x2)), some (vi (J x3)), some (vi (J x4)), some (vi (J (77 + (4 * (ai h_271 a_275 76)))))]) (st2 := [vr (some w)]) rfl ?_
                refine R_getR rfl t0 ?_
                refine R_ps 4 (pc2 := 109) (L2 := [some (vr (some w)), some (vi (J x1)), some (vi (J x2)), some (vi (J x3)), some (vi (J x4)), some (vi (J (77 + (4 * (ai h_271 a_275 76)))))]) (st2 := [vi (J x2), vi ((J (77 + (4 * (ai h_271 a_275 76)))) + (J 1)), vr (gr h_283 w 1)]) rfl ?_
                rw [show ((J (77 + (4 * (ai h_271 a_275 76)))) + (J 1)) = J ((77 + (4 * (ai h_271 a_275 76))) + 1) from J_add' rfl rfl]
                obtain ⟨a_289, e_290, k⟩ := k
                rw [e_290]
                obtain ⟨t_293, k⟩ := k
                obtain ⟨t_294, k⟩ := k
                refine R_ziast (i := (77 + (4 * (ai h_271 a_275 76))) + 1) (x := x2) rfl t_293 t_294  ?_
                show WP T N _ _ _ _ (wi h_283 a_289 ((77 + (4 * (ai h_271 a_275 76))) + 1) x2) _
                generalize e_292 : wi h_283 a_289 ((77 + (4 * (ai h_271 a_275 76))) + 1) x2 = h_291
                replace k := k h_291 e_292.symm
                refine R_ps 1 (pc2 := 111) (L2 := [some (vr (some w)), some (vi (J x1)), some (vi (J x2)), some (vi (J x3)), some (vi (J x4)), some (vi (J (77 + (4 * (ai h_271 a_275 76)))))]) (st2 := [vr (some w)]) rfl ?_
                refine R_getR rfl t0 ?_
                refine R_ps 4 (pc2 := 119) (L2 := [some (vr (some w)), some (vi (J x1)), some (vi (J x2)), some (vi (J x3)), some (vi (J x4)), some (vi (J (77 + (4 * (ai h_271 a_275 76)))))]) (st2 := [vi (J x3), vi ((J (77 + (4 * (ai h_271 a_275 76)))) + (J 2)), vr (gr h_291 w 1)]) rfl ?_
                rw [show ((J (77 + (4 * (ai h_271 a_275 76)))) + (J 2)) = J ((77 + (4 * (ai h_271 a_275 76))) + 2) from J_add' rfl rfl]
                obtain ⟨a_297, e_298, k⟩ := k
                rw [e_298]
                obtain ⟨t_301, k⟩ := k
                obtain ⟨t_302, k⟩ := k
                refine R_ziast (i := (77 + (4 * (ai h_271 a_275 76))) + 2) (x := x3) rfl t_301 t_302  ?_
                show WP T N _ _ _ _ (wi h_291 a_297 ((77 + (4 * (ai h_271 a_275 76))) + 2) x3) _
                generalize e_300 : wi h_291 a_297 ((77 + (4 * (ai h_271 a_275 76))) + 2) x3 = h_299
                replace k := k h_299 e_300.symm
                refine R_ps 1 (pc2 := 121) (L2 := [some (vr (some w)), some (vi (J x1)), some (vi (J x2)), some (vi (J x3)), some (vi (J x4)), some (vi (J (77 + (4 * (ai h_271 a_275 76)))))]) (st2 := [vr (some w)]) rfl ?_
                refine R_getR rfl t0 ?_
                refine R_ps 4 (pc2 := 130) (L2 := [some (vr (some w)), some (vi (J x1)), some (vi (J x2)), some (vi (J x3)), some (vi (J x4)), some (vi (J (77 + (4 * (ai h_271 a_275 76)))))]) (st2 := [vi (J x4), vi ((J (77 + (4 * (ai h_271 a_275 76)))) + (J 3)), vr (gr h_299 w 1)]) rfl ?_
                rw [show ((J (77 + (4 * (ai h_271 a_275 76)))) + (J 3)) = J ((77 + (4 * (ai h_271 a_275 76))) + 3) from J_add' rfl rfl]
                obtain ⟨a_305, e_306, k⟩ := k
                rw [e_306]
                obtain ⟨t_309, k⟩ := k
                obtain ⟨t_310, k⟩ := k
                refine R_ziast (i := (77 + (4 * (ai h_271 a_275 76))) + 3) (x := x4) rfl t_309 t_310  ?_
                show WP T N _ _ _ _ (wi h_299 a_305 ((77 + (4 * (ai h_271 a_275 76))) + 3) x4) _
                generalize e_308 : wi h_299 a_305 ((77 + (4 * (ai h_271 a_275 76))) + 3) x4 = h_307
                replace k := k h_307 e_308.symm
                refine R_ps 1 (pc2 := 132) (L2 := [some (vr (some w)), some (vi (J x1)), some (vi (J x2)), some (vi (J x3)), some (vi (J x4)), some (vi (J (77 + (4 * (ai h_271 a_275 76)))))]) (st2 := [vr (some w)]) rfl ?_
                refine R_getR rfl t0 ?_
                refine R_ps 2 (pc2 := 138) (L2 := [some (vr (some w)), some (vi (J x1)), some (vi (J x2)), some (vi (J x3)), some (vi (J x4)), some (vi (J (77 + (4 * (ai h_271 a_275 76)))))]) (st2 := [vi (J 76), vr (gr h_307 w 1), vi (J 76), vr (gr h_307 w 1)]) rfl ?_
                obtain ⟨a_313, e_314, k⟩ := k
                rw [e_314]
                obtain ⟨t_315, k⟩ := k
                obtain ⟨t_316, k⟩ := k
                refine R_ziald (i := 76) rfl (Or.inl t_315) t_316 ?_
                refine R_ps 2 (pc2 := 141) (L2 := [some (vr (some w)), some (vi (J x1)), some (vi (J x2)), some (vi (J x3)), some (vi (J x4)), some (vi (J (77 + (4 * (ai h_271 a_275 76)))))]) (st2 := [vi ((J (ai h_307 a_313 76)) + (J 1)), vi (J 76), vr (some a_313)]) rfl ?_
                rw [show ((J (ai h_307 a_313 76)) + (J 1)) = J ((ai h_307 a_313 76) + 1) from J_add' rfl rfl]
                refine R_ziast (i := 76) (x := (ai h_307 a_313 76) + 1) rfl t_315 t_316  ?_
                show WP T N _ _ _ _ (wi h_307 a_313 76 ((ai h_307 a_313 76) + 1)) _
                generalize e_319 : wi h_307 a_313 76 ((ai h_307 a_313 76) + 1) = h_318
                replace k := k h_318 e_319.symm
                refine R_ps 1 (pc2 := 143) (L2 := [some (vr (some w)), some (vi (J x1)), some (vi (J x2)), some (vi (J x3)), some (vi (J x4)), some (vi (J (77 + (4 * (ai h_271 a_275 76)))))]) (st2 := [vr (some w)]) rfl ?_
                refine R_zcI (as := [vr (some w)]) rfl rfl ⟨Nat.le_of_ble_eq_true rfl, Nat.le_of_ble_eq_true rfl, rfl, (Or.inr ⟨_, rfl, t0⟩)⟩ rfl rfl k (fun x_322 h_321 r_323 k => ?_)
                exact R_iret rfl rfl (R_zr (x := x_322) (K := K) r_323 k)
              · have k := k.1 (Classical.not_not.mp c_269)
                refine R_ps 1 (pc2 := 73) (L2 := [some (vr (some w)), some (vi (J x1)), some (vi (J x2)), some (vi (J x3)), some (vi (J x4)), none]) (st2 := [vi (J 0)]) rfl ?_
                exact R_iret rfl rfl (R_zr (x := 0) (K := K) (by decide) k)
          · have k := k.1 (Classical.not_not.mp c_196)
            refine R_ps 2 (pc2 := 62) (L2 := [some (vr (some w)), some (vi (J x1)), some (vi (J x2)), some (vi (J x3)), some (vi (J x4)), none]) (st2 := [vi (J 2), vr (some w)]) rfl ?_
            refine R_zputI (x := 2) (z := 0) rfl t0 rfl ?_
            show WP T N _ _ _ _ (wi h_7 w 0 2) _
            generalize e_328 : wi h_7 w 0 2 = h_327
            replace k := k h_327 e_328.symm
            refine R_ps 1 (pc2 := 66) (L2 := [some (vr (some w)), some (vi (J x1)), some (vi (J x2)), some (vi (J x3)), some (vi (J x4)), none]) (st2 := [vr (some w)]) rfl ?_
            refine R_zgetI (z := 0) rfl t0 rfl ?_
            refine R_zif0 (x := ai h_327 w 0) rfl (ai_in _ _ _) (fun c_330 => ?_) (fun c_330 => ?_)
            · have k := k.2 c_330
              refine R_ps 1 (pc2 := 75) (L2 := [some (vr (some w)), some (vi (J x1)), some (vi (J x2)), some (vi (J x3)), some (vi (J x4)), none]) (st2 := [vr (some w)]) rfl ?_
              refine R_cV (as := [vr (some w)]) rfl rfl ⟨Nat.le_of_ble_eq_true rfl, Nat.le_of_ble_eq_true rfl, rfl, (Or.inr ⟨_, rfl, t0⟩)⟩ rfl rfl k (fun h_332 k => ?_)
              refine R_ps 3 (pc2 := 82) (L2 := [some (vr (some w)), some (vi (J x1)), some (vi (J x2)), some (vi (J x3)), some (vi (J x4)), none]) (st2 := [vr (some w), vi (J 4), vi (J 77)]) rfl ?_
              refine R_getR rfl t0 ?_
              refine R_ps 1 (pc2 := 87) (L2 := [some (vr (some w)), some (vi (J x1)), some (vi (J x2)), some (vi (J x3)), some (vi (J x4)), none]) (st2 := [vi (J 76), vr (gr h_332 w 1), vi (J 4), vi (J 77)]) rfl ?_
              obtain ⟨a_336, e_337, k⟩ := k
              rw [e_337]
              obtain ⟨t_338, k⟩ := k
              obtain ⟨t_339, k⟩ := k
              refine R_ziald (i := 76) rfl (Or.inl t_338) t_339 ?_
              refine R_ps 4 (pc2 := 93) (L2 := [some (vr (some w)), some (vi (J x1)), some (vi (J x2)), some (vi (J x3)), some (vi (J x4)), some (vi ((J 77) + ((J 4) * (J (ai h_332 a_336 76)))))]) (st2 := [vr (some w)]) rfl ?_
              rw [show ((J 77) + ((J 4) * (J (ai h_332 a_336 76)))) = J (77 + (4 * (ai h_332 a_336 76))) from J_add' rfl (J_mul' rfl rfl)]
              refine R_getR rfl t0 ?_
              refine R_ps 2 (pc2 := 99) (L2 := [some (vr (some w)), some (vi (J x1)), some (vi (J x2)), some (vi (J x3)), some (vi (J x4)), some (vi (J (77 + (4 * (ai h_332 a_336 76)))))]) (st2 := [vi (J x1), vi (J (77 + (4 * (ai h_332 a_336 76)))), vr (gr h_332 w 1)]) rfl ?_
              obtain ⟨a_342, e_343, k⟩ := k
              rw [e_343]
              obtain ⟨t_346, k⟩ := k
              obtain ⟨t_347, k⟩ := k
              refine R_ziast (i := 77 + (4 * (ai h_332 a_336 76))) (x := x1) rfl t_346 t_347  ?_
              show WP T N _ _ _ _ (wi h_332 a_342 (77 + (4 * (ai h_332 a_336 76))) x1) _
              generalize e_345 : wi h_332 a_342 (77 + (4 * (ai h_332 a_336 76))) x1 = h_344
              replace k := k h_344 e_345.symm
              refine R_ps 1 (pc2 := 101) (L2 := [some (vr (some w)), some (vi (J x1)), some (vi (J x2)), some (vi (J x3)), some (vi (J x4)), some (vi (J (77 + (4 * (ai h_332 a_336 76)))))]) (st2 := [vr (some w)]) rfl ?_
              refine R_getR rfl t0 ?_
              refine R_ps 4 (pc2 := 109) (L2 := [some (vr (some w)), some (vi (J x1)), some (vi (J x2)), some (vi (J x3)), some (vi (J x4)), some (vi (J (77 + (4 * (ai h_332 a_336 76)))))]) (st2 := [vi (J x2), vi ((J (77 + (4 * (ai h_332 a_336 76)))) + (J 1)), vr (gr h_344 w 1)]) rfl ?_
              rw [show ((J (77 + (4 * (ai h_332 a_336 76)))) + (J 1)) = J ((77 + (4 * (ai h_332 a_336 76))) + 1) from J_add' rfl rfl]
              obtain ⟨a_350, e_351, k⟩ := k
              rw [e_351]
              obtain ⟨t_354, k⟩ := k
              obtain ⟨t_355, k⟩ := k
              refine R_ziast (i := (77 + (4 * (ai h_332 a_336 76))) + 1) (x := x2) rfl t_354 t_355  ?_
              show WP T N _ _ _ _ (wi h_344 a_350 ((77 + (4 * (ai h_332 a_336 76))) + 1) x2) _
              generalize e_353 : wi h_344 a_350 ((77 + (4 * (ai h_332 a_336 76))) + 1) x2 = h_352
              replace k := k h_352 e_353.symm
              refine R_ps 1 (pc2 := 111) (L2 := [some (vr (some w)), some (vi (J x1)), some (vi (J x2)), some (vi (J x3)), some (vi (J x4)), some (vi (J (77 + (4 * (ai h_332 a_336 76)))))]) (st2 := [vr (some w)]) rfl ?_
              refine R_getR rfl t0 ?_
              refine R_ps 4 (pc2 := 119) (L2 := [some (vr (some w)), some (vi (J x1)), some (vi (J x2)), some (vi (J x3)), some (vi (J x4)), some (vi (J (77 + (4 * (ai h_332 a_336 76)))))]) (st2 := [vi (J x3), vi ((J (77 + (4 * (ai h_332 a_336 76)))) + (J 2)), vr (gr h_352 w 1)]) rfl ?_
              rw [show ((J (77 + (4 * (ai h_332 a_336 76)))) + (J 2)) = J ((77 + (4 * (ai h_332 a_336 76))) + 2) from J_add' rfl rfl]
              obtain ⟨a_358, e_359, k⟩ := k
              rw [e_359]
              obtain ⟨t_362, k⟩ := k
              obtain ⟨t_363, k⟩ := k
              refine R_ziast (i := (77 + (4 * (ai h_332 a_336 76))) + 2) (x := x3) rfl t_362 t_363  ?_
              show WP T N _ _ _ _ (wi h_352 a_358 ((77 + (4 * (ai h_332 a_336 76))) + 2) x3) _
              generalize e_361 : wi h_352 a_358 ((77 + (4 * (ai h_332 a_336 76))) + 2) x3 = h_360
              replace k := k h_360 e_361.symm
              refine R_ps 1 (pc2 := 121) (L2 := [some (vr (some w)), some (vi (J x1)), some (vi (J x2)), some (vi (J x3)), some (vi (J x4)), some (vi (J (77 + (4 * (ai h_332 a_336 76)))))]) (st2 := [vr (some w)]) rfl ?_
              refine R_getR rfl t0 ?_
              refine R_ps 4 (pc2 := 130) (L2 := [some (vr (some w)), some (vi (J x1)), some (vi (J x2)), some (vi (J x3)), some (vi (J x4)), some (vi (J (77 + (4 * (ai h_332 a_336 76)))))]) (st2 := [vi (J x4), vi ((J (77 + (4 * (ai h_332 a_336 76)))) + (J 3)), vr (gr h_360 w 1)]) rfl ?_
              rw [show ((J (77 + (4 * (ai h_332 a_336 76)))) + (J 3)) = J ((77 + (4 * (ai h_332 a_336 76))) + 3) from J_add' rfl rfl]
              obtain ⟨a_366, e_367, k⟩ := k
              rw [e_367]
              obtain ⟨t_370, k⟩ := k
              obtain ⟨t_371, k⟩ := k
              refine R_ziast (i := (77 + (4 * (ai h_332 a_336 76))) + 3) (x := x4) rfl t_370 t_371  ?_
              show WP T N _ _ _ _ (wi h_360 a_366 ((77 + (4 * (ai h_332 a_336 76))) + 3) x4) _
              generalize e_369 : wi h_360 a_366 ((77 + (4 * (ai h_332 a_336 76))) + 3) x4 = h_368
              replace k := k h_368 e_369.symm
              refine R_ps 1 (pc2 := 132) (L2 := [some (vr (some w)), some (vi (J x1)), some (vi (J x2)), some (vi (J x3)), some (vi (J x4)), some (vi (J (77 + (4 * (ai h_332 a_336 76)))))]) (st2 := [vr (some w)]) rfl ?_
              refine R_getR rfl t0 ?_
              refine R_ps 2 (pc2 := 138) (L2 := [some (vr (some w)), some (vi (J x1)), some (vi (J x2)), some (vi (J x3)), some (vi (J x4)), some (vi (J (77 + (4 * (ai h_332 a_336 76)))))]) (st2 := [vi (J 76), vr (gr h_368 w 1), vi (J 76), vr (gr h_368 w 1)]) rfl ?_
              obtain ⟨a_374, e_375, k⟩ := k
              rw [e_375]
              obtain ⟨t_376, k⟩ := k
              obtain ⟨t_377, k⟩ := k
              refine R_ziald (i := 76) rfl (Or.inl t_376) t_377 ?_
              refine R_ps 2 (pc2 := 141) (L2 := [some (vr (some w)), some (vi (J x1)), some (vi (J x2)), some (vi (J x3)), some (vi (J x4)), some (vi (J (77 + (4 * (ai h_332 a_336 76)))))]) (st2 := [vi ((J (ai h_368 a_374 76)) + (J 1)), vi (J 76), vr (some a_374)]) rfl ?_
              rw [show ((J (ai h_368 a_374 76)) + (J 1)) = J ((ai h_368 a_374 76) + 1) from J_add' rfl rfl]
              refine R_ziast (i := 76) (x := (ai h_368 a_374 76) + 1) rfl t_376 t_377  ?_
              show WP T N _ _ _ _ (wi h_368 a_374 76 ((ai h_368 a_374 76) + 1)) _
              generalize e_380 : wi h_368 a_374 76 ((ai h_368 a_374 76) + 1) = h_379
              replace k := k h_379 e_380.symm
              refine R_ps 1 (pc2 := 143) (L2 := [some (vr (some w)), some (vi (J x1)), some (vi (J x2)), some (vi (J x3)), some (vi (J x4)), some (vi (J (77 + (4 * (ai h_332 a_336 76)))))]) (st2 := [vr (some w)]) rfl ?_
              refine R_zcI (as := [vr (some w)]) rfl rfl ⟨Nat.le_of_ble_eq_true rfl, Nat.le_of_ble_eq_true rfl, rfl, (Or.inr ⟨_, rfl, t0⟩)⟩ rfl rfl k (fun x_383 h_382 r_384 k => ?_)
              exact R_iret rfl rfl (R_zr (x := x_383) (K := K) r_384 k)
            · have k := k.1 (Classical.not_not.mp c_330)
              refine R_ps 1 (pc2 := 73) (L2 := [some (vr (some w)), some (vi (J x1)), some (vi (J x2)), some (vi (J x3)), some (vi (J x4)), none]) (st2 := [vi (J 0)]) rfl ?_
              exact R_iret rfl rfl (R_zr (x := 0) (K := K) (by decide) k)
  · have k := k.1 (Classical.not_not.mp c_5)
    refine R_ps 2 (pc2 := 62) (L2 := [some (vr (some w)), some (vi (J x1)), some (vi (J x2)), some (vi (J x3)), some (vi (J x4)), none]) (st2 := [vi (J 1), vr (some w)]) rfl ?_
    refine R_zputI (x := 1) (z := 0) rfl t0 rfl ?_
    show WP T N _ _ _ _ (wi h_2 w 0 1) _
    generalize e_389 : wi h_2 w 0 1 = h_388
    replace k := k h_388 e_389.symm
    refine R_ps 1 (pc2 := 66) (L2 := [some (vr (some w)), some (vi (J x1)), some (vi (J x2)), some (vi (J x3)), some (vi (J x4)), none]) (st2 := [vr (some w)]) rfl ?_
    refine R_zgetI (z := 0) rfl t0 rfl ?_
    refine R_zif0 (x := ai h_388 w 0) rfl (ai_in _ _ _) (fun c_391 => ?_) (fun c_391 => ?_)
    · have k := k.2 c_391
      refine R_ps 1 (pc2 := 75) (L2 := [some (vr (some w)), some (vi (J x1)), some (vi (J x2)), some (vi (J x3)), some (vi (J x4)), none]) (st2 := [vr (some w)]) rfl ?_
      refine R_cV (as := [vr (some w)]) rfl rfl ⟨Nat.le_of_ble_eq_true rfl, Nat.le_of_ble_eq_true rfl, rfl, (Or.inr ⟨_, rfl, t0⟩)⟩ rfl rfl k (fun h_393 k => ?_)
      refine R_ps 3 (pc2 := 82) (L2 := [some (vr (some w)), some (vi (J x1)), some (vi (J x2)), some (vi (J x3)), some (vi (J x4)), none]) (st2 := [vr (some w), vi (J 4), vi (J 77)]) rfl ?_
      refine R_getR rfl t0 ?_
      refine R_ps 1 (pc2 := 87) (L2 := [some (vr (some w)), some (vi (J x1)), some (vi (J x2)), some (vi (J x3)), some (vi (J x4)), none]) (st2 := [vi (J 76), vr (gr h_393 w 1), vi (J 4), vi (J 77)]) rfl ?_
      obtain ⟨a_397, e_398, k⟩ := k
      rw [e_398]
      obtain ⟨t_399, k⟩ := k
      obtain ⟨t_400, k⟩ := k
      refine R_ziald (i := 76) rfl (Or.inl t_399) t_400 ?_
      refine R_ps 4 (pc2 := 93) (L2 := [some (vr (some w)), some (vi (J x1)), some (vi (J x2)), some (vi (J x3)), some (vi (J x4)), some (vi ((J 77) + ((J 4) * (J (ai h_393 a_397 76)))))]) (st2 := [vr (some w)]) rfl ?_
      rw [show ((J 77) + ((J 4) * (J (ai h_393 a_397 76)))) = J (77 + (4 * (ai h_393 a_397 76))) from J_add' rfl (J_mul' rfl rfl)]
      refine R_getR rfl t0 ?_
      refine R_ps 2 (pc2 := 99) (L2 := [some (vr (some w)), some (vi (J x1)), some (vi (J x2)), some (vi (J x3)), some (vi (J x4)), some (vi (J (77 + (4 * (ai h_393 a_397 76)))))]) (st2 := [vi (J x1), vi (J (77 + (4 * (ai h_393 a_397 76)))), vr (gr h_393 w 1)]) rfl ?_
      obtain ⟨a_403, e_404, k⟩ := k
      rw [e_404]
      obtain ⟨t_407, k⟩ := k
      obtain ⟨t_408, k⟩ := k
      refine R_ziast (i := 77 + (4 * (ai h_393 a_397 76))) (x := x1) rfl t_407 t_408  ?_
      show WP T N _ _ _ _ (wi h_393 a_403 (77 + (4 * (ai h_393 a_397 76))) x1) _
      generalize e_406 : wi h_393 a_403 (77 + (4 * (ai h_393 a_397 76))) x1 = h_405
      replace k := k h_405 e_406.symm
      refine R_ps 1 (pc2 := 101) (L2 := [some (vr (some w)), some (vi (J x1)), some (vi (J x2)), some (vi (J x3)), some (vi (J x4)), some (vi (J (77 + (4 * (ai h_393 a_397 76)))))]) (st2 := [vr (some w)]) rfl ?_
      refine R_getR rfl t0 ?_
      refine R_ps 4 (pc2 := 109) (L2 := [some (vr (some w)), some (vi (J x1)), some (vi (J x2)), some (vi (J x3)), some (vi (J x4)), some (vi (J (77 + (4 * (ai h_393 a_397 76)))))]) (st2 := [vi (J x2), vi ((J (77 + (4 * (ai h_393 a_397 76)))) + (J 1)), vr (gr h_405 w 1)]) rfl ?_
      rw [show ((J (77 + (4 * (ai h_393 a_397 76)))) + (J 1)) = J ((77 + (4 * (ai h_393 a_397 76))) + 1) from J_add' rfl rfl]
      obtain ⟨a_411, e_412, k⟩ := k
      rw [e_412]
      obtain ⟨t_415, k⟩ := k
      obtain ⟨t_416, k⟩ := k
      refine R_ziast (i := (77 + (4 * (ai h_393 a_397 76))) + 1) (x := x2) rfl t_415 t_416  ?_
      show WP T N _ _ _ _ (wi h_405 a_411 ((77 + (4 * (ai h_393 a_397 76))) + 1) x2) _
      generalize e_414 : wi h_405 a_411 ((77 + (4 * (ai h_393 a_397 76))) + 1) x2 = h_413
      replace k := k h_413 e_414.symm
      refine R_ps 1 (pc2 := 111) (L2 := [some (vr (some w)), some (vi (J x1)), some (vi (J x2)), some (vi (J x3)), some (vi (J x4)), some (vi (J (77 + (4 * (ai h_393 a_397 76)))))]) (st2 := [vr (some w)]) rfl ?_
      refine R_getR rfl t0 ?_
      refine R_ps 4 (pc2 := 119) (L2 := [some (vr (some w)), some (vi (J x1)), some (vi (J x2)), some (vi (J x3)), some (vi (J x4)), some (vi (J (77 + (4 * (ai h_393 a_397 76)))))]) (st2 := [vi (J x3), vi ((J (77 + (4 * (ai h_393 a_397 76)))) + (J 2)), vr (gr h_413 w 1)]) rfl ?_
      rw [show ((J (77 + (4 * (ai h_393 a_397 76)))) + (J 2)) = J ((77 + (4 * (ai h_393 a_397 76))) + 2) from J_add' rfl rfl]
      obtain ⟨a_419, e_420, k⟩ := k
      rw [e_420]
      obtain ⟨t_423, k⟩ := k
      obtain ⟨t_424, k⟩ := k
      refine R_ziast (i := (77 + (4 * (ai h_393 a_397 76))) + 2) (x := x3) rfl t_423 t_424  ?_
      show WP T N _ _ _ _ (wi h_413 a_419 ((77 + (4 * (ai h_393 a_397 76))) + 2) x3) _
      generalize e_422 : wi h_413 a_419 ((77 + (4 * (ai h_393 a_397 76))) + 2) x3 = h_421
      replace k := k h_421 e_422.symm
      refine R_ps 1 (pc2 := 121) (L2 := [some (vr (some w)), some (vi (J x1)), some (vi (J x2)), some (vi (J x3)), some (vi (J x4)), some (vi (J (77 + (4 * (ai h_393 a_397 76)))))]) (st2 := [vr (some w)]) rfl ?_
      refine R_getR rfl t0 ?_
      refine R_ps 4 (pc2 := 130) (L2 := [some (vr (some w)), some (vi (J x1)), some (vi (J x2)), some (vi (J x3)), some (vi (J x4)), some (vi (J (77 + (4 * (ai h_393 a_397 76)))))]) (st2 := [vi (J x4), vi ((J (77 + (4 * (ai h_393 a_397 76)))) + (J 3)), vr (gr h_421 w 1)]) rfl ?_
      rw [show ((J (77 + (4 * (ai h_393 a_397 76)))) + (J 3)) = J ((77 + (4 * (ai h_393 a_397 76))) + 3) from J_add' rfl rfl]
      obtain ⟨a_427, e_428, k⟩ := k
      rw [e_428]
      obtain ⟨t_431, k⟩ := k
      obtain ⟨t_432, k⟩ := k
      refine R_ziast (i := (77 + (4 * (ai h_393 a_397 76))) + 3) (x := x4) rfl t_431 t_432  ?_
      show WP T N _ _ _ _ (wi h_421 a_427 ((77 + (4 * (ai h_393 a_397 76))) + 3) x4) _
      generalize e_430 : wi h_421 a_427 ((77 + (4 * (ai h_393 a_397 76))) + 3) x4 = h_429
      replace k := k h_429 e_430.symm
      refine R_ps 1 (pc2 := 132) (L2 := [some (vr (some w)), some (vi (J x1)), some (vi (J x2)), some (vi (J x3)), some (vi (J x4)), some (vi (J (77 + (4 * (ai h_393 a_397 76)))))]) (st2 := [vr (some w)]) rfl ?_
      refine R_getR rfl t0 ?_
      refine R_ps 2 (pc2 := 138) (L2 := [some (vr (some w)), some (vi (J x1)), some (vi (J x2)), some (vi (J x3)), some (vi (J x4)), some (vi (J (77 + (4 * (ai h_393 a_397 76)))))]) (st2 := [vi (J 76), vr (gr h_429 w 1), vi (J 76), vr (gr h_429 w 1)]) rfl ?_
      obtain ⟨a_435, e_436, k⟩ := k
      rw [e_436]
      obtain ⟨t_437, k⟩ := k
      obtain ⟨t_438, k⟩ := k
      refine R_ziald (i := 76) rfl (Or.inl t_437) t_438 ?_
      refine R_ps 2 (pc2 := 141) (L2 := [some (vr (some w)), some (vi (J x1)), some (vi (J x2)), some (vi (J x3)), some (vi (J x4)), some (vi (J (77 + (4 * (ai h_393 a_397 76)))))]) (st2 := [vi ((J (ai h_429 a_435 76)) + (J 1)), vi (J 76), vr (some a_435)]) rfl ?_
      rw [show ((J (ai h_429 a_435 76)) + (J 1)) = J ((ai h_429 a_435 76) + 1) from J_add' rfl rfl]
      refine R_ziast (i := 76) (x := (ai h_429 a_435 76) + 1) rfl t_437 t_438  ?_
      show WP T N _ _ _ _ (wi h_429 a_435 76 ((ai h_429 a_435 76) + 1)) _
      generalize e_441 : wi h_429 a_435 76 ((ai h_429 a_435 76) + 1) = h_440
      replace k := k h_440 e_441.symm
      refine R_ps 1 (pc2 := 143) (L2 := [some (vr (some w)), some (vi (J x1)), some (vi (J x2)), some (vi (J x3)), some (vi (J x4)), some (vi (J (77 + (4 * (ai h_393 a_397 76)))))]) (st2 := [vr (some w)]) rfl ?_
      refine R_zcI (as := [vr (some w)]) rfl rfl ⟨Nat.le_of_ble_eq_true rfl, Nat.le_of_ble_eq_true rfl, rfl, (Or.inr ⟨_, rfl, t0⟩)⟩ rfl rfl k (fun x_444 h_443 r_445 k => ?_)
      exact R_iret rfl rfl (R_zr (x := x_444) (K := K) r_445 k)
    · have k := k.1 (Classical.not_not.mp c_391)
      refine R_ps 1 (pc2 := 73) (L2 := [some (vr (some w)), some (vi (J x1)), some (vi (J x2)), some (vi (J x3)), some (vi (J x4)), none]) (st2 := [vi (J 0)]) rfl ?_
      exact R_iret rfl rfl (R_zr (x := 0) (K := K) (by decide) k)
/-- DroneCorridorsModel.removeFence -/
theorem z178 {T N : Nat → Nat} {h : PH} {w : Nat} {x1 : Int} {K : Int → PH → Prop} (t0 : T w = 12) (r1 : In x1) (k : (∃ a_3, (gr h w 1) = some a_3 ∧ T a_3 = 22 ∧ (0 ≤ (76 : Int) ∧ (76 : Int) < (N a_3 : Int) ∧ (76 : Int) < 2147483648) ∧ ZI T N 158 [vi (J x1), vi (J 0), vi (J ((ai h a_3 76) - 1))] h (fun x_9 h_8 => (((x_9 = 0 → (∀ h_13, h_13 = wi h_8 w 0 1 → (((ai h_13 w 0) = 1 → (K 0 h_13)) ∧ (¬ ((ai h_13 w 0) = 1) → (CV T N 160 [vr (some w)] h_13 (fun h_18 => (∃ a_22, (gr h_18 w 1) = some a_22 ∧ T a_22 = 22 ∧ (0 ≤ (76 : Int) ∧ (76 : Int) < (N a_22 : Int) ∧ (76 : Int) < 2147483648) ∧ ∀ h_27, h_27 = wi h_18 a_22 76 ((ai h_18 a_22 76) - 1) → ZW T N 178 58 [some (vr (some w)), none, some (vi (J (77 + (4 * x1))))] [] h_27 K))))))) ∧ (¬ (x_9 = 0) → (∀ h_31, h_31 = wi h_8 w 0 0 → (((ai h_31 w 0) = 1 → (K 0 h_31)) ∧ (¬ ((ai h_31 w 0) = 1) → (CV T N 160 [vr (some w)] h_31 (fun h_36 => (∃ a_40, (gr h_36 w 1) = some a_40 ∧ T a_40 = 22 ∧ (0 ≤ (76 : Int) ∧ (76 : Int) < (N a_40 : Int) ∧ (76 : Int) < 2147483648) ∧ ∀ h_45, h_45 = wi h_36 a_40 76 ((ai h_36 a_40 76) - 1) → ZW T N 178 58 [some (vr (some w)), none, some (vi (J (77 + (4 * x1))))] [] h_45 K)))))))))))) : ZI T N 178 [vr (some w), vi (J x1)] h K := by
  show WP T N 178 0 [some (vr (some w)), some (vi (J x1)), none] [] h _
  refine R_ps 4 (pc2 := 4) (L2 := [some (vr (some w)), some (vi (J x1)), none]) (st2 := [vr (some w), vi (J 0), vi (J x1), vr (some w)]) rfl ?_
  refine R_getR rfl t0 ?_
  refine R_ps 1 (pc2 := 9) (L2 := [some (vr (some w)), some (vi (J x1)), none]) (st2 := [vi (J 76), vr (gr h w 1), vi (J 0), vi (J x1), vr (some w)]) rfl ?_
  obtain ⟨a_3, e_4, k⟩ := k
  rw [e_4]
  obtain ⟨t_5, k⟩ := k
  obtain ⟨t_6, k⟩ := k
  refine R_ziald (i := 76) rfl (Or.inl t_5) t_6 ?_
  refine R_ps 2 (pc2 := 12) (L2 := [some (vr (some w)), some (vi (J x1)), none]) (st2 := [vi ((J (ai h a_3 76)) - (J 1)), vi (J 0), vi (J x1), vr (some w)]) rfl ?_
  rw [show ((J (ai h a_3 76)) - (J 1)) = J ((ai h a_3 76) - 1) from J_sub' rfl rfl]
  refine R_zcI (as := [vi (J x1), vi (J 0), vi (J ((ai h a_3 76) - 1))]) rfl rfl ⟨Nat.le_of_ble_eq_true rfl, Nat.le_of_ble_eq_true rfl, rfl, (Or.inl rfl)⟩ rfl rfl k (fun x_9 h_8 r_10 k => ?_)
  refine R_zif0 (x := x_9) rfl r_10 (fun c_11 => ?_) (fun c_11 => ?_)
  · have k := k.1 c_11
    refine R_ps 1 (pc2 := 23) (L2 := [some (vr (some w)), some (vi (J x1)), none]) (st2 := [vi (J 1), vr (some w)]) rfl ?_
    refine R_zputI (x := 1) (z := 0) rfl t0 rfl ?_
    show WP T N _ _ _ _ (wi h_8 w 0 1) _
    generalize e_14 : wi h_8 w 0 1 = h_13
    replace k := k h_13 e_14.symm
    refine R_ps 1 (pc2 := 27) (L2 := [some (vr (some w)), some (vi (J x1)), none]) (st2 := [vr (some w)]) rfl ?_
    refine R_zgetI (z := 0) rfl t0 rfl ?_
    refine R_ps 1 (pc2 := 31) (L2 := [some (vr (some w)), some (vi (J x1)), none]) (st2 := [vi (J 1), vi (J (ai h_13 w 0))]) rfl ?_
    refine R_zif (x := ai h_13 w 0) (z := 1) rfl (ai_in _ _ _) (by decide) (fun c_16 => ?_) (fun c_16 => ?_)
    · have k := k.2 c_16
      refine R_ps 1 (pc2 := 37) (L2 := [some (vr (some w)), some (vi (J x1)), none]) (st2 := [vr (some w)]) rfl ?_
      refine R_cV (as := [vr (some w)]) rfl rfl ⟨Nat.le_of_ble_eq_true rfl, Nat.le_of_ble_eq_true rfl, rfl, (Or.inr ⟨_, rfl, t0⟩)⟩ rfl rfl k (fun h_18 k => ?_)
      refine R_ps 1 (pc2 := 41) (L2 := [some (vr (some w)), some (vi (J x1)), none]) (st2 := [vr (some w)]) rfl ?_
      refine R_getR rfl t0 ?_
      refine R_ps 2 (pc2 := 47) (L2 := [some (vr (some w)), some (vi (J x1)), none]) (st2 := [vi (J 76), vr (gr h_18 w 1), vi (J 76), vr (gr h_18 w 1)]) rfl ?_
      obtain ⟨a_22, e_23, k⟩ := k
      rw [e_23]
      obtain ⟨t_24, k⟩ := k
      obtain ⟨t_25, k⟩ := k
      refine R_ziald (i := 76) rfl (Or.inl t_24) t_25 ?_
      refine R_ps 2 (pc2 := 50) (L2 := [some (vr (some w)), some (vi (J x1)), none]) (st2 := [vi ((J (ai h_18 a_22 76)) - (J 1)), vi (J 76), vr (some a_22)]) rfl ?_
      rw [show ((J (ai h_18 a_22 76)) - (J 1)) = J ((ai h_18 a_22 76) - 1) from J_sub' rfl rfl]
      refine R_ziast (i := 76) (x := (ai h_18 a_22 76) - 1) rfl t_24 t_25  ?_
      show WP T N _ _ _ _ (wi h_18 a_22 76 ((ai h_18 a_22 76) - 1)) _
      generalize e_28 : wi h_18 a_22 76 ((ai h_18 a_22 76) - 1) = h_27
      replace k := k h_27 e_28.symm
      refine R_ps 6 (pc2 := 58) (L2 := [some (vr (some w)), some (vi (J x1)), some (vi ((J 77) + ((J 4) * (J x1))))]) (st2 := []) rfl ?_
      rw [show ((J 77) + ((J 4) * (J x1))) = J (77 + (4 * x1)) from J_add' rfl (J_mul' rfl rfl)]
      exact R_drop k (LE_of (L := [some (vr (some w)), none, some (vi (J (77 + (4 * x1))))]) (L2 := [some (vr (some w)), some (vi (J x1)), some (vi (J (77 + (4 * x1))))]) ⟨rfl, rfl, trivial⟩)
    · have k := k.1 (Classical.not_not.mp c_16)
      refine R_ps 1 (pc2 := 35) (L2 := [some (vr (some w)), some (vi (J x1)), none]) (st2 := [vi (J 0)]) rfl ?_
      exact R_iret rfl rfl (R_zr (x := 0) (K := K) (by decide) k)
  · have k := k.2 c_11
    refine R_ps 2 (pc2 := 23) (L2 := [some (vr (some w)), some (vi (J x1)), none]) (st2 := [vi (J 0), vr (some w)]) rfl ?_
    refine R_zputI (x := 0) (z := 0) rfl t0 rfl ?_
    show WP T N _ _ _ _ (wi h_8 w 0 0) _
    generalize e_32 : wi h_8 w 0 0 = h_31
    replace k := k h_31 e_32.symm
    refine R_ps 1 (pc2 := 27) (L2 := [some (vr (some w)), some (vi (J x1)), none]) (st2 := [vr (some w)]) rfl ?_
    refine R_zgetI (z := 0) rfl t0 rfl ?_
    refine R_ps 1 (pc2 := 31) (L2 := [some (vr (some w)), some (vi (J x1)), none]) (st2 := [vi (J 1), vi (J (ai h_31 w 0))]) rfl ?_
    refine R_zif (x := ai h_31 w 0) (z := 1) rfl (ai_in _ _ _) (by decide) (fun c_34 => ?_) (fun c_34 => ?_)
    · have k := k.2 c_34
      refine R_ps 1 (pc2 := 37) (L2 := [some (vr (some w)), some (vi (J x1)), none]) (st2 := [vr (some w)]) rfl ?_
      refine R_cV (as := [vr (some w)]) rfl rfl ⟨Nat.le_of_ble_eq_true rfl, Nat.le_of_ble_eq_true rfl, rfl, (Or.inr ⟨_, rfl, t0⟩)⟩ rfl rfl k (fun h_36 k => ?_)
      refine R_ps 1 (pc2 := 41) (L2 := [some (vr (some w)), some (vi (J x1)), none]) (st2 := [vr (some w)]) rfl ?_
      refine R_getR rfl t0 ?_
      refine R_ps 2 (pc2 := 47) (L2 := [some (vr (some w)), some (vi (J x1)), none]) (st2 := [vi (J 76), vr (gr h_36 w 1), vi (J 76), vr (gr h_36 w 1)]) rfl ?_
      obtain ⟨a_40, e_41, k⟩ := k
      rw [e_41]
      obtain ⟨t_42, k⟩ := k
      obtain ⟨t_43, k⟩ := k
      refine R_ziald (i := 76) rfl (Or.inl t_42) t_43 ?_
      refine R_ps 2 (pc2 := 50) (L2 := [some (vr (some w)), some (vi (J x1)), none]) (st2 := [vi ((J (ai h_36 a_40 76)) - (J 1)), vi (J 76), vr (some a_40)]) rfl ?_
      rw [show ((J (ai h_36 a_40 76)) - (J 1)) = J ((ai h_36 a_40 76) - 1) from J_sub' rfl rfl]
      refine R_ziast (i := 76) (x := (ai h_36 a_40 76) - 1) rfl t_42 t_43  ?_
      show WP T N _ _ _ _ (wi h_36 a_40 76 ((ai h_36 a_40 76) - 1)) _
      generalize e_46 : wi h_36 a_40 76 ((ai h_36 a_40 76) - 1) = h_45
      replace k := k h_45 e_46.symm
      refine R_ps 6 (pc2 := 58) (L2 := [some (vr (some w)), some (vi (J x1)), some (vi ((J 77) + ((J 4) * (J x1))))]) (st2 := []) rfl ?_
      rw [show ((J 77) + ((J 4) * (J x1))) = J (77 + (4 * x1)) from J_add' rfl (J_mul' rfl rfl)]
      exact R_drop k (LE_of (L := [some (vr (some w)), none, some (vi (J (77 + (4 * x1))))]) (L2 := [some (vr (some w)), some (vi (J x1)), some (vi (J (77 + (4 * x1))))]) ⟨rfl, rfl, trivial⟩)
    · have k := k.1 (Classical.not_not.mp c_34)
      refine R_ps 1 (pc2 := 35) (L2 := [some (vr (some w)), some (vi (J x1)), none]) (st2 := [vi (J 0)]) rfl ?_
      exact R_iret rfl rfl (R_zr (x := 0) (K := K) (by decide) k)
theorem z178_58 {T N : Nat → Nat} {h : PH} {w : Nat} {x2 : Int} {K : Int → PH → Prop} (t0 : T w = 12) (r2 : In x2) (k : (∃ a_3, (gr h w 1) = some a_3 ∧ T a_3 = 22 ∧ (0 ≤ (76 : Int) ∧ (76 : Int) < (N a_3 : Int) ∧ (76 : Int) < 2147483648) ∧ In (77 + (4 * (ai h a_3 76))) ∧ ((x2 < (77 + (4 * (ai h a_3 76))) → (∃ a_17, (gr h w 1) = some a_17 ∧ T a_17 = 22 ∧ (0 ≤ (x2 + 4) ∧ (x2 + 4) < (N a_17 : Int) ∧ (x2 + 4) < 2147483648) ∧ (0 ≤ x2 ∧ x2 < (N a_17 : Int) ∧ x2 < 2147483648) ∧ ∀ h_22, h_22 = wi h a_17 x2 (ai h a_17 (x2 + 4)) → ZW T N 178 58 [some (vr (some w)), none, some (vi (J (x2 + 1)))] [] h_22 K)) ∧ (¬ (x2 < (77 + (4 * (ai h a_3 76)))) → (ZI T N 200 [vr (some w)] h (fun x_11 h_10 => (K x_11 h_10))))))) : ZW T N 178 58 [some (vr (some w)), none, some (vi (J x2))] [] h K := by
  show WP T N 178 58 [some (vr (some w)), none, some (vi (J x2))] [] h _
  refine R_ps 4 (pc2 := 63) (L2 := [some (vr (some w)), none, some (vi (J x2))]) (st2 := [vr (some w), vi (J 4), vi (J 77), vi (J x2)]) rfl ?_
  refine R_getR rfl t0 ?_
  refine R_ps 1 (pc2 := 68) (L2 := [some (vr (some w)), none, some (vi (J x2))]) (st2 := [vi (J 76), vr (gr h w 1), vi (J 4), vi (J 77), vi (J x2)]) rfl ?_
  obtain ⟨a_3, e_4, k⟩ := k
  rw [e_4]
  obtain ⟨t_5, k⟩ := k
  obtain ⟨t_6, k⟩ := k
  refine R_ziald (i := 76) rfl (Or.inl t_5) t_6 ?_
  refine R_ps 2 (pc2 := 71) (L2 := [some (vr (some w)), none, some (vi (J x2))]) (st2 := [vi ((J 77) + ((J 4) * (J (ai h a_3 76)))), vi (J x2)]) rfl ?_
  rw [show ((J 77) + ((J 4) * (J (ai h a_3 76)))) = J (77 + (4 * (ai h a_3 76))) from J_add' rfl (J_mul' rfl rfl)]
  obtain ⟨t_8, k⟩ := k
  refine R_zif (x := x2) (z := 77 + (4 * (ai h a_3 76))) rfl r2 t_8 (fun c_7 => ?_) (fun c_7 => ?_)
  · have k := k.2 c_7
    refine R_ps 1 (pc2 := 95) (L2 := [some (vr (some w)), none, some (vi (J x2))]) (st2 := [vr (some w)]) rfl ?_
    refine R_zcI (as := [vr (some w)]) rfl rfl ⟨Nat.le_of_ble_eq_true rfl, Nat.le_of_ble_eq_true rfl, rfl, (Or.inr ⟨_, rfl, t0⟩)⟩ rfl rfl k (fun x_11 h_10 r_12 k => ?_)
    exact R_iret rfl rfl (R_zr (x := x_11) (K := K) r_12 k)
  · have k := k.1 (Classical.not_not.mp c_7)
    refine R_ps 1 (pc2 := 75) (L2 := [some (vr (some w)), none, some (vi (J x2))]) (st2 := [vr (some w)]) rfl ?_
    refine R_getR rfl t0 ?_
    refine R_ps 2 (pc2 := 80) (L2 := [some (vr (some w)), none, some (vi (J x2))]) (st2 := [vr (some w), vi (J x2), vr (gr h w 1)]) rfl ?_
    refine R_getR rfl t0 ?_
    refine R_ps 3 (pc2 := 86) (L2 := [some (vr (some w)), none, some (vi (J x2))]) (st2 := [vi ((J x2) + (J 4)), vr (gr h w 1), vi (J x2), vr (gr h w 1)]) rfl ?_
    rw [show ((J x2) + (J 4)) = J (x2 + 4) from J_add' rfl rfl]
    obtain ⟨a_17, e_18, k⟩ := k
    rw [e_18]
    obtain ⟨t_19, k⟩ := k
    obtain ⟨t_20, k⟩ := k
    refine R_ziald (i := x2 + 4) rfl (Or.inl t_19) t_20 ?_
    obtain ⟨t_24, k⟩ := k
    refine R_ziast (i := x2) (x := ai h a_17 (x2 + 4)) rfl t_19 t_24  ?_
    show WP T N _ _ _ _ (wi h a_17 x2 (ai h a_17 (x2 + 4))) _
    generalize e_23 : wi h a_17 x2 (ai h a_17 (x2 + 4)) = h_22
    replace k := k h_22 e_23.symm
    refine R_ps 2 (pc2 := 58) (L2 := [some (vr (some w)), none, some (vi ((J x2) + J 1))]) (st2 := []) rfl ?_
    rw [show ((J x2) + J 1) = J (x2 + 1) from J_add' rfl rfl]
    exact k
/-- DroneCorridorsModel.fence -/
theorem z179 {T N : Nat → Nat} {h : PH} {w : Nat} {x1 : Int} {x2 : Int} {K : Int → PH → Prop} (t0 : T w = 12) (r1 : In x1) (r2 : In x2) (k : (∃ a_3, (gr h w 1) = some a_3 ∧ T a_3 = 22 ∧ (0 ≤ (76 : Int) ∧ (76 : Int) < (N a_3 : Int) ∧ (76 : Int) < 2147483648) ∧ ZI T N 158 [vi (J x1), vi (J 0), vi (J ((ai h a_3 76) - 1))] h (fun x_9 h_8 => (((x_9 = 0 → (∀ h_44, h_44 = wi h_8 w 0 1 → (((ai h_44 w 0) = 0 → (∃ a_51, (gr h_44 w 1) = some a_51 ∧ T a_51 = 22 ∧ (0 ≤ ((77 + (4 * x1)) + x2) ∧ ((77 + (4 * x1)) + x2) < (N a_51 : Int) ∧ ((77 + (4 * x1)) + x2) < 2147483648) ∧ K (ai h_44 a_51 ((77 + (4 * x1)) + x2)) h_44)) ∧ (¬ ((ai h_44 w 0) = 0) → (K 0 h_44))))) ∧ (¬ (x_9 = 0) → (ZI T N 158 [vi (J x2), vi (J 0), vi (J 3)] h_8 (fun x_14 h_13 => (((x_14 = 0 → (∀ h_31, h_31 = wi h_13 w 0 2 → (((ai h_31 w 0) = 0 → (∃ a_38, (gr h_31 w 1) = some a_38 ∧ T a_38 = 22 ∧ (0 ≤ ((77 + (4 * x1)) + x2) ∧ ((77 + (4 * x1)) + x2) < (N a_38 : Int) ∧ ((77 + (4 * x1)) + x2) < 2147483648) ∧ K (ai h_31 a_38 ((77 + (4 * x1)) + x2)) h_31)) ∧ (¬ ((ai h_31 w 0) = 0) → (K 0 h_31))))) ∧ (¬ (x_14 = 0) → (∀ h_18, h_18 = wi h_13 w 0 0 → (((ai h_18 w 0) = 0 → (∃ a_25, (gr h_18 w 1) = some a_25 ∧ T a_25 = 22 ∧ (0 ≤ ((77 + (4 * x1)) + x2) ∧ ((77 + (4 * x1)) + x2) < (N a_25 : Int) ∧ ((77 + (4 * x1)) + x2) < 2147483648) ∧ K (ai h_18 a_25 ((77 + (4 * x1)) + x2)) h_18)) ∧ (¬ ((ai h_18 w 0) = 0) → (K 0 h_18))))))))))))))) : ZI T N 179 [vr (some w), vi (J x1), vi (J x2)] h K := by
  show WP T N 179 0 [some (vr (some w)), some (vi (J x1)), some (vi (J x2))] [] h _
  refine R_ps 4 (pc2 := 4) (L2 := [some (vr (some w)), some (vi (J x1)), some (vi (J x2))]) (st2 := [vr (some w), vi (J 0), vi (J x1), vr (some w)]) rfl ?_
  refine R_getR rfl t0 ?_
  refine R_ps 1 (pc2 := 9) (L2 := [some (vr (some w)), some (vi (J x1)), some (vi (J x2))]) (st2 := [vi (J 76), vr (gr h w 1), vi (J 0), vi (J x1), vr (some w)]) rfl ?_
  obtain ⟨a_3, e_4, k⟩ := k
  rw [e_4]
  obtain ⟨t_5, k⟩ := k
  obtain ⟨t_6, k⟩ := k
  refine R_ziald (i := 76) rfl (Or.inl t_5) t_6 ?_
  refine R_ps 2 (pc2 := 12) (L2 := [some (vr (some w)), some (vi (J x1)), some (vi (J x2))]) (st2 := [vi ((J (ai h a_3 76)) - (J 1)), vi (J 0), vi (J x1), vr (some w)]) rfl ?_
  rw [show ((J (ai h a_3 76)) - (J 1)) = J ((ai h a_3 76) - 1) from J_sub' rfl rfl]
  refine R_zcI (as := [vi (J x1), vi (J 0), vi (J ((ai h a_3 76) - 1))]) rfl rfl ⟨Nat.le_of_ble_eq_true rfl, Nat.le_of_ble_eq_true rfl, rfl, (Or.inl rfl)⟩ rfl rfl k (fun x_9 h_8 r_10 k => ?_)
  refine R_zif0 (x := x_9) rfl r_10 (fun c_11 => ?_) (fun c_11 => ?_)
  · have k := k.2 c_11
    refine R_ps 3 (pc2 := 25) (L2 := [some (vr (some w)), some (vi (J x1)), some (vi (J x2))]) (st2 := [vi (J 3), vi (J 0), vi (J x2), vr (some w)]) rfl ?_
    refine R_zcI (as := [vi (J x2), vi (J 0), vi (J 3)]) rfl rfl ⟨Nat.le_of_ble_eq_true rfl, Nat.le_of_ble_eq_true rfl, rfl, (Or.inl rfl)⟩ rfl rfl k (fun x_14 h_13 r_15 k => ?_)
    refine R_zif0 (x := x_14) rfl r_15 (fun c_16 => ?_) (fun c_16 => ?_)
    · have k := k.2 c_16
      refine R_ps 1 (pc2 := 36) (L2 := [some (vr (some w)), some (vi (J x1)), some (vi (J x2))]) (st2 := [vi (J 0), vr (some w)]) rfl ?_
      refine R_zputI (x := 0) (z := 0) rfl t0 rfl ?_
      show WP T N _ _ _ _ (wi h_13 w 0 0) _
      generalize e_19 : wi h_13 w 0 0 = h_18
      replace k := k h_18 e_19.symm
      refine R_ps 1 (pc2 := 40) (L2 := [some (vr (some w)), some (vi (J x1)), some (vi (J x2))]) (st2 := [vr (some w)]) rfl ?_
      refine R_zgetI (z := 0) rfl t0 rfl ?_
      refine R_zif0 (x := ai h_18 w 0) rfl (ai_in _ _ _) (fun c_21 => ?_) (fun c_21 => ?_)
      · have k := k.2 c_21
        refine R_ps 1 (pc2 := 63) (L2 := [some (vr (some w)), some (vi (J x1)), some (vi (J x2))]) (st2 := [vi (J 0)]) rfl ?_
        exact R_iret rfl rfl (R_zr (x := 0) (K := K) (by decide) k)
      · have k := k.1 (Classical.not_not.mp c_21)
        refine R_ps 1 (pc2 := 47) (L2 := [some (vr (some w)), some (vi (J x1)), some (vi (J x2))]) (st2 := [vr (some w)]) rfl ?_
        refine R_getR rfl t0 ?_
        refine R_ps 7 (pc2 := 58) (L2 := [some (vr (some w)), some (vi (J x1)), some (vi (J x2))]) (st2 := [vi (((J 77) + ((J 4) * (J x1))) + (J x2)), vr (gr h_18 w 1)]) rfl ?_
        rw [show (((J 77) + ((J 4) * (J x1))) + (J x2)) = J ((77 + (4 * x1)) + x2) from J_add' (J_add' rfl (J_mul' rfl rfl)) rfl]
        obtain ⟨a_25, e_26, k⟩ := k
        rw [e_26]
        obtain ⟨t_27, k⟩ := k
        obtain ⟨t_28, k⟩ := k
        refine R_ziald (i := (77 + (4 * x1)) + x2) rfl (Or.inl t_27) t_28 ?_
        refine R_ps 1 (pc2 := 63) (L2 := [some (vr (some w)), some (vi (J x1)), some (vi (J x2))]) (st2 := [vi (J (ai h_18 a_25 ((77 + (4 * x1)) + x2)))]) rfl ?_
        exact R_iret rfl rfl (R_zr (x := ai h_18 a_25 ((77 + (4 * x1)) + x2)) (K := K) (ai_in _ _ _) k)
    · have k := k.1 (Classical.not_not.mp c_16)
      refine R_ps 2 (pc2 := 36) (L2 := [some (vr (some w)), some (vi (J x1)), some (vi (J x2))]) (st2 := [vi (J 2), vr (some w)]) rfl ?_
      refine R_zputI (x := 2) (z := 0) rfl t0 rfl ?_
      show WP T N _ _ _ _ (wi h_13 w 0 2) _
      generalize e_32 : wi h_13 w 0 2 = h_31
      replace k := k h_31 e_32.symm
      refine R_ps 1 (pc2 := 40) (L2 := [some (vr (some w)), some (vi (J x1)), some (vi (J x2))]) (st2 := [vr (some w)]) rfl ?_
      refine R_zgetI (z := 0) rfl t0 rfl ?_
      refine R_zif0 (x := ai h_31 w 0) rfl (ai_in _ _ _) (fun c_34 => ?_) (fun c_34 => ?_)
      · have k := k.2 c_34
        refine R_ps 1 (pc2 := 63) (L2 := [some (vr (some w)), some (vi (J x1)), some (vi (J x2))]) (st2 := [vi (J 0)]) rfl ?_
        exact R_iret rfl rfl (R_zr (x := 0) (K := K) (by decide) k)
      · have k := k.1 (Classical.not_not.mp c_34)
        refine R_ps 1 (pc2 := 47) (L2 := [some (vr (some w)), some (vi (J x1)), some (vi (J x2))]) (st2 := [vr (some w)]) rfl ?_
        refine R_getR rfl t0 ?_
        refine R_ps 7 (pc2 := 58) (L2 := [some (vr (some w)), some (vi (J x1)), some (vi (J x2))]) (st2 := [vi (((J 77) + ((J 4) * (J x1))) + (J x2)), vr (gr h_31 w 1)]) rfl ?_
        rw [show (((J 77) + ((J 4) * (J x1))) + (J x2)) = J ((77 + (4 * x1)) + x2) from J_add' (J_add' rfl (J_mul' rfl rfl)) rfl]
        obtain ⟨a_38, e_39, k⟩ := k
        rw [e_39]
        obtain ⟨t_40, k⟩ := k
        obtain ⟨t_41, k⟩ := k
        refine R_ziald (i := (77 + (4 * x1)) + x2) rfl (Or.inl t_40) t_41 ?_
        refine R_ps 1 (pc2 := 63) (L2 := [some (vr (some w)), some (vi (J x1)), some (vi (J x2))]) (st2 := [vi (J (ai h_31 a_38 ((77 + (4 * x1)) + x2)))]) rfl ?_
        exact R_iret rfl rfl (R_zr (x := ai h_31 a_38 ((77 + (4 * x1)) + x2)) (K := K) (ai_in _ _ _) k)
  · have k := k.1 (Classical.not_not.mp c_11)
    refine R_ps 2 (pc2 := 36) (L2 := [some (vr (some w)), some (vi (J x1)), some (vi (J x2))]) (st2 := [vi (J 1), vr (some w)]) rfl ?_
    refine R_zputI (x := 1) (z := 0) rfl t0 rfl ?_
    show WP T N _ _ _ _ (wi h_8 w 0 1) _
    generalize e_45 : wi h_8 w 0 1 = h_44
    replace k := k h_44 e_45.symm
    refine R_ps 1 (pc2 := 40) (L2 := [some (vr (some w)), some (vi (J x1)), some (vi (J x2))]) (st2 := [vr (some w)]) rfl ?_
    refine R_zgetI (z := 0) rfl t0 rfl ?_
    refine R_zif0 (x := ai h_44 w 0) rfl (ai_in _ _ _) (fun c_47 => ?_) (fun c_47 => ?_)
    · have k := k.2 c_47
      refine R_ps 1 (pc2 := 63) (L2 := [some (vr (some w)), some (vi (J x1)), some (vi (J x2))]) (st2 := [vi (J 0)]) rfl ?_
      exact R_iret rfl rfl (R_zr (x := 0) (K := K) (by decide) k)
    · have k := k.1 (Classical.not_not.mp c_47)
      refine R_ps 1 (pc2 := 47) (L2 := [some (vr (some w)), some (vi (J x1)), some (vi (J x2))]) (st2 := [vr (some w)]) rfl ?_
      refine R_getR rfl t0 ?_
      refine R_ps 7 (pc2 := 58) (L2 := [some (vr (some w)), some (vi (J x1)), some (vi (J x2))]) (st2 := [vi (((J 77) + ((J 4) * (J x1))) + (J x2)), vr (gr h_44 w 1)]) rfl ?_
      rw [show (((J 77) + ((J 4) * (J x1))) + (J x2)) = J ((77 + (4 * x1)) + x2) from J_add' (J_add' rfl (J_mul' rfl rfl)) rfl]
      obtain ⟨a_51, e_52, k⟩ := k
      rw [e_52]
      obtain ⟨t_53, k⟩ := k
      obtain ⟨t_54, k⟩ := k
      refine R_ziald (i := (77 + (4 * x1)) + x2) rfl (Or.inl t_53) t_54 ?_
      refine R_ps 1 (pc2 := 63) (L2 := [some (vr (some w)), some (vi (J x1)), some (vi (J x2))]) (st2 := [vi (J (ai h_44 a_51 ((77 + (4 * x1)) + x2)))]) rfl ?_
      exact R_iret rfl rfl (R_zr (x := ai h_44 a_51 ((77 + (4 * x1)) + x2)) (K := K) (ai_in _ _ _) k)
/-- DroneCorridorsModel.corridor -/
theorem z180 {T N : Nat → Nat} {h : PH} {w : Nat} {x1 : Int} {x2 : Int} {K : Int → PH → Prop} (t0 : T w = 12) (r1 : In x1) (r2 : In x2) (k : (ZI T N 163 [vr (some w), vi (J x1)] h (fun x_3 h_2 => (((x_3 = 0 → (∀ h_52, h_52 = wi h_2 w 0 1 → ((0 < (ai h_52 w 0) → (K 0 h_52)) ∧ (¬ (0 < (ai h_52 w 0)) → (((x2 < 4 → (∃ a_65, (gr h_52 w 1) = some a_65 ∧ T a_65 = 22 ∧ (0 ≤ ((12 + (4 * x1)) + x2) ∧ ((12 + (4 * x1)) + x2) < (N a_65 : Int) ∧ ((12 + (4 * x1)) + x2) < 2147483648) ∧ K (ai h_52 a_65 ((12 + (4 * x1)) + x2)) h_52)) ∧ (¬ (x2 < 4) → (((x2 < 6 → (ZI T N 167 [vr (some w), vi (J x1), vi (J (x2 - 4))] h_52 (fun x_60 h_59 => (K x_60 h_59)))) ∧ (¬ (x2 < 6) → (ZW T N 180 79 [some (vr (some w)), some (vi (J x1)), none, some (vi (J 0)), some (vi (J 0))] [] h_52 K))))))))))) ∧ (¬ (x_3 = 0) → (ZI T N 158 [vi (J x2), vi (J 0), vi (J 6)] h_2 (fun x_8 h_7 => (((x_8 = 0 → (∀ h_32, h_32 = wi h_7 w 0 2 → ((0 < (ai h_32 w 0) → (K 0 h_32)) ∧ (¬ (0 < (ai h_32 w 0)) → (((x2 < 4 → (∃ a_45, (gr h_32 w 1) = some a_45 ∧ T a_45 = 22 ∧ (0 ≤ ((12 + (4 * x1)) + x2) ∧ ((12 + (4 * x1)) + x2) < (N a_45 : Int) ∧ ((12 + (4 * x1)) + x2) < 2147483648) ∧ K (ai h_32 a_45 ((12 + (4 * x1)) + x2)) h_32)) ∧ (¬ (x2 < 4) → (((x2 < 6 → (ZI T N 167 [vr (some w), vi (J x1), vi (J (x2 - 4))] h_32 (fun x_40 h_39 => (K x_40 h_39)))) ∧ (¬ (x2 < 6) → (ZW T N 180 79 [some (vr (some w)), some (vi (J x1)), none, some (vi (J 0)), some (vi (J 0))] [] h_32 K))))))))))) ∧ (¬ (x_8 = 0) → (∀ h_12, h_12 = wi h_7 w 0 0 → ((0 < (ai h_12 w 0) → (K 0 h_12)) ∧ (¬ (0 < (ai h_12 w 0)) → (((x2 < 4 → (∃ a_25, (gr h_12 w 1) = some a_25 ∧ T a_25 = 22 ∧ (0 ≤ ((12 + (4 * x1)) + x2) ∧ ((12 + (4 * x1)) + x2) < (N a_25 : Int) ∧ ((12 + (4 * x1)) + x2) < 2147483648) ∧ K (ai h_12 a_25 ((12 + (4 * x1)) + x2)) h_12)) ∧ (¬ (x2 < 4) → (((x2 < 6 → (ZI T N 167 [vr (some w), vi (J x1), vi (J (x2 - 4))] h_12 (fun x_20 h_19 => (K x_20 h_19)))) ∧ (¬ (x2 < 6) → (ZW T N 180 79 [some (vr (some w)), some (vi (J x1)), none, some (vi (J 0)), some (vi (J 0))] [] h_12 K))))))))))))))))))))) : ZI T N 180 [vr (some w), vi (J x1), vi (J x2)] h K := by
  show WP T N 180 0 [some (vr (some w)), some (vi (J x1)), some (vi (J x2)), none, none] [] h _
  refine R_ps 3 (pc2 := 3) (L2 := [some (vr (some w)), some (vi (J x1)), some (vi (J x2)), none, none]) (st2 := [vi (J x1), vr (some w), vr (some w)]) rfl ?_
  refine R_zcI (as := [vr (some w), vi (J x1)]) rfl rfl ⟨Nat.le_of_ble_eq_true rfl, Nat.le_of_ble_eq_true rfl, rfl, (Or.inr ⟨_, rfl, t0⟩)⟩ rfl rfl k (fun x_3 h_2 r_4 k => ?_)
  refine R_zif0 (x := x_3) rfl r_4 (fun c_5 => ?_) (fun c_5 => ?_)
  · have k := k.2 c_5
    refine R_ps 3 (pc2 := 17) (L2 := [some (vr (some w)), some (vi (J x1)), some (vi (J x2)), none, none]) (st2 := [vi (J 6), vi (J 0), vi (J x2), vr (some w)]) rfl ?_
    refine R_zcI (as := [vi (J x2), vi (J 0), vi (J 6)]) rfl rfl ⟨Nat.le_of_ble_eq_true rfl, Nat.le_of_ble_eq_true rfl, rfl, (Or.inl rfl)⟩ rfl rfl k (fun x_8 h_7 r_9 k => ?_)
    refine R_zif0 (x := x_8) rfl r_9 (fun c_10 => ?_) (fun c_10 => ?_)
    · have k := k.2 c_10
      refine R_ps 1 (pc2 := 28) (L2 := [some (vr (some w)), some (vi (J x1)), some (vi (J x2)), none, none]) (st2 := [vi (J 0), vr (some w)]) rfl ?_
      refine R_zputI (x := 0) (z := 0) rfl t0 rfl ?_
      show WP T N _ _ _ _ (wi h_7 w 0 0) _
      generalize e_13 : wi h_7 w 0 0 = h_12
      replace k := k h_12 e_13.symm
      refine R_ps 1 (pc2 := 32) (L2 := [some (vr (some w)), some (vi (J x1)), some (vi (J x2)), none, none]) (st2 := [vr (some w)]) rfl ?_
      refine R_zgetI (z := 0) rfl t0 rfl ?_
      refine R_zif0 (x := ai h_12 w 0) rfl (ai_in _ _ _) (fun c_15 => ?_) (fun c_15 => ?_)
      · have k := k.2 c_15
        refine R_ps 2 (pc2 := 42) (L2 := [some (vr (some w)), some (vi (J x1)), some (vi (J x2)), none, none]) (st2 := [vi (J 4), vi (J x2)]) rfl ?_
        refine R_zif (x := x2) (z := 4) rfl r2 (by decide) (fun c_16 => ?_) (fun c_16 => ?_)
        · have k := k.2 c_16
          refine R_ps 2 (pc2 := 62) (L2 := [some (vr (some w)), some (vi (J x1)), some (vi (J x2)), none, none]) (st2 := [vi (J 6), vi (J x2)]) rfl ?_
          refine R_zif (x := x2) (z := 6) rfl r2 (by decide) (fun c_17 => ?_) (fun c_17 => ?_)
          · have k := k.2 c_17
            refine R_ps 4 (pc2 := 79) (L2 := [some (vr (some w)), some (vi (J x1)), some (vi (J x2)), some (vi (J 0)), some (vi (J 0))]) (st2 := []) rfl ?_
            exact R_drop k (LE_of (L := [some (vr (some w)), some (vi (J x1)), none, some (vi (J 0)), some (vi (J 0))]) (L2 := [some (vr (some w)), some (vi (J x1)), some (vi (J x2)), some (vi (J 0)), some (vi (J 0))]) ⟨rfl, rfl, rfl, rfl, trivial⟩)
          · have k := k.1 (Classical.not_not.mp c_17)
            refine R_ps 5 (pc2 := 70) (L2 := [some (vr (some w)), some (vi (J x1)), some (vi (J x2)), none, none]) (st2 := [vi ((J x2) - (J 4)), vi (J x1), vr (some w)]) rfl ?_
            rw [show ((J x2) - (J 4)) = J (x2 - 4) from J_sub' rfl rfl]
            refine R_zcI (as := [vr (some w), vi (J x1), vi (J (x2 - 4))]) rfl rfl ⟨Nat.le_of_ble_eq_true rfl, Nat.le_of_ble_eq_true rfl, rfl, (Or.inr ⟨_, rfl, t0⟩)⟩ rfl rfl k (fun x_20 h_19 r_21 k => ?_)
            exact R_iret rfl rfl (R_zr (x := x_20) (K := K) r_21 k)
        · have k := k.1 (Classical.not_not.mp c_16)
          refine R_ps 1 (pc2 := 46) (L2 := [some (vr (some w)), some (vi (J x1)), some (vi (J x2)), none, none]) (st2 := [vr (some w)]) rfl ?_
          refine R_getR rfl t0 ?_
          refine R_ps 7 (pc2 := 57) (L2 := [some (vr (some w)), some (vi (J x1)), some (vi (J x2)), none, none]) (st2 := [vi (((J 12) + ((J 4) * (J x1))) + (J x2)), vr (gr h_12 w 1)]) rfl ?_
          rw [show (((J 12) + ((J 4) * (J x1))) + (J x2)) = J ((12 + (4 * x1)) + x2) from J_add' (J_add' rfl (J_mul' rfl rfl)) rfl]
          obtain ⟨a_25, e_26, k⟩ := k
          rw [e_26]
          obtain ⟨t_27, k⟩ := k
          obtain ⟨t_28, k⟩ := k
          refine R_ziald (i := (12 + (4 * x1)) + x2) rfl (Or.inl t_27) t_28 ?_
          exact R_iret rfl rfl (R_zr (x := ai h_12 a_25 ((12 + (4 * x1)) + x2)) (K := K) (ai_in _ _ _) k)
      · have k := k.1 (Classical.not_not.mp c_15)
        refine R_ps 1 (pc2 := 39) (L2 := [some (vr (some w)), some (vi (J x1)), some (vi (J x2)), none, none]) (st2 := [vi (J 0)]) rfl ?_
        exact R_iret rfl rfl (R_zr (x := 0) (K := K) (by decide) k)
    · have k := k.1 (Classical.not_not.mp c_10)
      refine R_ps 2 (pc2 := 28) (L2 := [some (vr (some w)), some (vi (J x1)), some (vi (J x2)), none, none]) (st2 := [vi (J 2), vr (some w)]) rfl ?_
      refine R_zputI (x := 2) (z := 0) rfl t0 rfl ?_
      show WP T N _ _ _ _ (wi h_7 w 0 2) _
      generalize e_33 : wi h_7 w 0 2 = h_32
      replace k := k h_32 e_33.symm
      refine R_ps 1 (pc2 := 32) (L2 := [some (vr (some w)), some (vi (J x1)), some (vi (J x2)), none, none]) (st2 := [vr (some w)]) rfl ?_
      refine R_zgetI (z := 0) rfl t0 rfl ?_
      refine R_zif0 (x := ai h_32 w 0) rfl (ai_in _ _ _) (fun c_35 => ?_) (fun c_35 => ?_)
      · have k := k.2 c_35
        refine R_ps 2 (pc2 := 42) (L2 := [some (vr (some w)), some (vi (J x1)), some (vi (J x2)), none, none]) (st2 := [vi (J 4), vi (J x2)]) rfl ?_
        refine R_zif (x := x2) (z := 4) rfl r2 (by decide) (fun c_36 => ?_) (fun c_36 => ?_)
        · have k := k.2 c_36
          refine R_ps 2 (pc2 := 62) (L2 := [some (vr (some w)), some (vi (J x1)), some (vi (J x2)), none, none]) (st2 := [vi (J 6), vi (J x2)]) rfl ?_
          refine R_zif (x := x2) (z := 6) rfl r2 (by decide) (fun c_37 => ?_) (fun c_37 => ?_)
          · have k := k.2 c_37
            refine R_ps 4 (pc2 := 79) (L2 := [some (vr (some w)), some (vi (J x1)), some (vi (J x2)), some (vi (J 0)), some (vi (J 0))]) (st2 := []) rfl ?_
            exact R_drop k (LE_of (L := [some (vr (some w)), some (vi (J x1)), none, some (vi (J 0)), some (vi (J 0))]) (L2 := [some (vr (some w)), some (vi (J x1)), some (vi (J x2)), some (vi (J 0)), some (vi (J 0))]) ⟨rfl, rfl, rfl, rfl, trivial⟩)
          · have k := k.1 (Classical.not_not.mp c_37)
            refine R_ps 5 (pc2 := 70) (L2 := [some (vr (some w)), some (vi (J x1)), some (vi (J x2)), none, none]) (st2 := [vi ((J x2) - (J 4)), vi (J x1), vr (some w)]) rfl ?_
            rw [show ((J x2) - (J 4)) = J (x2 - 4) from J_sub' rfl rfl]
            refine R_zcI (as := [vr (some w), vi (J x1), vi (J (x2 - 4))]) rfl rfl ⟨Nat.le_of_ble_eq_true rfl, Nat.le_of_ble_eq_true rfl, rfl, (Or.inr ⟨_, rfl, t0⟩)⟩ rfl rfl k (fun x_40 h_39 r_41 k => ?_)
            exact R_iret rfl rfl (R_zr (x := x_40) (K := K) r_41 k)
        · have k := k.1 (Classical.not_not.mp c_36)
          refine R_ps 1 (pc2 := 46) (L2 := [some (vr (some w)), some (vi (J x1)), some (vi (J x2)), none, none]) (st2 := [vr (some w)]) rfl ?_
          refine R_getR rfl t0 ?_
          refine R_ps 7 (pc2 := 57) (L2 := [some (vr (some w)), some (vi (J x1)), some (vi (J x2)), none, none]) (st2 := [vi (((J 12) + ((J 4) * (J x1))) + (J x2)), vr (gr h_32 w 1)]) rfl ?_
          rw [show (((J 12) + ((J 4) * (J x1))) + (J x2)) = J ((12 + (4 * x1)) + x2) from J_add' (J_add' rfl (J_mul' rfl rfl)) rfl]
          obtain ⟨a_45, e_46, k⟩ := k
          rw [e_46]
          obtain ⟨t_47, k⟩ := k
          obtain ⟨t_48, k⟩ := k
          refine R_ziald (i := (12 + (4 * x1)) + x2) rfl (Or.inl t_47) t_48 ?_
          exact R_iret rfl rfl (R_zr (x := ai h_32 a_45 ((12 + (4 * x1)) + x2)) (K := K) (ai_in _ _ _) k)
      · have k := k.1 (Classical.not_not.mp c_35)
        refine R_ps 1 (pc2 := 39) (L2 := [some (vr (some w)), some (vi (J x1)), some (vi (J x2)), none, none]) (st2 := [vi (J 0)]) rfl ?_
        exact R_iret rfl rfl (R_zr (x := 0) (K := K) (by decide) k)
  · have k := k.1 (Classical.not_not.mp c_5)
    refine R_ps 2 (pc2 := 28) (L2 := [some (vr (some w)), some (vi (J x1)), some (vi (J x2)), none, none]) (st2 := [vi (J 1), vr (some w)]) rfl ?_
    refine R_zputI (x := 1) (z := 0) rfl t0 rfl ?_
    show WP T N _ _ _ _ (wi h_2 w 0 1) _
    generalize e_53 : wi h_2 w 0 1 = h_52
    replace k := k h_52 e_53.symm
    refine R_ps 1 (pc2 := 32) (L2 := [some (vr (some w)), some (vi (J x1)), some (vi (J x2)), none, none]) (st2 := [vr (some w)]) rfl ?_
    refine R_zgetI (z := 0) rfl t0 rfl ?_
    refine R_zif0 (x := ai h_52 w 0) rfl (ai_in _ _ _) (fun c_55 => ?_) (fun c_55 => ?_)
    · have k := k.2 c_55
      refine R_ps 2 (pc2 := 42) (L2 := [some (vr (some w)), some (vi (J x1)), some (vi (J x2)), none, none]) (st2 := [vi (J 4), vi (J x2)]) rfl ?_
      refine R_zif (x := x2) (z := 4) rfl r2 (by decide) (fun c_56 => ?_) (fun c_56 => ?_)
      · have k := k.2 c_56
        refine R_ps 2 (pc2 := 62) (L2 := [some (vr (some w)), some (vi (J x1)), some (vi (J x2)), none, none]) (st2 := [vi (J 6), vi (J x2)]) rfl ?_
        refine R_zif (x := x2) (z := 6) rfl r2 (by decide) (fun c_57 => ?_) (fun c_57 => ?_)
        · have k := k.2 c_57
          refine R_ps 4 (pc2 := 79) (L2 := [some (vr (some w)), some (vi (J x1)), some (vi (J x2)), some (vi (J 0)), some (vi (J 0))]) (st2 := []) rfl ?_
          exact R_drop k (LE_of (L := [some (vr (some w)), some (vi (J x1)), none, some (vi (J 0)), some (vi (J 0))]) (L2 := [some (vr (some w)), some (vi (J x1)), some (vi (J x2)), some (vi (J 0)), some (vi (J 0))]) ⟨rfl, rfl, rfl, rfl, trivial⟩)
        · have k := k.1 (Classical.not_not.mp c_57)
          refine R_ps 5 (pc2 := 70) (L2 := [some (vr (some w)), some (vi (J x1)), some (vi (J x2)), none, none]) (st2 := [vi ((J x2) - (J 4)), vi (J x1), vr (some w)]) rfl ?_
          rw [show ((J x2) - (J 4)) = J (x2 - 4) from J_sub' rfl rfl]
          refine R_zcI (as := [vr (some w), vi (J x1), vi (J (x2 - 4))]) rfl rfl ⟨Nat.le_of_ble_eq_true rfl, Nat.le_of_ble_eq_true rfl, rfl, (Or.inr ⟨_, rfl, t0⟩)⟩ rfl rfl k (fun x_60 h_59 r_61 k => ?_)
          exact R_iret rfl rfl (R_zr (x := x_60) (K := K) r_61 k)
      · have k := k.1 (Classical.not_not.mp c_56)
        refine R_ps 1 (pc2 := 46) (L2 := [some (vr (some w)), some (vi (J x1)), some (vi (J x2)), none, none]) (st2 := [vr (some w)]) rfl ?_
        refine R_getR rfl t0 ?_
        refine R_ps 7 (pc2 := 57) (L2 := [some (vr (some w)), some (vi (J x1)), some (vi (J x2)), none, none]) (st2 := [vi (((J 12) + ((J 4) * (J x1))) + (J x2)), vr (gr h_52 w 1)]) rfl ?_
        rw [show (((J 12) + ((J 4) * (J x1))) + (J x2)) = J ((12 + (4 * x1)) + x2) from J_add' (J_add' rfl (J_mul' rfl rfl)) rfl]
        obtain ⟨a_65, e_66, k⟩ := k
        rw [e_66]
        obtain ⟨t_67, k⟩ := k
        obtain ⟨t_68, k⟩ := k
        refine R_ziald (i := (12 + (4 * x1)) + x2) rfl (Or.inl t_67) t_68 ?_
        exact R_iret rfl rfl (R_zr (x := ai h_52 a_65 ((12 + (4 * x1)) + x2)) (K := K) (ai_in _ _ _) k)
    · have k := k.1 (Classical.not_not.mp c_55)
      refine R_ps 1 (pc2 := 39) (L2 := [some (vr (some w)), some (vi (J x1)), some (vi (J x2)), none, none]) (st2 := [vi (J 0)]) rfl ?_
      exact R_iret rfl rfl (R_zr (x := 0) (K := K) (by decide) k)
theorem z180_79 {T N : Nat → Nat} {h : PH} {w : Nat} {x1 : Int} {x3 : Int} {x4 : Int} {K : Int → PH → Prop} (t0 : T w = 12) (r1 : In x1) (r3 : In x3) (r4 : In x4) (k : (∃ a_3, (gr h w 1) = some a_3 ∧ T a_3 = 22 ∧ (0 ≤ (117 : Int) ∧ (117 : Int) < (N a_3 : Int) ∧ (117 : Int) < 2147483648) ∧ ((x4 < (ai h a_3 117) → (ZI T N 168 [vr (some w), vi (J x4), vi (J 0)] h (fun x_11 h_10 => (((x_11 = 2 → (ZI T N 186 [vr (some w), vi (J x4), vi (J 0)] h_10 (fun x_16 h_15 => (ZI T N 187 [vi (J x_16)] h_15 (fun x_20 h_19 => (((x_20 = x1 → (ZW T N 180 79 [some (vr (some w)), some (vi (J x1)), none, some (vi (J (zor x3 (zshl 1 x4)))), some (vi (J (x4 + 1)))] [] h_19 K)) ∧ (¬ (x_20 = x1) → (ZW T N 180 79 [some (vr (some w)), some (vi (J x1)), none, some (vi (J (zor x3 0))), some (vi (J (x4 + 1)))] [] h_19 K))))))))) ∧ (¬ (x_11 = 2) → (ZW T N 180 79 [some (vr (some w)), some (vi (J x1)), none, some (vi (J (zor x3 0))), some (vi (J (x4 + 1)))] [] h_10 K))))))) ∧ (¬ (x4 < (ai h a_3 117)) → (K x3 h))))) : ZW T N 180 79 [some (vr (some w)), some (vi (J x1)), none, some (vi (J x3)), some (vi (J x4))] [] h K := by
  show WP T N 180 79 [some (vr (some w)), some (vi (J x1)), none, some (vi (J x3)), some (vi (J x4))] [] h _
  refine R_ps 2 (pc2 := 82) (L2 := [some (vr (some w)), some (vi (J x1)), none, some (vi (J x3)), some (vi (J x4))]) (st2 := [vr (some w), vi (J x4)]) rfl ?_
  refine R_getR rfl t0 ?_
  refine R_ps 1 (pc2 := 87) (L2 := [some (vr (some w)), some (vi (J x1)), none, some (vi (J x3)), some (vi (J x4))]) (st2 := [vi (J 117), vr (gr h w 1), vi (J x4)]) rfl ?_
  obtain ⟨a_3, e_4, k⟩ := k
  rw [e_4]
  obtain ⟨t_5, k⟩ := k
  obtain ⟨t_6, k⟩ := k
  refine R_ziald (i := 117) rfl (Or.inl t_5) t_6 ?_
  refine R_zif (x := x4) (z := ai h a_3 117) rfl r4 (ai_in _ _ _) (fun c_7 => ?_) (fun c_7 => ?_)
  · have k := k.2 c_7
    refine R_ps 1 (pc2 := 134) (L2 := [some (vr (some w)), some (vi (J x1)), none, some (vi (J x3)), some (vi (J x4))]) (st2 := [vi (J x3)]) rfl ?_
    exact R_iret rfl rfl (R_zr (x := x3) (K := K) r3 k)
  · have k := k.1 (Classical.not_not.mp c_7)
    refine R_ps 4 (pc2 := 96) (L2 := [some (vr (some w)), some (vi (J x1)), none, some (vi (J x3)), some (vi (J x4))]) (st2 := [vi (J 0), vi (J x4), vr (some w), vi (J x3)]) rfl ?_
    refine R_zcI (as := [vr (some w), vi (J x4), vi (J 0)]) rfl rfl ⟨Nat.le_of_ble_eq_true rfl, Nat.le_of_ble_eq_true rfl, rfl, (Or.inr ⟨_, rfl, t0⟩)⟩ rfl rfl k (fun x_11 h_10 r_12 k => ?_)
    refine R_ps 1 (pc2 := 100) (L2 := [some (vr (some w)), some (vi (J x1)), none, some (vi (J x3)), some (vi (J x4))]) (st2 := [vi (J 2), vi (J x_11), vi (J x3)]) rfl ?_
    refine R_zif (x := x_11) (z := 2) rfl r_12 (by decide) (fun c_13 => ?_) (fun c_13 => ?_)
    · have k := k.2 c_13
      refine R_ps 5 (pc2 := 79) (L2 := [some (vr (some w)), some (vi (J x1)), none, some (vi ((J x3) ||| (J 0))), some (vi ((J x4) + J 1))]) (st2 := []) rfl ?_
      rw [show ((J x3) ||| (J 0)) = J (zor x3 0) from J_or' rfl rfl]
      rw [show ((J x4) + J 1) = J (x4 + 1) from J_add' rfl rfl]
      exact k
    · have k := k.1 (Classical.not_not.mp c_13)
      refine R_ps 3 (pc2 := 107) (L2 := [some (vr (some w)), some (vi (J x1)), none, some (vi (J x3)), some (vi (J x4))]) (st2 := [vi (J 0), vi (J x4), vr (some w), vi (J x3)]) rfl ?_
      refine R_zcI (as := [vr (some w), vi (J x4), vi (J 0)]) rfl rfl ⟨Nat.le_of_ble_eq_true rfl, Nat.le_of_ble_eq_true rfl, rfl, (Or.inr ⟨_, rfl, t0⟩)⟩ rfl rfl k (fun x_16 h_15 r_17 k => ?_)
      refine R_zcI (as := [vi (J x_16)]) rfl rfl ⟨Nat.le_of_ble_eq_true rfl, Nat.le_of_ble_eq_true rfl, rfl, (Or.inl rfl)⟩ rfl rfl k (fun x_20 h_19 r_21 k => ?_)
      refine R_ps 1 (pc2 := 114) (L2 := [some (vr (some w)), some (vi (J x1)), none, some (vi (J x3)), some (vi (J x4))]) (st2 := [vi (J x1), vi (J x_20), vi (J x3)]) rfl ?_
      refine R_zif (x := x_20) (z := x1) rfl r_21 r1 (fun c_22 => ?_) (fun c_22 => ?_)
      · have k := k.2 c_22
        refine R_ps 5 (pc2 := 79) (L2 := [some (vr (some w)), some (vi (J x1)), none, some (vi ((J x3) ||| (J 0))), some (vi ((J x4) + J 1))]) (st2 := []) rfl ?_
        rw [show ((J x3) ||| (J 0)) = J (zor x3 0) from J_or' rfl rfl]
        rw [show ((J x4) + J 1) = J (x4 + 1) from J_add' rfl rfl]
        exact k
      · have k := k.1 (Classical.not_not.mp c_22)
        refine R_ps 8 (pc2 := 79) (L2 := [some (vr (some w)), some (vi (J x1)), none, some (vi ((J x3) ||| ((J 1) <<< ((J x4) &&& 31)))), some (vi ((J x4) + J 1))]) (st2 := []) rfl ?_
        rw [show ((J x3) ||| ((J 1) <<< ((J x4) &&& 31))) = J (zor x3 (zshl 1 x4)) from J_or' rfl (J_shl' rfl rfl)]
        rw [show ((J x4) + J 1) = J (x4 + 1) from J_add' rfl rfl]
        exact k
/-- DroneCorridorsModel.isPad -/
theorem z181 {T N : Nat → Nat} {h : PH} {w : Nat} {x1 : Int} {K : Int → PH → Prop} (t0 : T w = 12) (r1 : In x1) (k : (ZI T N 162 [vr (some w), vi (J x1)] h (fun x_3 h_2 => (((x_3 = 0 → (∀ h_7, h_7 = wi h_2 w 0 1 → (((ai h_7 w 0) = 0 → (∃ a_14, (gr h_7 w 1) = some a_14 ∧ T a_14 = 22 ∧ (0 ≤ (1 + x1) ∧ (1 + x1) < (N a_14 : Int) ∧ (1 + x1) < 2147483648) ∧ (((ai h_7 a_14 (1 + x1)) = 1 → (K 1 h_7)) ∧ (¬ ((ai h_7 a_14 (1 + x1)) = 1) → (K 0 h_7))))) ∧ (¬ ((ai h_7 w 0) = 0) → (K 0 h_7))))) ∧ (¬ (x_3 = 0) → (∀ h_22, h_22 = wi h_2 w 0 0 → (((ai h_22 w 0) = 0 → (∃ a_29, (gr h_22 w 1) = some a_29 ∧ T a_29 = 22 ∧ (0 ≤ (1 + x1) ∧ (1 + x1) < (N a_29 : Int) ∧ (1 + x1) < 2147483648) ∧ (((ai h_22 a_29 (1 + x1)) = 1 → (K 1 h_22)) ∧ (¬ ((ai h_22 a_29 (1 + x1)) = 1) → (K 0 h_22))))) ∧ (¬ ((ai h_22 w 0) = 0) → (K 0 h_22)))))))))) : ZI T N 181 [vr (some w), vi (J x1)] h K := by
  show WP T N 181 0 [some (vr (some w)), some (vi (J x1))] [] h _
  refine R_ps 3 (pc2 := 3) (L2 := [some (vr (some w)), some (vi (J x1))]) (st2 := [vi (J x1), vr (some w), vr (some w)]) rfl ?_
  refine R_zcI (as := [vr (some w), vi (J x1)]) rfl rfl ⟨Nat.le_of_ble_eq_true rfl, Nat.le_of_ble_eq_true rfl, rfl, (Or.inr ⟨_, rfl, t0⟩)⟩ rfl rfl k (fun x_3 h_2 r_4 k => ?_)
  refine R_zif0 (x := x_3) rfl r_4 (fun c_5 => ?_) (fun c_5 => ?_)
  · have k := k.1 c_5
    refine R_ps 1 (pc2 := 14) (L2 := [some (vr (some w)), some (vi (J x1))]) (st2 := [vi (J 1), vr (some w)]) rfl ?_
    refine R_zputI (x := 1) (z := 0) rfl t0 rfl ?_
    show WP T N _ _ _ _ (wi h_2 w 0 1) _
    generalize e_8 : wi h_2 w 0 1 = h_7
    replace k := k h_7 e_8.symm
    refine R_ps 1 (pc2 := 18) (L2 := [some (vr (some w)), some (vi (J x1))]) (st2 := [vr (some w)]) rfl ?_
    refine R_zgetI (z := 0) rfl t0 rfl ?_
    refine R_zif0 (x := ai h_7 w 0) rfl (ai_in _ _ _) (fun c_10 => ?_) (fun c_10 => ?_)
    · have k := k.2 c_10
      refine R_ps 1 (pc2 := 41) (L2 := [some (vr (some w)), some (vi (J x1))]) (st2 := [vi (J 0)]) rfl ?_
      exact R_zzret (x := 0) rfl rfl (Or.inl rfl) (R_zr (x := 0) (K := K) (by decide) k)
    · have k := k.1 (Classical.not_not.mp c_10)
      refine R_ps 1 (pc2 := 25) (L2 := [some (vr (some w)), some (vi (J x1))]) (st2 := [vr (some w)]) rfl ?_
      refine R_getR rfl t0 ?_
      refine R_ps 3 (pc2 := 31) (L2 := [some (vr (some w)), some (vi (J x1))]) (st2 := [vi ((J 1) + (J x1)), vr (gr h_7 w 1)]) rfl ?_
      rw [show ((J 1) + (J x1)) = J (1 + x1) from J_add' rfl rfl]
      obtain ⟨a_14, e_15, k⟩ := k
      rw [e_15]
      obtain ⟨t_16, k⟩ := k
      obtain ⟨t_17, k⟩ := k
      refine R_ziald (i := 1 + x1) rfl (Or.inl t_16) t_17 ?_
      refine R_ps 1 (pc2 := 33) (L2 := [some (vr (some w)), some (vi (J x1))]) (st2 := [vi (J 1), vi (J (ai h_7 a_14 (1 + x1)))]) rfl ?_
      refine R_zif (x := ai h_7 a_14 (1 + x1)) (z := 1) rfl (ai_in _ _ _) (by decide) (fun c_18 => ?_) (fun c_18 => ?_)
      · have k := k.2 c_18
        refine R_ps 1 (pc2 := 41) (L2 := [some (vr (some w)), some (vi (J x1))]) (st2 := [vi (J 0)]) rfl ?_
        exact R_zzret (x := 0) rfl rfl (Or.inl rfl) (R_zr (x := 0) (K := K) (by decide) k)
      · have k := k.1 (Classical.not_not.mp c_18)
        refine R_ps 2 (pc2 := 41) (L2 := [some (vr (some w)), some (vi (J x1))]) (st2 := [vi (J 1)]) rfl ?_
        exact R_zzret (x := 1) rfl rfl (Or.inr rfl) (R_zr (x := 1) (K := K) (by decide) k)
  · have k := k.2 c_5
    refine R_ps 2 (pc2 := 14) (L2 := [some (vr (some w)), some (vi (J x1))]) (st2 := [vi (J 0), vr (some w)]) rfl ?_
    refine R_zputI (x := 0) (z := 0) rfl t0 rfl ?_
    show WP T N _ _ _ _ (wi h_2 w 0 0) _
    generalize e_23 : wi h_2 w 0 0 = h_22
    replace k := k h_22 e_23.symm
    refine R_ps 1 (pc2 := 18) (L2 := [some (vr (some w)), some (vi (J x1))]) (st2 := [vr (some w)]) rfl ?_
    refine R_zgetI (z := 0) rfl t0 rfl ?_
    refine R_zif0 (x := ai h_22 w 0) rfl (ai_in _ _ _) (fun c_25 => ?_) (fun c_25 => ?_)
    · have k := k.2 c_25
      refine R_ps 1 (pc2 := 41) (L2 := [some (vr (some w)), some (vi (J x1))]) (st2 := [vi (J 0)]) rfl ?_
      exact R_zzret (x := 0) rfl rfl (Or.inl rfl) (R_zr (x := 0) (K := K) (by decide) k)
    · have k := k.1 (Classical.not_not.mp c_25)
      refine R_ps 1 (pc2 := 25) (L2 := [some (vr (some w)), some (vi (J x1))]) (st2 := [vr (some w)]) rfl ?_
      refine R_getR rfl t0 ?_
      refine R_ps 3 (pc2 := 31) (L2 := [some (vr (some w)), some (vi (J x1))]) (st2 := [vi ((J 1) + (J x1)), vr (gr h_22 w 1)]) rfl ?_
      rw [show ((J 1) + (J x1)) = J (1 + x1) from J_add' rfl rfl]
      obtain ⟨a_29, e_30, k⟩ := k
      rw [e_30]
      obtain ⟨t_31, k⟩ := k
      obtain ⟨t_32, k⟩ := k
      refine R_ziald (i := 1 + x1) rfl (Or.inl t_31) t_32 ?_
      refine R_ps 1 (pc2 := 33) (L2 := [some (vr (some w)), some (vi (J x1))]) (st2 := [vi (J 1), vi (J (ai h_22 a_29 (1 + x1)))]) rfl ?_
      refine R_zif (x := ai h_22 a_29 (1 + x1)) (z := 1) rfl (ai_in _ _ _) (by decide) (fun c_33 => ?_) (fun c_33 => ?_)
      · have k := k.2 c_33
        refine R_ps 1 (pc2 := 41) (L2 := [some (vr (some w)), some (vi (J x1))]) (st2 := [vi (J 0)]) rfl ?_
        exact R_zzret (x := 0) rfl rfl (Or.inl rfl) (R_zr (x := 0) (K := K) (by decide) k)
      · have k := k.1 (Classical.not_not.mp c_33)
        refine R_ps 2 (pc2 := 41) (L2 := [some (vr (some w)), some (vi (J x1))]) (st2 := [vi (J 1)]) rfl ?_
        exact R_zzret (x := 1) rfl rfl (Or.inr rfl) (R_zr (x := 1) (K := K) (by decide) k)
/-- DroneCorridorsModel.reserves -/
theorem z182 {T N : Nat → Nat} {h : PH} {w : Nat} {K : PH → Prop} (k : (WV T N 182 2 [some (vr (some w)), some (vi (J 0)), none, none, none, none] [] h K)) : CV T N 182 [vr (some w)] h K := by
  show WP T N 182 0 [some (vr (some w)), none, none, none, none, none] [] h _
  refine R_ps 2 (pc2 := 2) (L2 := [some (vr (some w)), some (vi (J 0)), none, none, none, none]) (st2 := []) rfl ?_
  exact k
theorem z182_2 {T N : Nat → Nat} {h : PH} {w : Nat} {x1 : Int} {K : PH → Prop} (t0 : T w = 12) (r1 : In x1) (k : (∃ a_3, (gr h w 1) = some a_3 ∧ T a_3 = 22 ∧ (0 ≤ (0 : Int) ∧ (0 : Int) < (N a_3 : Int) ∧ (0 : Int) < 2147483648) ∧ ((x1 < (ai h a_3 0) → (∃ a_11, (gr h w 1) = some a_11 ∧ T a_11 = 22 ∧ (0 ≤ (1 + x1) ∧ (1 + x1) < (N a_11 : Int) ∧ (1 + x1) < 2147483648) ∧ (((ai h a_11 (1 + x1)) = 1 → (∃ a_24, (gr h w 12) = some a_24 ∧ T a_24 = 22 ∧ (0 ≤ x1 ∧ x1 < (N a_24 : Int) ∧ x1 < 2147483648) ∧ ∀ h_26, h_26 = wi h a_24 x1 0 → WV T N 182 2 [some (vr (some w)), some (vi (J (x1 + 1))), none, none, none, none] [] h_26 K)) ∧ (¬ ((ai h a_11 (1 + x1)) = 1) → (∃ a_17, (gr h w 12) = some a_17 ∧ T a_17 = 22 ∧ (0 ≤ x1 ∧ x1 < (N a_17 : Int) ∧ x1 < 2147483648) ∧ ∀ h_19, h_19 = wi h a_17 x1 1000000 → WV T N 182 2 [some (vr (some w)), some (vi (J (x1 + 1))), none, none, none, none] [] h_19 K))))) ∧ (¬ (x1 < (ai h a_3 0)) → (WV T N 182 44 [some (vr (some w)), some (vi (J 0)), none, none, none, none] [] h K))))) : WV T N 182 2 [some (vr (some w)), some (vi (J x1)), none, none, none, none] [] h K := by
  show WP T N 182 2 [some (vr (some w)), some (vi (J x1)), none, none, none, none] [] h _
  refine R_ps 2 (pc2 := 4) (L2 := [some (vr (some w)), some (vi (J x1)), none, none, none, none]) (st2 := [vr (some w), vi (J x1)]) rfl ?_
  refine R_getR rfl t0 ?_
  refine R_ps 1 (pc2 := 8) (L2 := [some (vr (some w)), some (vi (J x1)), none, none, none, none]) (st2 := [vi (J 0), vr (gr h w 1), vi (J x1)]) rfl ?_
  obtain ⟨a_3, e_4, k⟩ := k
  rw [e_4]
  obtain ⟨t_5, k⟩ := k
  obtain ⟨t_6, k⟩ := k
  refine R_ziald (i := 0) rfl (Or.inl t_5) t_6 ?_
  refine R_zif (x := x1) (z := ai h a_3 0) rfl r1 (ai_in _ _ _) (fun c_7 => ?_) (fun c_7 => ?_)
  · have k := k.2 c_7
    refine R_ps 2 (pc2 := 44) (L2 := [some (vr (some w)), some (vi (J 0)), none, none, none, none]) (st2 := []) rfl ?_
    exact k
  · have k := k.1 (Classical.not_not.mp c_7)
    refine R_ps 1 (pc2 := 13) (L2 := [some (vr (some w)), some (vi (J x1)), none, none, none, none]) (st2 := [vr (some w)]) rfl ?_
    refine R_getR rfl t0 ?_
    refine R_ps 2 (pc2 := 18) (L2 := [some (vr (some w)), some (vi (J x1)), none, none, none, none]) (st2 := [vr (some w), vi (J x1), vr (gr h w 12)]) rfl ?_
    refine R_getR rfl t0 ?_
    refine R_ps 3 (pc2 := 24) (L2 := [some (vr (some w)), some (vi (J x1)), none, none, none, none]) (st2 := [vi ((J 1) + (J x1)), vr (gr h w 1), vi (J x1), vr (gr h w 12)]) rfl ?_
    rw [show ((J 1) + (J x1)) = J (1 + x1) from J_add' rfl rfl]
    obtain ⟨a_11, e_12, k⟩ := k
    rw [e_12]
    obtain ⟨t_13, k⟩ := k
    obtain ⟨t_14, k⟩ := k
    refine R_ziald (i := 1 + x1) rfl (Or.inl t_13) t_14 ?_
    refine R_ps 1 (pc2 := 26) (L2 := [some (vr (some w)), some (vi (J x1)), none, none, none, none]) (st2 := [vi (J 1), vi (J (ai h a_11 (1 + x1))), vi (J x1), vr (gr h w 12)]) rfl ?_
    refine R_zif (x := ai h a_11 (1 + x1)) (z := 1) rfl (ai_in _ _ _) (by decide) (fun c_15 => ?_) (fun c_15 => ?_)
    · have k := k.2 c_15
      refine R_ps 1 (pc2 := 35) (L2 := [some (vr (some w)), some (vi (J x1)), none, none, none, none]) (st2 := [vi (J 1000000), vi (J x1), vr (gr h w 12)]) rfl ?_
      obtain ⟨a_17, e_18, k⟩ := k
      rw [e_18]
      obtain ⟨t_21, k⟩ := k
      obtain ⟨t_22, k⟩ := k
      refine R_ziast (i := x1) (x := 1000000) rfl t_21 t_22  ?_
      show WP T N _ _ _ _ (wi h a_17 x1 1000000) _
      generalize e_20 : wi h a_17 x1 1000000 = h_19
      replace k := k h_19 e_20.symm
      refine R_ps 2 (pc2 := 2) (L2 := [some (vr (some w)), some (vi ((J x1) + J 1)), none, none, none, none]) (st2 := []) rfl ?_
      rw [show ((J x1) + J 1) = J (x1 + 1) from J_add' rfl rfl]
      exact k
    · have k := k.1 (Classical.not_not.mp c_15)
      refine R_ps 2 (pc2 := 35) (L2 := [some (vr (some w)), some (vi (J x1)), none, none, none, none]) (st2 := [vi (J 0), vi (J x1), vr (gr h w 12)]) rfl ?_
      obtain ⟨a_24, e_25, k⟩ := k
      rw [e_25]
      obtain ⟨t_28, k⟩ := k
      obtain ⟨t_29, k⟩ := k
      refine R_ziast (i := x1) (x := 0) rfl t_28 t_29  ?_
      show WP T N _ _ _ _ (wi h a_24 x1 0) _
      generalize e_27 : wi h a_24 x1 0 = h_26
      replace k := k h_26 e_27.symm
      refine R_ps 2 (pc2 := 2) (L2 := [some (vr (some w)), some (vi ((J x1) + J 1)), none, none, none, none]) (st2 := []) rfl ?_
      rw [show ((J x1) + J 1) = J (x1 + 1) from J_add' rfl rfl]
      exact k
theorem z182_44 {T N : Nat → Nat} {h : PH} {w : Nat} {x1 : Int} {K : PH → Prop} (t0 : T w = 12) (r1 : In x1) (k : (∃ a_3, (gr h w 1) = some a_3 ∧ T a_3 = 22 ∧ (0 ≤ (0 : Int) ∧ (0 : Int) < (N a_3 : Int) ∧ (0 : Int) < 2147483648) ∧ ((x1 < (ai h a_3 0) → (WV T N 182 56 [some (vr (some w)), some (vi (J x1)), some (vi (J 0)), none, none, none] [] h K)) ∧ (¬ (x1 < (ai h a_3 0)) → (K h))))) : WV T N 182 44 [some (vr (some w)), some (vi (J x1)), none, none, none, none] [] h K := by
  show WP T N 182 44 [some (vr (some w)), some (vi (J x1)), none, none, none, none] [] h _
  refine R_ps 2 (pc2 := 46) (L2 := [some (vr (some w)), some (vi (J x1)), none, none, none, none]) (st2 := [vr (some w), vi (J x1)]) rfl ?_
  refine R_getR rfl t0 ?_
  refine R_ps 1 (pc2 := 50) (L2 := [some (vr (some w)), some (vi (J x1)), none, none, none, none]) (st2 := [vi (J 0), vr (gr h w 1), vi (J x1)]) rfl ?_
  obtain ⟨a_3, e_4, k⟩ := k
  rw [e_4]
  obtain ⟨t_5, k⟩ := k
  obtain ⟨t_6, k⟩ := k
  refine R_ziald (i := 0) rfl (Or.inl t_5) t_6 ?_
  refine R_zif (x := x1) (z := ai h a_3 0) rfl r1 (ai_in _ _ _) (fun c_7 => ?_) (fun c_7 => ?_)
  · have k := k.2 c_7
    exact R_ret rfl rfl ⟨rfl, k⟩
  · have k := k.1 (Classical.not_not.mp c_7)
    refine R_ps 2 (pc2 := 56) (L2 := [some (vr (some w)), some (vi (J x1)), some (vi (J 0)), none, none, none]) (st2 := []) rfl ?_
    exact k
theorem z182_56 {T N : Nat → Nat} {h : PH} {w : Nat} {x1 : Int} {x2 : Int} {K : PH → Prop} (t0 : T w = 12) (r1 : In x1) (r2 : In x2) (k : (∃ a_3, (gr h w 1) = some a_3 ∧ T a_3 = 22 ∧ (0 ≤ (11 : Int) ∧ (11 : Int) < (N a_3 : Int) ∧ (11 : Int) < 2147483648) ∧ ((x2 < (ai h a_3 11) → (WV T N 182 69 [some (vr (some w)), some (vi (J x1)), some (vi (J x2)), some (vi (J 0)), none, none] [] h K)) ∧ (¬ (x2 < (ai h a_3 11)) → (WV T N 182 44 [some (vr (some w)), some (vi (J (x1 + 1))), none, none, none, none] [] h K))))) : WV T N 182 56 [some (vr (some w)), some (vi (J x1)), some (vi (J x2)), none, none, none] [] h K := by
  show WP T N 182 56 [some (vr (some w)), some (vi (J x1)), some (vi (J x2)), none, none, none] [] h _
  refine R_ps 2 (pc2 := 58) (L2 := [some (vr (some w)), some (vi (J x1)), some (vi (J x2)), none, none, none]) (st2 := [vr (some w), vi (J x2)]) rfl ?_
  refine R_getR rfl t0 ?_
  refine R_ps 1 (pc2 := 63) (L2 := [some (vr (some w)), some (vi (J x1)), some (vi (J x2)), none, none, none]) (st2 := [vi (J 11), vr (gr h w 1), vi (J x2)]) rfl ?_
  obtain ⟨a_3, e_4, k⟩ := k
  rw [e_4]
  obtain ⟨t_5, k⟩ := k
  obtain ⟨t_6, k⟩ := k
  refine R_ziald (i := 11) rfl (Or.inl t_5) t_6 ?_
  refine R_zif (x := x2) (z := ai h a_3 11) rfl r2 (ai_in _ _ _) (fun c_7 => ?_) (fun c_7 => ?_)
  · have k := k.2 c_7
    refine R_ps 2 (pc2 := 44) (L2 := [some (vr (some w)), some (vi ((J x1) + J 1)), some (vi (J x2)), none, none, none]) (st2 := []) rfl ?_
    rw [show ((J x1) + J 1) = J (x1 + 1) from J_add' rfl rfl]
    exact R_drop k (LE_of (L := [some (vr (some w)), some (vi (J (x1 + 1))), none, none, none, none]) (L2 := [some (vr (some w)), some (vi (J (x1 + 1))), some (vi (J x2)), none, none, none]) ⟨rfl, rfl, trivial⟩)
  · have k := k.1 (Classical.not_not.mp c_7)
    refine R_ps 2 (pc2 := 69) (L2 := [some (vr (some w)), some (vi (J x1)), some (vi (J x2)), some (vi (J 0)), none, none]) (st2 := []) rfl ?_
    exact k
theorem z182_69 {T N : Nat → Nat} {h : PH} {w : Nat} {x1 : Int} {x2 : Int} {x3 : Int} {K : PH → Prop} (t0 : T w = 12) (r1 : In x1) (r2 : In x2) (r3 : In x3) (k : (((x3 < 2 → (ZI T N 165 [vr (some w), vi (J x2), vi (J (1 - x3))] h (fun x_5 h_4 => (∃ a_8, (gr h w 12) = some a_8 ∧ T a_8 = 22 ∧ (0 ≤ x_5 ∧ x_5 < (N a_8 : Int) ∧ x_5 < 2147483648) ∧ ZI T N 167 [vr (some w), vi (J x2), vi (J x3)] h_4 (fun x_14 h_13 => (ZI T N 165 [vr (some w), vi (J x2), vi (J x3)] h_13 (fun x_18 h_17 => (∃ a_23, (gr h_17 w 12) = some a_23 ∧ T a_23 = 22 ∧ (0 ≤ x_18 ∧ x_18 < (N a_23 : Int) ∧ x_18 < 2147483648) ∧ In ((ai h_4 a_8 x_5) + x_14) ∧ ((((ai h_4 a_8 x_5) + x_14) < (ai h_17 a_23 x_18) → (∀ h_39, h_39 = wi h_17 a_23 x_18 ((ai h_4 a_8 x_5) + x_14) → WV T N 182 69 [some (vr (some w)), some (vi (J x1)), some (vi (J x2)), some (vi (J (x3 + 1))), none, none] [] h_39 K)) ∧ (¬ (((ai h_4 a_8 x_5) + x_14) < (ai h_17 a_23 x_18)) → (∃ a_31, (gr h_17 w 12) = some a_31 ∧ T a_31 = 22 ∧ (0 ≤ x_18 ∧ x_18 < (N a_31 : Int) ∧ x_18 < 2147483648) ∧ ∀ h_36, h_36 = wi h_17 a_23 x_18 (ai h_17 a_31 x_18) → WV T N 182 69 [some (vr (some w)), some (vi (J x1)), some (vi (J x2)), some (vi (J (x3 + 1))), none, none] [] h_36 K))))))))))) ∧ (¬ (x3 < 2) → (WV T N 182 56 [some (vr (some w)), some (vi (J x1)), some (vi (J (x2 + 1))), none, none, none] [] h K))))) : WV T N 182 69 [some (vr (some w)), some (vi (J x1)), some (vi (J x2)), some (vi (J x3)), none, none] [] h K := by
  show WP T N 182 69 [some (vr (some w)), some (vi (J x1)), some (vi (J x2)), some (vi (J x3)), none, none] [] h _
  refine R_ps 2 (pc2 := 71) (L2 := [some (vr (some w)), some (vi (J x1)), some (vi (J x2)), some (vi (J x3)), none, none]) (st2 := [vi (J 2), vi (J x3)]) rfl ?_
  refine R_zif (x := x3) (z := 2) rfl r3 (by decide) (fun c_1 => ?_) (fun c_1 => ?_)
  · have k := k.2 c_1
    refine R_ps 2 (pc2 := 56) (L2 := [some (vr (some w)), some (vi (J x1)), some (vi ((J x2) + J 1)), some (vi (J x3)), none, none]) (st2 := []) rfl ?_
    rw [show ((J x2) + J 1) = J (x2 + 1) from J_add' rfl rfl]
    exact R_drop k (LE_of (L := [some (vr (some w)), some (vi (J x1)), some (vi (J (x2 + 1))), none, none, none]) (L2 := [some (vr (some w)), some (vi (J x1)), some (vi (J (x2 + 1))), some (vi (J x3)), none, none]) ⟨rfl, rfl, rfl, trivial⟩)
  · have k := k.1 (Classical.not_not.mp c_1)
    refine R_ps 1 (pc2 := 75) (L2 := [some (vr (some w)), some (vi (J x1)), some (vi (J x2)), some (vi (J x3)), none, none]) (st2 := [vr (some w)]) rfl ?_
    refine R_getR rfl t0 ?_
    refine R_ps 5 (pc2 := 83) (L2 := [some (vr (some w)), some (vi (J x1)), some (vi (J x2)), some (vi (J x3)), none, none]) (st2 := [vi ((J 1) - (J x3)), vi (J x2), vr (some w), vr (gr h w 12)]) rfl ?_
    rw [show ((J 1) - (J x3)) = J (1 - x3) from J_sub' rfl rfl]
    refine R_zcI (as := [vr (some w), vi (J x2), vi (J (1 - x3))]) rfl rfl ⟨Nat.le_of_ble_eq_true rfl, Nat.le_of_ble_eq_true rfl, rfl, (Or.inr ⟨_, rfl, t0⟩)⟩ rfl rfl k (fun x_5 h_4 r_6 k => ?_)
    obtain ⟨a_8, e_9, k⟩ := k
    rw [e_9]
    obtain ⟨t_10, k⟩ := k
    obtain ⟨t_11, k⟩ := k
    refine R_ziald (i := x_5) rfl (Or.inl t_10) t_11 ?_
    refine R_ps 3 (pc2 := 90) (L2 := [some (vr (some w)), some (vi (J x1)), some (vi (J x2)), some (vi (J x3)), none, none]) (st2 := [vi (J x3), vi (J x2), vr (some w), vi (J (ai h_4 a_8 x_5))]) rfl ?_
    refine R_zcI (as := [vr (some w), vi (J x2), vi (J x3)]) rfl rfl ⟨Nat.le_of_ble_eq_true rfl, Nat.le_of_ble_eq_true rfl, rfl, (Or.inr ⟨_, rfl, t0⟩)⟩ rfl rfl k (fun x_14 h_13 r_15 k => ?_)
    refine R_ps 5 (pc2 := 99) (L2 := [some (vr (some w)), some (vi (J x1)), some (vi (J x2)), some (vi (J x3)), some (vi ((J (ai h_4 a_8 x_5)) + (J x_14))), none]) (st2 := [vi (J x3), vi (J x2), vr (some w)]) rfl ?_
    rw [show ((J (ai h_4 a_8 x_5)) + (J x_14)) = J ((ai h_4 a_8 x_5) + x_14) from J_add' rfl rfl]
    refine R_zcI (as := [vr (some w), vi (J x2), vi (J x3)]) rfl rfl ⟨Nat.le_of_ble_eq_true rfl, Nat.le_of_ble_eq_true rfl, rfl, (Or.inr ⟨_, rfl, t0⟩)⟩ rfl rfl k (fun x_18 h_17 r_19 k => ?_)
    refine R_ps 2 (pc2 := 105) (L2 := [some (vr (some w)), some (vi (J x1)), some (vi (J x2)), some (vi (J x3)), some (vi (J ((ai h_4 a_8 x_5) + x_14))), some (vi (J x_18))]) (st2 := [vr (some w)]) rfl ?_
    refine R_getR rfl t0 ?_
    refine R_ps 3 (pc2 := 113) (L2 := [some (vr (some w)), some (vi (J x1)), some (vi (J x2)), some (vi (J x3)), some (vi (J ((ai h_4 a_8 x_5) + x_14))), some (vi (J x_18))]) (st2 := [vr (some w), vi (J ((ai h_4 a_8 x_5) + x_14)), vi (J x_18), vr (gr h_17 w 12)]) rfl ?_
    refine R_getR rfl t0 ?_
    refine R_ps 1 (pc2 := 118) (L2 := [some (vr (some w)), some (vi (J x1)), some (vi (J x2)), some (vi (J x3)), some (vi (J ((ai h_4 a_8 x_5) + x_14))), some (vi (J x_18))]) (st2 := [vi (J x_18), vr (gr h_17 w 12), vi (J ((ai h_4 a_8 x_5) + x_14)), vi (J x_18), vr (gr h_17 w 12)]) rfl ?_
    obtain ⟨a_23, e_24, k⟩ := k
    rw [e_24]
    obtain ⟨t_25, k⟩ := k
    obtain ⟨t_26, k⟩ := k
    refine R_ziald (i := x_18) rfl (Or.inl t_25) t_26 ?_
    obtain ⟨t_28, k⟩ := k
    refine R_zif (x := (ai h_4 a_8 x_5) + x_14) (z := ai h_17 a_23 x_18) rfl t_28 (ai_in _ _ _) (fun c_27 => ?_) (fun c_27 => ?_)
    · have k := k.2 c_27
      refine R_ps 1 (pc2 := 128) (L2 := [some (vr (some w)), some (vi (J x1)), some (vi (J x2)), some (vi (J x3)), some (vi (J ((ai h_4 a_8 x_5) + x_14))), some (vi (J x_18))]) (st2 := [vr (some w), vi (J x_18), vr (some a_23)]) rfl ?_
      refine R_getR rfl t0 ?_
      refine R_ps 1 (pc2 := 133) (L2 := [some (vr (some w)), some (vi (J x1)), some (vi (J x2)), some (vi (J x3)), some (vi (J ((ai h_4 a_8 x_5) + x_14))), some (vi (J x_18))]) (st2 := [vi (J x_18), vr (gr h_17 w 12), vi (J x_18), vr (some a_23)]) rfl ?_
      obtain ⟨a_31, e_32, k⟩ := k
      rw [e_32]
      obtain ⟨t_33, k⟩ := k
      obtain ⟨t_34, k⟩ := k
      refine R_ziald (i := x_18) rfl (Or.inl t_33) t_34 ?_
      refine R_ziast (i := x_18) (x := ai h_17 a_31 x_18) rfl t_25 t_26  ?_
      show WP T N _ _ _ _ (wi h_17 a_23 x_18 (ai h_17 a_31 x_18)) _
      generalize e_37 : wi h_17 a_23 x_18 (ai h_17 a_31 x_18) = h_36
      replace k := k h_36 e_37.symm
      refine R_ps 2 (pc2 := 69) (L2 := [some (vr (some w)), some (vi (J x1)), some (vi (J x2)), some (vi ((J x3) + J 1)), some (vi (J ((ai h_4 a_8 x_5) + x_14))), some (vi (J x_18))]) (st2 := []) rfl ?_
      rw [show ((J x3) + J 1) = J (x3 + 1) from J_add' rfl rfl]
      exact R_drop k (LE_of (L := [some (vr (some w)), some (vi (J x1)), some (vi (J x2)), some (vi (J (x3 + 1))), none, none]) (L2 := [some (vr (some w)), some (vi (J x1)), some (vi (J x2)), some (vi (J (x3 + 1))), some (vi (J ((ai h_4 a_8 x_5) + x_14))), some (vi (J x_18))]) ⟨rfl, rfl, rfl, rfl, trivial⟩)
    · have k := k.1 (Classical.not_not.mp c_27)
      refine R_ps 2 (pc2 := 134) (L2 := [some (vr (some w)), some (vi (J x1)), some (vi (J x2)), some (vi (J x3)), some (vi (J ((ai h_4 a_8 x_5) + x_14))), some (vi (J x_18))]) (st2 := [vi (J ((ai h_4 a_8 x_5) + x_14)), vi (J x_18), vr (some a_23)]) rfl ?_
      refine R_ziast (i := x_18) (x := (ai h_4 a_8 x_5) + x_14) rfl t_25 t_26  ?_
      show WP T N _ _ _ _ (wi h_17 a_23 x_18 ((ai h_4 a_8 x_5) + x_14)) _
      generalize e_40 : wi h_17 a_23 x_18 ((ai h_4 a_8 x_5) + x_14) = h_39
      replace k := k h_39 e_40.symm
      refine R_ps 2 (pc2 := 69) (L2 := [some (vr (some w)), some (vi (J x1)), some (vi (J x2)), some (vi ((J x3) + J 1)), some (vi (J ((ai h_4 a_8 x_5) + x_14))), some (vi (J x_18))]) (st2 := []) rfl ?_
      rw [show ((J x3) + J 1) = J (x3 + 1) from J_add' rfl rfl]
      exact R_drop k (LE_of (L := [some (vr (some w)), some (vi (J x1)), some (vi (J x2)), some (vi (J (x3 + 1))), none, none]) (L2 := [some (vr (some w)), some (vi (J x1)), some (vi (J x2)), some (vi (J (x3 + 1))), some (vi (J ((ai h_4 a_8 x_5) + x_14))), some (vi (J x_18))]) ⟨rfl, rfl, rfl, rfl, trivial⟩)
/-- DroneCorridorsModel.reserve -/
theorem z183 {T N : Nat → Nat} {h : PH} {w : Nat} {x1 : Int} {K : Int → PH → Prop} (t0 : T w = 12) (r1 : In x1) (k : (ZI T N 162 [vr (some w), vi (J x1)] h (fun x_3 h_2 => (((x_3 = 0 → (∀ h_7, h_7 = wi h_2 w 0 1 → (((ai h_7 w 0) = 1 → (K 0 h_7)) ∧ (¬ ((ai h_7 w 0) = 1) → (CV T N 182 [vr (some w)] h_7 (fun h_12 => (∃ a_16, (gr h_12 w 12) = some a_16 ∧ T a_16 = 22 ∧ (0 ≤ x1 ∧ x1 < (N a_16 : Int) ∧ x1 < 2147483648) ∧ (((ai h_12 a_16 x1) < 1000000 → (∃ a_28, (gr h_12 w 12) = some a_28 ∧ T a_28 = 22 ∧ (0 ≤ x1 ∧ x1 < (N a_28 : Int) ∧ x1 < 2147483648) ∧ K (ai h_12 a_28 x1) h_12)) ∧ (¬ ((ai h_12 a_16 x1) < 1000000) → (ZI T N 157 [vr (some w), vi (J 2)] h_12 (fun x_23 h_22 => (K x_23 h_22)))))))))))) ∧ (¬ (x_3 = 0) → (∀ h_35, h_35 = wi h_2 w 0 0 → (((ai h_35 w 0) = 1 → (K 0 h_35)) ∧ (¬ ((ai h_35 w 0) = 1) → (CV T N 182 [vr (some w)] h_35 (fun h_40 => (∃ a_44, (gr h_40 w 12) = some a_44 ∧ T a_44 = 22 ∧ (0 ≤ x1 ∧ x1 < (N a_44 : Int) ∧ x1 < 2147483648) ∧ (((ai h_40 a_44 x1) < 1000000 → (∃ a_56, (gr h_40 w 12) = some a_56 ∧ T a_56 = 22 ∧ (0 ≤ x1 ∧ x1 < (N a_56 : Int) ∧ x1 < 2147483648) ∧ K (ai h_40 a_56 x1) h_40)) ∧ (¬ ((ai h_40 a_44 x1) < 1000000) → (ZI T N 157 [vr (some w), vi (J 2)] h_40 (fun x_51 h_50 => (K x_51 h_50))))))))))))))))) : ZI T N 183 [vr (some w), vi (J x1)] h K := by
  show WP T N 183 0 [some (vr (some w)), some (vi (J x1))] [] h _
  refine R_ps 3 (pc2 := 3) (L2 := [some (vr (some w)), some (vi (J x1))]) (st2 := [vi (J x1), vr (some w), vr (some w)]) rfl ?_
  refine R_zcI (as := [vr (some w), vi (J x1)]) rfl rfl ⟨Nat.le_of_ble_eq_true rfl, Nat.le_of_ble_eq_true rfl, rfl, (Or.inr ⟨_, rfl, t0⟩)⟩ rfl rfl k (fun x_3 h_2 r_4 k => ?_)
  refine R_zif0 (x := x_3) rfl r_4 (fun c_5 => ?_) (fun c_5 => ?_)
  · have k := k.1 c_5
    refine R_ps 1 (pc2 := 14) (L2 := [some (vr (some w)), some (vi (J x1))]) (st2 := [vi (J 1), vr (some w)]) rfl ?_
    refine R_zputI (x := 1) (z := 0) rfl t0 rfl ?_
    show WP T N _ _ _ _ (wi h_2 w 0 1) _
    generalize e_8 : wi h_2 w 0 1 = h_7
    replace k := k h_7 e_8.symm
    refine R_ps 1 (pc2 := 18) (L2 := [some (vr (some w)), some (vi (J x1))]) (st2 := [vr (some w)]) rfl ?_
    refine R_zgetI (z := 0) rfl t0 rfl ?_
    refine R_ps 1 (pc2 := 22) (L2 := [some (vr (some w)), some (vi (J x1))]) (st2 := [vi (J 1), vi (J (ai h_7 w 0))]) rfl ?_
    refine R_zif (x := ai h_7 w 0) (z := 1) rfl (ai_in _ _ _) (by decide) (fun c_10 => ?_) (fun c_10 => ?_)
    · have k := k.2 c_10
      refine R_ps 1 (pc2 := 28) (L2 := [some (vr (some w)), some (vi (J x1))]) (st2 := [vr (some w)]) rfl ?_
      refine R_cV (as := [vr (some w)]) rfl rfl ⟨Nat.le_of_ble_eq_true rfl, Nat.le_of_ble_eq_true rfl, rfl, (Or.inr ⟨_, rfl, t0⟩)⟩ rfl rfl k (fun h_12 k => ?_)
      refine R_ps 1 (pc2 := 32) (L2 := [some (vr (some w)), some (vi (J x1))]) (st2 := [vr (some w)]) rfl ?_
      refine R_getR rfl t0 ?_
      refine R_ps 1 (pc2 := 36) (L2 := [some (vr (some w)), some (vi (J x1))]) (st2 := [vi (J x1), vr (gr h_12 w 12)]) rfl ?_
      obtain ⟨a_16, e_17, k⟩ := k
      rw [e_17]
      obtain ⟨t_18, k⟩ := k
      obtain ⟨t_19, k⟩ := k
      refine R_ziald (i := x1) rfl (Or.inl t_18) t_19 ?_
      refine R_ps 1 (pc2 := 39) (L2 := [some (vr (some w)), some (vi (J x1))]) (st2 := [vi (J 1000000), vi (J (ai h_12 a_16 x1))]) rfl ?_
      refine R_zif (x := ai h_12 a_16 x1) (z := 1000000) rfl (ai_in _ _ _) (by decide) (fun c_20 => ?_) (fun c_20 => ?_)
      · have k := k.2 c_20
        refine R_ps 2 (pc2 := 53) (L2 := [some (vr (some w)), some (vi (J x1))]) (st2 := [vi (J 2), vr (some w)]) rfl ?_
        refine R_zcI (as := [vr (some w), vi (J 2)]) rfl rfl ⟨Nat.le_of_ble_eq_true rfl, Nat.le_of_ble_eq_true rfl, rfl, (Or.inr ⟨_, rfl, t0⟩)⟩ rfl rfl k (fun x_23 h_22 r_24 k => ?_)
        exact R_iret rfl rfl (R_zr (x := x_23) (K := K) r_24 k)
      · have k := k.1 (Classical.not_not.mp c_20)
        refine R_ps 1 (pc2 := 43) (L2 := [some (vr (some w)), some (vi (J x1))]) (st2 := [vr (some w)]) rfl ?_
        refine R_getR rfl t0 ?_
        refine R_ps 1 (pc2 := 47) (L2 := [some (vr (some w)), some (vi (J x1))]) (st2 := [vi (J x1), vr (gr h_12 w 12)]) rfl ?_
        obtain ⟨a_28, e_29, k⟩ := k
        rw [e_29]
        obtain ⟨t_30, k⟩ := k
        obtain ⟨t_31, k⟩ := k
        refine R_ziald (i := x1) rfl (Or.inl t_30) t_31 ?_
        refine R_ps 1 (pc2 := 56) (L2 := [some (vr (some w)), some (vi (J x1))]) (st2 := [vi (J (ai h_12 a_28 x1))]) rfl ?_
        exact R_iret rfl rfl (R_zr (x := ai h_12 a_28 x1) (K := K) (ai_in _ _ _) k)
    · have k := k.1 (Classical.not_not.mp c_10)
      refine R_ps 1 (pc2 := 26) (L2 := [some (vr (some w)), some (vi (J x1))]) (st2 := [vi (J 0)]) rfl ?_
      exact R_iret rfl rfl (R_zr (x := 0) (K := K) (by decide) k)
  · have k := k.2 c_5
    refine R_ps 2 (pc2 := 14) (L2 := [some (vr (some w)), some (vi (J x1))]) (st2 := [vi (J 0), vr (some w)]) rfl ?_
    refine R_zputI (x := 0) (z := 0) rfl t0 rfl ?_
    show WP T N _ _ _ _ (wi h_2 w 0 0) _
    generalize e_36 : wi h_2 w 0 0 = h_35
    replace k := k h_35 e_36.symm
    refine R_ps 1 (pc2 := 18) (L2 := [some (vr (some w)), some (vi (J x1))]) (st2 := [vr (some w)]) rfl ?_
    refine R_zgetI (z := 0) rfl t0 rfl ?_
    refine R_ps 1 (pc2 := 22) (L2 := [some (vr (some w)), some (vi (J x1))]) (st2 := [vi (J 1), vi (J (ai h_35 w 0))]) rfl ?_
    refine R_zif (x := ai h_35 w 0) (z := 1) rfl (ai_in _ _ _) (by decide) (fun c_38 => ?_) (fun c_38 => ?_)
    · have k := k.2 c_38
      refine R_ps 1 (pc2 := 28) (L2 := [some (vr (some w)), some (vi (J x1))]) (st2 := [vr (some w)]) rfl ?_
      refine R_cV (as := [vr (some w)]) rfl rfl ⟨Nat.le_of_ble_eq_true rfl, Nat.le_of_ble_eq_true rfl, rfl, (Or.inr ⟨_, rfl, t0⟩)⟩ rfl rfl k (fun h_40 k => ?_)
      refine R_ps 1 (pc2 := 32) (L2 := [some (vr (some w)), some (vi (J x1))]) (st2 := [vr (some w)]) rfl ?_
      refine R_getR rfl t0 ?_
      refine R_ps 1 (pc2 := 36) (L2 := [some (vr (some w)), some (vi (J x1))]) (st2 := [vi (J x1), vr (gr h_40 w 12)]) rfl ?_
      obtain ⟨a_44, e_45, k⟩ := k
      rw [e_45]
      obtain ⟨t_46, k⟩ := k
      obtain ⟨t_47, k⟩ := k
      refine R_ziald (i := x1) rfl (Or.inl t_46) t_47 ?_
      refine R_ps 1 (pc2 := 39) (L2 := [some (vr (some w)), some (vi (J x1))]) (st2 := [vi (J 1000000), vi (J (ai h_40 a_44 x1))]) rfl ?_
      refine R_zif (x := ai h_40 a_44 x1) (z := 1000000) rfl (ai_in _ _ _) (by decide) (fun c_48 => ?_) (fun c_48 => ?_)
      · have k := k.2 c_48
        refine R_ps 2 (pc2 := 53) (L2 := [some (vr (some w)), some (vi (J x1))]) (st2 := [vi (J 2), vr (some w)]) rfl ?_
        refine R_zcI (as := [vr (some w), vi (J 2)]) rfl rfl ⟨Nat.le_of_ble_eq_true rfl, Nat.le_of_ble_eq_true rfl, rfl, (Or.inr ⟨_, rfl, t0⟩)⟩ rfl rfl k (fun x_51 h_50 r_52 k => ?_)
        exact R_iret rfl rfl (R_zr (x := x_51) (K := K) r_52 k)
      · have k := k.1 (Classical.not_not.mp c_48)
        refine R_ps 1 (pc2 := 43) (L2 := [some (vr (some w)), some (vi (J x1))]) (st2 := [vr (some w)]) rfl ?_
        refine R_getR rfl t0 ?_
        refine R_ps 1 (pc2 := 47) (L2 := [some (vr (some w)), some (vi (J x1))]) (st2 := [vi (J x1), vr (gr h_40 w 12)]) rfl ?_
        obtain ⟨a_56, e_57, k⟩ := k
        rw [e_57]
        obtain ⟨t_58, k⟩ := k
        obtain ⟨t_59, k⟩ := k
        refine R_ziald (i := x1) rfl (Or.inl t_58) t_59 ?_
        refine R_ps 1 (pc2 := 56) (L2 := [some (vr (some w)), some (vi (J x1))]) (st2 := [vi (J (ai h_40 a_56 x1))]) rfl ?_
        exact R_iret rfl rfl (R_zr (x := ai h_40 a_56 x1) (K := K) (ai_in _ _ _) k)
    · have k := k.1 (Classical.not_not.mp c_38)
      refine R_ps 1 (pc2 := 26) (L2 := [some (vr (some w)), some (vi (J x1))]) (st2 := [vi (J 0)]) rfl ?_
      exact R_iret rfl rfl (R_zr (x := 0) (K := K) (by decide) k)
/-- DroneCorridorsModel.ticksBetween -/
theorem z184 {T N : Nat → Nat} {h : PH} {w : Nat} {x1 : Int} {x2 : Int} {K : Int → PH → Prop} (t0 : T w = 12) (r1 : In x1) (r2 : In x2) (k : (ZI T N 162 [vr (some w), vi (J x1)] h (fun x_3 h_2 => (((x_3 = 0 → (∀ h_7, h_7 = wi h_2 w 0 1 → (((ai h_7 w 0) = 1 → (K 0 h_7)) ∧ (¬ ((ai h_7 w 0) = 1) → (ZW T N 184 37 [some (vr (some w)), some (vi (J x1)), some (vi (J x2)), some (vi (J 0)), none, none, none, none] [] h_7 K))))) ∧ (¬ (x_3 = 0) → (ZI T N 162 [vr (some w), vi (J x2)] h_2 (fun x_14 h_13 => (((x_14 = 0 → (∀ h_18, h_18 = wi h_13 w 0 1 → (((ai h_18 w 0) = 1 → (K 0 h_18)) ∧ (¬ ((ai h_18 w 0) = 1) → (ZW T N 184 37 [some (vr (some w)), some (vi (J x1)), some (vi (J x2)), some (vi (J 0)), none, none, none, none] [] h_18 K))))) ∧ (¬ (x_14 = 0) → (∀ h_24, h_24 = wi h_13 w 0 0 → (((ai h_24 w 0) = 1 → (K 0 h_24)) ∧ (¬ ((ai h_24 w 0) = 1) → (ZW T N 184 37 [some (vr (some w)), some (vi (J x1)), some (vi (J x2)), some (vi (J 0)), none, none, none, none] [] h_24 K))))))))))))))) : ZI T N 184 [vr (some w), vi (J x1), vi (J x2)] h K := by
  show WP T N 184 0 [some (vr (some w)), some (vi (J x1)), some (vi (J x2)), none, none, none, none, none] [] h _
  refine R_ps 3 (pc2 := 3) (L2 := [some (vr (some w)), some (vi (J x1)), some (vi (J x2)), none, none, none, none, none]) (st2 := [vi (J x1), vr (some w), vr (some w)]) rfl ?_
  refine R_zcI (as := [vr (some w), vi (J x1)]) rfl rfl ⟨Nat.le_of_ble_eq_true rfl, Nat.le_of_ble_eq_true rfl, rfl, (Or.inr ⟨_, rfl, t0⟩)⟩ rfl rfl k (fun x_3 h_2 r_4 k => ?_)
  refine R_zif0 (x := x_3) rfl r_4 (fun c_5 => ?_) (fun c_5 => ?_)
  · have k := k.1 c_5
    refine R_ps 1 (pc2 := 22) (L2 := [some (vr (some w)), some (vi (J x1)), some (vi (J x2)), none, none, none, none, none]) (st2 := [vi (J 1), vr (some w)]) rfl ?_
    refine R_zputI (x := 1) (z := 0) rfl t0 rfl ?_
    show WP T N _ _ _ _ (wi h_2 w 0 1) _
    generalize e_8 : wi h_2 w 0 1 = h_7
    replace k := k h_7 e_8.symm
    refine R_ps 1 (pc2 := 26) (L2 := [some (vr (some w)), some (vi (J x1)), some (vi (J x2)), none, none, none, none, none]) (st2 := [vr (some w)]) rfl ?_
    refine R_zgetI (z := 0) rfl t0 rfl ?_
    refine R_ps 1 (pc2 := 30) (L2 := [some (vr (some w)), some (vi (J x1)), some (vi (J x2)), none, none, none, none, none]) (st2 := [vi (J 1), vi (J (ai h_7 w 0))]) rfl ?_
    refine R_zif (x := ai h_7 w 0) (z := 1) rfl (ai_in _ _ _) (by decide) (fun c_10 => ?_) (fun c_10 => ?_)
    · have k := k.2 c_10
      refine R_ps 2 (pc2 := 37) (L2 := [some (vr (some w)), some (vi (J x1)), some (vi (J x2)), some (vi (J 0)), none, none, none, none]) (st2 := []) rfl ?_
      exact k
    · have k := k.1 (Classical.not_not.mp c_10)
      refine R_ps 1 (pc2 := 34) (L2 := [some (vr (some w)), some (vi (J x1)), some (vi (J x2)), none, none, none, none, none]) (st2 := [vi (J 0)]) rfl ?_
      exact R_iret rfl rfl (R_zr (x := 0) (K := K) (by decide) k)
  · have k := k.2 c_5
    refine R_ps 2 (pc2 := 11) (L2 := [some (vr (some w)), some (vi (J x1)), some (vi (J x2)), none, none, none, none, none]) (st2 := [vi (J x2), vr (some w), vr (some w)]) rfl ?_
    refine R_zcI (as := [vr (some w), vi (J x2)]) rfl rfl ⟨Nat.le_of_ble_eq_true rfl, Nat.le_of_ble_eq_true rfl, rfl, (Or.inr ⟨_, rfl, t0⟩)⟩ rfl rfl k (fun x_14 h_13 r_15 k => ?_)
    refine R_zif0 (x := x_14) rfl r_15 (fun c_16 => ?_) (fun c_16 => ?_)
    · have k := k.1 c_16
      refine R_ps 1 (pc2 := 22) (L2 := [some (vr (some w)), some (vi (J x1)), some (vi (J x2)), none, none, none, none, none]) (st2 := [vi (J 1), vr (some w)]) rfl ?_
      refine R_zputI (x := 1) (z := 0) rfl t0 rfl ?_
      show WP T N _ _ _ _ (wi h_13 w 0 1) _
      generalize e_19 : wi h_13 w 0 1 = h_18
      replace k := k h_18 e_19.symm
      refine R_ps 1 (pc2 := 26) (L2 := [some (vr (some w)), some (vi (J x1)), some (vi (J x2)), none, none, none, none, none]) (st2 := [vr (some w)]) rfl ?_
      refine R_zgetI (z := 0) rfl t0 rfl ?_
      refine R_ps 1 (pc2 := 30) (L2 := [some (vr (some w)), some (vi (J x1)), some (vi (J x2)), none, none, none, none, none]) (st2 := [vi (J 1), vi (J (ai h_18 w 0))]) rfl ?_
      refine R_zif (x := ai h_18 w 0) (z := 1) rfl (ai_in _ _ _) (by decide) (fun c_21 => ?_) (fun c_21 => ?_)
      · have k := k.2 c_21
        refine R_ps 2 (pc2 := 37) (L2 := [some (vr (some w)), some (vi (J x1)), some (vi (J x2)), some (vi (J 0)), none, none, none, none]) (st2 := []) rfl ?_
        exact k
      · have k := k.1 (Classical.not_not.mp c_21)
        refine R_ps 1 (pc2 := 34) (L2 := [some (vr (some w)), some (vi (J x1)), some (vi (J x2)), none, none, none, none, none]) (st2 := [vi (J 0)]) rfl ?_
        exact R_iret rfl rfl (R_zr (x := 0) (K := K) (by decide) k)
    · have k := k.2 c_16
      refine R_ps 2 (pc2 := 22) (L2 := [some (vr (some w)), some (vi (J x1)), some (vi (J x2)), none, none, none, none, none]) (st2 := [vi (J 0), vr (some w)]) rfl ?_
      refine R_zputI (x := 0) (z := 0) rfl t0 rfl ?_
      show WP T N _ _ _ _ (wi h_13 w 0 0) _
      generalize e_25 : wi h_13 w 0 0 = h_24
      replace k := k h_24 e_25.symm
      refine R_ps 1 (pc2 := 26) (L2 := [some (vr (some w)), some (vi (J x1)), some (vi (J x2)), none, none, none, none, none]) (st2 := [vr (some w)]) rfl ?_
      refine R_zgetI (z := 0) rfl t0 rfl ?_
      refine R_ps 1 (pc2 := 30) (L2 := [some (vr (some w)), some (vi (J x1)), some (vi (J x2)), none, none, none, none, none]) (st2 := [vi (J 1), vi (J (ai h_24 w 0))]) rfl ?_
      refine R_zif (x := ai h_24 w 0) (z := 1) rfl (ai_in _ _ _) (by decide) (fun c_27 => ?_) (fun c_27 => ?_)
      · have k := k.2 c_27
        refine R_ps 2 (pc2 := 37) (L2 := [some (vr (some w)), some (vi (J x1)), some (vi (J x2)), some (vi (J 0)), none, none, none, none]) (st2 := []) rfl ?_
        exact k
      · have k := k.1 (Classical.not_not.mp c_27)
        refine R_ps 1 (pc2 := 34) (L2 := [some (vr (some w)), some (vi (J x1)), some (vi (J x2)), none, none, none, none, none]) (st2 := [vi (J 0)]) rfl ?_
        exact R_iret rfl rfl (R_zr (x := 0) (K := K) (by decide) k)
theorem z184_37 {T N : Nat → Nat} {h : PH} {w : Nat} {x1 : Int} {x2 : Int} {x3 : Int} {K : Int → PH → Prop} (t0 : T w = 12) (r1 : In x1) (r2 : In x2) (r3 : In x3) (k : (∃ a_3, (gr h w 1) = some a_3 ∧ T a_3 = 22 ∧ (0 ≤ (0 : Int) ∧ (0 : Int) < (N a_3 : Int) ∧ (0 : Int) < 2147483648) ∧ ((x3 < (ai h a_3 0) → (((x3 = x2 → (∃ a_18, (gr h w 13) = some a_18 ∧ T a_18 = 22 ∧ (0 ≤ x3 ∧ x3 < (N a_18 : Int) ∧ x3 < 2147483648) ∧ ∀ h_20, h_20 = wi h a_18 x3 0 → ZW T N 184 37 [some (vr (some w)), some (vi (J x1)), some (vi (J x2)), some (vi (J (x3 + 1))), none, none, none, none] [] h_20 K)) ∧ (¬ (x3 = x2) → (∃ a_11, (gr h w 13) = some a_11 ∧ T a_11 = 22 ∧ (0 ≤ x3 ∧ x3 < (N a_11 : Int) ∧ x3 < 2147483648) ∧ ∀ h_13, h_13 = wi h a_11 x3 1000000 → ZW T N 184 37 [some (vr (some w)), some (vi (J x1)), some (vi (J x2)), some (vi (J (x3 + 1))), none, none, none, none] [] h_13 K))))) ∧ (¬ (x3 < (ai h a_3 0)) → (ZW T N 184 72 [some (vr (some w)), some (vi (J x1)), none, some (vi (J 0)), none, none, none, none] [] h K))))) : ZW T N 184 37 [some (vr (some w)), some (vi (J x1)), some (vi (J x2)), some (vi (J x3)), none, none, none, none] [] h K := by
  show WP T N 184 37 [some (vr (some w)), some (vi (J x1)), some (vi (J x2)), some (vi (J x3)), none, none, none, none] [] h _
  refine R_ps 2 (pc2 := 39) (L2 := [some (vr (some w)), some (vi (J x1)), some (vi (J x2)), some (vi (J x3)), none, none, none, none]) (st2 := [vr (some w), vi (J x3)]) rfl ?_
  refine R_getR rfl t0 ?_
  refine R_ps 1 (pc2 := 43) (L2 := [some (vr (some w)), some (vi (J x1)), some (vi (J x2)), some (vi (J x3)), none, none, none, none]) (st2 := [vi (J 0), vr (gr h w 1), vi (J x3)]) rfl ?_
  obtain ⟨a_3, e_4, k⟩ := k
  rw [e_4]
  obtain ⟨t_5, k⟩ := k
  obtain ⟨t_6, k⟩ := k
  refine R_ziald (i := 0) rfl (Or.inl t_5) t_6 ?_
  refine R_zif (x := x3) (z := ai h a_3 0) rfl r3 (ai_in _ _ _) (fun c_7 => ?_) (fun c_7 => ?_)
  · have k := k.2 c_7
    refine R_ps 2 (pc2 := 72) (L2 := [some (vr (some w)), some (vi (J x1)), some (vi (J x2)), some (vi (J 0)), none, none, none, none]) (st2 := []) rfl ?_
    exact R_drop k (LE_of (L := [some (vr (some w)), some (vi (J x1)), none, some (vi (J 0)), none, none, none, none]) (L2 := [some (vr (some w)), some (vi (J x1)), some (vi (J x2)), some (vi (J 0)), none, none, none, none]) ⟨rfl, rfl, rfl, trivial⟩)
  · have k := k.1 (Classical.not_not.mp c_7)
    refine R_ps 1 (pc2 := 48) (L2 := [some (vr (some w)), some (vi (J x1)), some (vi (J x2)), some (vi (J x3)), none, none, none, none]) (st2 := [vr (some w)]) rfl ?_
    refine R_getR rfl t0 ?_
    refine R_ps 3 (pc2 := 54) (L2 := [some (vr (some w)), some (vi (J x1)), some (vi (J x2)), some (vi (J x3)), none, none, none, none]) (st2 := [vi (J x2), vi (J x3), vi (J x3), vr (gr h w 13)]) rfl ?_
    refine R_zif (x := x3) (z := x2) rfl r3 r2 (fun c_9 => ?_) (fun c_9 => ?_)
    · have k := k.2 c_9
      refine R_ps 1 (pc2 := 63) (L2 := [some (vr (some w)), some (vi (J x1)), some (vi (J x2)), some (vi (J x3)), none, none, none, none]) (st2 := [vi (J 1000000), vi (J x3), vr (gr h w 13)]) rfl ?_
      obtain ⟨a_11, e_12, k⟩ := k
      rw [e_12]
      obtain ⟨t_15, k⟩ := k
      obtain ⟨t_16, k⟩ := k
      refine R_ziast (i := x3) (x := 1000000) rfl t_15 t_16  ?_
      show WP T N _ _ _ _ (wi h a_11 x3 1000000) _
      generalize e_14 : wi h a_11 x3 1000000 = h_13
      replace k := k h_13 e_14.symm
      refine R_ps 2 (pc2 := 37) (L2 := [some (vr (some w)), some (vi (J x1)), some (vi (J x2)), some (vi ((J x3) + J 1)), none, none, none, none]) (st2 := []) rfl ?_
      rw [show ((J x3) + J 1) = J (x3 + 1) from J_add' rfl rfl]
      exact k
    · have k := k.1 (Classical.not_not.mp c_9)
      refine R_ps 2 (pc2 := 63) (L2 := [some (vr (some w)), some (vi (J x1)), some (vi (J x2)), some (vi (J x3)), none, none, none, none]) (st2 := [vi (J 0), vi (J x3), vr (gr h w 13)]) rfl ?_
      obtain ⟨a_18, e_19, k⟩ := k
      rw [e_19]
      obtain ⟨t_22, k⟩ := k
      obtain ⟨t_23, k⟩ := k
      refine R_ziast (i := x3) (x := 0) rfl t_22 t_23  ?_
      show WP T N _ _ _ _ (wi h a_18 x3 0) _
      generalize e_21 : wi h a_18 x3 0 = h_20
      replace k := k h_20 e_21.symm
      refine R_ps 2 (pc2 := 37) (L2 := [some (vr (some w)), some (vi (J x1)), some (vi (J x2)), some (vi ((J x3) + J 1)), none, none, none, none]) (st2 := []) rfl ?_
      rw [show ((J x3) + J 1) = J (x3 + 1) from J_add' rfl rfl]
      exact k
theorem z184_72 {T N : Nat → Nat} {h : PH} {w : Nat} {x1 : Int} {x3 : Int} {K : Int → PH → Prop} (t0 : T w = 12) (r1 : In x1) (r3 : In x3) (k : (∃ a_3, (gr h w 1) = some a_3 ∧ T a_3 = 22 ∧ (0 ≤ (0 : Int) ∧ (0 : Int) < (N a_3 : Int) ∧ (0 : Int) < 2147483648) ∧ ((x3 < (ai h a_3 0) → (ZW T N 184 85 [some (vr (some w)), some (vi (J x1)), none, some (vi (J x3)), some (vi (J 0)), none, none, none] [] h K)) ∧ (¬ (x3 < (ai h a_3 0)) → (∃ a_10, (gr h w 13) = some a_10 ∧ T a_10 = 22 ∧ (0 ≤ x1 ∧ x1 < (N a_10 : Int) ∧ x1 < 2147483648) ∧ (((ai h a_10 x1) < 1000000 → (∃ a_22, (gr h w 13) = some a_22 ∧ T a_22 = 22 ∧ (0 ≤ x1 ∧ x1 < (N a_22 : Int) ∧ x1 < 2147483648) ∧ K (ai h a_22 x1) h)) ∧ (¬ ((ai h a_10 x1) < 1000000) → (ZI T N 157 [vr (some w), vi (J 2)] h (fun x_17 h_16 => (K x_17 h_16)))))))))) : ZW T N 184 72 [some (vr (some w)), some (vi (J x1)), none, some (vi (J x3)), none, none, none, none] [] h K := by
  show WP T N 184 72 [some (vr (some w)), some (vi (J x1)), none, some (vi (J x3)), none, none, none, none] [] h _
  refine R_ps 2 (pc2 := 74) (L2 := [some (vr (some w)), some (vi (J x1)), none, some (vi (J x3)), none, none, none, none]) (st2 := [vr (some w), vi (J x3)]) rfl ?_
  refine R_getR rfl t0 ?_
  refine R_ps 1 (pc2 := 78) (L2 := [some (vr (some w)), some (vi (J x1)), none, some (vi (J x3)), none, none, none, none]) (st2 := [vi (J 0), vr (gr h w 1), vi (J x3)]) rfl ?_
  obtain ⟨a_3, e_4, k⟩ := k
  rw [e_4]
  obtain ⟨t_5, k⟩ := k
  obtain ⟨t_6, k⟩ := k
  refine R_ziald (i := 0) rfl (Or.inl t_5) t_6 ?_
  refine R_zif (x := x3) (z := ai h a_3 0) rfl r3 (ai_in _ _ _) (fun c_7 => ?_) (fun c_7 => ?_)
  · have k := k.2 c_7
    refine R_ps 1 (pc2 := 190) (L2 := [some (vr (some w)), some (vi (J x1)), none, some (vi (J x3)), none, none, none, none]) (st2 := [vr (some w)]) rfl ?_
    refine R_getR rfl t0 ?_
    refine R_ps 1 (pc2 := 194) (L2 := [some (vr (some w)), some (vi (J x1)), none, some (vi (J x3)), none, none, none, none]) (st2 := [vi (J x1), vr (gr h w 13)]) rfl ?_
    obtain ⟨a_10, e_11, k⟩ := k
    rw [e_11]
    obtain ⟨t_12, k⟩ := k
    obtain ⟨t_13, k⟩ := k
    refine R_ziald (i := x1) rfl (Or.inl t_12) t_13 ?_
    refine R_ps 1 (pc2 := 197) (L2 := [some (vr (some w)), some (vi (J x1)), none, some (vi (J x3)), none, none, none, none]) (st2 := [vi (J 1000000), vi (J (ai h a_10 x1))]) rfl ?_
    refine R_zif (x := ai h a_10 x1) (z := 1000000) rfl (ai_in _ _ _) (by decide) (fun c_14 => ?_) (fun c_14 => ?_)
    · have k := k.2 c_14
      refine R_ps 2 (pc2 := 211) (L2 := [some (vr (some w)), some (vi (J x1)), none, some (vi (J x3)), none, none, none, none]) (st2 := [vi (J 2), vr (some w)]) rfl ?_
      refine R_zcI (as := [vr (some w), vi (J 2)]) rfl rfl ⟨Nat.le_of_ble_eq_true rfl, Nat.le_of_ble_eq_true rfl, rfl, (Or.inr ⟨_, rfl, t0⟩)⟩ rfl rfl k (fun x_17 h_16 r_18 k => ?_)
      exact R_iret rfl rfl (R_zr (x := x_17) (K := K) r_18 k)
    · have k := k.1 (Classical.not_not.mp c_14)
      refine R_ps 1 (pc2 := 201) (L2 := [some (vr (some w)), some (vi (J x1)), none, some (vi (J x3)), none, none, none, none]) (st2 := [vr (some w)]) rfl ?_
      refine R_getR rfl t0 ?_
      refine R_ps 1 (pc2 := 205) (L2 := [some (vr (some w)), some (vi (J x1)), none, some (vi (J x3)), none, none, none, none]) (st2 := [vi (J x1), vr (gr h w 13)]) rfl ?_
      obtain ⟨a_22, e_23, k⟩ := k
      rw [e_23]
      obtain ⟨t_24, k⟩ := k
      obtain ⟨t_25, k⟩ := k
      refine R_ziald (i := x1) rfl (Or.inl t_24) t_25 ?_
      refine R_ps 1 (pc2 := 214) (L2 := [some (vr (some w)), some (vi (J x1)), none, some (vi (J x3)), none, none, none, none]) (st2 := [vi (J (ai h a_22 x1))]) rfl ?_
      exact R_iret rfl rfl (R_zr (x := ai h a_22 x1) (K := K) (ai_in _ _ _) k)
  · have k := k.1 (Classical.not_not.mp c_7)
    refine R_ps 2 (pc2 := 85) (L2 := [some (vr (some w)), some (vi (J x1)), none, some (vi (J x3)), some (vi (J 0)), none, none, none]) (st2 := []) rfl ?_
    exact k
theorem z184_85 {T N : Nat → Nat} {h : PH} {w : Nat} {x1 : Int} {x3 : Int} {x4 : Int} {K : Int → PH → Prop} (t0 : T w = 12) (r1 : In x1) (r3 : In x3) (r4 : In x4) (k : (∃ a_3, (gr h w 1) = some a_3 ∧ T a_3 = 22 ∧ (0 ≤ (11 : Int) ∧ (11 : Int) < (N a_3 : Int) ∧ (11 : Int) < 2147483648) ∧ ((x4 < (ai h a_3 11) → (ZW T N 184 100 [some (vr (some w)), some (vi (J x1)), none, some (vi (J x3)), some (vi (J x4)), some (vi (J 0)), none, none] [] h K)) ∧ (¬ (x4 < (ai h a_3 11)) → (ZW T N 184 72 [some (vr (some w)), some (vi (J x1)), none, some (vi (J (x3 + 1))), none, none, none, none] [] h K))))) : ZW T N 184 85 [some (vr (some w)), some (vi (J x1)), none, some (vi (J x3)), some (vi (J x4)), none, none, none] [] h K := by
  show WP T N 184 85 [some (vr (some w)), some (vi (J x1)), none, some (vi (J x3)), some (vi (J x4)), none, none, none] [] h _
  refine R_ps 2 (pc2 := 88) (L2 := [some (vr (some w)), some (vi (J x1)), none, some (vi (J x3)), some (vi (J x4)), none, none, none]) (st2 := [vr (some w), vi (J x4)]) rfl ?_
  refine R_getR rfl t0 ?_
  refine R_ps 1 (pc2 := 93) (L2 := [some (vr (some w)), some (vi (J x1)), none, some (vi (J x3)), some (vi (J x4)), none, none, none]) (st2 := [vi (J 11), vr (gr h w 1), vi (J x4)]) rfl ?_
  obtain ⟨a_3, e_4, k⟩ := k
  rw [e_4]
  obtain ⟨t_5, k⟩ := k
  obtain ⟨t_6, k⟩ := k
  refine R_ziald (i := 11) rfl (Or.inl t_5) t_6 ?_
  refine R_zif (x := x4) (z := ai h a_3 11) rfl r4 (ai_in _ _ _) (fun c_7 => ?_) (fun c_7 => ?_)
  · have k := k.2 c_7
    refine R_ps 2 (pc2 := 72) (L2 := [some (vr (some w)), some (vi (J x1)), none, some (vi ((J x3) + J 1)), some (vi (J x4)), none, none, none]) (st2 := []) rfl ?_
    rw [show ((J x3) + J 1) = J (x3 + 1) from J_add' rfl rfl]
    exact R_drop k (LE_of (L := [some (vr (some w)), some (vi (J x1)), none, some (vi (J (x3 + 1))), none, none, none, none]) (L2 := [some (vr (some w)), some (vi (J x1)), none, some (vi (J (x3 + 1))), some (vi (J x4)), none, none, none]) ⟨rfl, rfl, rfl, trivial⟩)
  · have k := k.1 (Classical.not_not.mp c_7)
    refine R_ps 2 (pc2 := 100) (L2 := [some (vr (some w)), some (vi (J x1)), none, some (vi (J x3)), some (vi (J x4)), some (vi (J 0)), none, none]) (st2 := []) rfl ?_
    exact k
theorem z184_100 {T N : Nat → Nat} {h : PH} {w : Nat} {x1 : Int} {x3 : Int} {x4 : Int} {x5 : Int} {K : Int → PH → Prop} (t0 : T w = 12) (r1 : In x1) (r3 : In x3) (r4 : In x4) (r5 : In x5) (k : (((x5 < 2 → (ZI T N 165 [vr (some w), vi (J x4), vi (J (1 - x5))] h (fun x_5 h_4 => (∃ a_8, (gr h w 13) = some a_8 ∧ T a_8 = 22 ∧ (0 ≤ x_5 ∧ x_5 < (N a_8 : Int) ∧ x_5 < 2147483648) ∧ ZI T N 166 [vr (some w), vi (J x4)] h_4 (fun x_14 h_13 => (ZI T N 165 [vr (some w), vi (J x4), vi (J x5)] h_13 (fun x_18 h_17 => (∃ a_23, (gr h_17 w 13) = some a_23 ∧ T a_23 = 22 ∧ (0 ≤ x_18 ∧ x_18 < (N a_23 : Int) ∧ x_18 < 2147483648) ∧ In ((ai h_4 a_8 x_5) + x_14) ∧ ((((ai h_4 a_8 x_5) + x_14) < (ai h_17 a_23 x_18) → (∀ h_39, h_39 = wi h_17 a_23 x_18 ((ai h_4 a_8 x_5) + x_14) → ZW T N 184 100 [some (vr (some w)), some (vi (J x1)), none, some (vi (J x3)), some (vi (J x4)), some (vi (J (x5 + 1))), none, none] [] h_39 K)) ∧ (¬ (((ai h_4 a_8 x_5) + x_14) < (ai h_17 a_23 x_18)) → (∃ a_31, (gr h_17 w 13) = some a_31 ∧ T a_31 = 22 ∧ (0 ≤ x_18 ∧ x_18 < (N a_31 : Int) ∧ x_18 < 2147483648) ∧ ∀ h_36, h_36 = wi h_17 a_23 x_18 (ai h_17 a_31 x_18) → ZW T N 184 100 [some (vr (some w)), some (vi (J x1)), none, some (vi (J x3)), some (vi (J x4)), some (vi (J (x5 + 1))), none, none] [] h_36 K))))))))))) ∧ (¬ (x5 < 2) → (ZW T N 184 85 [some (vr (some w)), some (vi (J x1)), none, some (vi (J x3)), some (vi (J (x4 + 1))), none, none, none] [] h K))))) : ZW T N 184 100 [some (vr (some w)), some (vi (J x1)), none, some (vi (J x3)), some (vi (J x4)), some (vi (J x5)), none, none] [] h K := by
  show WP T N 184 100 [some (vr (some w)), some (vi (J x1)), none, some (vi (J x3)), some (vi (J x4)), some (vi (J x5)), none, none] [] h _
  refine R_ps 2 (pc2 := 103) (L2 := [some (vr (some w)), some (vi (J x1)), none, some (vi (J x3)), some (vi (J x4)), some (vi (J x5)), none, none]) (st2 := [vi (J 2), vi (J x5)]) rfl ?_
  refine R_zif (x := x5) (z := 2) rfl r5 (by decide) (fun c_1 => ?_) (fun c_1 => ?_)
  · have k := k.2 c_1
    refine R_ps 2 (pc2 := 85) (L2 := [some (vr (some w)), some (vi (J x1)), none, some (vi (J x3)), some (vi ((J x4) + J 1)), some (vi (J x5)), none, none]) (st2 := []) rfl ?_
    rw [show ((J x4) + J 1) = J (x4 + 1) from J_add' rfl rfl]
    exact R_drop k (LE_of (L := [some (vr (some w)), some (vi (J x1)), none, some (vi (J x3)), some (vi (J (x4 + 1))), none, none, none]) (L2 := [some (vr (some w)), some (vi (J x1)), none, some (vi (J x3)), some (vi (J (x4 + 1))), some (vi (J x5)), none, none]) ⟨rfl, rfl, rfl, rfl, trivial⟩)
  · have k := k.1 (Classical.not_not.mp c_1)
    refine R_ps 1 (pc2 := 107) (L2 := [some (vr (some w)), some (vi (J x1)), none, some (vi (J x3)), some (vi (J x4)), some (vi (J x5)), none, none]) (st2 := [vr (some w)]) rfl ?_
    refine R_getR rfl t0 ?_
    refine R_ps 5 (pc2 := 117) (L2 := [some (vr (some w)), some (vi (J x1)), none, some (vi (J x3)), some (vi (J x4)), some (vi (J x5)), none, none]) (st2 := [vi ((J 1) - (J x5)), vi (J x4), vr (some w), vr (gr h w 13)]) rfl ?_
    rw [show ((J 1) - (J x5)) = J (1 - x5) from J_sub' rfl rfl]
    refine R_zcI (as := [vr (some w), vi (J x4), vi (J (1 - x5))]) rfl rfl ⟨Nat.le_of_ble_eq_true rfl, Nat.le_of_ble_eq_true rfl, rfl, (Or.inr ⟨_, rfl, t0⟩)⟩ rfl rfl k (fun x_5 h_4 r_6 k => ?_)
    obtain ⟨a_8, e_9, k⟩ := k
    rw [e_9]
    obtain ⟨t_10, k⟩ := k
    obtain ⟨t_11, k⟩ := k
    refine R_ziald (i := x_5) rfl (Or.inl t_10) t_11 ?_
    refine R_ps 2 (pc2 := 124) (L2 := [some (vr (some w)), some (vi (J x1)), none, some (vi (J x3)), some (vi (J x4)), some (vi (J x5)), none, none]) (st2 := [vi (J x4), vr (some w), vi (J (ai h_4 a_8 x_5))]) rfl ?_
    refine R_zcI (as := [vr (some w), vi (J x4)]) rfl rfl ⟨Nat.le_of_ble_eq_true rfl, Nat.le_of_ble_eq_true rfl, rfl, (Or.inr ⟨_, rfl, t0⟩)⟩ rfl rfl k (fun x_14 h_13 r_15 k => ?_)
    refine R_ps 5 (pc2 := 135) (L2 := [some (vr (some w)), some (vi (J x1)), none, some (vi (J x3)), some (vi (J x4)), some (vi (J x5)), some (vi ((J (ai h_4 a_8 x_5)) + (J x_14))), none]) (st2 := [vi (J x5), vi (J x4), vr (some w)]) rfl ?_
    rw [show ((J (ai h_4 a_8 x_5)) + (J x_14)) = J ((ai h_4 a_8 x_5) + x_14) from J_add' rfl rfl]
    refine R_zcI (as := [vr (some w), vi (J x4), vi (J x5)]) rfl rfl ⟨Nat.le_of_ble_eq_true rfl, Nat.le_of_ble_eq_true rfl, rfl, (Or.inr ⟨_, rfl, t0⟩)⟩ rfl rfl k (fun x_18 h_17 r_19 k => ?_)
    refine R_ps 2 (pc2 := 141) (L2 := [some (vr (some w)), some (vi (J x1)), none, some (vi (J x3)), some (vi (J x4)), some (vi (J x5)), some (vi (J ((ai h_4 a_8 x_5) + x_14))), some (vi (J x_18))]) (st2 := [vr (some w)]) rfl ?_
    refine R_getR rfl t0 ?_
    refine R_ps 3 (pc2 := 149) (L2 := [some (vr (some w)), some (vi (J x1)), none, some (vi (J x3)), some (vi (J x4)), some (vi (J x5)), some (vi (J ((ai h_4 a_8 x_5) + x_14))), some (vi (J x_18))]) (st2 := [vr (some w), vi (J ((ai h_4 a_8 x_5) + x_14)), vi (J x_18), vr (gr h_17 w 13)]) rfl ?_
    refine R_getR rfl t0 ?_
    refine R_ps 1 (pc2 := 154) (L2 := [some (vr (some w)), some (vi (J x1)), none, some (vi (J x3)), some (vi (J x4)), some (vi (J x5)), some (vi (J ((ai h_4 a_8 x_5) + x_14))), some (vi (J x_18))]) (st2 := [vi (J x_18), vr (gr h_17 w 13), vi (J ((ai h_4 a_8 x_5) + x_14)), vi (J x_18), vr (gr h_17 w 13)]) rfl ?_
    obtain ⟨a_23, e_24, k⟩ := k
    rw [e_24]
    obtain ⟨t_25, k⟩ := k
    obtain ⟨t_26, k⟩ := k
    refine R_ziald (i := x_18) rfl (Or.inl t_25) t_26 ?_
    obtain ⟨t_28, k⟩ := k
    refine R_zif (x := (ai h_4 a_8 x_5) + x_14) (z := ai h_17 a_23 x_18) rfl t_28 (ai_in _ _ _) (fun c_27 => ?_) (fun c_27 => ?_)
    · have k := k.2 c_27
      refine R_ps 1 (pc2 := 164) (L2 := [some (vr (some w)), some (vi (J x1)), none, some (vi (J x3)), some (vi (J x4)), some (vi (J x5)), some (vi (J ((ai h_4 a_8 x_5) + x_14))), some (vi (J x_18))]) (st2 := [vr (some w), vi (J x_18), vr (some a_23)]) rfl ?_
      refine R_getR rfl t0 ?_
      refine R_ps 1 (pc2 := 169) (L2 := [some (vr (some w)), some (vi (J x1)), none, some (vi (J x3)), some (vi (J x4)), some (vi (J x5)), some (vi (J ((ai h_4 a_8 x_5) + x_14))), some (vi (J x_18))]) (st2 := [vi (J x_18), vr (gr h_17 w 13), vi (J x_18), vr (some a_23)]) rfl ?_
      obtain ⟨a_31, e_32, k⟩ := k
      rw [e_32]
      obtain ⟨t_33, k⟩ := k
      obtain ⟨t_34, k⟩ := k
      refine R_ziald (i := x_18) rfl (Or.inl t_33) t_34 ?_
      refine R_ziast (i := x_18) (x := ai h_17 a_31 x_18) rfl t_25 t_26  ?_
      show WP T N _ _ _ _ (wi h_17 a_23 x_18 (ai h_17 a_31 x_18)) _
      generalize e_37 : wi h_17 a_23 x_18 (ai h_17 a_31 x_18) = h_36
      replace k := k h_36 e_37.symm
      refine R_ps 2 (pc2 := 100) (L2 := [some (vr (some w)), some (vi (J x1)), none, some (vi (J x3)), some (vi (J x4)), some (vi ((J x5) + J 1)), some (vi (J ((ai h_4 a_8 x_5) + x_14))), some (vi (J x_18))]) (st2 := []) rfl ?_
      rw [show ((J x5) + J 1) = J (x5 + 1) from J_add' rfl rfl]
      exact R_drop k (LE_of (L := [some (vr (some w)), some (vi (J x1)), none, some (vi (J x3)), some (vi (J x4)), some (vi (J (x5 + 1))), none, none]) (L2 := [some (vr (some w)), some (vi (J x1)), none, some (vi (J x3)), some (vi (J x4)), some (vi (J (x5 + 1))), some (vi (J ((ai h_4 a_8 x_5) + x_14))), some (vi (J x_18))]) ⟨rfl, rfl, rfl, rfl, rfl, trivial⟩)
    · have k := k.1 (Classical.not_not.mp c_27)
      refine R_ps 2 (pc2 := 170) (L2 := [some (vr (some w)), some (vi (J x1)), none, some (vi (J x3)), some (vi (J x4)), some (vi (J x5)), some (vi (J ((ai h_4 a_8 x_5) + x_14))), some (vi (J x_18))]) (st2 := [vi (J ((ai h_4 a_8 x_5) + x_14)), vi (J x_18), vr (some a_23)]) rfl ?_
      refine R_ziast (i := x_18) (x := (ai h_4 a_8 x_5) + x_14) rfl t_25 t_26  ?_
      show WP T N _ _ _ _ (wi h_17 a_23 x_18 ((ai h_4 a_8 x_5) + x_14)) _
      generalize e_40 : wi h_17 a_23 x_18 ((ai h_4 a_8 x_5) + x_14) = h_39
      replace k := k h_39 e_40.symm
      refine R_ps 2 (pc2 := 100) (L2 := [some (vr (some w)), some (vi (J x1)), none, some (vi (J x3)), some (vi (J x4)), some (vi ((J x5) + J 1)), some (vi (J ((ai h_4 a_8 x_5) + x_14))), some (vi (J x_18))]) (st2 := []) rfl ?_
      rw [show ((J x5) + J 1) = J (x5 + 1) from J_add' rfl rfl]
      exact R_drop k (LE_of (L := [some (vr (some w)), some (vi (J x1)), none, some (vi (J x3)), some (vi (J x4)), some (vi (J (x5 + 1))), none, none]) (L2 := [some (vr (some w)), some (vi (J x1)), none, some (vi (J x3)), some (vi (J x4)), some (vi (J (x5 + 1))), some (vi (J ((ai h_4 a_8 x_5) + x_14))), some (vi (J x_18))]) ⟨rfl, rfl, rfl, rfl, rfl, trivial⟩)
/-- DroneCorridorsModel.count -/
theorem z185 {T N : Nat → Nat} {h : PH} {w : Nat} {x1 : Int} {K : Int → PH → Prop} (t0 : T w = 12) (r1 : In x1) (k : (ZI T N 158 [vi (J x1), vi (J 0), vi (J 8)] h (fun x_3 h_2 => (((x_3 = 0 → (∀ h_7, h_7 = wi h_2 w 0 1 → (((ai h_7 w 0) = 1 → (K 0 h_7)) ∧ (¬ ((ai h_7 w 0) = 1) → (((x1 < 5 → (((x1 = 0 → (∃ a_42, (gr h_7 w 1) = some a_42 ∧ T a_42 = 22 ∧ (0 ≤ (0 : Int) ∧ (0 : Int) < (N a_42 : Int) ∧ (0 : Int) < 2147483648) ∧ K (ai h_7 a_42 0) h_7)) ∧ (¬ (x1 = 0) → (((x1 = 1 → (∃ a_36, (gr h_7 w 1) = some a_36 ∧ T a_36 = 22 ∧ (0 ≤ (11 : Int) ∧ (11 : Int) < (N a_36 : Int) ∧ (11 : Int) < 2147483648) ∧ K (ai h_7 a_36 11) h_7)) ∧ (¬ (x1 = 1) → (((x1 = 2 → (∃ a_30, (gr h_7 w 1) = some a_30 ∧ T a_30 = 22 ∧ (0 ≤ (117 : Int) ∧ (117 : Int) < (N a_30 : Int) ∧ (117 : Int) < 2147483648) ∧ K (ai h_7 a_30 117) h_7)) ∧ (¬ (x1 = 2) → (((x1 = 3 → (∃ a_24, (gr h_7 w 1) = some a_24 ∧ T a_24 = 22 ∧ (0 ≤ (76 : Int) ∧ (76 : Int) < (N a_24 : Int) ∧ (76 : Int) < 2147483648) ∧ K (ai h_7 a_24 76) h_7)) ∧ (¬ (x1 = 3) → (∃ a_18, (gr h_7 w 1) = some a_18 ∧ T a_18 = 22 ∧ (0 ≤ (448 : Int) ∧ (448 : Int) < (N a_18 : Int) ∧ (448 : Int) < 2147483648) ∧ K (ai h_7 a_18 448) h_7)))))))))))))) ∧ (¬ (x1 < 5) → (ZW T N 185 85 [some (vr (some w)), some (vi (J x1)), some (vi (J 0)), some (vi (J 0))] [] h_7 K)))))))) ∧ (¬ (x_3 = 0) → (∀ h_49, h_49 = wi h_2 w 0 0 → (((ai h_49 w 0) = 1 → (K 0 h_49)) ∧ (¬ ((ai h_49 w 0) = 1) → (((x1 < 5 → (((x1 = 0 → (∃ a_84, (gr h_49 w 1) = some a_84 ∧ T a_84 = 22 ∧ (0 ≤ (0 : Int) ∧ (0 : Int) < (N a_84 : Int) ∧ (0 : Int) < 2147483648) ∧ K (ai h_49 a_84 0) h_49)) ∧ (¬ (x1 = 0) → (((x1 = 1 → (∃ a_78, (gr h_49 w 1) = some a_78 ∧ T a_78 = 22 ∧ (0 ≤ (11 : Int) ∧ (11 : Int) < (N a_78 : Int) ∧ (11 : Int) < 2147483648) ∧ K (ai h_49 a_78 11) h_49)) ∧ (¬ (x1 = 1) → (((x1 = 2 → (∃ a_72, (gr h_49 w 1) = some a_72 ∧ T a_72 = 22 ∧ (0 ≤ (117 : Int) ∧ (117 : Int) < (N a_72 : Int) ∧ (117 : Int) < 2147483648) ∧ K (ai h_49 a_72 117) h_49)) ∧ (¬ (x1 = 2) → (((x1 = 3 → (∃ a_66, (gr h_49 w 1) = some a_66 ∧ T a_66 = 22 ∧ (0 ≤ (76 : Int) ∧ (76 : Int) < (N a_66 : Int) ∧ (76 : Int) < 2147483648) ∧ K (ai h_49 a_66 76) h_49)) ∧ (¬ (x1 = 3) → (∃ a_60, (gr h_49 w 1) = some a_60 ∧ T a_60 = 22 ∧ (0 ≤ (448 : Int) ∧ (448 : Int) < (N a_60 : Int) ∧ (448 : Int) < 2147483648) ∧ K (ai h_49 a_60 448) h_49)))))))))))))) ∧ (¬ (x1 < 5) → (ZW T N 185 85 [some (vr (some w)), some (vi (J x1)), some (vi (J 0)), some (vi (J 0))] [] h_49 K))))))))))))) : ZI T N 185 [vr (some w), vi (J x1)] h K := by
  show WP T N 185 0 [some (vr (some w)), some (vi (J x1)), none, none] [] h _
  refine R_ps 4 (pc2 := 5) (L2 := [some (vr (some w)), some (vi (J x1)), none, none]) (st2 := [vi (J 8), vi (J 0), vi (J x1), vr (some w)]) rfl ?_
  refine R_zcI (as := [vi (J x1), vi (J 0), vi (J 8)]) rfl rfl ⟨Nat.le_of_ble_eq_true rfl, Nat.le_of_ble_eq_true rfl, rfl, (Or.inl rfl)⟩ rfl rfl k (fun x_3 h_2 r_4 k => ?_)
  refine R_zif0 (x := x_3) rfl r_4 (fun c_5 => ?_) (fun c_5 => ?_)
  · have k := k.1 c_5
    refine R_ps 1 (pc2 := 16) (L2 := [some (vr (some w)), some (vi (J x1)), none, none]) (st2 := [vi (J 1), vr (some w)]) rfl ?_
    refine R_zputI (x := 1) (z := 0) rfl t0 rfl ?_
    show WP T N _ _ _ _ (wi h_2 w 0 1) _
    generalize e_8 : wi h_2 w 0 1 = h_7
    replace k := k h_7 e_8.symm
    refine R_ps 1 (pc2 := 20) (L2 := [some (vr (some w)), some (vi (J x1)), none, none]) (st2 := [vr (some w)]) rfl ?_
    refine R_zgetI (z := 0) rfl t0 rfl ?_
    refine R_ps 1 (pc2 := 24) (L2 := [some (vr (some w)), some (vi (J x1)), none, none]) (st2 := [vi (J 1), vi (J (ai h_7 w 0))]) rfl ?_
    refine R_zif (x := ai h_7 w 0) (z := 1) rfl (ai_in _ _ _) (by decide) (fun c_10 => ?_) (fun c_10 => ?_)
    · have k := k.2 c_10
      refine R_ps 2 (pc2 := 31) (L2 := [some (vr (some w)), some (vi (J x1)), none, none]) (st2 := [vi (J 5), vi (J x1)]) rfl ?_
      refine R_zif (x := x1) (z := 5) rfl r1 (by decide) (fun c_11 => ?_) (fun c_11 => ?_)
      · have k := k.2 c_11
        refine R_ps 4 (pc2 := 85) (L2 := [some (vr (some w)), some (vi (J x1)), some (vi (J 0)), some (vi (J 0))]) (st2 := []) rfl ?_
        exact k
      · have k := k.1 (Classical.not_not.mp c_11)
        refine R_ps 1 (pc2 := 35) (L2 := [some (vr (some w)), some (vi (J x1)), none, none]) (st2 := [vr (some w)]) rfl ?_
        refine R_getR rfl t0 ?_
        refine R_ps 1 (pc2 := 39) (L2 := [some (vr (some w)), some (vi (J x1)), none, none]) (st2 := [vi (J x1), vr (gr h_7 w 1)]) rfl ?_
        refine R_zif0 (x := x1) rfl r1 (fun c_13 => ?_) (fun c_13 => ?_)
        · have k := k.2 c_13
          refine R_ps 2 (pc2 := 48) (L2 := [some (vr (some w)), some (vi (J x1)), none, none]) (st2 := [vi (J 1), vi (J x1), vr (gr h_7 w 1)]) rfl ?_
          refine R_zif (x := x1) (z := 1) rfl r1 (by decide) (fun c_14 => ?_) (fun c_14 => ?_)
          · have k := k.2 c_14
            refine R_ps 2 (pc2 := 58) (L2 := [some (vr (some w)), some (vi (J x1)), none, none]) (st2 := [vi (J 2), vi (J x1), vr (gr h_7 w 1)]) rfl ?_
            refine R_zif (x := x1) (z := 2) rfl r1 (by decide) (fun c_15 => ?_) (fun c_15 => ?_)
            · have k := k.2 c_15
              refine R_ps 2 (pc2 := 68) (L2 := [some (vr (some w)), some (vi (J x1)), none, none]) (st2 := [vi (J 3), vi (J x1), vr (gr h_7 w 1)]) rfl ?_
              refine R_zif (x := x1) (z := 3) rfl r1 (by decide) (fun c_16 => ?_) (fun c_16 => ?_)
              · have k := k.2 c_16
                refine R_ps 1 (pc2 := 79) (L2 := [some (vr (some w)), some (vi (J x1)), none, none]) (st2 := [vi (J 448), vr (gr h_7 w 1)]) rfl ?_
                obtain ⟨a_18, e_19, k⟩ := k
                rw [e_19]
                obtain ⟨t_20, k⟩ := k
                obtain ⟨t_21, k⟩ := k
                refine R_ziald (i := 448) rfl (Or.inl t_20) t_21 ?_
                exact R_iret rfl rfl (R_zr (x := ai h_7 a_18 448) (K := K) (ai_in _ _ _) k)
              · have k := k.1 (Classical.not_not.mp c_16)
                refine R_ps 2 (pc2 := 79) (L2 := [some (vr (some w)), some (vi (J x1)), none, none]) (st2 := [vi (J 76), vr (gr h_7 w 1)]) rfl ?_
                obtain ⟨a_24, e_25, k⟩ := k
                rw [e_25]
                obtain ⟨t_26, k⟩ := k
                obtain ⟨t_27, k⟩ := k
                refine R_ziald (i := 76) rfl (Or.inl t_26) t_27 ?_
                exact R_iret rfl rfl (R_zr (x := ai h_7 a_24 76) (K := K) (ai_in _ _ _) k)
            · have k := k.1 (Classical.not_not.mp c_15)
              refine R_ps 2 (pc2 := 79) (L2 := [some (vr (some w)), some (vi (J x1)), none, none]) (st2 := [vi (J 117), vr (gr h_7 w 1)]) rfl ?_
              obtain ⟨a_30, e_31, k⟩ := k
              rw [e_31]
              obtain ⟨t_32, k⟩ := k
              obtain ⟨t_33, k⟩ := k
              refine R_ziald (i := 117) rfl (Or.inl t_32) t_33 ?_
              exact R_iret rfl rfl (R_zr (x := ai h_7 a_30 117) (K := K) (ai_in _ _ _) k)
          · have k := k.1 (Classical.not_not.mp c_14)
            refine R_ps 2 (pc2 := 79) (L2 := [some (vr (some w)), some (vi (J x1)), none, none]) (st2 := [vi (J 11), vr (gr h_7 w 1)]) rfl ?_
            obtain ⟨a_36, e_37, k⟩ := k
            rw [e_37]
            obtain ⟨t_38, k⟩ := k
            obtain ⟨t_39, k⟩ := k
            refine R_ziald (i := 11) rfl (Or.inl t_38) t_39 ?_
            exact R_iret rfl rfl (R_zr (x := ai h_7 a_36 11) (K := K) (ai_in _ _ _) k)
        · have k := k.1 (Classical.not_not.mp c_13)
          refine R_ps 2 (pc2 := 79) (L2 := [some (vr (some w)), some (vi (J x1)), none, none]) (st2 := [vi (J 0), vr (gr h_7 w 1)]) rfl ?_
          obtain ⟨a_42, e_43, k⟩ := k
          rw [e_43]
          obtain ⟨t_44, k⟩ := k
          obtain ⟨t_45, k⟩ := k
          refine R_ziald (i := 0) rfl (Or.inl t_44) t_45 ?_
          exact R_iret rfl rfl (R_zr (x := ai h_7 a_42 0) (K := K) (ai_in _ _ _) k)
    · have k := k.1 (Classical.not_not.mp c_10)
      refine R_ps 1 (pc2 := 28) (L2 := [some (vr (some w)), some (vi (J x1)), none, none]) (st2 := [vi (J 0)]) rfl ?_
      exact R_iret rfl rfl (R_zr (x := 0) (K := K) (by decide) k)
  · have k := k.2 c_5
    refine R_ps 2 (pc2 := 16) (L2 := [some (vr (some w)), some (vi (J x1)), none, none]) (st2 := [vi (J 0), vr (some w)]) rfl ?_
    refine R_zputI (x := 0) (z := 0) rfl t0 rfl ?_
    show WP T N _ _ _ _ (wi h_2 w 0 0) _
    generalize e_50 : wi h_2 w 0 0 = h_49
    replace k := k h_49 e_50.symm
    refine R_ps 1 (pc2 := 20) (L2 := [some (vr (some w)), some (vi (J x1)), none, none]) (st2 := [vr (some w)]) rfl ?_
    refine R_zgetI (z := 0) rfl t0 rfl ?_
    refine R_ps 1 (pc2 := 24) (L2 := [some (vr (some w)), some (vi (J x1)), none, none]) (st2 := [vi (J 1), vi (J (ai h_49 w 0))]) rfl ?_
    refine R_zif (x := ai h_49 w 0) (z := 1) rfl (ai_in _ _ _) (by decide) (fun c_52 => ?_) (fun c_52 => ?_)
    · have k := k.2 c_52
      refine R_ps 2 (pc2 := 31) (L2 := [some (vr (some w)), some (vi (J x1)), none, none]) (st2 := [vi (J 5), vi (J x1)]) rfl ?_
      refine R_zif (x := x1) (z := 5) rfl r1 (by decide) (fun c_53 => ?_) (fun c_53 => ?_)
      · have k := k.2 c_53
        refine R_ps 4 (pc2 := 85) (L2 := [some (vr (some w)), some (vi (J x1)), some (vi (J 0)), some (vi (J 0))]) (st2 := []) rfl ?_
        exact k
      · have k := k.1 (Classical.not_not.mp c_53)
        refine R_ps 1 (pc2 := 35) (L2 := [some (vr (some w)), some (vi (J x1)), none, none]) (st2 := [vr (some w)]) rfl ?_
        refine R_getR rfl t0 ?_
        refine R_ps 1 (pc2 := 39) (L2 := [some (vr (some w)), some (vi (J x1)), none, none]) (st2 := [vi (J x1), vr (gr h_49 w 1)]) rfl ?_
        refine R_zif0 (x := x1) rfl r1 (fun c_55 => ?_) (fun c_55 => ?_)
        · have k := k.2 c_55
          refine R_ps 2 (pc2 := 48) (L2 := [some (vr (some w)), some (vi (J x1)), none, none]) (st2 := [vi (J 1), vi (J x1), vr (gr h_49 w 1)]) rfl ?_
          refine R_zif (x := x1) (z := 1) rfl r1 (by decide) (fun c_56 => ?_) (fun c_56 => ?_)
          · have k := k.2 c_56
            refine R_ps 2 (pc2 := 58) (L2 := [some (vr (some w)), some (vi (J x1)), none, none]) (st2 := [vi (J 2), vi (J x1), vr (gr h_49 w 1)]) rfl ?_
            refine R_zif (x := x1) (z := 2) rfl r1 (by decide) (fun c_57 => ?_) (fun c_57 => ?_)
            · have k := k.2 c_57
              refine R_ps 2 (pc2 := 68) (L2 := [some (vr (some w)), some (vi (J x1)), none, none]) (st2 := [vi (J 3), vi (J x1), vr (gr h_49 w 1)]) rfl ?_
              refine R_zif (x := x1) (z := 3) rfl r1 (by decide) (fun c_58 => ?_) (fun c_58 => ?_)
              · have k := k.2 c_58
                refine R_ps 1 (pc2 := 79) (L2 := [some (vr (some w)), some (vi (J x1)), none, none]) (st2 := [vi (J 448), vr (gr h_49 w 1)]) rfl ?_
                obtain ⟨a_60, e_61, k⟩ := k
                rw [e_61]
                obtain ⟨t_62, k⟩ := k
                obtain ⟨t_63, k⟩ := k
                refine R_ziald (i := 448) rfl (Or.inl t_62) t_63 ?_
                exact R_iret rfl rfl (R_zr (x := ai h_49 a_60 448) (K := K) (ai_in _ _ _) k)
              · have k := k.1 (Classical.not_not.mp c_58)
                refine R_ps 2 (pc2 := 79) (L2 := [some (vr (some w)), some (vi (J x1)), none, none]) (st2 := [vi (J 76), vr (gr h_49 w 1)]) rfl ?_
                obtain ⟨a_66, e_67, k⟩ := k
                rw [e_67]
                obtain ⟨t_68, k⟩ := k
                obtain ⟨t_69, k⟩ := k
                refine R_ziald (i := 76) rfl (Or.inl t_68) t_69 ?_
                exact R_iret rfl rfl (R_zr (x := ai h_49 a_66 76) (K := K) (ai_in _ _ _) k)
            · have k := k.1 (Classical.not_not.mp c_57)
              refine R_ps 2 (pc2 := 79) (L2 := [some (vr (some w)), some (vi (J x1)), none, none]) (st2 := [vi (J 117), vr (gr h_49 w 1)]) rfl ?_
              obtain ⟨a_72, e_73, k⟩ := k
              rw [e_73]
              obtain ⟨t_74, k⟩ := k
              obtain ⟨t_75, k⟩ := k
              refine R_ziald (i := 117) rfl (Or.inl t_74) t_75 ?_
              exact R_iret rfl rfl (R_zr (x := ai h_49 a_72 117) (K := K) (ai_in _ _ _) k)
          · have k := k.1 (Classical.not_not.mp c_56)
            refine R_ps 2 (pc2 := 79) (L2 := [some (vr (some w)), some (vi (J x1)), none, none]) (st2 := [vi (J 11), vr (gr h_49 w 1)]) rfl ?_
            obtain ⟨a_78, e_79, k⟩ := k
            rw [e_79]
            obtain ⟨t_80, k⟩ := k
            obtain ⟨t_81, k⟩ := k
            refine R_ziald (i := 11) rfl (Or.inl t_80) t_81 ?_
            exact R_iret rfl rfl (R_zr (x := ai h_49 a_78 11) (K := K) (ai_in _ _ _) k)
        · have k := k.1 (Classical.not_not.mp c_55)
          refine R_ps 2 (pc2 := 79) (L2 := [some (vr (some w)), some (vi (J x1)), none, none]) (st2 := [vi (J 0), vr (gr h_49 w 1)]) rfl ?_
          obtain ⟨a_84, e_85, k⟩ := k
          rw [e_85]
          obtain ⟨t_86, k⟩ := k
          obtain ⟨t_87, k⟩ := k
          refine R_ziald (i := 0) rfl (Or.inl t_86) t_87 ?_
          exact R_iret rfl rfl (R_zr (x := ai h_49 a_84 0) (K := K) (ai_in _ _ _) k)
    · have k := k.1 (Classical.not_not.mp c_52)
      refine R_ps 1 (pc2 := 28) (L2 := [some (vr (some w)), some (vi (J x1)), none, none]) (st2 := [vi (J 0)]) rfl ?_
      exact R_iret rfl rfl (R_zr (x := 0) (K := K) (by decide) k)
theorem z185_85 {T N : Nat → Nat} {h : PH} {w : Nat} {x1 : Int} {x2 : Int} {x3 : Int} {K : Int → PH → Prop} (t0 : T w = 12) (r1 : In x1) (r2 : In x2) (r3 : In x3) (k : (∃ a_3, (gr h w 1) = some a_3 ∧ T a_3 = 22 ∧ (0 ≤ (117 : Int) ∧ (117 : Int) < (N a_3 : Int) ∧ (117 : Int) < 2147483648) ∧ ((x3 < (ai h a_3 117) → (ZI T N 168 [vr (some w), vi (J x3), vi (J 0)] h (fun x_11 h_10 => (In (x1 - 5) ∧ ((x_11 = (x1 - 5) → (ZW T N 185 85 [some (vr (some w)), some (vi (J x1)), some (vi (J (x2 + 1))), some (vi (J (x3 + 1)))] [] h_10 K)) ∧ (¬ (x_11 = (x1 - 5)) → (ZW T N 185 85 [some (vr (some w)), some (vi (J x1)), some (vi (J (x2 + 0))), some (vi (J (x3 + 1)))] [] h_10 K))))))) ∧ (¬ (x3 < (ai h a_3 117)) → (K x2 h))))) : ZW T N 185 85 [some (vr (some w)), some (vi (J x1)), some (vi (J x2)), some (vi (J x3))] [] h K := by
  show WP T N 185 85 [some (vr (some w)), some (vi (J x1)), some (vi (J x2)), some (vi (J x3))] [] h _
  refine R_ps 2 (pc2 := 87) (L2 := [some (vr (some w)), some (vi (J x1)), some (vi (J x2)), some (vi (J x3))]) (st2 := [vr (some w), vi (J x3)]) rfl ?_
  refine R_getR rfl t0 ?_
  refine R_ps 1 (pc2 := 92) (L2 := [some (vr (some w)), some (vi (J x1)), some (vi (J x2)), some (vi (J x3))]) (st2 := [vi (J 117), vr (gr h w 1), vi (J x3)]) rfl ?_
  obtain ⟨a_3, e_4, k⟩ := k
  rw [e_4]
  obtain ⟨t_5, k⟩ := k
  obtain ⟨t_6, k⟩ := k
  refine R_ziald (i := 117) rfl (Or.inl t_5) t_6 ?_
  refine R_zif (x := x3) (z := ai h a_3 117) rfl r3 (ai_in _ _ _) (fun c_7 => ?_) (fun c_7 => ?_)
  · have k := k.2 c_7
    refine R_ps 1 (pc2 := 123) (L2 := [some (vr (some w)), some (vi (J x1)), some (vi (J x2)), some (vi (J x3))]) (st2 := [vi (J x2)]) rfl ?_
    exact R_iret rfl rfl (R_zr (x := x2) (K := K) r2 k)
  · have k := k.1 (Classical.not_not.mp c_7)
    refine R_ps 4 (pc2 := 100) (L2 := [some (vr (some w)), some (vi (J x1)), some (vi (J x2)), some (vi (J x3))]) (st2 := [vi (J 0), vi (J x3), vr (some w), vi (J x2)]) rfl ?_
    refine R_zcI (as := [vr (some w), vi (J x3), vi (J 0)]) rfl rfl ⟨Nat.le_of_ble_eq_true rfl, Nat.le_of_ble_eq_true rfl, rfl, (Or.inr ⟨_, rfl, t0⟩)⟩ rfl rfl k (fun x_11 h_10 r_12 k => ?_)
    refine R_ps 3 (pc2 := 106) (L2 := [some (vr (some w)), some (vi (J x1)), some (vi (J x2)), some (vi (J x3))]) (st2 := [vi ((J x1) - (J 5)), vi (J x_11), vi (J x2)]) rfl ?_
    rw [show ((J x1) - (J 5)) = J (x1 - 5) from J_sub' rfl rfl]
    obtain ⟨t_14, k⟩ := k
    refine R_zif (x := x_11) (z := x1 - 5) rfl r_12 t_14 (fun c_13 => ?_) (fun c_13 => ?_)
    · have k := k.2 c_13
      refine R_ps 5 (pc2 := 85) (L2 := [some (vr (some w)), some (vi (J x1)), some (vi ((J x2) + (J 0))), some (vi ((J x3) + J 1))]) (st2 := []) rfl ?_
      rw [show ((J x2) + (J 0)) = J (x2 + 0) from J_add' rfl rfl]
      rw [show ((J x3) + J 1) = J (x3 + 1) from J_add' rfl rfl]
      exact k
    · have k := k.1 (Classical.not_not.mp c_13)
      refine R_ps 6 (pc2 := 85) (L2 := [some (vr (some w)), some (vi (J x1)), some (vi ((J x2) + (J 1))), some (vi ((J x3) + J 1))]) (st2 := []) rfl ?_
      rw [show ((J x2) + (J 1)) = J (x2 + 1) from J_add' rfl rfl]
      rw [show ((J x3) + J 1) = J (x3 + 1) from J_add' rfl rfl]
      exact k
/-- DroneCorridorsModel.leg -/
theorem z186 {T N : Nat → Nat} {h : PH} {w : Nat} {x1 : Int} {x2 : Int} {K : Int → PH → Prop} (t0 : T w = 12) (r1 : In x1) (r2 : In x2) (k : (ZI T N 168 [vr (some w), vi (J x1), vi (J (13 + x2))] h (fun x_3 h_2 => (K x_3 h_2)))) : ZI T N 186 [vr (some w), vi (J x1), vi (J x2)] h K := by
  show WP T N 186 0 [some (vr (some w)), some (vi (J x1)), some (vi (J x2))] [] h _
  refine R_ps 5 (pc2 := 6) (L2 := [some (vr (some w)), some (vi (J x1)), some (vi (J x2))]) (st2 := [vi ((J 13) + (J x2)), vi (J x1), vr (some w)]) rfl ?_
  rw [show ((J 13) + (J x2)) = J (13 + x2) from J_add' rfl rfl]
  refine R_zcI (as := [vr (some w), vi (J x1), vi (J (13 + x2))]) rfl rfl ⟨Nat.le_of_ble_eq_true rfl, Nat.le_of_ble_eq_true rfl, rfl, (Or.inr ⟨_, rfl, t0⟩)⟩ rfl rfl k (fun x_3 h_2 r_4 k => ?_)
  exact R_iret rfl rfl (R_zr (x := x_3) (K := K) r_4 k)
/-- DroneCorridorsModel.corridorOf -/
theorem z187 {T N : Nat → Nat} {h : PH} {x0 : Int} {K : Int → PH → Prop} (r0 : In x0) (k : ((0 ≤ x0 ∧ x0 < 2147483648) ∧ In (x0 % 16) ∧ K (x0 % 16) h)) : ZI T N 187 [vi (J x0)] h K := by
  show WP T N 187 0 [some (vi (J x0))] [] h _
  refine R_ps 2 (pc2 := 3) (L2 := [some (vi (J x0))]) (st2 := [vi (J 16), vi (J x0)]) rfl ?_
  obtain ⟨t_2, k⟩ := k
  refine R_zrem (x := x0) (z := 16) rfl (by decide) t_2 ?_
  obtain ⟨t_4, k⟩ := k
  exact R_iret rfl rfl (R_zr (x := x0 % 16) (K := K) t_4 k)
/-- DroneCorridorsModel.wayOf -/
theorem z188 {T N : Nat → Nat} {h : PH} {x0 : Int} {K : Int → PH → Prop} (r0 : In x0) (k : ((0 ≤ x0 ∧ x0 < 2147483648) ∧ (0 ≤ (x0 / 16) ∧ (x0 / 16) < 2147483648) ∧ In ((x0 / 16) % 2) ∧ K ((x0 / 16) % 2) h)) : ZI T N 188 [vi (J x0)] h K := by
  show WP T N 188 0 [some (vi (J x0))] [] h _
  refine R_ps 2 (pc2 := 3) (L2 := [some (vi (J x0))]) (st2 := [vi (J 16), vi (J x0)]) rfl ?_
  obtain ⟨t_2, k⟩ := k
  refine R_zdiv (x := x0) (z := 16) rfl (by decide) t_2 ?_
  refine R_ps 1 (pc2 := 5) (L2 := [some (vi (J x0))]) (st2 := [vi (J 2), vi (J (x0 / 16))]) rfl ?_
  obtain ⟨t_4, k⟩ := k
  refine R_zrem (x := x0 / 16) (z := 2) rfl (by decide) t_4 ?_
  obtain ⟨t_6, k⟩ := k
  exact R_iret rfl rfl (R_zr (x := (x0 / 16) % 2) (K := K) t_6 k)
/-- DroneCorridorsModel.layerOf -/
theorem z189 {T N : Nat → Nat} {h : PH} {x0 : Int} {K : Int → PH → Prop} (r0 : In x0) (k : ((0 ≤ x0 ∧ x0 < 2147483648) ∧ (0 ≤ (x0 / 32) ∧ (x0 / 32) < 2147483648) ∧ In ((x0 / 32) % 4) ∧ K ((x0 / 32) % 4) h)) : ZI T N 189 [vi (J x0)] h K := by
  show WP T N 189 0 [some (vi (J x0))] [] h _
  refine R_ps 2 (pc2 := 3) (L2 := [some (vi (J x0))]) (st2 := [vi (J 32), vi (J x0)]) rfl ?_
  obtain ⟨t_2, k⟩ := k
  refine R_zdiv (x := x0) (z := 32) rfl (by decide) t_2 ?_
  refine R_ps 1 (pc2 := 5) (L2 := [some (vi (J x0))]) (st2 := [vi (J 4), vi (J (x0 / 32))]) rfl ?_
  obtain ⟨t_4, k⟩ := k
  refine R_zrem (x := x0 / 32) (z := 4) rfl (by decide) t_4 ?_
  obtain ⟨t_6, k⟩ := k
  exact R_iret rfl rfl (R_zr (x := (x0 / 32) % 4) (K := K) t_6 k)
/-- DroneCorridorsModel.startOf -/
theorem z190 {T N : Nat → Nat} {h : PH} {x0 : Int} {K : Int → PH → Prop} (r0 : In x0) (k : ((0 ≤ x0 ∧ x0 < 2147483648) ∧ In (x0 / 128) ∧ K (x0 / 128) h)) : ZI T N 190 [vi (J x0)] h K := by
  show WP T N 190 0 [some (vi (J x0))] [] h _
  refine R_ps 2 (pc2 := 4) (L2 := [some (vi (J x0))]) (st2 := [vi (J 128), vi (J x0)]) rfl ?_
  obtain ⟨t_2, k⟩ := k
  refine R_zdiv (x := x0) (z := 128) rfl (by decide) t_2 ?_
  obtain ⟨t_4, k⟩ := k
  exact R_iret rfl rfl (R_zr (x := x0 / 128) (K := K) t_4 k)
/-- DroneCorridorsModel.endOf -/
theorem z191 {T N : Nat → Nat} {h : PH} {w : Nat} {x1 : Int} {K : Int → PH → Prop} (t0 : T w = 12) (r1 : In x1) (k : (ZI T N 190 [vi (J x1)] h (fun x_3 h_2 => (ZI T N 187 [vi (J x1)] h_2 (fun x_7 h_6 => (ZI T N 166 [vr (some w), vi (J x_7)] h_6 (fun x_11 h_10 => (In (x_3 + x_11) ∧ K (x_3 + x_11) h_10)))))))) : ZI T N 191 [vr (some w), vi (J x1)] h K := by
  show WP T N 191 0 [some (vr (some w)), some (vi (J x1))] [] h _
  refine R_ps 1 (pc2 := 1) (L2 := [some (vr (some w)), some (vi (J x1))]) (st2 := [vi (J x1)]) rfl ?_
  refine R_zcI (as := [vi (J x1)]) rfl rfl ⟨Nat.le_of_ble_eq_true rfl, Nat.le_of_ble_eq_true rfl, rfl, (Or.inl rfl)⟩ rfl rfl k (fun x_3 h_2 r_4 k => ?_)
  refine R_ps 2 (pc2 := 6) (L2 := [some (vr (some w)), some (vi (J x1))]) (st2 := [vi (J x1), vr (some w), vi (J x_3)]) rfl ?_
  refine R_zcI (as := [vi (J x1)]) rfl rfl ⟨Nat.le_of_ble_eq_true rfl, Nat.le_of_ble_eq_true rfl, rfl, (Or.inl rfl)⟩ rfl rfl k (fun x_7 h_6 r_8 k => ?_)
  refine R_zcI (as := [vr (some w), vi (J x_7)]) rfl rfl ⟨Nat.le_of_ble_eq_true rfl, Nat.le_of_ble_eq_true rfl, rfl, (Or.inr ⟨_, rfl, t0⟩)⟩ rfl rfl k (fun x_11 h_10 r_12 k => ?_)
  refine R_ps 1 (pc2 := 13) (L2 := [some (vr (some w)), some (vi (J x1))]) (st2 := [vi ((J x_3) + (J x_11))]) rfl ?_
  rw [show ((J x_3) + (J x_11)) = J (x_3 + x_11) from J_add' rfl rfl]
  obtain ⟨t_14, k⟩ := k
  exact R_iret rfl rfl (R_zr (x := x_3 + x_11) (K := K) t_14 k)
/-- DroneCorridorsModel.asLeg -/
theorem z192 {T N : Nat → Nat} {h : PH} {x0 : Int} {x1 : Int} {x2 : Int} {x3 : Int} {K : Int → PH → Prop} (r0 : In x0) (r1 : In x1) (r2 : In x2) (r3 : In x3) (k : (In (((x0 + (16 * x1)) + (32 * x2)) + (128 * x3)) ∧ K (((x0 + (16 * x1)) + (32 * x2)) + (128 * x3)) h)) : ZI T N 192 [vi (J x0), vi (J x1), vi (J x2), vi (J x3)] h K := by
  show WP T N 192 0 [some (vi (J x0)), some (vi (J x1)), some (vi (J x2)), some (vi (J x3))] [] h _
  refine R_ps 13 (pc2 := 17) (L2 := [some (vi (J x0)), some (vi (J x1)), some (vi (J x2)), some (vi (J x3))]) (st2 := [vi ((((J x0) + ((J 16) * (J x1))) + ((J 32) * (J x2))) + ((J 128) * (J x3)))]) rfl ?_
  rw [show ((((J x0) + ((J 16) * (J x1))) + ((J 32) * (J x2))) + ((J 128) * (J x3))) = J (((x0 + (16 * x1)) + (32 * x2)) + (128 * x3)) from J_add' (J_add' (J_add' rfl (J_mul' rfl rfl)) (J_mul' rfl rfl)) (J_mul' rfl rfl)]
  obtain ⟨t_2, k⟩ := k
  exact R_iret rfl rfl (R_zr (x := ((x0 + (16 * x1)) + (32 * x2)) + (128 * x3)) (K := K) t_2 k)
/-- DroneCorridorsModel.ahead -/
theorem z193 {T N : Nat → Nat} {h : PH} {w : Nat} {x1 : Int} {K : Int → PH → Prop} (t0 : T w = 12) (r1 : In x1) (k : (ZI T N 168 [vr (some w), vi (J x1), vi (J 0)] h (fun x_3 h_2 => (((x_3 = 2 → (K 1 h_2)) ∧ (¬ (x_3 = 2) → (K 0 h_2))))))) : ZI T N 193 [vr (some w), vi (J x1)] h K := by
  show WP T N 193 0 [some (vr (some w)), some (vi (J x1))] [] h _
  refine R_ps 3 (pc2 := 3) (L2 := [some (vr (some w)), some (vi (J x1))]) (st2 := [vi (J 0), vi (J x1), vr (some w)]) rfl ?_
  refine R_zcI (as := [vr (some w), vi (J x1), vi (J 0)]) rfl rfl ⟨Nat.le_of_ble_eq_true rfl, Nat.le_of_ble_eq_true rfl, rfl, (Or.inr ⟨_, rfl, t0⟩)⟩ rfl rfl k (fun x_3 h_2 r_4 k => ?_)
  refine R_ps 1 (pc2 := 7) (L2 := [some (vr (some w)), some (vi (J x1))]) (st2 := [vi (J 2), vi (J x_3)]) rfl ?_
  refine R_zif (x := x_3) (z := 2) rfl r_4 (by decide) (fun c_5 => ?_) (fun c_5 => ?_)
  · have k := k.2 c_5
    refine R_ps 1 (pc2 := 15) (L2 := [some (vr (some w)), some (vi (J x1))]) (st2 := [vi (J 0)]) rfl ?_
    exact R_iret rfl rfl (R_zr (x := 0) (K := K) (by decide) k)
  · have k := k.1 (Classical.not_not.mp c_5)
    refine R_ps 2 (pc2 := 15) (L2 := [some (vr (some w)), some (vi (J x1))]) (st2 := [vi (J 1)]) rfl ?_
    exact R_iret rfl rfl (R_zr (x := 1) (K := K) (by decide) k)
/-- DroneCorridorsModel.refuses -/
theorem z194 {T N : Nat → Nat} {h : PH} {w : Nat} {x1 : Int} {x2 : Int} {K : Int → PH → Prop} (t0 : T w = 12) (r1 : In x1) (r2 : In x2) (k : (ZI T N 162 [vr (some w), vi (J x1)] h (fun x_3 h_2 => (((x_3 = 0 → (K 1 h_2)) ∧ (¬ (x_3 = 0) → (ZI T N 158 [vi (J x2), vi (J 1), vi (J 200)] h_2 (fun x_8 h_7 => (((x_8 = 0 → (K 2 h_7)) ∧ (¬ (x_8 = 0) → (∃ a_13, (gr h_7 w 1) = some a_13 ∧ T a_13 = 22 ∧ (0 ≤ (117 : Int) ∧ (117 : Int) < (N a_13 : Int) ∧ (117 : Int) < 2147483648) ∧ (((ai h_7 a_13 117) = 6 → (K 3 h_7)) ∧ (¬ ((ai h_7 a_13 117) = 6) → (K 0 h_7))))))))))))))) : ZI T N 194 [vr (some w), vi (J x1), vi (J x2)] h K := by
  show WP T N 194 0 [some (vr (some w)), some (vi (J x1)), some (vi (J x2))] [] h _
  refine R_ps 2 (pc2 := 2) (L2 := [some (vr (some w)), some (vi (J x1)), some (vi (J x2))]) (st2 := [vi (J x1), vr (some w)]) rfl ?_
  refine R_zcI (as := [vr (some w), vi (J x1)]) rfl rfl ⟨Nat.le_of_ble_eq_true rfl, Nat.le_of_ble_eq_true rfl, rfl, (Or.inr ⟨_, rfl, t0⟩)⟩ rfl rfl k (fun x_3 h_2 r_4 k => ?_)
  refine R_zif0 (x := x_3) rfl r_4 (fun c_5 => ?_) (fun c_5 => ?_)
  · have k := k.2 c_5
    refine R_ps 3 (pc2 := 17) (L2 := [some (vr (some w)), some (vi (J x1)), some (vi (J x2))]) (st2 := [vi (J 200), vi (J 1), vi (J x2)]) rfl ?_
    refine R_zcI (as := [vi (J x2), vi (J 1), vi (J 200)]) rfl rfl ⟨Nat.le_of_ble_eq_true rfl, Nat.le_of_ble_eq_true rfl, rfl, (Or.inl rfl)⟩ rfl rfl k (fun x_8 h_7 r_9 k => ?_)
    refine R_zif0 (x := x_8) rfl r_9 (fun c_10 => ?_) (fun c_10 => ?_)
    · have k := k.2 c_10
      refine R_ps 1 (pc2 := 28) (L2 := [some (vr (some w)), some (vi (J x1)), some (vi (J x2))]) (st2 := [vr (some w)]) rfl ?_
      refine R_getR rfl t0 ?_
      refine R_ps 1 (pc2 := 33) (L2 := [some (vr (some w)), some (vi (J x1)), some (vi (J x2))]) (st2 := [vi (J 117), vr (gr h_7 w 1)]) rfl ?_
      obtain ⟨a_13, e_14, k⟩ := k
      rw [e_14]
      obtain ⟨t_15, k⟩ := k
      obtain ⟨t_16, k⟩ := k
      refine R_ziald (i := 117) rfl (Or.inl t_15) t_16 ?_
      refine R_ps 1 (pc2 := 36) (L2 := [some (vr (some w)), some (vi (J x1)), some (vi (J x2))]) (st2 := [vi (J 6), vi (J (ai h_7 a_13 117))]) rfl ?_
      refine R_zif (x := ai h_7 a_13 117) (z := 6) rfl (ai_in _ _ _) (by decide) (fun c_17 => ?_) (fun c_17 => ?_)
      · have k := k.2 c_17
        refine R_ps 1 (pc2 := 44) (L2 := [some (vr (some w)), some (vi (J x1)), some (vi (J x2))]) (st2 := [vi (J 0)]) rfl ?_
        exact R_iret rfl rfl (R_zr (x := 0) (K := K) (by decide) k)
      · have k := k.1 (Classical.not_not.mp c_17)
        refine R_ps 2 (pc2 := 44) (L2 := [some (vr (some w)), some (vi (J x1)), some (vi (J x2))]) (st2 := [vi (J 3)]) rfl ?_
        exact R_iret rfl rfl (R_zr (x := 3) (K := K) (by decide) k)
    · have k := k.1 (Classical.not_not.mp c_10)
      refine R_ps 2 (pc2 := 44) (L2 := [some (vr (some w)), some (vi (J x1)), some (vi (J x2))]) (st2 := [vi (J 2)]) rfl ?_
      exact R_iret rfl rfl (R_zr (x := 2) (K := K) (by decide) k)
  · have k := k.1 (Classical.not_not.mp c_5)
    refine R_ps 2 (pc2 := 44) (L2 := [some (vr (some w)), some (vi (J x1)), some (vi (J x2))]) (st2 := [vi (J 1)]) rfl ?_
    exact R_iret rfl rfl (R_zr (x := 1) (K := K) (by decide) k)
/-- DroneCorridorsModel.addsDrone -/
theorem z195 {T N : Nat → Nat} {h : PH} {w : Nat} {x1 : Int} {x2 : Int} {K : Int → PH → Prop} (t0 : T w = 12) (r1 : In x1) (r2 : In x2) (k : (ZI T N 194 [vr (some w), vi (J x1), vi (J x2)] h (fun x_3 h_2 => (∀ h_6, h_6 = wi h_2 w 0 x_3 → ((0 < (ai h_6 w 0) → (K 0 h_6)) ∧ (¬ (0 < (ai h_6 w 0)) → (∃ a_12, (gr h_6 w 1) = some a_12 ∧ T a_12 = 22 ∧ (0 ≤ (117 : Int) ∧ (117 : Int) < (N a_12 : Int) ∧ (117 : Int) < 2147483648) ∧ ZW T N 195 30 [some (vr (some w)), some (vi (J x1)), some (vi (J x2)), some (vi (J (ai h_6 a_12 117))), some (vi (J 0))] [] h_6 K))))))) : ZI T N 195 [vr (some w), vi (J x1), vi (J x2)] h K := by
  show WP T N 195 0 [some (vr (some w)), some (vi (J x1)), some (vi (J x2)), none, none] [] h _
  refine R_ps 4 (pc2 := 4) (L2 := [some (vr (some w)), some (vi (J x1)), some (vi (J x2)), none, none]) (st2 := [vi (J x2), vi (J x1), vr (some w), vr (some w)]) rfl ?_
  refine R_zcI (as := [vr (some w), vi (J x1), vi (J x2)]) rfl rfl ⟨Nat.le_of_ble_eq_true rfl, Nat.le_of_ble_eq_true rfl, rfl, (Or.inr ⟨_, rfl, t0⟩)⟩ rfl rfl k (fun x_3 h_2 r_4 k => ?_)
  refine R_zputI (x := x_3) (z := 0) rfl t0 rfl ?_
  show WP T N _ _ _ _ (wi h_2 w 0 x_3) _
  generalize e_7 : wi h_2 w 0 x_3 = h_6
  replace k := k h_6 e_7.symm
  refine R_ps 1 (pc2 := 11) (L2 := [some (vr (some w)), some (vi (J x1)), some (vi (J x2)), none, none]) (st2 := [vr (some w)]) rfl ?_
  refine R_zgetI (z := 0) rfl t0 rfl ?_
  refine R_zif0 (x := ai h_6 w 0) rfl (ai_in _ _ _) (fun c_9 => ?_) (fun c_9 => ?_)
  · have k := k.2 c_9
    refine R_ps 1 (pc2 := 20) (L2 := [some (vr (some w)), some (vi (J x1)), some (vi (J x2)), none, none]) (st2 := [vr (some w)]) rfl ?_
    refine R_getR rfl t0 ?_
    refine R_ps 1 (pc2 := 25) (L2 := [some (vr (some w)), some (vi (J x1)), some (vi (J x2)), none, none]) (st2 := [vi (J 117), vr (gr h_6 w 1)]) rfl ?_
    obtain ⟨a_12, e_13, k⟩ := k
    rw [e_13]
    obtain ⟨t_14, k⟩ := k
    obtain ⟨t_15, k⟩ := k
    refine R_ziald (i := 117) rfl (Or.inl t_14) t_15 ?_
    refine R_ps 3 (pc2 := 30) (L2 := [some (vr (some w)), some (vi (J x1)), some (vi (J x2)), some (vi (J (ai h_6 a_12 117))), some (vi (J 0))]) (st2 := []) rfl ?_
    exact k
  · have k := k.1 (Classical.not_not.mp c_9)
    refine R_ps 1 (pc2 := 18) (L2 := [some (vr (some w)), some (vi (J x1)), some (vi (J x2)), none, none]) (st2 := [vi (J 0)]) rfl ?_
    exact R_iret rfl rfl (R_zr (x := 0) (K := K) (by decide) k)
theorem z195_30 {T N : Nat → Nat} {h : PH} {w : Nat} {x1 : Int} {x2 : Int} {x3 : Int} {x4 : Int} {K : Int → PH → Prop} (t0 : T w = 12) (r1 : In x1) (r2 : In x2) (r3 : In x3) (r4 : In x4) (k : (((x4 < 55 → (CV T N 169 [vr (some w), vi (J x3), vi (J x4), vi (J 0)] h (fun h_60 => (ZW T N 195 30 [some (vr (some w)), some (vi (J x1)), some (vi (J x2)), some (vi (J x3)), some (vi (J (x4 + 1)))] [] h_60 K)))) ∧ (¬ (x4 < 55) → (∃ a_4, (gr h w 1) = some a_4 ∧ T a_4 = 22 ∧ (0 ≤ (1 + x1) ∧ (1 + x1) < (N a_4 : Int) ∧ (1 + x1) < 2147483648) ∧ (((ai h a_4 (1 + x1)) = 1 → (CV T N 169 [vr (some w), vi (J x3), vi (J 0), vi (J 0)] h (fun h_35 => (CV T N 169 [vr (some w), vi (J x3), vi (J 1), vi (J x2)] h_35 (fun h_38 => (CV T N 169 [vr (some w), vi (J x3), vi (J 6), vi (J x2)] h_38 (fun h_41 => (CV T N 169 [vr (some w), vi (J x3), vi (J 3), vi (J x1)] h_41 (fun h_44 => (CV T N 169 [vr (some w), vi (J x3), vi (J 4), vi (J (-1))] h_44 (fun h_47 => (∃ a_51, (gr h_47 w 1) = some a_51 ∧ T a_51 = 22 ∧ (0 ≤ (117 : Int) ∧ (117 : Int) < (N a_51 : Int) ∧ (117 : Int) < 2147483648) ∧ ∀ h_56, h_56 = wi h_47 a_51 117 ((ai h_47 a_51 117) + 1) → K x3 h_56)))))))))))) ∧ (¬ ((ai h a_4 (1 + x1)) = 1) → (CV T N 169 [vr (some w), vi (J x3), vi (J 0), vi (J 1)] h (fun h_10 => (CV T N 169 [vr (some w), vi (J x3), vi (J 1), vi (J x2)] h_10 (fun h_13 => (CV T N 169 [vr (some w), vi (J x3), vi (J 6), vi (J x2)] h_13 (fun h_16 => (CV T N 169 [vr (some w), vi (J x3), vi (J 3), vi (J x1)] h_16 (fun h_19 => (CV T N 169 [vr (some w), vi (J x3), vi (J 4), vi (J (-1))] h_19 (fun h_22 => (∃ a_26, (gr h_22 w 1) = some a_26 ∧ T a_26 = 22 ∧ (0 ≤ (117 : Int) ∧ (117 : Int) < (N a_26 : Int) ∧ (117 : Int) < 2147483648) ∧ ∀ h_31, h_31 = wi h_22 a_26 117 ((ai h_22 a_26 117) + 1) → K x3 h_31)))))))))))))))))) : ZW T N 195 30 [some (vr (some w)), some (vi (J x1)), some (vi (J x2)), some (vi (J x3)), some (vi (J x4))] [] h K := by
  show WP T N 195 30 [some (vr (some w)), some (vi (J x1)), some (vi (J x2)), some (vi (J x3)), some (vi (J x4))] [] h _
  refine R_ps 2 (pc2 := 34) (L2 := [some (vr (some w)), some (vi (J x1)), some (vi (J x2)), some (vi (J x3)), some (vi (J x4))]) (st2 := [vi (J 55), vi (J x4)]) rfl ?_
  refine R_zif (x := x4) (z := 55) rfl r4 (by decide) (fun c_1 => ?_) (fun c_1 => ?_)
  · have k := k.2 c_1
    refine R_ps 4 (pc2 := 55) (L2 := [some (vr (some w)), some (vi (J x1)), some (vi (J x2)), some (vi (J x3)), some (vi (J x4))]) (st2 := [vr (some w), vi (J 0), vi (J x3), vr (some w)]) rfl ?_
    refine R_getR rfl t0 ?_
    refine R_ps 3 (pc2 := 61) (L2 := [some (vr (some w)), some (vi (J x1)), some (vi (J x2)), some (vi (J x3)), some (vi (J x4))]) (st2 := [vi ((J 1) + (J x1)), vr (gr h w 1), vi (J 0), vi (J x3), vr (some w)]) rfl ?_
    rw [show ((J 1) + (J x1)) = J (1 + x1) from J_add' rfl rfl]
    obtain ⟨a_4, e_5, k⟩ := k
    rw [e_5]
    obtain ⟨t_6, k⟩ := k
    obtain ⟨t_7, k⟩ := k
    refine R_ziald (i := 1 + x1) rfl (Or.inl t_6) t_7 ?_
    refine R_ps 1 (pc2 := 63) (L2 := [some (vr (some w)), some (vi (J x1)), some (vi (J x2)), some (vi (J x3)), some (vi (J x4))]) (st2 := [vi (J 1), vi (J (ai h a_4 (1 + x1))), vi (J 0), vi (J x3), vr (some w)]) rfl ?_
    refine R_zif (x := ai h a_4 (1 + x1)) (z := 1) rfl (ai_in _ _ _) (by decide) (fun c_8 => ?_) (fun c_8 => ?_)
    · have k := k.2 c_8
      refine R_ps 1 (pc2 := 71) (L2 := [some (vr (some w)), some (vi (J x1)), some (vi (J x2)), some (vi (J x3)), some (vi (J x4))]) (st2 := [vi (J 1), vi (J 0), vi (J x3), vr (some w)]) rfl ?_
      refine R_cV (as := [vr (some w), vi (J x3), vi (J 0), vi (J 1)]) rfl rfl ⟨Nat.le_of_ble_eq_true rfl, Nat.le_of_ble_eq_true rfl, rfl, (Or.inr ⟨_, rfl, t0⟩)⟩ rfl rfl k (fun h_10 k => ?_)
      refine R_ps 4 (pc2 := 78) (L2 := [some (vr (some w)), some (vi (J x1)), some (vi (J x2)), some (vi (J x3)), some (vi (J x4))]) (st2 := [vi (J x2), vi (J 1), vi (J x3), vr (some w)]) rfl ?_
      refine R_cV (as := [vr (some w), vi (J x3), vi (J 1), vi (J x2)]) rfl rfl ⟨Nat.le_of_ble_eq_true rfl, Nat.le_of_ble_eq_true rfl, rfl, (Or.inr ⟨_, rfl, t0⟩)⟩ rfl rfl k (fun h_13 k => ?_)
      refine R_ps 4 (pc2 := 86) (L2 := [some (vr (some w)), some (vi (J x1)), some (vi (J x2)), some (vi (J x3)), some (vi (J x4))]) (st2 := [vi (J x2), vi (J 6), vi (J x3), vr (some w)]) rfl ?_
      refine R_cV (as := [vr (some w), vi (J x3), vi (J 6), vi (J x2)]) rfl rfl ⟨Nat.le_of_ble_eq_true rfl, Nat.le_of_ble_eq_true rfl, rfl, (Or.inr ⟨_, rfl, t0⟩)⟩ rfl rfl k (fun h_16 k => ?_)
      refine R_ps 4 (pc2 := 93) (L2 := [some (vr (some w)), some (vi (J x1)), some (vi (J x2)), some (vi (J x3)), some (vi (J x4))]) (st2 := [vi (J x1), vi (J 3), vi (J x3), vr (some w)]) rfl ?_
      refine R_cV (as := [vr (some w), vi (J x3), vi (J 3), vi (J x1)]) rfl rfl ⟨Nat.le_of_ble_eq_true rfl, Nat.le_of_ble_eq_true rfl, rfl, (Or.inr ⟨_, rfl, t0⟩)⟩ rfl rfl k (fun h_19 k => ?_)
      refine R_ps 4 (pc2 := 100) (L2 := [some (vr (some w)), some (vi (J x1)), some (vi (J x2)), some (vi (J x3)), some (vi (J x4))]) (st2 := [vi (J (-1)), vi (J 4), vi (J x3), vr (some w)]) rfl ?_
      refine R_cV (as := [vr (some w), vi (J x3), vi (J 4), vi (J (-1))]) rfl rfl ⟨Nat.le_of_ble_eq_true rfl, Nat.le_of_ble_eq_true rfl, rfl, (Or.inr ⟨_, rfl, t0⟩)⟩ rfl rfl k (fun h_22 k => ?_)
      refine R_ps 1 (pc2 := 104) (L2 := [some (vr (some w)), some (vi (J x1)), some (vi (J x2)), some (vi (J x3)), some (vi (J x4))]) (st2 := [vr (some w)]) rfl ?_
      refine R_getR rfl t0 ?_
      refine R_ps 2 (pc2 := 110) (L2 := [some (vr (some w)), some (vi (J x1)), some (vi (J x2)), some (vi (J x3)), some (vi (J x4))]) (st2 := [vi (J 117), vr (gr h_22 w 1), vi (J 117), vr (gr h_22 w 1)]) rfl ?_
      obtain ⟨a_26, e_27, k⟩ := k
      rw [e_27]
      obtain ⟨t_28, k⟩ := k
      obtain ⟨t_29, k⟩ := k
      refine R_ziald (i := 117) rfl (Or.inl t_28) t_29 ?_
      refine R_ps 2 (pc2 := 113) (L2 := [some (vr (some w)), some (vi (J x1)), some (vi (J x2)), some (vi (J x3)), some (vi (J x4))]) (st2 := [vi ((J (ai h_22 a_26 117)) + (J 1)), vi (J 117), vr (some a_26)]) rfl ?_
      rw [show ((J (ai h_22 a_26 117)) + (J 1)) = J ((ai h_22 a_26 117) + 1) from J_add' rfl rfl]
      refine R_ziast (i := 117) (x := (ai h_22 a_26 117) + 1) rfl t_28 t_29  ?_
      show WP T N _ _ _ _ (wi h_22 a_26 117 ((ai h_22 a_26 117) + 1)) _
      generalize e_32 : wi h_22 a_26 117 ((ai h_22 a_26 117) + 1) = h_31
      replace k := k h_31 e_32.symm
      refine R_ps 1 (pc2 := 115) (L2 := [some (vr (some w)), some (vi (J x1)), some (vi (J x2)), some (vi (J x3)), some (vi (J x4))]) (st2 := [vi (J x3)]) rfl ?_
      exact R_iret rfl rfl (R_zr (x := x3) (K := K) r3 k)
    · have k := k.1 (Classical.not_not.mp c_8)
      refine R_ps 2 (pc2 := 71) (L2 := [some (vr (some w)), some (vi (J x1)), some (vi (J x2)), some (vi (J x3)), some (vi (J x4))]) (st2 := [vi (J 0), vi (J 0), vi (J x3), vr (some w)]) rfl ?_
      refine R_cV (as := [vr (some w), vi (J x3), vi (J 0), vi (J 0)]) rfl rfl ⟨Nat.le_of_ble_eq_true rfl, Nat.le_of_ble_eq_true rfl, rfl, (Or.inr ⟨_, rfl, t0⟩)⟩ rfl rfl k (fun h_35 k => ?_)
      refine R_ps 4 (pc2 := 78) (L2 := [some (vr (some w)), some (vi (J x1)), some (vi (J x2)), some (vi (J x3)), some (vi (J x4))]) (st2 := [vi (J x2), vi (J 1), vi (J x3), vr (some w)]) rfl ?_
      refine R_cV (as := [vr (some w), vi (J x3), vi (J 1), vi (J x2)]) rfl rfl ⟨Nat.le_of_ble_eq_true rfl, Nat.le_of_ble_eq_true rfl, rfl, (Or.inr ⟨_, rfl, t0⟩)⟩ rfl rfl k (fun h_38 k => ?_)
      refine R_ps 4 (pc2 := 86) (L2 := [some (vr (some w)), some (vi (J x1)), some (vi (J x2)), some (vi (J x3)), some (vi (J x4))]) (st2 := [vi (J x2), vi (J 6), vi (J x3), vr (some w)]) rfl ?_
      refine R_cV (as := [vr (some w), vi (J x3), vi (J 6), vi (J x2)]) rfl rfl ⟨Nat.le_of_ble_eq_true rfl, Nat.le_of_ble_eq_true rfl, rfl, (Or.inr ⟨_, rfl, t0⟩)⟩ rfl rfl k (fun h_41 k => ?_)
      refine R_ps 4 (pc2 := 93) (L2 := [some (vr (some w)), some (vi (J x1)), some (vi (J x2)), some (vi (J x3)), some (vi (J x4))]) (st2 := [vi (J x1), vi (J 3), vi (J x3), vr (some w)]) rfl ?_
      refine R_cV (as := [vr (some w), vi (J x3), vi (J 3), vi (J x1)]) rfl rfl ⟨Nat.le_of_ble_eq_true rfl, Nat.le_of_ble_eq_true rfl, rfl, (Or.inr ⟨_, rfl, t0⟩)⟩ rfl rfl k (fun h_44 k => ?_)
      refine R_ps 4 (pc2 := 100) (L2 := [some (vr (some w)), some (vi (J x1)), some (vi (J x2)), some (vi (J x3)), some (vi (J x4))]) (st2 := [vi (J (-1)), vi (J 4), vi (J x3), vr (some w)]) rfl ?_
      refine R_cV (as := [vr (some w), vi (J x3), vi (J 4), vi (J (-1))]) rfl rfl ⟨Nat.le_of_ble_eq_true rfl, Nat.le_of_ble_eq_true rfl, rfl, (Or.inr ⟨_, rfl, t0⟩)⟩ rfl rfl k (fun h_47 k => ?_)
      refine R_ps 1 (pc2 := 104) (L2 := [some (vr (some w)), some (vi (J x1)), some (vi (J x2)), some (vi (J x3)), some (vi (J x4))]) (st2 := [vr (some w)]) rfl ?_
      refine R_getR rfl t0 ?_
      refine R_ps 2 (pc2 := 110) (L2 := [some (vr (some w)), some (vi (J x1)), some (vi (J x2)), some (vi (J x3)), some (vi (J x4))]) (st2 := [vi (J 117), vr (gr h_47 w 1), vi (J 117), vr (gr h_47 w 1)]) rfl ?_
      obtain ⟨a_51, e_52, k⟩ := k
      rw [e_52]
      obtain ⟨t_53, k⟩ := k
      obtain ⟨t_54, k⟩ := k
      refine R_ziald (i := 117) rfl (Or.inl t_53) t_54 ?_
      refine R_ps 2 (pc2 := 113) (L2 := [some (vr (some w)), some (vi (J x1)), some (vi (J x2)), some (vi (J x3)), some (vi (J x4))]) (st2 := [vi ((J (ai h_47 a_51 117)) + (J 1)), vi (J 117), vr (some a_51)]) rfl ?_
      rw [show ((J (ai h_47 a_51 117)) + (J 1)) = J ((ai h_47 a_51 117) + 1) from J_add' rfl rfl]
      refine R_ziast (i := 117) (x := (ai h_47 a_51 117) + 1) rfl t_53 t_54  ?_
      show WP T N _ _ _ _ (wi h_47 a_51 117 ((ai h_47 a_51 117) + 1)) _
      generalize e_57 : wi h_47 a_51 117 ((ai h_47 a_51 117) + 1) = h_56
      replace k := k h_56 e_57.symm
      refine R_ps 1 (pc2 := 115) (L2 := [some (vr (some w)), some (vi (J x1)), some (vi (J x2)), some (vi (J x3)), some (vi (J x4))]) (st2 := [vi (J x3)]) rfl ?_
      exact R_iret rfl rfl (R_zr (x := x3) (K := K) r3 k)
  · have k := k.1 (Classical.not_not.mp c_1)
    refine R_ps 4 (pc2 := 42) (L2 := [some (vr (some w)), some (vi (J x1)), some (vi (J x2)), some (vi (J x3)), some (vi (J x4))]) (st2 := [vi (J 0), vi (J x4), vi (J x3), vr (some w)]) rfl ?_
    refine R_cV (as := [vr (some w), vi (J x3), vi (J x4), vi (J 0)]) rfl rfl ⟨Nat.le_of_ble_eq_true rfl, Nat.le_of_ble_eq_true rfl, rfl, (Or.inr ⟨_, rfl, t0⟩)⟩ rfl rfl k (fun h_60 k => ?_)
    refine R_ps 2 (pc2 := 30) (L2 := [some (vr (some w)), some (vi (J x1)), some (vi (J x2)), some (vi (J x3)), some (vi ((J x4) + J 1))]) (st2 := []) rfl ?_
    rw [show ((J x4) + J 1) = J (x4 + 1) from J_add' rfl rfl]
    exact k
/-- DroneCorridorsModel.addDrone -/
theorem z196 {T N : Nat → Nat} {h : PH} {w : Nat} {x1 : Int} {x2 : Int} {K : Int → PH → Prop} (t0 : T w = 12) (r1 : In x1) (r2 : In x2) (k : (ZI T N 194 [vr (some w), vi (J x1), vi (J x2)] h (fun x_3 h_2 => (∀ h_6, h_6 = wi h_2 w 0 x_3 → ((0 < (ai h_6 w 0) → (K 0 h_6)) ∧ (¬ (0 < (ai h_6 w 0)) → (CV T N 160 [vr (some w)] h_6 (fun h_11 => (ZI T N 195 [vr (some w), vi (J x1), vi (J x2)] h_11 (fun x_15 h_14 => (K x_15 h_14))))))))))) : ZI T N 196 [vr (some w), vi (J x1), vi (J x2)] h K := by
  show WP T N 196 0 [some (vr (some w)), some (vi (J x1)), some (vi (J x2))] [] h _
  refine R_ps 4 (pc2 := 4) (L2 := [some (vr (some w)), some (vi (J x1)), some (vi (J x2))]) (st2 := [vi (J x2), vi (J x1), vr (some w), vr (some w)]) rfl ?_
  refine R_zcI (as := [vr (some w), vi (J x1), vi (J x2)]) rfl rfl ⟨Nat.le_of_ble_eq_true rfl, Nat.le_of_ble_eq_true rfl, rfl, (Or.inr ⟨_, rfl, t0⟩)⟩ rfl rfl k (fun x_3 h_2 r_4 k => ?_)
  refine R_zputI (x := x_3) (z := 0) rfl t0 rfl ?_
  show WP T N _ _ _ _ (wi h_2 w 0 x_3) _
  generalize e_7 : wi h_2 w 0 x_3 = h_6
  replace k := k h_6 e_7.symm
  refine R_ps 1 (pc2 := 11) (L2 := [some (vr (some w)), some (vi (J x1)), some (vi (J x2))]) (st2 := [vr (some w)]) rfl ?_
  refine R_zgetI (z := 0) rfl t0 rfl ?_
  refine R_zif0 (x := ai h_6 w 0) rfl (ai_in _ _ _) (fun c_9 => ?_) (fun c_9 => ?_)
  · have k := k.2 c_9
    refine R_ps 1 (pc2 := 20) (L2 := [some (vr (some w)), some (vi (J x1)), some (vi (J x2))]) (st2 := [vr (some w)]) rfl ?_
    refine R_cV (as := [vr (some w)]) rfl rfl ⟨Nat.le_of_ble_eq_true rfl, Nat.le_of_ble_eq_true rfl, rfl, (Or.inr ⟨_, rfl, t0⟩)⟩ rfl rfl k (fun h_11 k => ?_)
    refine R_ps 3 (pc2 := 26) (L2 := [some (vr (some w)), some (vi (J x1)), some (vi (J x2))]) (st2 := [vi (J x2), vi (J x1), vr (some w)]) rfl ?_
    refine R_zcI (as := [vr (some w), vi (J x1), vi (J x2)]) rfl rfl ⟨Nat.le_of_ble_eq_true rfl, Nat.le_of_ble_eq_true rfl, rfl, (Or.inr ⟨_, rfl, t0⟩)⟩ rfl rfl k (fun x_15 h_14 r_16 k => ?_)
    exact R_iret rfl rfl (R_zr (x := x_15) (K := K) r_16 k)
  · have k := k.1 (Classical.not_not.mp c_9)
    refine R_ps 1 (pc2 := 18) (L2 := [some (vr (some w)), some (vi (J x1)), some (vi (J x2))]) (st2 := [vi (J 0)]) rfl ?_
    exact R_iret rfl rfl (R_zr (x := 0) (K := K) (by decide) k)
/-- DroneCorridorsModel.drone -/
theorem z197 {T N : Nat → Nat} {h : PH} {w : Nat} {x1 : Int} {x2 : Int} {K : Int → PH → Prop} (t0 : T w = 12) (r1 : In x1) (r2 : In x2) (k : (ZI T N 164 [vr (some w), vi (J x1)] h (fun x_3 h_2 => (((x_3 = 0 → (∀ h_86, h_86 = wi h_2 w 0 1 → ((0 < (ai h_86 w 0) → (K 0 h_86)) ∧ (¬ (0 < (ai h_86 w 0)) → (((x2 < 6 → (ZI T N 168 [vr (some w), vi (J x1), vi (J x2)] h_86 (fun x_118 h_117 => (K x_118 h_117)))) ∧ (¬ (x2 < 6) → (ZI T N 168 [vr (some w), vi (J x1), vi (J 5)] h_86 (fun x_93 h_92 => (((x_93 = 0 → (∃ a_111, (gr h_92 w 1) = some a_111 ∧ T a_111 = 22 ∧ (0 ≤ (448 : Int) ∧ (448 : Int) < (N a_111 : Int) ∧ (448 : Int) < 2147483648) ∧ K (ai h_92 a_111 448) h_92)) ∧ (¬ (x_93 = 0) → (ZI T N 168 [vr (some w), vi (J x1), vi (J 5)] h_92 (fun x_98 h_97 => (ZI T N 186 [vr (some w), vi (J x1), vi (J (x_98 - 1))] h_97 (fun x_102 h_101 => (ZI T N 191 [vr (some w), vi (J x_102)] h_101 (fun x_106 h_105 => (K x_106 h_105))))))))))))))))))) ∧ (¬ (x_3 = 0) → (ZI T N 158 [vi (J x2), vi (J 0), vi (J 6)] h_2 (fun x_8 h_7 => (((x_8 = 0 → (∀ h_49, h_49 = wi h_7 w 0 2 → ((0 < (ai h_49 w 0) → (K 0 h_49)) ∧ (¬ (0 < (ai h_49 w 0)) → (((x2 < 6 → (ZI T N 168 [vr (some w), vi (J x1), vi (J x2)] h_49 (fun x_81 h_80 => (K x_81 h_80)))) ∧ (¬ (x2 < 6) → (ZI T N 168 [vr (some w), vi (J x1), vi (J 5)] h_49 (fun x_56 h_55 => (((x_56 = 0 → (∃ a_74, (gr h_55 w 1) = some a_74 ∧ T a_74 = 22 ∧ (0 ≤ (448 : Int) ∧ (448 : Int) < (N a_74 : Int) ∧ (448 : Int) < 2147483648) ∧ K (ai h_55 a_74 448) h_55)) ∧ (¬ (x_56 = 0) → (ZI T N 168 [vr (some w), vi (J x1), vi (J 5)] h_55 (fun x_61 h_60 => (ZI T N 186 [vr (some w), vi (J x1), vi (J (x_61 - 1))] h_60 (fun x_65 h_64 => (ZI T N 191 [vr (some w), vi (J x_65)] h_64 (fun x_69 h_68 => (K x_69 h_68))))))))))))))))))) ∧ (¬ (x_8 = 0) → (∀ h_12, h_12 = wi h_7 w 0 0 → ((0 < (ai h_12 w 0) → (K 0 h_12)) ∧ (¬ (0 < (ai h_12 w 0)) → (((x2 < 6 → (ZI T N 168 [vr (some w), vi (J x1), vi (J x2)] h_12 (fun x_44 h_43 => (K x_44 h_43)))) ∧ (¬ (x2 < 6) → (ZI T N 168 [vr (some w), vi (J x1), vi (J 5)] h_12 (fun x_19 h_18 => (((x_19 = 0 → (∃ a_37, (gr h_18 w 1) = some a_37 ∧ T a_37 = 22 ∧ (0 ≤ (448 : Int) ∧ (448 : Int) < (N a_37 : Int) ∧ (448 : Int) < 2147483648) ∧ K (ai h_18 a_37 448) h_18)) ∧ (¬ (x_19 = 0) → (ZI T N 168 [vr (some w), vi (J x1), vi (J 5)] h_18 (fun x_24 h_23 => (ZI T N 186 [vr (some w), vi (J x1), vi (J (x_24 - 1))] h_23 (fun x_28 h_27 => (ZI T N 191 [vr (some w), vi (J x_28)] h_27 (fun x_32 h_31 => (K x_32 h_31))))))))))))))))))))))))))))) : ZI T N 197 [vr (some w), vi (J x1), vi (J x2)] h K := by
  show WP T N 197 0 [some (vr (some w)), some (vi (J x1)), some (vi (J x2))] [] h _
  refine R_ps 3 (pc2 := 3) (L2 := [some (vr (some w)), some (vi (J x1)), some (vi (J x2))]) (st2 := [vi (J x1), vr (some w), vr (some w)]) rfl ?_
  refine R_zcI (as := [vr (some w), vi (J x1)]) rfl rfl ⟨Nat.le_of_ble_eq_true rfl, Nat.le_of_ble_eq_true rfl, rfl, (Or.inr ⟨_, rfl, t0⟩)⟩ rfl rfl k (fun x_3 h_2 r_4 k => ?_)
  refine R_zif0 (x := x_3) rfl r_4 (fun c_5 => ?_) (fun c_5 => ?_)
  · have k := k.2 c_5
    refine R_ps 3 (pc2 := 17) (L2 := [some (vr (some w)), some (vi (J x1)), some (vi (J x2))]) (st2 := [vi (J 6), vi (J 0), vi (J x2), vr (some w)]) rfl ?_
    refine R_zcI (as := [vi (J x2), vi (J 0), vi (J 6)]) rfl rfl ⟨Nat.le_of_ble_eq_true rfl, Nat.le_of_ble_eq_true rfl, rfl, (Or.inl rfl)⟩ rfl rfl k (fun x_8 h_7 r_9 k => ?_)
    refine R_zif0 (x := x_8) rfl r_9 (fun c_10 => ?_) (fun c_10 => ?_)
    · have k := k.2 c_10
      refine R_ps 1 (pc2 := 28) (L2 := [some (vr (some w)), some (vi (J x1)), some (vi (J x2))]) (st2 := [vi (J 0), vr (some w)]) rfl ?_
      refine R_zputI (x := 0) (z := 0) rfl t0 rfl ?_
      show WP T N _ _ _ _ (wi h_7 w 0 0) _
      generalize e_13 : wi h_7 w 0 0 = h_12
      replace k := k h_12 e_13.symm
      refine R_ps 1 (pc2 := 32) (L2 := [some (vr (some w)), some (vi (J x1)), some (vi (J x2))]) (st2 := [vr (some w)]) rfl ?_
      refine R_zgetI (z := 0) rfl t0 rfl ?_
      refine R_zif0 (x := ai h_12 w 0) rfl (ai_in _ _ _) (fun c_15 => ?_) (fun c_15 => ?_)
      · have k := k.2 c_15
        refine R_ps 2 (pc2 := 43) (L2 := [some (vr (some w)), some (vi (J x1)), some (vi (J x2))]) (st2 := [vi (J 6), vi (J x2)]) rfl ?_
        refine R_zif (x := x2) (z := 6) rfl r2 (by decide) (fun c_16 => ?_) (fun c_16 => ?_)
        · have k := k.2 c_16
          refine R_ps 3 (pc2 := 56) (L2 := [some (vr (some w)), some (vi (J x1)), some (vi (J x2))]) (st2 := [vi (J 5), vi (J x1), vr (some w)]) rfl ?_
          refine R_zcI (as := [vr (some w), vi (J x1), vi (J 5)]) rfl rfl ⟨Nat.le_of_ble_eq_true rfl, Nat.le_of_ble_eq_true rfl, rfl, (Or.inr ⟨_, rfl, t0⟩)⟩ rfl rfl k (fun x_19 h_18 r_20 k => ?_)
          refine R_zif0 (x := x_19) rfl r_20 (fun c_21 => ?_) (fun c_21 => ?_)
          · have k := k.2 c_21
            refine R_ps 6 (pc2 := 79) (L2 := [some (vr (some w)), some (vi (J x1)), some (vi (J x2))]) (st2 := [vi (J 5), vi (J x1), vr (some w), vi (J x1), vr (some w), vr (some w)]) rfl ?_
            refine R_zcI (as := [vr (some w), vi (J x1), vi (J 5)]) rfl rfl ⟨Nat.le_of_ble_eq_true rfl, Nat.le_of_ble_eq_true rfl, rfl, (Or.inr ⟨_, rfl, t0⟩)⟩ rfl rfl k (fun x_24 h_23 r_25 k => ?_)
            refine R_ps 2 (pc2 := 84) (L2 := [some (vr (some w)), some (vi (J x1)), some (vi (J x2))]) (st2 := [vi ((J x_24) - (J 1)), vi (J x1), vr (some w), vr (some w)]) rfl ?_
            rw [show ((J x_24) - (J 1)) = J (x_24 - 1) from J_sub' rfl rfl]
            refine R_zcI (as := [vr (some w), vi (J x1), vi (J (x_24 - 1))]) rfl rfl ⟨Nat.le_of_ble_eq_true rfl, Nat.le_of_ble_eq_true rfl, rfl, (Or.inr ⟨_, rfl, t0⟩)⟩ rfl rfl k (fun x_28 h_27 r_29 k => ?_)
            refine R_zcI (as := [vr (some w), vi (J x_28)]) rfl rfl ⟨Nat.le_of_ble_eq_true rfl, Nat.le_of_ble_eq_true rfl, rfl, (Or.inr ⟨_, rfl, t0⟩)⟩ rfl rfl k (fun x_32 h_31 r_33 k => ?_)
            exact R_iret rfl rfl (R_zr (x := x_32) (K := K) r_33 k)
          · have k := k.1 (Classical.not_not.mp c_21)
            refine R_ps 1 (pc2 := 63) (L2 := [some (vr (some w)), some (vi (J x1)), some (vi (J x2))]) (st2 := [vr (some w)]) rfl ?_
            refine R_getR rfl t0 ?_
            refine R_ps 1 (pc2 := 69) (L2 := [some (vr (some w)), some (vi (J x1)), some (vi (J x2))]) (st2 := [vi (J 448), vr (gr h_18 w 1)]) rfl ?_
            obtain ⟨a_37, e_38, k⟩ := k
            rw [e_38]
            obtain ⟨t_39, k⟩ := k
            obtain ⟨t_40, k⟩ := k
            refine R_ziald (i := 448) rfl (Or.inl t_39) t_40 ?_
            refine R_ps 1 (pc2 := 90) (L2 := [some (vr (some w)), some (vi (J x1)), some (vi (J x2))]) (st2 := [vi (J (ai h_18 a_37 448))]) rfl ?_
            exact R_iret rfl rfl (R_zr (x := ai h_18 a_37 448) (K := K) (ai_in _ _ _) k)
        · have k := k.1 (Classical.not_not.mp c_16)
          refine R_ps 3 (pc2 := 49) (L2 := [some (vr (some w)), some (vi (J x1)), some (vi (J x2))]) (st2 := [vi (J x2), vi (J x1), vr (some w)]) rfl ?_
          refine R_zcI (as := [vr (some w), vi (J x1), vi (J x2)]) rfl rfl ⟨Nat.le_of_ble_eq_true rfl, Nat.le_of_ble_eq_true rfl, rfl, (Or.inr ⟨_, rfl, t0⟩)⟩ rfl rfl k (fun x_44 h_43 r_45 k => ?_)
          exact R_iret rfl rfl (R_zr (x := x_44) (K := K) r_45 k)
      · have k := k.1 (Classical.not_not.mp c_15)
        refine R_ps 1 (pc2 := 39) (L2 := [some (vr (some w)), some (vi (J x1)), some (vi (J x2))]) (st2 := [vi (J 0)]) rfl ?_
        exact R_iret rfl rfl (R_zr (x := 0) (K := K) (by decide) k)
    · have k := k.1 (Classical.not_not.mp c_10)
      refine R_ps 2 (pc2 := 28) (L2 := [some (vr (some w)), some (vi (J x1)), some (vi (J x2))]) (st2 := [vi (J 2), vr (some w)]) rfl ?_
      refine R_zputI (x := 2) (z := 0) rfl t0 rfl ?_
      show WP T N _ _ _ _ (wi h_7 w 0 2) _
      generalize e_50 : wi h_7 w 0 2 = h_49
      replace k := k h_49 e_50.symm
      refine R_ps 1 (pc2 := 32) (L2 := [some (vr (some w)), some (vi (J x1)), some (vi (J x2))]) (st2 := [vr (some w)]) rfl ?_
      refine R_zgetI (z := 0) rfl t0 rfl ?_
      refine R_zif0 (x := ai h_49 w 0) rfl (ai_in _ _ _) (fun c_52 => ?_) (fun c_52 => ?_)
      · have k := k.2 c_52
        refine R_ps 2 (pc2 := 43) (L2 := [some (vr (some w)), some (vi (J x1)), some (vi (J x2))]) (st2 := [vi (J 6), vi (J x2)]) rfl ?_
        refine R_zif (x := x2) (z := 6) rfl r2 (by decide) (fun c_53 => ?_) (fun c_53 => ?_)
        · have k := k.2 c_53
          refine R_ps 3 (pc2 := 56) (L2 := [some (vr (some w)), some (vi (J x1)), some (vi (J x2))]) (st2 := [vi (J 5), vi (J x1), vr (some w)]) rfl ?_
          refine R_zcI (as := [vr (some w), vi (J x1), vi (J 5)]) rfl rfl ⟨Nat.le_of_ble_eq_true rfl, Nat.le_of_ble_eq_true rfl, rfl, (Or.inr ⟨_, rfl, t0⟩)⟩ rfl rfl k (fun x_56 h_55 r_57 k => ?_)
          refine R_zif0 (x := x_56) rfl r_57 (fun c_58 => ?_) (fun c_58 => ?_)
          · have k := k.2 c_58
            refine R_ps 6 (pc2 := 79) (L2 := [some (vr (some w)), some (vi (J x1)), some (vi (J x2))]) (st2 := [vi (J 5), vi (J x1), vr (some w), vi (J x1), vr (some w), vr (some w)]) rfl ?_
            refine R_zcI (as := [vr (some w), vi (J x1), vi (J 5)]) rfl rfl ⟨Nat.le_of_ble_eq_true rfl, Nat.le_of_ble_eq_true rfl, rfl, (Or.inr ⟨_, rfl, t0⟩)⟩ rfl rfl k (fun x_61 h_60 r_62 k => ?_)
            refine R_ps 2 (pc2 := 84) (L2 := [some (vr (some w)), some (vi (J x1)), some (vi (J x2))]) (st2 := [vi ((J x_61) - (J 1)), vi (J x1), vr (some w), vr (some w)]) rfl ?_
            rw [show ((J x_61) - (J 1)) = J (x_61 - 1) from J_sub' rfl rfl]
            refine R_zcI (as := [vr (some w), vi (J x1), vi (J (x_61 - 1))]) rfl rfl ⟨Nat.le_of_ble_eq_true rfl, Nat.le_of_ble_eq_true rfl, rfl, (Or.inr ⟨_, rfl, t0⟩)⟩ rfl rfl k (fun x_65 h_64 r_66 k => ?_)
            refine R_zcI (as := [vr (some w), vi (J x_65)]) rfl rfl ⟨Nat.le_of_ble_eq_true rfl, Nat.le_of_ble_eq_true rfl, rfl, (Or.inr ⟨_, rfl, t0⟩)⟩ rfl rfl k (fun x_69 h_68 r_70 k => ?_)
            exact R_iret rfl rfl (R_zr (x := x_69) (K := K) r_70 k)
          · have k := k.1 (Classical.not_not.mp c_58)
            refine R_ps 1 (pc2 := 63) (L2 := [some (vr (some w)), some (vi (J x1)), some (vi (J x2))]) (st2 := [vr (some w)]) rfl ?_
            refine R_getR rfl t0 ?_
            refine R_ps 1 (pc2 := 69) (L2 := [some (vr (some w)), some (vi (J x1)), some (vi (J x2))]) (st2 := [vi (J 448), vr (gr h_55 w 1)]) rfl ?_
            obtain ⟨a_74, e_75, k⟩ := k
            rw [e_75]
            obtain ⟨t_76, k⟩ := k
            obtain ⟨t_77, k⟩ := k
            refine R_ziald (i := 448) rfl (Or.inl t_76) t_77 ?_
            refine R_ps 1 (pc2 := 90) (L2 := [some (vr (some w)), some (vi (J x1)), some (vi (J x2))]) (st2 := [vi (J (ai h_55 a_74 448))]) rfl ?_
            exact R_iret rfl rfl (R_zr (x := ai h_55 a_74 448) (K := K) (ai_in _ _ _) k)
        · have k := k.1 (Classical.not_not.mp c_53)
          refine R_ps 3 (pc2 := 49) (L2 := [some (vr (some w)), some (vi (J x1)), some (vi (J x2))]) (st2 := [vi (J x2), vi (J x1), vr (some w)]) rfl ?_
          refine R_zcI (as := [vr (some w), vi (J x1), vi (J x2)]) rfl rfl ⟨Nat.le_of_ble_eq_true rfl, Nat.le_of_ble_eq_true rfl, rfl, (Or.inr ⟨_, rfl, t0⟩)⟩ rfl rfl k (fun x_81 h_80 r_82 k => ?_)
          exact R_iret rfl rfl (R_zr (x := x_81) (K := K) r_82 k)
      · have k := k.1 (Classical.not_not.mp c_52)
        refine R_ps 1 (pc2 := 39) (L2 := [some (vr (some w)), some (vi (J x1)), some (vi (J x2))]) (st2 := [vi (J 0)]) rfl ?_
        exact R_iret rfl rfl (R_zr (x := 0) (K := K) (by decide) k)
  · have k := k.1 (Classical.not_not.mp c_5)
    refine R_ps 2 (pc2 := 28) (L2 := [some (vr (some w)), some (vi (J x1)), some (vi (J x2))]) (st2 := [vi (J 1), vr (some w)]) rfl ?_
    refine R_zputI (x := 1) (z := 0) rfl t0 rfl ?_
    show WP T N _ _ _ _ (wi h_2 w 0 1) _
    generalize e_87 : wi h_2 w 0 1 = h_86
    replace k := k h_86 e_87.symm
    refine R_ps 1 (pc2 := 32) (L2 := [some (vr (some w)), some (vi (J x1)), some (vi (J x2))]) (st2 := [vr (some w)]) rfl ?_
    refine R_zgetI (z := 0) rfl t0 rfl ?_
    refine R_zif0 (x := ai h_86 w 0) rfl (ai_in _ _ _) (fun c_89 => ?_) (fun c_89 => ?_)
    · have k := k.2 c_89
      refine R_ps 2 (pc2 := 43) (L2 := [some (vr (some w)), some (vi (J x1)), some (vi (J x2))]) (st2 := [vi (J 6), vi (J x2)]) rfl ?_
      refine R_zif (x := x2) (z := 6) rfl r2 (by decide) (fun c_90 => ?_) (fun c_90 => ?_)
      · have k := k.2 c_90
        refine R_ps 3 (pc2 := 56) (L2 := [some (vr (some w)), some (vi (J x1)), some (vi (J x2))]) (st2 := [vi (J 5), vi (J x1), vr (some w)]) rfl ?_
        refine R_zcI (as := [vr (some w), vi (J x1), vi (J 5)]) rfl rfl ⟨Nat.le_of_ble_eq_true rfl, Nat.le_of_ble_eq_true rfl, rfl, (Or.inr ⟨_, rfl, t0⟩)⟩ rfl rfl k (fun x_93 h_92 r_94 k => ?_)
        refine R_zif0 (x := x_93) rfl r_94 (fun c_95 => ?_) (fun c_95 => ?_)
        · have k := k.2 c_95
          refine R_ps 6 (pc2 := 79) (L2 := [some (vr (some w)), some (vi (J x1)), some (vi (J x2))]) (st2 := [vi (J 5), vi (J x1), vr (some w), vi (J x1), vr (some w), vr (some w)]) rfl ?_
          refine R_zcI (as := [vr (some w), vi (J x1), vi (J 5)]) rfl rfl ⟨Nat.le_of_ble_eq_true rfl, Nat.le_of_ble_eq_true rfl, rfl, (Or.inr ⟨_, rfl, t0⟩)⟩ rfl rfl k (fun x_98 h_97 r_99 k => ?_)
          refine R_ps 2 (pc2 := 84) (L2 := [some (vr (some w)), some (vi (J x1)), some (vi (J x2))]) (st2 := [vi ((J x_98) - (J 1)), vi (J x1), vr (some w), vr (some w)]) rfl ?_
          rw [show ((J x_98) - (J 1)) = J (x_98 - 1) from J_sub' rfl rfl]
          refine R_zcI (as := [vr (some w), vi (J x1), vi (J (x_98 - 1))]) rfl rfl ⟨Nat.le_of_ble_eq_true rfl, Nat.le_of_ble_eq_true rfl, rfl, (Or.inr ⟨_, rfl, t0⟩)⟩ rfl rfl k (fun x_102 h_101 r_103 k => ?_)
          refine R_zcI (as := [vr (some w), vi (J x_102)]) rfl rfl ⟨Nat.le_of_ble_eq_true rfl, Nat.le_of_ble_eq_true rfl, rfl, (Or.inr ⟨_, rfl, t0⟩)⟩ rfl rfl k (fun x_106 h_105 r_107 k => ?_)
          exact R_iret rfl rfl (R_zr (x := x_106) (K := K) r_107 k)
        · have k := k.1 (Classical.not_not.mp c_95)
          refine R_ps 1 (pc2 := 63) (L2 := [some (vr (some w)), some (vi (J x1)), some (vi (J x2))]) (st2 := [vr (some w)]) rfl ?_
          refine R_getR rfl t0 ?_
          refine R_ps 1 (pc2 := 69) (L2 := [some (vr (some w)), some (vi (J x1)), some (vi (J x2))]) (st2 := [vi (J 448), vr (gr h_92 w 1)]) rfl ?_
          obtain ⟨a_111, e_112, k⟩ := k
          rw [e_112]
          obtain ⟨t_113, k⟩ := k
          obtain ⟨t_114, k⟩ := k
          refine R_ziald (i := 448) rfl (Or.inl t_113) t_114 ?_
          refine R_ps 1 (pc2 := 90) (L2 := [some (vr (some w)), some (vi (J x1)), some (vi (J x2))]) (st2 := [vi (J (ai h_92 a_111 448))]) rfl ?_
          exact R_iret rfl rfl (R_zr (x := ai h_92 a_111 448) (K := K) (ai_in _ _ _) k)
      · have k := k.1 (Classical.not_not.mp c_90)
        refine R_ps 3 (pc2 := 49) (L2 := [some (vr (some w)), some (vi (J x1)), some (vi (J x2))]) (st2 := [vi (J x2), vi (J x1), vr (some w)]) rfl ?_
        refine R_zcI (as := [vr (some w), vi (J x1), vi (J x2)]) rfl rfl ⟨Nat.le_of_ble_eq_true rfl, Nat.le_of_ble_eq_true rfl, rfl, (Or.inr ⟨_, rfl, t0⟩)⟩ rfl rfl k (fun x_118 h_117 r_119 k => ?_)
        exact R_iret rfl rfl (R_zr (x := x_118) (K := K) r_119 k)
    · have k := k.1 (Classical.not_not.mp c_89)
      refine R_ps 1 (pc2 := 39) (L2 := [some (vr (some w)), some (vi (J x1)), some (vi (J x2))]) (st2 := [vi (J 0)]) rfl ?_
      exact R_iret rfl rfl (R_zr (x := 0) (K := K) (by decide) k)
/-- DroneCorridorsModel.leg -/
theorem z198 {T N : Nat → Nat} {h : PH} {w : Nat} {x1 : Int} {x2 : Int} {x3 : Int} {K : Int → PH → Prop} (t0 : T w = 12) (r1 : In x1) (r2 : In x2) (r3 : In x3) (k : (ZI T N 164 [vr (some w), vi (J x1)] h (fun x_3 h_2 => (((x_3 = 0 → (∀ h_7, h_7 = wi h_2 w 0 1 → ((0 < (ai h_7 w 0) → (K 0 h_7)) ∧ (¬ (0 < (ai h_7 w 0)) → (ZI T N 186 [vr (some w), vi (J x1), vi (J x2)] h_7 (fun x_13 h_12 => (((x3 = 0 → (ZI T N 187 [vi (J x_13)] h_12 (fun x_41 h_40 => (K x_41 h_40)))) ∧ (¬ (x3 = 0) → (((x3 = 1 → (ZI T N 188 [vi (J x_13)] h_12 (fun x_36 h_35 => (K x_36 h_35)))) ∧ (¬ (x3 = 1) → (((x3 = 2 → (ZI T N 189 [vi (J x_13)] h_12 (fun x_31 h_30 => (K x_31 h_30)))) ∧ (¬ (x3 = 2) → (((x3 = 3 → (ZI T N 190 [vi (J x_13)] h_12 (fun x_26 h_25 => (K x_26 h_25)))) ∧ (¬ (x3 = 3) → (ZI T N 191 [vr (some w), vi (J x_13)] h_12 (fun x_21 h_20 => (K x_21 h_20))))))))))))))))))))) ∧ (¬ (x_3 = 0) → (ZI T N 168 [vr (some w), vi (J x1), vi (J 5)] h_2 (fun x_47 h_46 => (ZI T N 158 [vi (J x2), vi (J 0), vi (J (x_47 - 1))] h_46 (fun x_51 h_50 => (((x_51 = 0 → (∀ h_138, h_138 = wi h_50 w 0 1 → ((0 < (ai h_138 w 0) → (K 0 h_138)) ∧ (¬ (0 < (ai h_138 w 0)) → (ZI T N 186 [vr (some w), vi (J x1), vi (J x2)] h_138 (fun x_144 h_143 => (((x3 = 0 → (ZI T N 187 [vi (J x_144)] h_143 (fun x_172 h_171 => (K x_172 h_171)))) ∧ (¬ (x3 = 0) → (((x3 = 1 → (ZI T N 188 [vi (J x_144)] h_143 (fun x_167 h_166 => (K x_167 h_166)))) ∧ (¬ (x3 = 1) → (((x3 = 2 → (ZI T N 189 [vi (J x_144)] h_143 (fun x_162 h_161 => (K x_162 h_161)))) ∧ (¬ (x3 = 2) → (((x3 = 3 → (ZI T N 190 [vi (J x_144)] h_143 (fun x_157 h_156 => (K x_157 h_156)))) ∧ (¬ (x3 = 3) → (ZI T N 191 [vr (some w), vi (J x_144)] h_143 (fun x_152 h_151 => (K x_152 h_151))))))))))))))))))))) ∧ (¬ (x_51 = 0) → (ZI T N 158 [vi (J x3), vi (J 0), vi (J 4)] h_50 (fun x_56 h_55 => (((x_56 = 0 → (∀ h_99, h_99 = wi h_55 w 0 2 → ((0 < (ai h_99 w 0) → (K 0 h_99)) ∧ (¬ (0 < (ai h_99 w 0)) → (ZI T N 186 [vr (some w), vi (J x1), vi (J x2)] h_99 (fun x_105 h_104 => (((x3 = 0 → (ZI T N 187 [vi (J x_105)] h_104 (fun x_133 h_132 => (K x_133 h_132)))) ∧ (¬ (x3 = 0) → (((x3 = 1 → (ZI T N 188 [vi (J x_105)] h_104 (fun x_128 h_127 => (K x_128 h_127)))) ∧ (¬ (x3 = 1) → (((x3 = 2 → (ZI T N 189 [vi (J x_105)] h_104 (fun x_123 h_122 => (K x_123 h_122)))) ∧ (¬ (x3 = 2) → (((x3 = 3 → (ZI T N 190 [vi (J x_105)] h_104 (fun x_118 h_117 => (K x_118 h_117)))) ∧ (¬ (x3 = 3) → (ZI T N 191 [vr (some w), vi (J x_105)] h_104 (fun x_113 h_112 => (K x_113 h_112))))))))))))))))))))) ∧ (¬ (x_56 = 0) → (∀ h_60, h_60 = wi h_55 w 0 0 → ((0 < (ai h_60 w 0) → (K 0 h_60)) ∧ (¬ (0 < (ai h_60 w 0)) → (ZI T N 186 [vr (some w), vi (J x1), vi (J x2)] h_60 (fun x_66 h_65 => (((x3 = 0 → (ZI T N 187 [vi (J x_66)] h_65 (fun x_94 h_93 => (K x_94 h_93)))) ∧ (¬ (x3 = 0) → (((x3 = 1 → (ZI T N 188 [vi (J x_66)] h_65 (fun x_89 h_88 => (K x_89 h_88)))) ∧ (¬ (x3 = 1) → (((x3 = 2 → (ZI T N 189 [vi (J x_66)] h_65 (fun x_84 h_83 => (K x_84 h_83)))) ∧ (¬ (x3 = 2) → (((x3 = 3 → (ZI T N 190 [vi (J x_66)] h_65 (fun x_79 h_78 => (K x_79 h_78)))) ∧ (¬ (x3 = 3) → (ZI T N 191 [vr (some w), vi (J x_66)] h_65 (fun x_74 h_73 => (K x_74 h_73)))))))))))))))))))))))))))))))))))))) : ZI T N 198 [vr (some w), vi (J x1), vi (J x2), vi (J x3)] h K := by
  show WP T N 198 0 [some (vr (some w)), some (vi (J x1)), some (vi (J x2)), some (vi (J x3)), none] [] h _
  refine R_ps 3 (pc2 := 3) (L2 := [some (vr (some w)), some (vi (J x1)), some (vi (J x2)), some (vi (J x3)), none]) (st2 := [vi (J x1), vr (some w), vr (some w)]) rfl ?_
  refine R_zcI (as := [vr (some w), vi (J x1)]) rfl rfl ⟨Nat.le_of_ble_eq_true rfl, Nat.le_of_ble_eq_true rfl, rfl, (Or.inr ⟨_, rfl, t0⟩)⟩ rfl rfl k (fun x_3 h_2 r_4 k => ?_)
  refine R_zif0 (x := x_3) rfl r_4 (fun c_5 => ?_) (fun c_5 => ?_)
  · have k := k.1 c_5
    refine R_ps 2 (pc2 := 43) (L2 := [some (vr (some w)), some (vi (J x1)), some (vi (J x2)), some (vi (J x3)), none]) (st2 := [vi (J 1), vr (some w)]) rfl ?_
    refine R_zputI (x := 1) (z := 0) rfl t0 rfl ?_
    show WP T N _ _ _ _ (wi h_2 w 0 1) _
    generalize e_8 : wi h_2 w 0 1 = h_7
    replace k := k h_7 e_8.symm
    refine R_ps 1 (pc2 := 47) (L2 := [some (vr (some w)), some (vi (J x1)), some (vi (J x2)), some (vi (J x3)), none]) (st2 := [vr (some w)]) rfl ?_
    refine R_zgetI (z := 0) rfl t0 rfl ?_
    refine R_zif0 (x := ai h_7 w 0) rfl (ai_in _ _ _) (fun c_10 => ?_) (fun c_10 => ?_)
    · have k := k.2 c_10
      refine R_ps 3 (pc2 := 58) (L2 := [some (vr (some w)), some (vi (J x1)), some (vi (J x2)), some (vi (J x3)), none]) (st2 := [vi (J x2), vi (J x1), vr (some w)]) rfl ?_
      refine R_zcI (as := [vr (some w), vi (J x1), vi (J x2)]) rfl rfl ⟨Nat.le_of_ble_eq_true rfl, Nat.le_of_ble_eq_true rfl, rfl, (Or.inr ⟨_, rfl, t0⟩)⟩ rfl rfl k (fun x_13 h_12 r_14 k => ?_)
      refine R_ps 2 (pc2 := 64) (L2 := [some (vr (some w)), some (vi (J x1)), some (vi (J x2)), some (vi (J x3)), some (vi (J x_13))]) (st2 := [vi (J x3)]) rfl ?_
      refine R_zif0 (x := x3) rfl r3 (fun c_15 => ?_) (fun c_15 => ?_)
      · have k := k.2 c_15
        refine R_ps 2 (pc2 := 77) (L2 := [some (vr (some w)), some (vi (J x1)), some (vi (J x2)), some (vi (J x3)), some (vi (J x_13))]) (st2 := [vi (J 1), vi (J x3)]) rfl ?_
        refine R_zif (x := x3) (z := 1) rfl r3 (by decide) (fun c_16 => ?_) (fun c_16 => ?_)
        · have k := k.2 c_16
          refine R_ps 2 (pc2 := 90) (L2 := [some (vr (some w)), some (vi (J x1)), some (vi (J x2)), some (vi (J x3)), some (vi (J x_13))]) (st2 := [vi (J 2), vi (J x3)]) rfl ?_
          refine R_zif (x := x3) (z := 2) rfl r3 (by decide) (fun c_17 => ?_) (fun c_17 => ?_)
          · have k := k.2 c_17
            refine R_ps 2 (pc2 := 103) (L2 := [some (vr (some w)), some (vi (J x1)), some (vi (J x2)), some (vi (J x3)), some (vi (J x_13))]) (st2 := [vi (J 3), vi (J x3)]) rfl ?_
            refine R_zif (x := x3) (z := 3) rfl r3 (by decide) (fun c_18 => ?_) (fun c_18 => ?_)
            · have k := k.2 c_18
              refine R_ps 2 (pc2 := 117) (L2 := [some (vr (some w)), some (vi (J x1)), some (vi (J x2)), some (vi (J x3)), some (vi (J x_13))]) (st2 := [vi (J x_13), vr (some w)]) rfl ?_
              refine R_zcI (as := [vr (some w), vi (J x_13)]) rfl rfl ⟨Nat.le_of_ble_eq_true rfl, Nat.le_of_ble_eq_true rfl, rfl, (Or.inr ⟨_, rfl, t0⟩)⟩ rfl rfl k (fun x_21 h_20 r_22 k => ?_)
              exact R_iret rfl rfl (R_zr (x := x_21) (K := K) r_22 k)
            · have k := k.1 (Classical.not_not.mp c_18)
              refine R_ps 1 (pc2 := 108) (L2 := [some (vr (some w)), some (vi (J x1)), some (vi (J x2)), some (vi (J x3)), some (vi (J x_13))]) (st2 := [vi (J x_13)]) rfl ?_
              refine R_zcI (as := [vi (J x_13)]) rfl rfl ⟨Nat.le_of_ble_eq_true rfl, Nat.le_of_ble_eq_true rfl, rfl, (Or.inl rfl)⟩ rfl rfl k (fun x_26 h_25 r_27 k => ?_)
              refine R_ps 1 (pc2 := 120) (L2 := [some (vr (some w)), some (vi (J x1)), some (vi (J x2)), some (vi (J x3)), some (vi (J x_13))]) (st2 := [vi (J x_26)]) rfl ?_
              exact R_iret rfl rfl (R_zr (x := x_26) (K := K) r_27 k)
          · have k := k.1 (Classical.not_not.mp c_17)
            refine R_ps 1 (pc2 := 95) (L2 := [some (vr (some w)), some (vi (J x1)), some (vi (J x2)), some (vi (J x3)), some (vi (J x_13))]) (st2 := [vi (J x_13)]) rfl ?_
            refine R_zcI (as := [vi (J x_13)]) rfl rfl ⟨Nat.le_of_ble_eq_true rfl, Nat.le_of_ble_eq_true rfl, rfl, (Or.inl rfl)⟩ rfl rfl k (fun x_31 h_30 r_32 k => ?_)
            refine R_ps 1 (pc2 := 120) (L2 := [some (vr (some w)), some (vi (J x1)), some (vi (J x2)), some (vi (J x3)), some (vi (J x_13))]) (st2 := [vi (J x_31)]) rfl ?_
            exact R_iret rfl rfl (R_zr (x := x_31) (K := K) r_32 k)
        · have k := k.1 (Classical.not_not.mp c_16)
          refine R_ps 1 (pc2 := 82) (L2 := [some (vr (some w)), some (vi (J x1)), some (vi (J x2)), some (vi (J x3)), some (vi (J x_13))]) (st2 := [vi (J x_13)]) rfl ?_
          refine R_zcI (as := [vi (J x_13)]) rfl rfl ⟨Nat.le_of_ble_eq_true rfl, Nat.le_of_ble_eq_true rfl, rfl, (Or.inl rfl)⟩ rfl rfl k (fun x_36 h_35 r_37 k => ?_)
          refine R_ps 1 (pc2 := 120) (L2 := [some (vr (some w)), some (vi (J x1)), some (vi (J x2)), some (vi (J x3)), some (vi (J x_13))]) (st2 := [vi (J x_36)]) rfl ?_
          exact R_iret rfl rfl (R_zr (x := x_36) (K := K) r_37 k)
      · have k := k.1 (Classical.not_not.mp c_15)
        refine R_ps 1 (pc2 := 69) (L2 := [some (vr (some w)), some (vi (J x1)), some (vi (J x2)), some (vi (J x3)), some (vi (J x_13))]) (st2 := [vi (J x_13)]) rfl ?_
        refine R_zcI (as := [vi (J x_13)]) rfl rfl ⟨Nat.le_of_ble_eq_true rfl, Nat.le_of_ble_eq_true rfl, rfl, (Or.inl rfl)⟩ rfl rfl k (fun x_41 h_40 r_42 k => ?_)
        refine R_ps 1 (pc2 := 120) (L2 := [some (vr (some w)), some (vi (J x1)), some (vi (J x2)), some (vi (J x3)), some (vi (J x_13))]) (st2 := [vi (J x_41)]) rfl ?_
        exact R_iret rfl rfl (R_zr (x := x_41) (K := K) r_42 k)
    · have k := k.1 (Classical.not_not.mp c_10)
      refine R_ps 1 (pc2 := 54) (L2 := [some (vr (some w)), some (vi (J x1)), some (vi (J x2)), some (vi (J x3)), none]) (st2 := [vi (J 0)]) rfl ?_
      exact R_iret rfl rfl (R_zr (x := 0) (K := K) (by decide) k)
  · have k := k.2 c_5
    refine R_ps 5 (pc2 := 14) (L2 := [some (vr (some w)), some (vi (J x1)), some (vi (J x2)), some (vi (J x3)), none]) (st2 := [vi (J 5), vi (J x1), vr (some w), vi (J 0), vi (J x2), vr (some w)]) rfl ?_
    refine R_zcI (as := [vr (some w), vi (J x1), vi (J 5)]) rfl rfl ⟨Nat.le_of_ble_eq_true rfl, Nat.le_of_ble_eq_true rfl, rfl, (Or.inr ⟨_, rfl, t0⟩)⟩ rfl rfl k (fun x_47 h_46 r_48 k => ?_)
    refine R_ps 2 (pc2 := 19) (L2 := [some (vr (some w)), some (vi (J x1)), some (vi (J x2)), some (vi (J x3)), none]) (st2 := [vi ((J x_47) - (J 1)), vi (J 0), vi (J x2), vr (some w)]) rfl ?_
    rw [show ((J x_47) - (J 1)) = J (x_47 - 1) from J_sub' rfl rfl]
    refine R_zcI (as := [vi (J x2), vi (J 0), vi (J (x_47 - 1))]) rfl rfl ⟨Nat.le_of_ble_eq_true rfl, Nat.le_of_ble_eq_true rfl, rfl, (Or.inl rfl)⟩ rfl rfl k (fun x_51 h_50 r_52 k => ?_)
    refine R_zif0 (x := x_51) rfl r_52 (fun c_53 => ?_) (fun c_53 => ?_)
    · have k := k.2 c_53
      refine R_ps 3 (pc2 := 32) (L2 := [some (vr (some w)), some (vi (J x1)), some (vi (J x2)), some (vi (J x3)), none]) (st2 := [vi (J 4), vi (J 0), vi (J x3), vr (some w)]) rfl ?_
      refine R_zcI (as := [vi (J x3), vi (J 0), vi (J 4)]) rfl rfl ⟨Nat.le_of_ble_eq_true rfl, Nat.le_of_ble_eq_true rfl, rfl, (Or.inl rfl)⟩ rfl rfl k (fun x_56 h_55 r_57 k => ?_)
      refine R_zif0 (x := x_56) rfl r_57 (fun c_58 => ?_) (fun c_58 => ?_)
      · have k := k.2 c_58
        refine R_ps 1 (pc2 := 43) (L2 := [some (vr (some w)), some (vi (J x1)), some (vi (J x2)), some (vi (J x3)), none]) (st2 := [vi (J 0), vr (some w)]) rfl ?_
        refine R_zputI (x := 0) (z := 0) rfl t0 rfl ?_
        show WP T N _ _ _ _ (wi h_55 w 0 0) _
        generalize e_61 : wi h_55 w 0 0 = h_60
        replace k := k h_60 e_61.symm
        refine R_ps 1 (pc2 := 47) (L2 := [some (vr (some w)), some (vi (J x1)), some (vi (J x2)), some (vi (J x3)), none]) (st2 := [vr (some w)]) rfl ?_
        refine R_zgetI (z := 0) rfl t0 rfl ?_
        refine R_zif0 (x := ai h_60 w 0) rfl (ai_in _ _ _) (fun c_63 => ?_) (fun c_63 => ?_)
        · have k := k.2 c_63
          refine R_ps 3 (pc2 := 58) (L2 := [some (vr (some w)), some (vi (J x1)), some (vi (J x2)), some (vi (J x3)), none]) (st2 := [vi (J x2), vi (J x1), vr (some w)]) rfl ?_
          refine R_zcI (as := [vr (some w), vi (J x1), vi (J x2)]) rfl rfl ⟨Nat.le_of_ble_eq_true rfl, Nat.le_of_ble_eq_true rfl, rfl, (Or.inr ⟨_, rfl, t0⟩)⟩ rfl rfl k (fun x_66 h_65 r_67 k => ?_)
          refine R_ps 2 (pc2 := 64) (L2 := [some (vr (some w)), some (vi (J x1)), some (vi (J x2)), some (vi (J x3)), some (vi (J x_66))]) (st2 := [vi (J x3)]) rfl ?_
          refine R_zif0 (x := x3) rfl r3 (fun c_68 => ?_) (fun c_68 => ?_)
          · have k := k.2 c_68
            refine R_ps 2 (pc2 := 77) (L2 := [some (vr (some w)), some (vi (J x1)), some (vi (J x2)), some (vi (J x3)), some (vi (J x_66))]) (st2 := [vi (J 1), vi (J x3)]) rfl ?_
            refine R_zif (x := x3) (z := 1) rfl r3 (by decide) (fun c_69 => ?_) (fun c_69 => ?_)
            · have k := k.2 c_69
              refine R_ps 2 (pc2 := 90) (L2 := [some (vr (some w)), some (vi (J x1)), some (vi (J x2)), some (vi (J x3)), some (vi (J x_66))]) (st2 := [vi (J 2), vi (J x3)]) rfl ?_
              refine R_zif (x := x3) (z := 2) rfl r3 (by decide) (fun c_70 => ?_) (fun c_70 => ?_)
              · have k := k.2 c_70
                refine R_ps 2 (pc2 := 103) (L2 := [some (vr (some w)), some (vi (J x1)), some (vi (J x2)), some (vi (J x3)), some (vi (J x_66))]) (st2 := [vi (J 3), vi (J x3)]) rfl ?_
                refine R_zif (x := x3) (z := 3) rfl r3 (by decide) (fun c_71 => ?_) (fun c_71 => ?_)
                · have k := k.2 c_71
                  refine R_ps 2 (pc2 := 117) (L2 := [some (vr (some w)), some (vi (J x1)), some (vi (J x2)), some (vi (J x3)), some (vi (J x_66))]) (st2 := [vi (J x_66), vr (some w)]) rfl ?_
                  refine R_zcI (as := [vr (some w), vi (J x_66)]) rfl rfl ⟨Nat.le_of_ble_eq_true rfl, Nat.le_of_ble_eq_true rfl, rfl, (Or.inr ⟨_, rfl, t0⟩)⟩ rfl rfl k (fun x_74 h_73 r_75 k => ?_)
                  exact R_iret rfl rfl (R_zr (x := x_74) (K := K) r_75 k)
                · have k := k.1 (Classical.not_not.mp c_71)
                  refine R_ps 1 (pc2 := 108) (L2 := [some (vr (some w)), some (vi (J x1)), some (vi (J x2)), some (vi (J x3)), some (vi (J x_66))]) (st2 := [vi (J x_66)]) rfl ?_
                  refine R_zcI (as := [vi (J x_66)]) rfl rfl ⟨Nat.le_of_ble_eq_true rfl, Nat.le_of_ble_eq_true rfl, rfl, (Or.inl rfl)⟩ rfl rfl k (fun x_79 h_78 r_80 k => ?_)
                  refine R_ps 1 (pc2 := 120) (L2 := [some (vr (some w)), some (vi (J x1)), some (vi (J x2)), some (vi (J x3)), some (vi (J x_66))]) (st2 := [vi (J x_79)]) rfl ?_
                  exact R_iret rfl rfl (R_zr (x := x_79) (K := K) r_80 k)
              · have k := k.1 (Classical.not_not.mp c_70)
                refine R_ps 1 (pc2 := 95) (L2 := [some (vr (some w)), some (vi (J x1)), some (vi (J x2)), some (vi (J x3)), some (vi (J x_66))]) (st2 := [vi (J x_66)]) rfl ?_
                refine R_zcI (as := [vi (J x_66)]) rfl rfl ⟨Nat.le_of_ble_eq_true rfl, Nat.le_of_ble_eq_true rfl, rfl, (Or.inl rfl)⟩ rfl rfl k (fun x_84 h_83 r_85 k => ?_)
                refine R_ps 1 (pc2 := 120) (L2 := [some (vr (some w)), some (vi (J x1)), some (vi (J x2)), some (vi (J x3)), some (vi (J x_66))]) (st2 := [vi (J x_84)]) rfl ?_
                exact R_iret rfl rfl (R_zr (x := x_84) (K := K) r_85 k)
            · have k := k.1 (Classical.not_not.mp c_69)
              refine R_ps 1 (pc2 := 82) (L2 := [some (vr (some w)), some (vi (J x1)), some (vi (J x2)), some (vi (J x3)), some (vi (J x_66))]) (st2 := [vi (J x_66)]) rfl ?_
              refine R_zcI (as := [vi (J x_66)]) rfl rfl ⟨Nat.le_of_ble_eq_true rfl, Nat.le_of_ble_eq_true rfl, rfl, (Or.inl rfl)⟩ rfl rfl k (fun x_89 h_88 r_90 k => ?_)
              refine R_ps 1 (pc2 := 120) (L2 := [some (vr (some w)), some (vi (J x1)), some (vi (J x2)), some (vi (J x3)), some (vi (J x_66))]) (st2 := [vi (J x_89)]) rfl ?_
              exact R_iret rfl rfl (R_zr (x := x_89) (K := K) r_90 k)
          · have k := k.1 (Classical.not_not.mp c_68)
            refine R_ps 1 (pc2 := 69) (L2 := [some (vr (some w)), some (vi (J x1)), some (vi (J x2)), some (vi (J x3)), some (vi (J x_66))]) (st2 := [vi (J x_66)]) rfl ?_
            refine R_zcI (as := [vi (J x_66)]) rfl rfl ⟨Nat.le_of_ble_eq_true rfl, Nat.le_of_ble_eq_true rfl, rfl, (Or.inl rfl)⟩ rfl rfl k (fun x_94 h_93 r_95 k => ?_)
            refine R_ps 1 (pc2 := 120) (L2 := [some (vr (some w)), some (vi (J x1)), some (vi (J x2)), some (vi (J x3)), some (vi (J x_66))]) (st2 := [vi (J x_94)]) rfl ?_
            exact R_iret rfl rfl (R_zr (x := x_94) (K := K) r_95 k)
        · have k := k.1 (Classical.not_not.mp c_63)
          refine R_ps 1 (pc2 := 54) (L2 := [some (vr (some w)), some (vi (J x1)), some (vi (J x2)), some (vi (J x3)), none]) (st2 := [vi (J 0)]) rfl ?_
          exact R_iret rfl rfl (R_zr (x := 0) (K := K) (by decide) k)
      · have k := k.1 (Classical.not_not.mp c_58)
        refine R_ps 2 (pc2 := 43) (L2 := [some (vr (some w)), some (vi (J x1)), some (vi (J x2)), some (vi (J x3)), none]) (st2 := [vi (J 2), vr (some w)]) rfl ?_
        refine R_zputI (x := 2) (z := 0) rfl t0 rfl ?_
        show WP T N _ _ _ _ (wi h_55 w 0 2) _
        generalize e_100 : wi h_55 w 0 2 = h_99
        replace k := k h_99 e_100.symm
        refine R_ps 1 (pc2 := 47) (L2 := [some (vr (some w)), some (vi (J x1)), some (vi (J x2)), some (vi (J x3)), none]) (st2 := [vr (some w)]) rfl ?_
        refine R_zgetI (z := 0) rfl t0 rfl ?_
        refine R_zif0 (x := ai h_99 w 0) rfl (ai_in _ _ _) (fun c_102 => ?_) (fun c_102 => ?_)
        · have k := k.2 c_102
          refine R_ps 3 (pc2 := 58) (L2 := [some (vr (some w)), some (vi (J x1)), some (vi (J x2)), some (vi (J x3)), none]) (st2 := [vi (J x2), vi (J x1), vr (some w)]) rfl ?_
          refine R_zcI (as := [vr (some w), vi (J x1), vi (J x2)]) rfl rfl ⟨Nat.le_of_ble_eq_true rfl, Nat.le_of_ble_eq_true rfl, rfl, (Or.inr ⟨_, rfl, t0⟩)⟩ rfl rfl k (fun x_105 h_104 r_106 k => ?_)
          refine R_ps 2 (pc2 := 64) (L2 := [some (vr (some w)), some (vi (J x1)), some (vi (J x2)), some (vi (J x3)), some (vi (J x_105))]) (st2 := [vi (J x3)]) rfl ?_
          refine R_zif0 (x := x3) rfl r3 (fun c_107 => ?_) (fun c_107 => ?_)
          · have k := k.2 c_107
            refine R_ps 2 (pc2 := 77) (L2 := [some (vr (some w)), some (vi (J x1)), some (vi (J x2)), some (vi (J x3)), some (vi (J x_105))]) (st2 := [vi (J 1), vi (J x3)]) rfl ?_
            refine R_zif (x := x3) (z := 1) rfl r3 (by decide) (fun c_108 => ?_) (fun c_108 => ?_)
            · have k := k.2 c_108
              refine R_ps 2 (pc2 := 90) (L2 := [some (vr (some w)), some (vi (J x1)), some (vi (J x2)), some (vi (J x3)), some (vi (J x_105))]) (st2 := [vi (J 2), vi (J x3)]) rfl ?_
              refine R_zif (x := x3) (z := 2) rfl r3 (by decide) (fun c_109 => ?_) (fun c_109 => ?_)
              · have k := k.2 c_109
                refine R_ps 2 (pc2 := 103) (L2 := [some (vr (some w)), some (vi (J x1)), some (vi (J x2)), some (vi (J x3)), some (vi (J x_105))]) (st2 := [vi (J 3), vi (J x3)]) rfl ?_
                refine R_zif (x := x3) (z := 3) rfl r3 (by decide) (fun c_110 => ?_) (fun c_110 => ?_)
                · have k := k.2 c_110
                  refine R_ps 2 (pc2 := 117) (L2 := [some (vr (some w)), some (vi (J x1)), some (vi (J x2)), some (vi (J x3)), some (vi (J x_105))]) (st2 := [vi (J x_105), vr (some w)]) rfl ?_
                  refine R_zcI (as := [vr (some w), vi (J x_105)]) rfl rfl ⟨Nat.le_of_ble_eq_true rfl, Nat.le_of_ble_eq_true rfl, rfl, (Or.inr ⟨_, rfl, t0⟩)⟩ rfl rfl k (fun x_113 h_112 r_114 k => ?_)
                  exact R_iret rfl rfl (R_zr (x := x_113) (K := K) r_114 k)
                · have k := k.1 (Classical.not_not.mp c_110)
                  refine R_ps 1 (pc2 := 108) (L2 := [some (vr (some w)), some (vi (J x1)), some (vi (J x2)), some (vi (J x3)), some (vi (J x_105))]) (st2 := [vi (J x_105)]) rfl ?_
                  refine R_zcI (as := [vi (J x_105)]) rfl rfl ⟨Nat.le_of_ble_eq_true rfl, Nat.le_of_ble_eq_true rfl, rfl, (Or.inl rfl)⟩ rfl rfl k (fun x_118 h_117 r_119 k => ?_)
                  refine R_ps 1 (pc2 := 120) (L2 := [some (vr (some w)), some (vi (J x1)), some (vi (J x2)), some (vi (J x3)), some (vi (J x_105))]) (st2 := [vi (J x_118)]) rfl ?_
                  exact R_iret rfl rfl (R_zr (x := x_118) (K := K) r_119 k)
              · have k := k.1 (Classical.not_not.mp c_109)
                refine R_ps 1 (pc2 := 95) (L2 := [some (vr (some w)), some (vi (J x1)), some (vi (J x2)), some (vi (J x3)), some (vi (J x_105))]) (st2 := [vi (J x_105)]) rfl ?_
                refine R_zcI (as := [vi (J x_105)]) rfl rfl ⟨Nat.le_of_ble_eq_true rfl, Nat.le_of_ble_eq_true rfl, rfl, (Or.inl rfl)⟩ rfl rfl k (fun x_123 h_122 r_124 k => ?_)
                refine R_ps 1 (pc2 := 120) (L2 := [some (vr (some w)), some (vi (J x1)), some (vi (J x2)), some (vi (J x3)), some (vi (J x_105))]) (st2 := [vi (J x_123)]) rfl ?_
                exact R_iret rfl rfl (R_zr (x := x_123) (K := K) r_124 k)
            · have k := k.1 (Classical.not_not.mp c_108)
              refine R_ps 1 (pc2 := 82) (L2 := [some (vr (some w)), some (vi (J x1)), some (vi (J x2)), some (vi (J x3)), some (vi (J x_105))]) (st2 := [vi (J x_105)]) rfl ?_
              refine R_zcI (as := [vi (J x_105)]) rfl rfl ⟨Nat.le_of_ble_eq_true rfl, Nat.le_of_ble_eq_true rfl, rfl, (Or.inl rfl)⟩ rfl rfl k (fun x_128 h_127 r_129 k => ?_)
              refine R_ps 1 (pc2 := 120) (L2 := [some (vr (some w)), some (vi (J x1)), some (vi (J x2)), some (vi (J x3)), some (vi (J x_105))]) (st2 := [vi (J x_128)]) rfl ?_
              exact R_iret rfl rfl (R_zr (x := x_128) (K := K) r_129 k)
          · have k := k.1 (Classical.not_not.mp c_107)
            refine R_ps 1 (pc2 := 69) (L2 := [some (vr (some w)), some (vi (J x1)), some (vi (J x2)), some (vi (J x3)), some (vi (J x_105))]) (st2 := [vi (J x_105)]) rfl ?_
            refine R_zcI (as := [vi (J x_105)]) rfl rfl ⟨Nat.le_of_ble_eq_true rfl, Nat.le_of_ble_eq_true rfl, rfl, (Or.inl rfl)⟩ rfl rfl k (fun x_133 h_132 r_134 k => ?_)
            refine R_ps 1 (pc2 := 120) (L2 := [some (vr (some w)), some (vi (J x1)), some (vi (J x2)), some (vi (J x3)), some (vi (J x_105))]) (st2 := [vi (J x_133)]) rfl ?_
            exact R_iret rfl rfl (R_zr (x := x_133) (K := K) r_134 k)
        · have k := k.1 (Classical.not_not.mp c_102)
          refine R_ps 1 (pc2 := 54) (L2 := [some (vr (some w)), some (vi (J x1)), some (vi (J x2)), some (vi (J x3)), none]) (st2 := [vi (J 0)]) rfl ?_
          exact R_iret rfl rfl (R_zr (x := 0) (K := K) (by decide) k)
    · have k := k.1 (Classical.not_not.mp c_53)
      refine R_ps 2 (pc2 := 43) (L2 := [some (vr (some w)), some (vi (J x1)), some (vi (J x2)), some (vi (J x3)), none]) (st2 := [vi (J 1), vr (some w)]) rfl ?_
      refine R_zputI (x := 1) (z := 0) rfl t0 rfl ?_
      show WP T N _ _ _ _ (wi h_50 w 0 1) _
      generalize e_139 : wi h_50 w 0 1 = h_138
      replace k := k h_138 e_139.symm
      refine R_ps 1 (pc2 := 47) (L2 := [some (vr (some w)), some (vi (J x1)), some (vi (J x2)), some (vi (J x3)), none]) (st2 := [vr (some w)]) rfl ?_
      refine R_zgetI (z := 0) rfl t0 rfl ?_
      refine R_zif0 (x := ai h_138 w 0) rfl (ai_in _ _ _) (fun c_141 => ?_) (fun c_141 => ?_)
      · have k := k.2 c_141
        refine R_ps 3 (pc2 := 58) (L2 := [some (vr (some w)), some (vi (J x1)), some (vi (J x2)), some (vi (J x3)), none]) (st2 := [vi (J x2), vi (J x1), vr (some w)]) rfl ?_
        refine R_zcI (as := [vr (some w), vi (J x1), vi (J x2)]) rfl rfl ⟨Nat.le_of_ble_eq_true rfl, Nat.le_of_ble_eq_true rfl, rfl, (Or.inr ⟨_, rfl, t0⟩)⟩ rfl rfl k (fun x_144 h_143 r_145 k => ?_)
        refine R_ps 2 (pc2 := 64) (L2 := [some (vr (some w)), some (vi (J x1)), some (vi (J x2)), some (vi (J x3)), some (vi (J x_144))]) (st2 := [vi (J x3)]) rfl ?_
        refine R_zif0 (x := x3) rfl r3 (fun c_146 => ?_) (fun c_146 => ?_)
        · have k := k.2 c_146
          refine R_ps 2 (pc2 := 77) (L2 := [some (vr (some w)), some (vi (J x1)), some (vi (J x2)), some (vi (J x3)), some (vi (J x_144))]) (st2 := [vi (J 1), vi (J x3)]) rfl ?_
          refine R_zif (x := x3) (z := 1) rfl r3 (by decide) (fun c_147 => ?_) (fun c_147 => ?_)
          · have k := k.2 c_147
            refine R_ps 2 (pc2 := 90) (L2 := [some (vr (some w)), some (vi (J x1)), some (vi (J x2)), some (vi (J x3)), some (vi (J x_144))]) (st2 := [vi (J 2), vi (J x3)]) rfl ?_
            refine R_zif (x := x3) (z := 2) rfl r3 (by decide) (fun c_148 => ?_) (fun c_148 => ?_)
            · have k := k.2 c_148
              refine R_ps 2 (pc2 := 103) (L2 := [some (vr (some w)), some (vi (J x1)), some (vi (J x2)), some (vi (J x3)), some (vi (J x_144))]) (st2 := [vi (J 3), vi (J x3)]) rfl ?_
              refine R_zif (x := x3) (z := 3) rfl r3 (by decide) (fun c_149 => ?_) (fun c_149 => ?_)
              · have k := k.2 c_149
                refine R_ps 2 (pc2 := 117) (L2 := [some (vr (some w)), some (vi (J x1)), some (vi (J x2)), some (vi (J x3)), some (vi (J x_144))]) (st2 := [vi (J x_144), vr (some w)]) rfl ?_
                refine R_zcI (as := [vr (some w), vi (J x_144)]) rfl rfl ⟨Nat.le_of_ble_eq_true rfl, Nat.le_of_ble_eq_true rfl, rfl, (Or.inr ⟨_, rfl, t0⟩)⟩ rfl rfl k (fun x_152 h_151 r_153 k => ?_)
                exact R_iret rfl rfl (R_zr (x := x_152) (K := K) r_153 k)
              · have k := k.1 (Classical.not_not.mp c_149)
                refine R_ps 1 (pc2 := 108) (L2 := [some (vr (some w)), some (vi (J x1)), some (vi (J x2)), some (vi (J x3)), some (vi (J x_144))]) (st2 := [vi (J x_144)]) rfl ?_
                refine R_zcI (as := [vi (J x_144)]) rfl rfl ⟨Nat.le_of_ble_eq_true rfl, Nat.le_of_ble_eq_true rfl, rfl, (Or.inl rfl)⟩ rfl rfl k (fun x_157 h_156 r_158 k => ?_)
                refine R_ps 1 (pc2 := 120) (L2 := [some (vr (some w)), some (vi (J x1)), some (vi (J x2)), some (vi (J x3)), some (vi (J x_144))]) (st2 := [vi (J x_157)]) rfl ?_
                exact R_iret rfl rfl (R_zr (x := x_157) (K := K) r_158 k)
            · have k := k.1 (Classical.not_not.mp c_148)
              refine R_ps 1 (pc2 := 95) (L2 := [some (vr (some w)), some (vi (J x1)), some (vi (J x2)), some (vi (J x3)), some (vi (J x_144))]) (st2 := [vi (J x_144)]) rfl ?_
              refine R_zcI (as := [vi (J x_144)]) rfl rfl ⟨Nat.le_of_ble_eq_true rfl, Nat.le_of_ble_eq_true rfl, rfl, (Or.inl rfl)⟩ rfl rfl k (fun x_162 h_161 r_163 k => ?_)
              refine R_ps 1 (pc2 := 120) (L2 := [some (vr (some w)), some (vi (J x1)), some (vi (J x2)), some (vi (J x3)), some (vi (J x_144))]) (st2 := [vi (J x_162)]) rfl ?_
              exact R_iret rfl rfl (R_zr (x := x_162) (K := K) r_163 k)
          · have k := k.1 (Classical.not_not.mp c_147)
            refine R_ps 1 (pc2 := 82) (L2 := [some (vr (some w)), some (vi (J x1)), some (vi (J x2)), some (vi (J x3)), some (vi (J x_144))]) (st2 := [vi (J x_144)]) rfl ?_
            refine R_zcI (as := [vi (J x_144)]) rfl rfl ⟨Nat.le_of_ble_eq_true rfl, Nat.le_of_ble_eq_true rfl, rfl, (Or.inl rfl)⟩ rfl rfl k (fun x_167 h_166 r_168 k => ?_)
            refine R_ps 1 (pc2 := 120) (L2 := [some (vr (some w)), some (vi (J x1)), some (vi (J x2)), some (vi (J x3)), some (vi (J x_144))]) (st2 := [vi (J x_167)]) rfl ?_
            exact R_iret rfl rfl (R_zr (x := x_167) (K := K) r_168 k)
        · have k := k.1 (Classical.not_not.mp c_146)
          refine R_ps 1 (pc2 := 69) (L2 := [some (vr (some w)), some (vi (J x1)), some (vi (J x2)), some (vi (J x3)), some (vi (J x_144))]) (st2 := [vi (J x_144)]) rfl ?_
          refine R_zcI (as := [vi (J x_144)]) rfl rfl ⟨Nat.le_of_ble_eq_true rfl, Nat.le_of_ble_eq_true rfl, rfl, (Or.inl rfl)⟩ rfl rfl k (fun x_172 h_171 r_173 k => ?_)
          refine R_ps 1 (pc2 := 120) (L2 := [some (vr (some w)), some (vi (J x1)), some (vi (J x2)), some (vi (J x3)), some (vi (J x_144))]) (st2 := [vi (J x_172)]) rfl ?_
          exact R_iret rfl rfl (R_zr (x := x_172) (K := K) r_173 k)
      · have k := k.1 (Classical.not_not.mp c_141)
        refine R_ps 1 (pc2 := 54) (L2 := [some (vr (some w)), some (vi (J x1)), some (vi (J x2)), some (vi (J x3)), none]) (st2 := [vi (J 0)]) rfl ?_
        exact R_iret rfl rfl (R_zr (x := 0) (K := K) (by decide) k)
/-- DroneCorridorsModel.isStruck -/
theorem z199 {T N : Nat → Nat} {h : PH} {w : Nat} {x1 : Int} {K : Int → PH → Prop} (r1 : In x1) (k : (ZW T N 199 2 [some (vr (some w)), some (vi (J x1)), some (vi (J 0)), none] [] h K)) : ZI T N 199 [vr (some w), vi (J x1)] h K := by
  show WP T N 199 0 [some (vr (some w)), some (vi (J x1)), none, none] [] h _
  refine R_ps 2 (pc2 := 2) (L2 := [some (vr (some w)), some (vi (J x1)), some (vi (J 0)), none]) (st2 := []) rfl ?_
  exact k
theorem z199_2 {T N : Nat → Nat} {h : PH} {w : Nat} {x1 : Int} {x2 : Int} {K : Int → PH → Prop} (t0 : T w = 12) (r1 : In x1) (r2 : In x2) (k : (∃ a_3, (gr h w 1) = some a_3 ∧ T a_3 = 22 ∧ (0 ≤ (76 : Int) ∧ (76 : Int) < (N a_3 : Int) ∧ (76 : Int) < 2147483648) ∧ ((x2 < (ai h a_3 76) → (∃ a_11, (gr h w 1) = some a_11 ∧ T a_11 = 22 ∧ (0 ≤ (77 + (4 * x2)) ∧ (77 + (4 * x2)) < (N a_11 : Int) ∧ (77 + (4 * x2)) < 2147483648) ∧ ZI T N 187 [vi (J x1)] h (fun x_17 h_16 => ((((ai h a_11 (77 + (4 * x2))) = x_17 → (∃ a_22, (gr h_16 w 1) = some a_22 ∧ T a_22 = 22 ∧ (0 ≤ ((77 + (4 * x2)) + 1) ∧ ((77 + (4 * x2)) + 1) < (N a_22 : Int) ∧ ((77 + (4 * x2)) + 1) < 2147483648) ∧ ZI T N 189 [vi (J x1)] h_16 (fun x_28 h_27 => ((((zand (zshr (ai h_16 a_22 ((77 + (4 * x2)) + 1)) x_28) 1) = 1 → (ZI T N 190 [vi (J x1)] h_27 (fun x_33 h_32 => (∃ a_37, (gr h_32 w 1) = some a_37 ∧ T a_37 = 22 ∧ (0 ≤ ((77 + (4 * x2)) + 3) ∧ ((77 + (4 * x2)) + 3) < (N a_37 : Int) ∧ ((77 + (4 * x2)) + 3) < 2147483648) ∧ ((x_33 < (ai h_32 a_37 ((77 + (4 * x2)) + 3)) → (ZI T N 191 [vr (some w), vi (J x1)] h_32 (fun x_44 h_43 => (∃ a_48, (gr h_43 w 1) = some a_48 ∧ T a_48 = 22 ∧ (0 ≤ ((77 + (4 * x2)) + 2) ∧ ((77 + (4 * x2)) + 2) < (N a_48 : Int) ∧ ((77 + (4 * x2)) + 2) < 2147483648) ∧ (((ai h_43 a_48 ((77 + (4 * x2)) + 2)) < x_44 → (K 1 h_43)) ∧ (¬ ((ai h_43 a_48 ((77 + (4 * x2)) + 2)) < x_44) → (ZW T N 199 2 [some (vr (some w)), some (vi (J x1)), some (vi (J (x2 + 1))), none] [] h_43 K))))))) ∧ (¬ (x_33 < (ai h_32 a_37 ((77 + (4 * x2)) + 3))) → (ZW T N 199 2 [some (vr (some w)), some (vi (J x1)), some (vi (J (x2 + 1))), none] [] h_32 K))))))) ∧ (¬ ((zand (zshr (ai h_16 a_22 ((77 + (4 * x2)) + 1)) x_28) 1) = 1) → (ZW T N 199 2 [some (vr (some w)), some (vi (J x1)), some (vi (J (x2 + 1))), none] [] h_27 K))))))) ∧ (¬ ((ai h a_11 (77 + (4 * x2))) = x_17) → (ZW T N 199 2 [some (vr (some w)), some (vi (J x1)), some (vi (J (x2 + 1))), none] [] h_16 K))))))) ∧ (¬ (x2 < (ai h a_3 76)) → (K 0 h))))) : ZW T N 199 2 [some (vr (some w)), some (vi (J x1)), some (vi (J x2)), none] [] h K := by
  show WP T N 199 2 [some (vr (some w)), some (vi (J x1)), some (vi (J x2)), none] [] h _
  refine R_ps 2 (pc2 := 4) (L2 := [some (vr (some w)), some (vi (J x1)), some (vi (J x2)), none]) (st2 := [vr (some w), vi (J x2)]) rfl ?_
  refine R_getR rfl t0 ?_
  refine R_ps 1 (pc2 := 9) (L2 := [some (vr (some w)), some (vi (J x1)), some (vi (J x2)), none]) (st2 := [vi (J 76), vr (gr h w 1), vi (J x2)]) rfl ?_
  obtain ⟨a_3, e_4, k⟩ := k
  rw [e_4]
  obtain ⟨t_5, k⟩ := k
  obtain ⟨t_6, k⟩ := k
  refine R_ziald (i := 76) rfl (Or.inl t_5) t_6 ?_
  refine R_zif (x := x2) (z := ai h a_3 76) rfl r2 (ai_in _ _ _) (fun c_7 => ?_) (fun c_7 => ?_)
  · have k := k.2 c_7
    refine R_ps 1 (pc2 := 92) (L2 := [some (vr (some w)), some (vi (J x1)), some (vi (J x2)), none]) (st2 := [vi (J 0)]) rfl ?_
    exact R_zzret (x := 0) rfl rfl (Or.inl rfl) (R_zr (x := 0) (K := K) (by decide) k)
  · have k := k.1 (Classical.not_not.mp c_7)
    refine R_ps 7 (pc2 := 21) (L2 := [some (vr (some w)), some (vi (J x1)), some (vi (J x2)), some (vi ((J 77) + ((J 4) * (J x2))))]) (st2 := [vr (some w)]) rfl ?_
    rw [show ((J 77) + ((J 4) * (J x2))) = J (77 + (4 * x2)) from J_add' rfl (J_mul' rfl rfl)]
    refine R_getR rfl t0 ?_
    refine R_ps 1 (pc2 := 25) (L2 := [some (vr (some w)), some (vi (J x1)), some (vi (J x2)), some (vi (J (77 + (4 * x2))))]) (st2 := [vi (J (77 + (4 * x2))), vr (gr h w 1)]) rfl ?_
    obtain ⟨a_11, e_12, k⟩ := k
    rw [e_12]
    obtain ⟨t_13, k⟩ := k
    obtain ⟨t_14, k⟩ := k
    refine R_ziald (i := 77 + (4 * x2)) rfl (Or.inl t_13) t_14 ?_
    refine R_ps 1 (pc2 := 27) (L2 := [some (vr (some w)), some (vi (J x1)), some (vi (J x2)), some (vi (J (77 + (4 * x2))))]) (st2 := [vi (J x1), vi (J (ai h a_11 (77 + (4 * x2))))]) rfl ?_
    refine R_zcI (as := [vi (J x1)]) rfl rfl ⟨Nat.le_of_ble_eq_true rfl, Nat.le_of_ble_eq_true rfl, rfl, (Or.inl rfl)⟩ rfl rfl k (fun x_17 h_16 r_18 k => ?_)
    refine R_zif (x := ai h a_11 (77 + (4 * x2))) (z := x_17) rfl (ai_in _ _ _) r_18 (fun c_19 => ?_) (fun c_19 => ?_)
    · have k := k.2 c_19
      refine R_ps 2 (pc2 := 2) (L2 := [some (vr (some w)), some (vi (J x1)), some (vi ((J x2) + J 1)), some (vi (J (77 + (4 * x2))))]) (st2 := []) rfl ?_
      rw [show ((J x2) + J 1) = J (x2 + 1) from J_add' rfl rfl]
      exact R_drop k (LE_of (L := [some (vr (some w)), some (vi (J x1)), some (vi (J (x2 + 1))), none]) (L2 := [some (vr (some w)), some (vi (J x1)), some (vi (J (x2 + 1))), some (vi (J (77 + (4 * x2))))]) ⟨rfl, rfl, rfl, trivial⟩)
    · have k := k.1 (Classical.not_not.mp c_19)
      refine R_ps 1 (pc2 := 34) (L2 := [some (vr (some w)), some (vi (J x1)), some (vi (J x2)), some (vi (J (77 + (4 * x2))))]) (st2 := [vr (some w)]) rfl ?_
      refine R_getR rfl t0 ?_
      refine R_ps 3 (pc2 := 40) (L2 := [some (vr (some w)), some (vi (J x1)), some (vi (J x2)), some (vi (J (77 + (4 * x2))))]) (st2 := [vi ((J (77 + (4 * x2))) + (J 1)), vr (gr h_16 w 1)]) rfl ?_
      rw [show ((J (77 + (4 * x2))) + (J 1)) = J ((77 + (4 * x2)) + 1) from J_add' rfl rfl]
      obtain ⟨a_22, e_23, k⟩ := k
      rw [e_23]
      obtain ⟨t_24, k⟩ := k
      obtain ⟨t_25, k⟩ := k
      refine R_ziald (i := (77 + (4 * x2)) + 1) rfl (Or.inl t_24) t_25 ?_
      refine R_ps 1 (pc2 := 42) (L2 := [some (vr (some w)), some (vi (J x1)), some (vi (J x2)), some (vi (J (77 + (4 * x2))))]) (st2 := [vi (J x1), vi (J (ai h_16 a_22 ((77 + (4 * x2)) + 1)))]) rfl ?_
      refine R_zcI (as := [vi (J x1)]) rfl rfl ⟨Nat.le_of_ble_eq_true rfl, Nat.le_of_ble_eq_true rfl, rfl, (Or.inl rfl)⟩ rfl rfl k (fun x_28 h_27 r_29 k => ?_)
      refine R_ps 4 (pc2 := 49) (L2 := [some (vr (some w)), some (vi (J x1)), some (vi (J x2)), some (vi (J (77 + (4 * x2))))]) (st2 := [vi (J 1), vi (((J (ai h_16 a_22 ((77 + (4 * x2)) + 1))) >>> ((J x_28) &&& 31)) &&& (J 1))]) rfl ?_
      rw [show (((J (ai h_16 a_22 ((77 + (4 * x2)) + 1))) >>> ((J x_28) &&& 31)) &&& (J 1)) = J (zand (zshr (ai h_16 a_22 ((77 + (4 * x2)) + 1)) x_28) 1) from J_and' (J_shr' rfl rfl) rfl]
      refine R_zif (x := zand (zshr (ai h_16 a_22 ((77 + (4 * x2)) + 1)) x_28) 1) (z := 1) rfl (zand_in _ _) (by decide) (fun c_30 => ?_) (fun c_30 => ?_)
      · have k := k.2 c_30
        refine R_ps 2 (pc2 := 2) (L2 := [some (vr (some w)), some (vi (J x1)), some (vi ((J x2) + J 1)), some (vi (J (77 + (4 * x2))))]) (st2 := []) rfl ?_
        rw [show ((J x2) + J 1) = J (x2 + 1) from J_add' rfl rfl]
        exact R_drop k (LE_of (L := [some (vr (some w)), some (vi (J x1)), some (vi (J (x2 + 1))), none]) (L2 := [some (vr (some w)), some (vi (J x1)), some (vi (J (x2 + 1))), some (vi (J (77 + (4 * x2))))]) ⟨rfl, rfl, rfl, trivial⟩)
      · have k := k.1 (Classical.not_not.mp c_30)
        refine R_ps 1 (pc2 := 53) (L2 := [some (vr (some w)), some (vi (J x1)), some (vi (J x2)), some (vi (J (77 + (4 * x2))))]) (st2 := [vi (J x1)]) rfl ?_
        refine R_zcI (as := [vi (J x1)]) rfl rfl ⟨Nat.le_of_ble_eq_true rfl, Nat.le_of_ble_eq_true rfl, rfl, (Or.inl rfl)⟩ rfl rfl k (fun x_33 h_32 r_34 k => ?_)
        refine R_ps 1 (pc2 := 57) (L2 := [some (vr (some w)), some (vi (J x1)), some (vi (J x2)), some (vi (J (77 + (4 * x2))))]) (st2 := [vr (some w), vi (J x_33)]) rfl ?_
        refine R_getR rfl t0 ?_
        refine R_ps 3 (pc2 := 63) (L2 := [some (vr (some w)), some (vi (J x1)), some (vi (J x2)), some (vi (J (77 + (4 * x2))))]) (st2 := [vi ((J (77 + (4 * x2))) + (J 3)), vr (gr h_32 w 1), vi (J x_33)]) rfl ?_
        rw [show ((J (77 + (4 * x2))) + (J 3)) = J ((77 + (4 * x2)) + 3) from J_add' rfl rfl]
        obtain ⟨a_37, e_38, k⟩ := k
        rw [e_38]
        obtain ⟨t_39, k⟩ := k
        obtain ⟨t_40, k⟩ := k
        refine R_ziald (i := (77 + (4 * x2)) + 3) rfl (Or.inl t_39) t_40 ?_
        refine R_zif (x := x_33) (z := ai h_32 a_37 ((77 + (4 * x2)) + 3)) rfl r_34 (ai_in _ _ _) (fun c_41 => ?_) (fun c_41 => ?_)
        · have k := k.2 c_41
          refine R_ps 2 (pc2 := 2) (L2 := [some (vr (some w)), some (vi (J x1)), some (vi ((J x2) + J 1)), some (vi (J (77 + (4 * x2))))]) (st2 := []) rfl ?_
          rw [show ((J x2) + J 1) = J (x2 + 1) from J_add' rfl rfl]
          exact R_drop k (LE_of (L := [some (vr (some w)), some (vi (J x1)), some (vi (J (x2 + 1))), none]) (L2 := [some (vr (some w)), some (vi (J x1)), some (vi (J (x2 + 1))), some (vi (J (77 + (4 * x2))))]) ⟨rfl, rfl, rfl, trivial⟩)
        · have k := k.1 (Classical.not_not.mp c_41)
          refine R_ps 2 (pc2 := 69) (L2 := [some (vr (some w)), some (vi (J x1)), some (vi (J x2)), some (vi (J (77 + (4 * x2))))]) (st2 := [vi (J x1), vr (some w)]) rfl ?_
          refine R_zcI (as := [vr (some w), vi (J x1)]) rfl rfl ⟨Nat.le_of_ble_eq_true rfl, Nat.le_of_ble_eq_true rfl, rfl, (Or.inr ⟨_, rfl, t0⟩)⟩ rfl rfl k (fun x_44 h_43 r_45 k => ?_)
          refine R_ps 1 (pc2 := 73) (L2 := [some (vr (some w)), some (vi (J x1)), some (vi (J x2)), some (vi (J (77 + (4 * x2))))]) (st2 := [vr (some w), vi (J x_44)]) rfl ?_
          refine R_getR rfl t0 ?_
          refine R_ps 3 (pc2 := 79) (L2 := [some (vr (some w)), some (vi (J x1)), some (vi (J x2)), some (vi (J (77 + (4 * x2))))]) (st2 := [vi ((J (77 + (4 * x2))) + (J 2)), vr (gr h_43 w 1), vi (J x_44)]) rfl ?_
          rw [show ((J (77 + (4 * x2))) + (J 2)) = J ((77 + (4 * x2)) + 2) from J_add' rfl rfl]
          obtain ⟨a_48, e_49, k⟩ := k
          rw [e_49]
          obtain ⟨t_50, k⟩ := k
          obtain ⟨t_51, k⟩ := k
          refine R_ziald (i := (77 + (4 * x2)) + 2) rfl (Or.inl t_50) t_51 ?_
          refine R_zif (x := x_44) (z := ai h_43 a_48 ((77 + (4 * x2)) + 2)) rfl r_45 (ai_in _ _ _) (fun c_52 => ?_) (fun c_52 => ?_)
          · have k := k.2 c_52
            refine R_ps 2 (pc2 := 2) (L2 := [some (vr (some w)), some (vi (J x1)), some (vi ((J x2) + J 1)), some (vi (J (77 + (4 * x2))))]) (st2 := []) rfl ?_
            rw [show ((J x2) + J 1) = J (x2 + 1) from J_add' rfl rfl]
            exact R_drop k (LE_of (L := [some (vr (some w)), some (vi (J x1)), some (vi (J (x2 + 1))), none]) (L2 := [some (vr (some w)), some (vi (J x1)), some (vi (J (x2 + 1))), some (vi (J (77 + (4 * x2))))]) ⟨rfl, rfl, rfl, trivial⟩)
          · have k := k.1 (Classical.not_not.mp c_52)
            refine R_ps 1 (pc2 := 84) (L2 := [some (vr (some w)), some (vi (J x1)), some (vi (J x2)), some (vi (J (77 + (4 * x2))))]) (st2 := [vi (J 1)]) rfl ?_
            exact R_zzret (x := 1) rfl rfl (Or.inr rfl) (R_zr (x := 1) (K := K) (by decide) k)
/-- DroneCorridorsModel.strikes -/
theorem z200 {T N : Nat → Nat} {h : PH} {w : Nat} {K : Int → PH → Prop} (k : (ZW T N 200 4 [some (vr (some w)), some (vi (J 0)), some (vi (J 0)), none] [] h K)) : ZI T N 200 [vr (some w)] h K := by
  show WP T N 200 0 [some (vr (some w)), none, none, none] [] h _
  refine R_ps 4 (pc2 := 4) (L2 := [some (vr (some w)), some (vi (J 0)), some (vi (J 0)), none]) (st2 := []) rfl ?_
  exact k
theorem z200_4 {T N : Nat → Nat} {h : PH} {w : Nat} {x1 : Int} {x2 : Int} {K : Int → PH → Prop} (t0 : T w = 12) (r1 : In x1) (r2 : In x2) (k : (∃ a_3, (gr h w 1) = some a_3 ∧ T a_3 = 22 ∧ (0 ≤ (117 : Int) ∧ (117 : Int) < (N a_3 : Int) ∧ (117 : Int) < 2147483648) ∧ ((x2 < (ai h a_3 117) → (ZI T N 193 [vr (some w), vi (J x2)] h (fun x_11 h_10 => (ZW T N 200 21 [some (vr (some w)), some (vi (J x1)), some (vi (J x2)), some (vi (J x_11))] [] h_10 K)))) ∧ (¬ (x2 < (ai h a_3 117)) → (K x1 h))))) : ZW T N 200 4 [some (vr (some w)), some (vi (J x1)), some (vi (J x2)), none] [] h K := by
  show WP T N 200 4 [some (vr (some w)), some (vi (J x1)), some (vi (J x2)), none] [] h _
  refine R_ps 2 (pc2 := 6) (L2 := [some (vr (some w)), some (vi (J x1)), some (vi (J x2)), none]) (st2 := [vr (some w), vi (J x2)]) rfl ?_
  refine R_getR rfl t0 ?_
  refine R_ps 1 (pc2 := 11) (L2 := [some (vr (some w)), some (vi (J x1)), some (vi (J x2)), none]) (st2 := [vi (J 117), vr (gr h w 1), vi (J x2)]) rfl ?_
  obtain ⟨a_3, e_4, k⟩ := k
  rw [e_4]
  obtain ⟨t_5, k⟩ := k
  obtain ⟨t_6, k⟩ := k
  refine R_ziald (i := 117) rfl (Or.inl t_5) t_6 ?_
  refine R_zif (x := x2) (z := ai h a_3 117) rfl r2 (ai_in _ _ _) (fun c_7 => ?_) (fun c_7 => ?_)
  · have k := k.2 c_7
    refine R_ps 1 (pc2 := 67) (L2 := [some (vr (some w)), some (vi (J x1)), some (vi (J x2)), none]) (st2 := [vi (J x1)]) rfl ?_
    exact R_iret rfl rfl (R_zr (x := x1) (K := K) r1 k)
  · have k := k.1 (Classical.not_not.mp c_7)
    refine R_ps 2 (pc2 := 17) (L2 := [some (vr (some w)), some (vi (J x1)), some (vi (J x2)), none]) (st2 := [vi (J x2), vr (some w)]) rfl ?_
    refine R_zcI (as := [vr (some w), vi (J x2)]) rfl rfl ⟨Nat.le_of_ble_eq_true rfl, Nat.le_of_ble_eq_true rfl, rfl, (Or.inr ⟨_, rfl, t0⟩)⟩ rfl rfl k (fun x_11 h_10 r_12 k => ?_)
    refine R_ps 1 (pc2 := 21) (L2 := [some (vr (some w)), some (vi (J x1)), some (vi (J x2)), some (vi (J x_11))]) (st2 := []) rfl ?_
    exact k
theorem z200_21 {T N : Nat → Nat} {h : PH} {w : Nat} {x1 : Int} {x2 : Int} {x3 : Int} {K : Int → PH → Prop} (t0 : T w = 12) (r1 : In x1) (r2 : In x2) (r3 : In x3) (k : (ZI T N 168 [vr (some w), vi (J x2), vi (J 5)] h (fun x_3 h_2 => (((x3 < x_3 → (ZI T N 186 [vr (some w), vi (J x2), vi (J x3)] h_2 (fun x_8 h_7 => (ZI T N 199 [vr (some w), vi (J x_8)] h_7 (fun x_12 h_11 => (((x_12 = 0 → (ZW T N 200 21 [some (vr (some w)), some (vi (J (zor x1 0))), some (vi (J x2)), some (vi (J (x3 + 1)))] [] h_11 K)) ∧ (¬ (x_12 = 0) → (ZW T N 200 21 [some (vr (some w)), some (vi (J (zor x1 (zshl 1 x2)))), some (vi (J x2)), some (vi (J (x3 + 1)))] [] h_11 K))))))))) ∧ (¬ (x3 < x_3) → (ZW T N 200 4 [some (vr (some w)), some (vi (J x1)), some (vi (J (x2 + 1))), none] [] h_2 K))))))) : ZW T N 200 21 [some (vr (some w)), some (vi (J x1)), some (vi (J x2)), some (vi (J x3))] [] h K := by
  show WP T N 200 21 [some (vr (some w)), some (vi (J x1)), some (vi (J x2)), some (vi (J x3))] [] h _
  refine R_ps 4 (pc2 := 25) (L2 := [some (vr (some w)), some (vi (J x1)), some (vi (J x2)), some (vi (J x3))]) (st2 := [vi (J 5), vi (J x2), vr (some w), vi (J x3)]) rfl ?_
  refine R_zcI (as := [vr (some w), vi (J x2), vi (J 5)]) rfl rfl ⟨Nat.le_of_ble_eq_true rfl, Nat.le_of_ble_eq_true rfl, rfl, (Or.inr ⟨_, rfl, t0⟩)⟩ rfl rfl k (fun x_3 h_2 r_4 k => ?_)
  refine R_zif (x := x3) (z := x_3) rfl r3 r_4 (fun c_5 => ?_) (fun c_5 => ?_)
  · have k := k.2 c_5
    refine R_ps 2 (pc2 := 4) (L2 := [some (vr (some w)), some (vi (J x1)), some (vi ((J x2) + J 1)), some (vi (J x3))]) (st2 := []) rfl ?_
    rw [show ((J x2) + J 1) = J (x2 + 1) from J_add' rfl rfl]
    exact R_drop k (LE_of (L := [some (vr (some w)), some (vi (J x1)), some (vi (J (x2 + 1))), none]) (L2 := [some (vr (some w)), some (vi (J x1)), some (vi (J (x2 + 1))), some (vi (J x3))]) ⟨rfl, rfl, rfl, trivial⟩)
  · have k := k.1 (Classical.not_not.mp c_5)
    refine R_ps 5 (pc2 := 36) (L2 := [some (vr (some w)), some (vi (J x1)), some (vi (J x2)), some (vi (J x3))]) (st2 := [vi (J x3), vi (J x2), vr (some w), vr (some w), vi (J x1)]) rfl ?_
    refine R_zcI (as := [vr (some w), vi (J x2), vi (J x3)]) rfl rfl ⟨Nat.le_of_ble_eq_true rfl, Nat.le_of_ble_eq_true rfl, rfl, (Or.inr ⟨_, rfl, t0⟩)⟩ rfl rfl k (fun x_8 h_7 r_9 k => ?_)
    refine R_zcI (as := [vr (some w), vi (J x_8)]) rfl rfl ⟨Nat.le_of_ble_eq_true rfl, Nat.le_of_ble_eq_true rfl, rfl, (Or.inr ⟨_, rfl, t0⟩)⟩ rfl rfl k (fun x_12 h_11 r_13 k => ?_)
    refine R_zif0 (x := x_12) rfl r_13 (fun c_14 => ?_) (fun c_14 => ?_)
    · have k := k.1 c_14
      refine R_ps 5 (pc2 := 21) (L2 := [some (vr (some w)), some (vi ((J x1) ||| (J 0))), some (vi (J x2)), some (vi ((J x3) + J 1))]) (st2 := []) rfl ?_
      rw [show ((J x1) ||| (J 0)) = J (zor x1 0) from J_or' rfl rfl]
      rw [show ((J x3) + J 1) = J (x3 + 1) from J_add' rfl rfl]
      exact k
    · have k := k.2 c_14
      refine R_ps 8 (pc2 := 21) (L2 := [some (vr (some w)), some (vi ((J x1) ||| ((J 1) <<< ((J x2) &&& 31)))), some (vi (J x2)), some (vi ((J x3) + J 1))]) (st2 := []) rfl ?_
      rw [show ((J x1) ||| ((J 1) <<< ((J x2) &&& 31))) = J (zor x1 (zshl 1 x2)) from J_or' rfl (J_shl' rfl rfl)]
      rw [show ((J x3) + J 1) = J (x3 + 1) from J_add' rfl rfl]
      exact k
/-- DroneCorridorsModel.struck -/
theorem z201 {T N : Nat → Nat} {h : PH} {w : Nat} {K : Int → PH → Prop} (t0 : T w = 12) (k : (∀ h_2, h_2 = wi h w 0 0 → ZI T N 200 [vr (some w)] h_2 (fun x_6 h_5 => (K x_6 h_5)))) : ZI T N 201 [vr (some w)] h K := by
  show WP T N 201 0 [some (vr (some w))] [] h _
  refine R_ps 2 (pc2 := 2) (L2 := [some (vr (some w))]) (st2 := [vi (J 0), vr (some w)]) rfl ?_
  refine R_zputI (x := 0) (z := 0) rfl t0 rfl ?_
  show WP T N _ _ _ _ (wi h w 0 0) _
  generalize e_3 : wi h w 0 0 = h_2
  replace k := k h_2 e_3.symm
  refine R_ps 1 (pc2 := 6) (L2 := [some (vr (some w))]) (st2 := [vr (some w)]) rfl ?_
  refine R_zcI (as := [vr (some w)]) rfl rfl ⟨Nat.le_of_ble_eq_true rfl, Nat.le_of_ble_eq_true rfl, rfl, (Or.inr ⟨_, rfl, t0⟩)⟩ rfl rfl k (fun x_6 h_5 r_7 k => ?_)
  exact R_iret rfl rfl (R_zr (x := x_6) (K := K) r_7 k)
/-- DroneCorridorsModel.isAlike -/
theorem z202 {T N : Nat → Nat} {h : PH} {x0 : Int} {x1 : Int} {K : Int → PH → Prop} (r0 : In x0) (r1 : In x1) (k : (ZI T N 187 [vi (J x0)] h (fun x_3 h_2 => (ZI T N 187 [vi (J x1)] h_2 (fun x_7 h_6 => (((x_3 = x_7 → (ZI T N 189 [vi (J x0)] h_6 (fun x_13 h_12 => (ZI T N 189 [vi (J x1)] h_12 (fun x_17 h_16 => (((x_13 = x_17 → (K 1 h_16)) ∧ (¬ (x_13 = x_17) → (K 0 h_16))))))))) ∧ (¬ (x_3 = x_7) → (K 0 h_6))))))))) : ZI T N 202 [vi (J x0), vi (J x1)] h K := by
  show WP T N 202 0 [some (vi (J x0)), some (vi (J x1))] [] h _
  refine R_ps 1 (pc2 := 1) (L2 := [some (vi (J x0)), some (vi (J x1))]) (st2 := [vi (J x0)]) rfl ?_
  refine R_zcI (as := [vi (J x0)]) rfl rfl ⟨Nat.le_of_ble_eq_true rfl, Nat.le_of_ble_eq_true rfl, rfl, (Or.inl rfl)⟩ rfl rfl k (fun x_3 h_2 r_4 k => ?_)
  refine R_ps 1 (pc2 := 5) (L2 := [some (vi (J x0)), some (vi (J x1))]) (st2 := [vi (J x1), vi (J x_3)]) rfl ?_
  refine R_zcI (as := [vi (J x1)]) rfl rfl ⟨Nat.le_of_ble_eq_true rfl, Nat.le_of_ble_eq_true rfl, rfl, (Or.inl rfl)⟩ rfl rfl k (fun x_7 h_6 r_8 k => ?_)
  refine R_zif (x := x_3) (z := x_7) rfl r_4 r_8 (fun c_9 => ?_) (fun c_9 => ?_)
  · have k := k.2 c_9
    refine R_ps 1 (pc2 := 27) (L2 := [some (vi (J x0)), some (vi (J x1))]) (st2 := [vi (J 0)]) rfl ?_
    exact R_zzret (x := 0) rfl rfl (Or.inl rfl) (R_zr (x := 0) (K := K) (by decide) k)
  · have k := k.1 (Classical.not_not.mp c_9)
    refine R_ps 1 (pc2 := 12) (L2 := [some (vi (J x0)), some (vi (J x1))]) (st2 := [vi (J x0)]) rfl ?_
    refine R_zcI (as := [vi (J x0)]) rfl rfl ⟨Nat.le_of_ble_eq_true rfl, Nat.le_of_ble_eq_true rfl, rfl, (Or.inl rfl)⟩ rfl rfl k (fun x_13 h_12 r_14 k => ?_)
    refine R_ps 1 (pc2 := 16) (L2 := [some (vi (J x0)), some (vi (J x1))]) (st2 := [vi (J x1), vi (J x_13)]) rfl ?_
    refine R_zcI (as := [vi (J x1)]) rfl rfl ⟨Nat.le_of_ble_eq_true rfl, Nat.le_of_ble_eq_true rfl, rfl, (Or.inl rfl)⟩ rfl rfl k (fun x_17 h_16 r_18 k => ?_)
    refine R_zif (x := x_13) (z := x_17) rfl r_14 r_18 (fun c_19 => ?_) (fun c_19 => ?_)
    · have k := k.2 c_19
      refine R_ps 1 (pc2 := 27) (L2 := [some (vi (J x0)), some (vi (J x1))]) (st2 := [vi (J 0)]) rfl ?_
      exact R_zzret (x := 0) rfl rfl (Or.inl rfl) (R_zr (x := 0) (K := K) (by decide) k)
    · have k := k.1 (Classical.not_not.mp c_19)
      refine R_ps 2 (pc2 := 27) (L2 := [some (vi (J x0)), some (vi (J x1))]) (st2 := [vi (J 1)]) rfl ?_
      exact R_zzret (x := 1) rfl rfl (Or.inr rfl) (R_zr (x := 1) (K := K) (by decide) k)
/-- DroneCorridorsModel.areApart -/
theorem z203 {T N : Nat → Nat} {h : PH} {w : Nat} {x1 : Int} {x2 : Int} {K : Int → PH → Prop} (t0 : T w = 12) (r1 : In x1) (r2 : In x2) (k : (ZI T N 188 [vi (J x1)] h (fun x_3 h_2 => (ZI T N 188 [vi (J x2)] h_2 (fun x_7 h_6 => (((x_3 = x_7 → (ZI T N 190 [vi (J x1)] h_6 (fun x_33 h_32 => (ZI T N 190 [vi (J x2)] h_32 (fun x_37 h_36 => (ZI T N 159 [vi (J (x_33 - x_37))] h_36 (fun x_41 h_40 => (((x_41 < 2 → (K 0 h_40)) ∧ (¬ (x_41 < 2) → (K 1 h_40))))))))))) ∧ (¬ (x_3 = x_7) → (ZI T N 191 [vr (some w), vi (J x1)] h_6 (fun x_12 h_11 => (ZI T N 190 [vi (J x2)] h_11 (fun x_16 h_15 => (((x_16 < x_12 → (ZI T N 191 [vr (some w), vi (J x2)] h_15 (fun x_22 h_21 => (ZI T N 190 [vi (J x1)] h_21 (fun x_26 h_25 => (((x_26 < x_22 → (K 0 h_25)) ∧ (¬ (x_26 < x_22) → (K 1 h_25))))))))) ∧ (¬ (x_16 < x_12) → (K 1 h_15)))))))))))))))) : ZI T N 203 [vr (some w), vi (J x1), vi (J x2)] h K := by
  show WP T N 203 0 [some (vr (some w)), some (vi (J x1)), some (vi (J x2))] [] h _
  refine R_ps 1 (pc2 := 1) (L2 := [some (vr (some w)), some (vi (J x1)), some (vi (J x2))]) (st2 := [vi (J x1)]) rfl ?_
  refine R_zcI (as := [vi (J x1)]) rfl rfl ⟨Nat.le_of_ble_eq_true rfl, Nat.le_of_ble_eq_true rfl, rfl, (Or.inl rfl)⟩ rfl rfl k (fun x_3 h_2 r_4 k => ?_)
  refine R_ps 1 (pc2 := 5) (L2 := [some (vr (some w)), some (vi (J x1)), some (vi (J x2))]) (st2 := [vi (J x2), vi (J x_3)]) rfl ?_
  refine R_zcI (as := [vi (J x2)]) rfl rfl ⟨Nat.le_of_ble_eq_true rfl, Nat.le_of_ble_eq_true rfl, rfl, (Or.inl rfl)⟩ rfl rfl k (fun x_7 h_6 r_8 k => ?_)
  refine R_zif (x := x_3) (z := x_7) rfl r_4 r_8 (fun c_9 => ?_) (fun c_9 => ?_)
  · have k := k.2 c_9
    refine R_ps 2 (pc2 := 35) (L2 := [some (vr (some w)), some (vi (J x1)), some (vi (J x2))]) (st2 := [vi (J x1), vr (some w)]) rfl ?_
    refine R_zcI (as := [vr (some w), vi (J x1)]) rfl rfl ⟨Nat.le_of_ble_eq_true rfl, Nat.le_of_ble_eq_true rfl, rfl, (Or.inr ⟨_, rfl, t0⟩)⟩ rfl rfl k (fun x_12 h_11 r_13 k => ?_)
    refine R_ps 1 (pc2 := 39) (L2 := [some (vr (some w)), some (vi (J x1)), some (vi (J x2))]) (st2 := [vi (J x2), vi (J x_12)]) rfl ?_
    refine R_zcI (as := [vi (J x2)]) rfl rfl ⟨Nat.le_of_ble_eq_true rfl, Nat.le_of_ble_eq_true rfl, rfl, (Or.inl rfl)⟩ rfl rfl k (fun x_16 h_15 r_17 k => ?_)
    refine R_zif (x := x_12) (z := x_16) rfl r_13 r_17 (fun c_18 => ?_) (fun c_18 => ?_)
    · have k := k.2 c_18
      refine R_ps 2 (pc2 := 62) (L2 := [some (vr (some w)), some (vi (J x1)), some (vi (J x2))]) (st2 := [vi (J 1)]) rfl ?_
      exact R_zzret (x := 1) rfl rfl (Or.inr rfl) (R_zr (x := 1) (K := K) (by decide) k)
    · have k := k.1 (Classical.not_not.mp c_18)
      refine R_ps 2 (pc2 := 47) (L2 := [some (vr (some w)), some (vi (J x1)), some (vi (J x2))]) (st2 := [vi (J x2), vr (some w)]) rfl ?_
      refine R_zcI (as := [vr (some w), vi (J x2)]) rfl rfl ⟨Nat.le_of_ble_eq_true rfl, Nat.le_of_ble_eq_true rfl, rfl, (Or.inr ⟨_, rfl, t0⟩)⟩ rfl rfl k (fun x_22 h_21 r_23 k => ?_)
      refine R_ps 1 (pc2 := 51) (L2 := [some (vr (some w)), some (vi (J x1)), some (vi (J x2))]) (st2 := [vi (J x1), vi (J x_22)]) rfl ?_
      refine R_zcI (as := [vi (J x1)]) rfl rfl ⟨Nat.le_of_ble_eq_true rfl, Nat.le_of_ble_eq_true rfl, rfl, (Or.inl rfl)⟩ rfl rfl k (fun x_26 h_25 r_27 k => ?_)
      refine R_zif (x := x_22) (z := x_26) rfl r_23 r_27 (fun c_28 => ?_) (fun c_28 => ?_)
      · have k := k.1 c_28
        refine R_ps 1 (pc2 := 62) (L2 := [some (vr (some w)), some (vi (J x1)), some (vi (J x2))]) (st2 := [vi (J 0)]) rfl ?_
        exact R_zzret (x := 0) rfl rfl (Or.inl rfl) (R_zr (x := 0) (K := K) (by decide) k)
      · have k := k.2 c_28
        refine R_ps 2 (pc2 := 62) (L2 := [some (vr (some w)), some (vi (J x1)), some (vi (J x2))]) (st2 := [vi (J 1)]) rfl ?_
        exact R_zzret (x := 1) rfl rfl (Or.inr rfl) (R_zr (x := 1) (K := K) (by decide) k)
  · have k := k.1 (Classical.not_not.mp c_9)
    refine R_ps 1 (pc2 := 12) (L2 := [some (vr (some w)), some (vi (J x1)), some (vi (J x2))]) (st2 := [vi (J x1)]) rfl ?_
    refine R_zcI (as := [vi (J x1)]) rfl rfl ⟨Nat.le_of_ble_eq_true rfl, Nat.le_of_ble_eq_true rfl, rfl, (Or.inl rfl)⟩ rfl rfl k (fun x_33 h_32 r_34 k => ?_)
    refine R_ps 1 (pc2 := 16) (L2 := [some (vr (some w)), some (vi (J x1)), some (vi (J x2))]) (st2 := [vi (J x2), vi (J x_33)]) rfl ?_
    refine R_zcI (as := [vi (J x2)]) rfl rfl ⟨Nat.le_of_ble_eq_true rfl, Nat.le_of_ble_eq_true rfl, rfl, (Or.inl rfl)⟩ rfl rfl k (fun x_37 h_36 r_38 k => ?_)
    refine R_ps 1 (pc2 := 20) (L2 := [some (vr (some w)), some (vi (J x1)), some (vi (J x2))]) (st2 := [vi ((J x_33) - (J x_37))]) rfl ?_
    rw [show ((J x_33) - (J x_37)) = J (x_33 - x_37) from J_sub' rfl rfl]
    refine R_zcI (as := [vi (J (x_33 - x_37))]) rfl rfl ⟨Nat.le_of_ble_eq_true rfl, Nat.le_of_ble_eq_true rfl, rfl, (Or.inl rfl)⟩ rfl rfl k (fun x_41 h_40 r_42 k => ?_)
    refine R_ps 1 (pc2 := 24) (L2 := [some (vr (some w)), some (vi (J x1)), some (vi (J x2))]) (st2 := [vi (J 2), vi (J x_41)]) rfl ?_
    refine R_zif (x := x_41) (z := 2) rfl r_42 (by decide) (fun c_43 => ?_) (fun c_43 => ?_)
    · have k := k.1 c_43
      refine R_ps 1 (pc2 := 32) (L2 := [some (vr (some w)), some (vi (J x1)), some (vi (J x2))]) (st2 := [vi (J 0)]) rfl ?_
      exact R_zzret (x := 0) rfl rfl (Or.inl rfl) (R_zr (x := 0) (K := K) (by decide) k)
    · have k := k.2 c_43
      refine R_ps 2 (pc2 := 32) (L2 := [some (vr (some w)), some (vi (J x1)), some (vi (J x2))]) (st2 := [vi (J 1)]) rfl ?_
      exact R_zzret (x := 1) rfl rfl (Or.inr rfl) (R_zr (x := 1) (K := K) (by decide) k)
/-- DroneCorridorsModel.isSeparated -/
theorem z204 {T N : Nat → Nat} {h : PH} {w : Nat} {x1 : Int} {x2 : Int} {K : Int → PH → Prop} (r1 : In x1) (r2 : In x2) (k : (ZW T N 204 2 [some (vr (some w)), some (vi (J x1)), some (vi (J x2)), some (vi (J 0)), none] [] h K)) : ZI T N 204 [vr (some w), vi (J x1), vi (J x2)] h K := by
  show WP T N 204 0 [some (vr (some w)), some (vi (J x1)), some (vi (J x2)), none, none] [] h _
  refine R_ps 2 (pc2 := 2) (L2 := [some (vr (some w)), some (vi (J x1)), some (vi (J x2)), some (vi (J 0)), none]) (st2 := []) rfl ?_
  exact k
theorem z204_2 {T N : Nat → Nat} {h : PH} {w : Nat} {x1 : Int} {x2 : Int} {x3 : Int} {K : Int → PH → Prop} (t0 : T w = 12) (r1 : In x1) (r2 : In x2) (r3 : In x3) (k : (∃ a_3, (gr h w 1) = some a_3 ∧ T a_3 = 22 ∧ (0 ≤ (117 : Int) ∧ (117 : Int) < (N a_3 : Int) ∧ (117 : Int) < 2147483648) ∧ ((x3 < (ai h a_3 117) → (ZW T N 204 16 [some (vr (some w)), some (vi (J x1)), some (vi (J x2)), some (vi (J x3)), some (vi (J 0))] [] h K)) ∧ (¬ (x3 < (ai h a_3 117)) → (K 1 h))))) : ZW T N 204 2 [some (vr (some w)), some (vi (J x1)), some (vi (J x2)), some (vi (J x3)), none] [] h K := by
  show WP T N 204 2 [some (vr (some w)), some (vi (J x1)), some (vi (J x2)), some (vi (J x3)), none] [] h _
  refine R_ps 2 (pc2 := 4) (L2 := [some (vr (some w)), some (vi (J x1)), some (vi (J x2)), some (vi (J x3)), none]) (st2 := [vr (some w), vi (J x3)]) rfl ?_
  refine R_getR rfl t0 ?_
  refine R_ps 1 (pc2 := 9) (L2 := [some (vr (some w)), some (vi (J x1)), some (vi (J x2)), some (vi (J x3)), none]) (st2 := [vi (J 117), vr (gr h w 1), vi (J x3)]) rfl ?_
  obtain ⟨a_3, e_4, k⟩ := k
  rw [e_4]
  obtain ⟨t_5, k⟩ := k
  obtain ⟨t_6, k⟩ := k
  refine R_ziald (i := 117) rfl (Or.inl t_5) t_6 ?_
  refine R_zif (x := x3) (z := ai h a_3 117) rfl r3 (ai_in _ _ _) (fun c_7 => ?_) (fun c_7 => ?_)
  · have k := k.2 c_7
    refine R_ps 1 (pc2 := 76) (L2 := [some (vr (some w)), some (vi (J x1)), some (vi (J x2)), some (vi (J x3)), none]) (st2 := [vi (J 1)]) rfl ?_
    exact R_zzret (x := 1) rfl rfl (Or.inr rfl) (R_zr (x := 1) (K := K) (by decide) k)
  · have k := k.1 (Classical.not_not.mp c_7)
    refine R_ps 2 (pc2 := 16) (L2 := [some (vr (some w)), some (vi (J x1)), some (vi (J x2)), some (vi (J x3)), some (vi (J 0))]) (st2 := []) rfl ?_
    exact k
theorem z204_16 {T N : Nat → Nat} {h : PH} {w : Nat} {x1 : Int} {x2 : Int} {x3 : Int} {x4 : Int} {K : Int → PH → Prop} (t0 : T w = 12) (r1 : In x1) (r2 : In x2) (r3 : In x3) (r4 : In x4) (k : (((x3 = x1 → (ZW T N 204 2 [some (vr (some w)), some (vi (J x1)), some (vi (J x2)), some (vi (J (x3 + 1))), none] [] h K)) ∧ (¬ (x3 = x1) → (ZI T N 168 [vr (some w), vi (J x3), vi (J 5)] h (fun x_4 h_3 => (((x4 < x_4 → (ZI T N 186 [vr (some w), vi (J x3), vi (J x4)] h_3 (fun x_9 h_8 => (ZI T N 202 [vi (J x2), vi (J x_9)] h_8 (fun x_13 h_12 => (((x_13 = 0 → (ZW T N 204 16 [some (vr (some w)), some (vi (J x1)), some (vi (J x2)), some (vi (J x3)), some (vi (J (x4 + 1)))] [] h_12 K)) ∧ (¬ (x_13 = 0) → (ZI T N 186 [vr (some w), vi (J x3), vi (J x4)] h_12 (fun x_18 h_17 => (ZI T N 203 [vr (some w), vi (J x2), vi (J x_18)] h_17 (fun x_22 h_21 => (((x_22 = 0 → (K 0 h_21)) ∧ (¬ (x_22 = 0) → (ZW T N 204 16 [some (vr (some w)), some (vi (J x1)), some (vi (J x2)), some (vi (J x3)), some (vi (J (x4 + 1)))] [] h_21 K)))))))))))))))) ∧ (¬ (x4 < x_4) → (ZW T N 204 2 [some (vr (some w)), some (vi (J x1)), some (vi (J x2)), some (vi (J (x3 + 1))), none] [] h_3 K)))))))))) : ZW T N 204 16 [some (vr (some w)), some (vi (J x1)), some (vi (J x2)), some (vi (J x3)), some (vi (J x4))] [] h K := by
  show WP T N 204 16 [some (vr (some w)), some (vi (J x1)), some (vi (J x2)), some (vi (J x3)), some (vi (J x4))] [] h _
  refine R_ps 2 (pc2 := 18) (L2 := [some (vr (some w)), some (vi (J x1)), some (vi (J x2)), some (vi (J x3)), some (vi (J x4))]) (st2 := [vi (J x1), vi (J x3)]) rfl ?_
  refine R_zif (x := x3) (z := x1) rfl r3 r1 (fun c_1 => ?_) (fun c_1 => ?_)
  · have k := k.1 c_1
    refine R_ps 2 (pc2 := 2) (L2 := [some (vr (some w)), some (vi (J x1)), some (vi (J x2)), some (vi ((J x3) + J 1)), some (vi (J x4))]) (st2 := []) rfl ?_
    rw [show ((J x3) + J 1) = J (x3 + 1) from J_add' rfl rfl]
    exact R_drop k (LE_of (L := [some (vr (some w)), some (vi (J x1)), some (vi (J x2)), some (vi (J (x3 + 1))), none]) (L2 := [some (vr (some w)), some (vi (J x1)), some (vi (J x2)), some (vi (J (x3 + 1))), some (vi (J x4))]) ⟨rfl, rfl, rfl, rfl, trivial⟩)
  · have k := k.2 c_1
    refine R_ps 4 (pc2 := 26) (L2 := [some (vr (some w)), some (vi (J x1)), some (vi (J x2)), some (vi (J x3)), some (vi (J x4))]) (st2 := [vi (J 5), vi (J x3), vr (some w), vi (J x4)]) rfl ?_
    refine R_zcI (as := [vr (some w), vi (J x3), vi (J 5)]) rfl rfl ⟨Nat.le_of_ble_eq_true rfl, Nat.le_of_ble_eq_true rfl, rfl, (Or.inr ⟨_, rfl, t0⟩)⟩ rfl rfl k (fun x_4 h_3 r_5 k => ?_)
    refine R_zif (x := x4) (z := x_4) rfl r4 r_5 (fun c_6 => ?_) (fun c_6 => ?_)
    · have k := k.2 c_6
      refine R_ps 2 (pc2 := 2) (L2 := [some (vr (some w)), some (vi (J x1)), some (vi (J x2)), some (vi ((J x3) + J 1)), some (vi (J x4))]) (st2 := []) rfl ?_
      rw [show ((J x3) + J 1) = J (x3 + 1) from J_add' rfl rfl]
      exact R_drop k (LE_of (L := [some (vr (some w)), some (vi (J x1)), some (vi (J x2)), some (vi (J (x3 + 1))), none]) (L2 := [some (vr (some w)), some (vi (J x1)), some (vi (J x2)), some (vi (J (x3 + 1))), some (vi (J x4))]) ⟨rfl, rfl, rfl, rfl, trivial⟩)
    · have k := k.1 (Classical.not_not.mp c_6)
      refine R_ps 4 (pc2 := 37) (L2 := [some (vr (some w)), some (vi (J x1)), some (vi (J x2)), some (vi (J x3)), some (vi (J x4))]) (st2 := [vi (J x4), vi (J x3), vr (some w), vi (J x2)]) rfl ?_
      refine R_zcI (as := [vr (some w), vi (J x3), vi (J x4)]) rfl rfl ⟨Nat.le_of_ble_eq_true rfl, Nat.le_of_ble_eq_true rfl, rfl, (Or.inr ⟨_, rfl, t0⟩)⟩ rfl rfl k (fun x_9 h_8 r_10 k => ?_)
      refine R_zcI (as := [vi (J x2), vi (J x_9)]) rfl rfl ⟨Nat.le_of_ble_eq_true rfl, Nat.le_of_ble_eq_true rfl, rfl, (Or.inl rfl)⟩ rfl rfl k (fun x_13 h_12 r_14 k => ?_)
      refine R_zif0 (x := x_13) rfl r_14 (fun c_15 => ?_) (fun c_15 => ?_)
      · have k := k.1 c_15
        refine R_ps 2 (pc2 := 16) (L2 := [some (vr (some w)), some (vi (J x1)), some (vi (J x2)), some (vi (J x3)), some (vi ((J x4) + J 1))]) (st2 := []) rfl ?_
        rw [show ((J x4) + J 1) = J (x4 + 1) from J_add' rfl rfl]
        exact k
      · have k := k.2 c_15
        refine R_ps 5 (pc2 := 52) (L2 := [some (vr (some w)), some (vi (J x1)), some (vi (J x2)), some (vi (J x3)), some (vi (J x4))]) (st2 := [vi (J x4), vi (J x3), vr (some w), vi (J x2), vr (some w)]) rfl ?_
        refine R_zcI (as := [vr (some w), vi (J x3), vi (J x4)]) rfl rfl ⟨Nat.le_of_ble_eq_true rfl, Nat.le_of_ble_eq_true rfl, rfl, (Or.inr ⟨_, rfl, t0⟩)⟩ rfl rfl k (fun x_18 h_17 r_19 k => ?_)
        refine R_zcI (as := [vr (some w), vi (J x2), vi (J x_18)]) rfl rfl ⟨Nat.le_of_ble_eq_true rfl, Nat.le_of_ble_eq_true rfl, rfl, (Or.inr ⟨_, rfl, t0⟩)⟩ rfl rfl k (fun x_22 h_21 r_23 k => ?_)
        refine R_zif0 (x := x_22) rfl r_23 (fun c_24 => ?_) (fun c_24 => ?_)
        · have k := k.2 c_24
          refine R_ps 2 (pc2 := 16) (L2 := [some (vr (some w)), some (vi (J x1)), some (vi (J x2)), some (vi (J x3)), some (vi ((J x4) + J 1))]) (st2 := []) rfl ?_
          rw [show ((J x4) + J 1) = J (x4 + 1) from J_add' rfl rfl]
          exact k
        · have k := k.1 (Classical.not_not.mp c_24)
          refine R_ps 1 (pc2 := 62) (L2 := [some (vr (some w)), some (vi (J x1)), some (vi (J x2)), some (vi (J x3)), some (vi (J x4))]) (st2 := [vi (J 0)]) rfl ?_
          exact R_zzret (x := 0) rfl rfl (Or.inl rfl) (R_zr (x := 0) (K := K) (by decide) k)
/-- DroneCorridorsModel.legAt -/
theorem z205 {T N : Nat → Nat} {h : PH} {w : Nat} {x1 : Int} {K : Int → PH → Prop} (t0 : T w = 12) (r1 : In x1) (k : ((0 ≤ x1 ∧ x1 < 2147483648) ∧ (0 ≤ (x1 % 96) ∧ (x1 % 96) < 2147483648) ∧ (0 ≤ ((x1 % 96) / 3) ∧ ((x1 % 96) / 3) < 2147483648) ∧ ZI T N 192 [vi (J ((x1 % 96) / 6)), vi (J (((x1 % 96) / 3) % 2)), vi (J ((x1 % 96) % 3)), vi (J ((ai h w 18) + (x1 / 96)))] h (fun x_13 h_12 => (K x_13 h_12)))) : ZI T N 205 [vr (some w), vi (J x1)] h K := by
  show WP T N 205 0 [some (vr (some w)), some (vi (J x1)), none] [] h _
  refine R_ps 2 (pc2 := 3) (L2 := [some (vr (some w)), some (vi (J x1)), none]) (st2 := [vi (J 96), vi (J x1)]) rfl ?_
  obtain ⟨t_2, k⟩ := k
  refine R_zrem (x := x1) (z := 96) rfl (by decide) t_2 ?_
  refine R_ps 3 (pc2 := 8) (L2 := [some (vr (some w)), some (vi (J x1)), some (vi (J (x1 % 96)))]) (st2 := [vi (J 6), vi (J (x1 % 96))]) rfl ?_
  obtain ⟨t_4, k⟩ := k
  refine R_zdiv (x := x1 % 96) (z := 6) rfl (by decide) t_4 ?_
  refine R_ps 2 (pc2 := 11) (L2 := [some (vr (some w)), some (vi (J x1)), some (vi (J (x1 % 96)))]) (st2 := [vi (J 3), vi (J (x1 % 96)), vi (J ((x1 % 96) / 6))]) rfl ?_
  refine R_zdiv (x := x1 % 96) (z := 3) rfl (by decide) t_4 ?_
  refine R_ps 1 (pc2 := 13) (L2 := [some (vr (some w)), some (vi (J x1)), some (vi (J (x1 % 96)))]) (st2 := [vi (J 2), vi (J ((x1 % 96) / 3)), vi (J ((x1 % 96) / 6))]) rfl ?_
  obtain ⟨t_7, k⟩ := k
  refine R_zrem (x := (x1 % 96) / 3) (z := 2) rfl (by decide) t_7 ?_
  refine R_ps 2 (pc2 := 16) (L2 := [some (vr (some w)), some (vi (J x1)), some (vi (J (x1 % 96)))]) (st2 := [vi (J 3), vi (J (x1 % 96)), vi (J (((x1 % 96) / 3) % 2)), vi (J ((x1 % 96) / 6))]) rfl ?_
  refine R_zrem (x := x1 % 96) (z := 3) rfl (by decide) t_4 ?_
  refine R_ps 1 (pc2 := 18) (L2 := [some (vr (some w)), some (vi (J x1)), some (vi (J (x1 % 96)))]) (st2 := [vr (some w), vi (J ((x1 % 96) % 3)), vi (J (((x1 % 96) / 3) % 2)), vi (J ((x1 % 96) / 6))]) rfl ?_
  refine R_zgetI (z := 18) rfl t0 rfl ?_
  refine R_ps 2 (pc2 := 24) (L2 := [some (vr (some w)), some (vi (J x1)), some (vi (J (x1 % 96)))]) (st2 := [vi (J 96), vi (J x1), vi (J (ai h w 18)), vi (J ((x1 % 96) % 3)), vi (J (((x1 % 96) / 3) % 2)), vi (J ((x1 % 96) / 6))]) rfl ?_
  refine R_zdiv (x := x1) (z := 96) rfl (by decide) t_2 ?_
  refine R_ps 1 (pc2 := 26) (L2 := [some (vr (some w)), some (vi (J x1)), some (vi (J (x1 % 96)))]) (st2 := [vi ((J (ai h w 18)) + (J (x1 / 96))), vi (J ((x1 % 96) % 3)), vi (J (((x1 % 96) / 3) % 2)), vi (J ((x1 % 96) / 6))]) rfl ?_
  rw [show ((J (ai h w 18)) + (J (x1 / 96))) = J ((ai h w 18) + (x1 / 96)) from J_add' rfl rfl]
  refine R_zcI (as := [vi (J ((x1 % 96) / 6)), vi (J (((x1 % 96) / 3) % 2)), vi (J ((x1 % 96) % 3)), vi (J ((ai h w 18) + (x1 / 96)))]) rfl rfl ⟨Nat.le_of_ble_eq_true rfl, Nat.le_of_ble_eq_true rfl, rfl, (Or.inl rfl)⟩ rfl rfl k (fun x_13 h_12 r_14 k => ?_)
  exact R_iret rfl rfl (R_zr (x := x_13) (K := K) r_14 k)
