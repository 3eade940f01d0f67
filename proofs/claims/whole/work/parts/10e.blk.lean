/-! WHAT IS TO BE SHOWN OF EACH METHOD, by program (gen_z.py): 206 to 226 -/
/-- DroneCorridorsModel.begins -/
theorem z206 {T N : Nat → Nat} {h : PH} {w : Nat} {x1 : Int} {K : Int → PH → Prop} (t0 : T w = 12) (r1 : In x1) (k : (ZI T N 168 [vr (some w), vi (J x1), vi (J 3)] h (fun x_3 h_2 => (∀ h_6, h_6 = wi h_2 w 20 x_3 → ZI T N 168 [vr (some w), vi (J x1), vi (J 0)] h_6 (fun x_10 h_9 => (((x_10 = 0 → (∀ h_60, h_60 = wi h_9 w 19 0 → ZI T N 168 [vr (some w), vi (J x1), vi (J 0)] h_60 (fun x_64 h_63 => (((x_64 = 2 → (ZI T N 186 [vr (some w), vi (J x1), vi (J 0)] h_63 (fun x_85 h_84 => (ZI T N 191 [vr (some w), vi (J x_85)] h_84 (fun x_89 h_88 => (∀ h_92, h_92 = wi h_88 w 18 x_89 → ZI T N 168 [vr (some w), vi (J x1), vi (J 0)] h_92 (fun x_96 h_95 => (((x_96 = 3 → (K 0 h_95)) ∧ (¬ (x_96 = 3) → (K 1 h_95))))))))))) ∧ (¬ (x_64 = 2) → (∃ a_69, (gr h_63 w 1) = some a_69 ∧ T a_69 = 22 ∧ (0 ≤ (448 : Int) ∧ (448 : Int) < (N a_69 : Int) ∧ (448 : Int) < 2147483648) ∧ ∀ h_74, h_74 = wi h_63 w 18 (ai h_63 a_69 448) → ZI T N 168 [vr (some w), vi (J x1), vi (J 0)] h_74 (fun x_78 h_77 => (((x_78 = 3 → (K 0 h_77)) ∧ (¬ (x_78 = 3) → (K 1 h_77)))))))))))) ∧ (¬ (x_10 = 0) → (ZI T N 168 [vr (some w), vi (J x1), vi (J 2)] h_9 (fun x_15 h_14 => (∀ h_18, h_18 = wi h_14 w 19 x_15 → ZI T N 168 [vr (some w), vi (J x1), vi (J 0)] h_18 (fun x_22 h_21 => (((x_22 = 2 → (ZI T N 186 [vr (some w), vi (J x1), vi (J 0)] h_21 (fun x_43 h_42 => (ZI T N 191 [vr (some w), vi (J x_43)] h_42 (fun x_47 h_46 => (∀ h_50, h_50 = wi h_46 w 18 x_47 → ZI T N 168 [vr (some w), vi (J x1), vi (J 0)] h_50 (fun x_54 h_53 => (((x_54 = 3 → (K 0 h_53)) ∧ (¬ (x_54 = 3) → (K 1 h_53))))))))))) ∧ (¬ (x_22 = 2) → (∃ a_27, (gr h_21 w 1) = some a_27 ∧ T a_27 = 22 ∧ (0 ≤ (448 : Int) ∧ (448 : Int) < (N a_27 : Int) ∧ (448 : Int) < 2147483648) ∧ ∀ h_32, h_32 = wi h_21 w 18 (ai h_21 a_27 448) → ZI T N 168 [vr (some w), vi (J x1), vi (J 0)] h_32 (fun x_36 h_35 => (((x_36 = 3 → (K 0 h_35)) ∧ (¬ (x_36 = 3) → (K 1 h_35))))))))))))))))))))) : ZI T N 206 [vr (some w), vi (J x1)] h K := by
  show WP T N 206 0 [some (vr (some w)), some (vi (J x1))] [] h _
  refine R_ps 4 (pc2 := 4) (L2 := [some (vr (some w)), some (vi (J x1))]) (st2 := [vi (J 3), vi (J x1), vr (some w), vr (some w)]) rfl ?_
  refine R_zcI (as := [vr (some w), vi (J x1), vi (J 3)]) rfl rfl ⟨Nat.le_of_ble_eq_true rfl, Nat.le_of_ble_eq_true rfl, rfl, (Or.inr ⟨_, rfl, t0⟩)⟩ rfl rfl k (fun x_3 h_2 r_4 k => ?_)
  refine R_zputI (x := x_3) (z := 20) rfl t0 rfl ?_
  show WP T N _ _ _ _ (wi h_2 w 20 x_3) _
  generalize e_7 : wi h_2 w 20 x_3 = h_6
  replace k := k h_6 e_7.symm
  refine R_ps 4 (pc2 := 14) (L2 := [some (vr (some w)), some (vi (J x1))]) (st2 := [vi (J 0), vi (J x1), vr (some w), vr (some w)]) rfl ?_
  refine R_zcI (as := [vr (some w), vi (J x1), vi (J 0)]) rfl rfl ⟨Nat.le_of_ble_eq_true rfl, Nat.le_of_ble_eq_true rfl, rfl, (Or.inr ⟨_, rfl, t0⟩)⟩ rfl rfl k (fun x_10 h_9 r_11 k => ?_)
  refine R_zif0 (x := x_10) rfl r_11 (fun c_12 => ?_) (fun c_12 => ?_)
  · have k := k.2 c_12
    refine R_ps 3 (pc2 := 27) (L2 := [some (vr (some w)), some (vi (J x1))]) (st2 := [vi (J 2), vi (J x1), vr (some w), vr (some w)]) rfl ?_
    refine R_zcI (as := [vr (some w), vi (J x1), vi (J 2)]) rfl rfl ⟨Nat.le_of_ble_eq_true rfl, Nat.le_of_ble_eq_true rfl, rfl, (Or.inr ⟨_, rfl, t0⟩)⟩ rfl rfl k (fun x_15 h_14 r_16 k => ?_)
    refine R_zputI (x := x_15) (z := 19) rfl t0 rfl ?_
    show WP T N _ _ _ _ (wi h_14 w 19 x_15) _
    generalize e_19 : wi h_14 w 19 x_15 = h_18
    replace k := k h_18 e_19.symm
    refine R_ps 4 (pc2 := 37) (L2 := [some (vr (some w)), some (vi (J x1))]) (st2 := [vi (J 0), vi (J x1), vr (some w), vr (some w)]) rfl ?_
    refine R_zcI (as := [vr (some w), vi (J x1), vi (J 0)]) rfl rfl ⟨Nat.le_of_ble_eq_true rfl, Nat.le_of_ble_eq_true rfl, rfl, (Or.inr ⟨_, rfl, t0⟩)⟩ rfl rfl k (fun x_22 h_21 r_23 k => ?_)
    refine R_ps 1 (pc2 := 41) (L2 := [some (vr (some w)), some (vi (J x1))]) (st2 := [vi (J 2), vi (J x_22), vr (some w)]) rfl ?_
    refine R_zif (x := x_22) (z := 2) rfl r_23 (by decide) (fun c_24 => ?_) (fun c_24 => ?_)
    · have k := k.2 c_24
      refine R_ps 1 (pc2 := 58) (L2 := [some (vr (some w)), some (vi (J x1))]) (st2 := [vr (some w), vr (some w)]) rfl ?_
      refine R_getR rfl t0 ?_
      refine R_ps 1 (pc2 := 64) (L2 := [some (vr (some w)), some (vi (J x1))]) (st2 := [vi (J 448), vr (gr h_21 w 1), vr (some w)]) rfl ?_
      obtain ⟨a_27, e_28, k⟩ := k
      rw [e_28]
      obtain ⟨t_29, k⟩ := k
      obtain ⟨t_30, k⟩ := k
      refine R_ziald (i := 448) rfl (Or.inl t_29) t_30 ?_
      refine R_zputI (x := ai h_21 a_27 448) (z := 18) rfl t0 rfl ?_
      show WP T N _ _ _ _ (wi h_21 w 18 (ai h_21 a_27 448)) _
      generalize e_33 : wi h_21 w 18 (ai h_21 a_27 448) = h_32
      replace k := k h_32 e_33.symm
      refine R_ps 3 (pc2 := 71) (L2 := [some (vr (some w)), some (vi (J x1))]) (st2 := [vi (J 0), vi (J x1), vr (some w)]) rfl ?_
      refine R_zcI (as := [vr (some w), vi (J x1), vi (J 0)]) rfl rfl ⟨Nat.le_of_ble_eq_true rfl, Nat.le_of_ble_eq_true rfl, rfl, (Or.inr ⟨_, rfl, t0⟩)⟩ rfl rfl k (fun x_36 h_35 r_37 k => ?_)
      refine R_ps 1 (pc2 := 75) (L2 := [some (vr (some w)), some (vi (J x1))]) (st2 := [vi (J 3), vi (J x_36)]) rfl ?_
      refine R_zif (x := x_36) (z := 3) rfl r_37 (by decide) (fun c_38 => ?_) (fun c_38 => ?_)
      · have k := k.1 c_38
        refine R_ps 1 (pc2 := 83) (L2 := [some (vr (some w)), some (vi (J x1))]) (st2 := [vi (J 0)]) rfl ?_
        exact R_zzret (x := 0) rfl rfl (Or.inl rfl) (R_zr (x := 0) (K := K) (by decide) k)
      · have k := k.2 c_38
        refine R_ps 2 (pc2 := 83) (L2 := [some (vr (some w)), some (vi (J x1))]) (st2 := [vi (J 1)]) rfl ?_
        exact R_zzret (x := 1) rfl rfl (Or.inr rfl) (R_zr (x := 1) (K := K) (by decide) k)
    · have k := k.1 (Classical.not_not.mp c_24)
      refine R_ps 4 (pc2 := 48) (L2 := [some (vr (some w)), some (vi (J x1))]) (st2 := [vi (J 0), vi (J x1), vr (some w), vr (some w), vr (some w)]) rfl ?_
      refine R_zcI (as := [vr (some w), vi (J x1), vi (J 0)]) rfl rfl ⟨Nat.le_of_ble_eq_true rfl, Nat.le_of_ble_eq_true rfl, rfl, (Or.inr ⟨_, rfl, t0⟩)⟩ rfl rfl k (fun x_43 h_42 r_44 k => ?_)
      refine R_zcI (as := [vr (some w), vi (J x_43)]) rfl rfl ⟨Nat.le_of_ble_eq_true rfl, Nat.le_of_ble_eq_true rfl, rfl, (Or.inr ⟨_, rfl, t0⟩)⟩ rfl rfl k (fun x_47 h_46 r_48 k => ?_)
      refine R_ps 1 (pc2 := 65) (L2 := [some (vr (some w)), some (vi (J x1))]) (st2 := [vi (J x_47), vr (some w)]) rfl ?_
      refine R_zputI (x := x_47) (z := 18) rfl t0 rfl ?_
      show WP T N _ _ _ _ (wi h_46 w 18 x_47) _
      generalize e_51 : wi h_46 w 18 x_47 = h_50
      replace k := k h_50 e_51.symm
      refine R_ps 3 (pc2 := 71) (L2 := [some (vr (some w)), some (vi (J x1))]) (st2 := [vi (J 0), vi (J x1), vr (some w)]) rfl ?_
      refine R_zcI (as := [vr (some w), vi (J x1), vi (J 0)]) rfl rfl ⟨Nat.le_of_ble_eq_true rfl, Nat.le_of_ble_eq_true rfl, rfl, (Or.inr ⟨_, rfl, t0⟩)⟩ rfl rfl k (fun x_54 h_53 r_55 k => ?_)
      refine R_ps 1 (pc2 := 75) (L2 := [some (vr (some w)), some (vi (J x1))]) (st2 := [vi (J 3), vi (J x_54)]) rfl ?_
      refine R_zif (x := x_54) (z := 3) rfl r_55 (by decide) (fun c_56 => ?_) (fun c_56 => ?_)
      · have k := k.1 c_56
        refine R_ps 1 (pc2 := 83) (L2 := [some (vr (some w)), some (vi (J x1))]) (st2 := [vi (J 0)]) rfl ?_
        exact R_zzret (x := 0) rfl rfl (Or.inl rfl) (R_zr (x := 0) (K := K) (by decide) k)
      · have k := k.2 c_56
        refine R_ps 2 (pc2 := 83) (L2 := [some (vr (some w)), some (vi (J x1))]) (st2 := [vi (J 1)]) rfl ?_
        exact R_zzret (x := 1) rfl rfl (Or.inr rfl) (R_zr (x := 1) (K := K) (by decide) k)
  · have k := k.1 (Classical.not_not.mp c_12)
    refine R_ps 2 (pc2 := 30) (L2 := [some (vr (some w)), some (vi (J x1))]) (st2 := [vi (J 0), vr (some w)]) rfl ?_
    refine R_zputI (x := 0) (z := 19) rfl t0 rfl ?_
    show WP T N _ _ _ _ (wi h_9 w 19 0) _
    generalize e_61 : wi h_9 w 19 0 = h_60
    replace k := k h_60 e_61.symm
    refine R_ps 4 (pc2 := 37) (L2 := [some (vr (some w)), some (vi (J x1))]) (st2 := [vi (J 0), vi (J x1), vr (some w), vr (some w)]) rfl ?_
    refine R_zcI (as := [vr (some w), vi (J x1), vi (J 0)]) rfl rfl ⟨Nat.le_of_ble_eq_true rfl, Nat.le_of_ble_eq_true rfl, rfl, (Or.inr ⟨_, rfl, t0⟩)⟩ rfl rfl k (fun x_64 h_63 r_65 k => ?_)
    refine R_ps 1 (pc2 := 41) (L2 := [some (vr (some w)), some (vi (J x1))]) (st2 := [vi (J 2), vi (J x_64), vr (some w)]) rfl ?_
    refine R_zif (x := x_64) (z := 2) rfl r_65 (by decide) (fun c_66 => ?_) (fun c_66 => ?_)
    · have k := k.2 c_66
      refine R_ps 1 (pc2 := 58) (L2 := [some (vr (some w)), some (vi (J x1))]) (st2 := [vr (some w), vr (some w)]) rfl ?_
      refine R_getR rfl t0 ?_
      refine R_ps 1 (pc2 := 64) (L2 := [some (vr (some w)), some (vi (J x1))]) (st2 := [vi (J 448), vr (gr h_63 w 1), vr (some w)]) rfl ?_
      obtain ⟨a_69, e_70, k⟩ := k
      rw [e_70]
      obtain ⟨t_71, k⟩ := k
      obtain ⟨t_72, k⟩ := k
      refine R_ziald (i := 448) rfl (Or.inl t_71) t_72 ?_
      refine R_zputI (x := ai h_63 a_69 448) (z := 18) rfl t0 rfl ?_
      show WP T N _ _ _ _ (wi h_63 w 18 (ai h_63 a_69 448)) _
      generalize e_75 : wi h_63 w 18 (ai h_63 a_69 448) = h_74
      replace k := k h_74 e_75.symm
      refine R_ps 3 (pc2 := 71) (L2 := [some (vr (some w)), some (vi (J x1))]) (st2 := [vi (J 0), vi (J x1), vr (some w)]) rfl ?_
      refine R_zcI (as := [vr (some w), vi (J x1), vi (J 0)]) rfl rfl ⟨Nat.le_of_ble_eq_true rfl, Nat.le_of_ble_eq_true rfl, rfl, (Or.inr ⟨_, rfl, t0⟩)⟩ rfl rfl k (fun x_78 h_77 r_79 k => ?_)
      refine R_ps 1 (pc2 := 75) (L2 := [some (vr (some w)), some (vi (J x1))]) (st2 := [vi (J 3), vi (J x_78)]) rfl ?_
      refine R_zif (x := x_78) (z := 3) rfl r_79 (by decide) (fun c_80 => ?_) (fun c_80 => ?_)
      · have k := k.1 c_80
        refine R_ps 1 (pc2 := 83) (L2 := [some (vr (some w)), some (vi (J x1))]) (st2 := [vi (J 0)]) rfl ?_
        exact R_zzret (x := 0) rfl rfl (Or.inl rfl) (R_zr (x := 0) (K := K) (by decide) k)
      · have k := k.2 c_80
        refine R_ps 2 (pc2 := 83) (L2 := [some (vr (some w)), some (vi (J x1))]) (st2 := [vi (J 1)]) rfl ?_
        exact R_zzret (x := 1) rfl rfl (Or.inr rfl) (R_zr (x := 1) (K := K) (by decide) k)
    · have k := k.1 (Classical.not_not.mp c_66)
      refine R_ps 4 (pc2 := 48) (L2 := [some (vr (some w)), some (vi (J x1))]) (st2 := [vi (J 0), vi (J x1), vr (some w), vr (some w), vr (some w)]) rfl ?_
      refine R_zcI (as := [vr (some w), vi (J x1), vi (J 0)]) rfl rfl ⟨Nat.le_of_ble_eq_true rfl, Nat.le_of_ble_eq_true rfl, rfl, (Or.inr ⟨_, rfl, t0⟩)⟩ rfl rfl k (fun x_85 h_84 r_86 k => ?_)
      refine R_zcI (as := [vr (some w), vi (J x_85)]) rfl rfl ⟨Nat.le_of_ble_eq_true rfl, Nat.le_of_ble_eq_true rfl, rfl, (Or.inr ⟨_, rfl, t0⟩)⟩ rfl rfl k (fun x_89 h_88 r_90 k => ?_)
      refine R_ps 1 (pc2 := 65) (L2 := [some (vr (some w)), some (vi (J x1))]) (st2 := [vi (J x_89), vr (some w)]) rfl ?_
      refine R_zputI (x := x_89) (z := 18) rfl t0 rfl ?_
      show WP T N _ _ _ _ (wi h_88 w 18 x_89) _
      generalize e_93 : wi h_88 w 18 x_89 = h_92
      replace k := k h_92 e_93.symm
      refine R_ps 3 (pc2 := 71) (L2 := [some (vr (some w)), some (vi (J x1))]) (st2 := [vi (J 0), vi (J x1), vr (some w)]) rfl ?_
      refine R_zcI (as := [vr (some w), vi (J x1), vi (J 0)]) rfl rfl ⟨Nat.le_of_ble_eq_true rfl, Nat.le_of_ble_eq_true rfl, rfl, (Or.inr ⟨_, rfl, t0⟩)⟩ rfl rfl k (fun x_96 h_95 r_97 k => ?_)
      refine R_ps 1 (pc2 := 75) (L2 := [some (vr (some w)), some (vi (J x1))]) (st2 := [vi (J 3), vi (J x_96)]) rfl ?_
      refine R_zif (x := x_96) (z := 3) rfl r_97 (by decide) (fun c_98 => ?_) (fun c_98 => ?_)
      · have k := k.1 c_98
        refine R_ps 1 (pc2 := 83) (L2 := [some (vr (some w)), some (vi (J x1))]) (st2 := [vi (J 0)]) rfl ?_
        exact R_zzret (x := 0) rfl rfl (Or.inl rfl) (R_zr (x := 0) (K := K) (by decide) k)
      · have k := k.2 c_98
        refine R_ps 2 (pc2 := 83) (L2 := [some (vr (some w)), some (vi (J x1))]) (st2 := [vi (J 1)]) rfl ?_
        exact R_zzret (x := 1) rfl rfl (Or.inr rfl) (R_zr (x := 1) (K := K) (by decide) k)
/-- DroneCorridorsModel.arrives -/
theorem z207 {T N : Nat → Nat} {h : PH} {w : Nat} {x1 : Int} {x2 : Int} {x3 : Int} {K : PH → Prop} (t0 : T w = 12) (r1 : In x1) (r2 : In x2) (r3 : In x3) (k : (ZI T N 205 [vr (some w), vi (J x1)] h (fun x_3 h_2 => (∃ a_7, (gr h_2 w 14) = some a_7 ∧ T a_7 = 22 ∧ (0 ≤ x1 ∧ x1 < (N a_7 : Int) ∧ x1 < 2147483648) ∧ ZI T N 191 [vr (some w), vi (J x_3)] h_2 (fun x_13 h_12 => (∃ a_17, (gr h_12 w 17) = some a_17 ∧ T a_17 = 22 ∧ (0 ≤ ((3 * x2) + x3) ∧ ((3 * x2) + x3) < (N a_17 : Int) ∧ ((3 * x2) + x3) < 2147483648) ∧ (((ai h_12 a_17 ((3 * x2) + x3)) < 0 → (∃ a_77, (gr h_12 w 17) = some a_77 ∧ T a_77 = 22 ∧ (0 ≤ ((3 * x2) + x3) ∧ ((3 * x2) + x3) < (N a_77 : Int) ∧ ((3 * x2) + x3) < 2147483648) ∧ (((ai h_12 a_77 ((3 * x2) + x3)) < 0 → (WV T N 207 82 [some (vr (some w)), some (vi (J x1)), none, none, some (vi (J x_3)), some (vi (J ((3 * x2) + x3))), some (vi (J ((ai h_2 a_7 x1) - x_13))), some (vi (J 0)), none, none] [] h_12 K)) ∧ (¬ ((ai h_12 a_77 ((3 * x2) + x3)) < 0) → (∃ a_84, (gr h_12 w 16) = some a_84 ∧ T a_84 = 22 ∧ (0 ≤ ((3 * x2) + x3) ∧ ((3 * x2) + x3) < (N a_84 : Int) ∧ ((3 * x2) + x3) < 2147483648) ∧ In ((ai h_2 a_7 x1) - x_13) ∧ ((((ai h_2 a_7 x1) - x_13) = (ai h_12 a_84 ((3 * x2) + x3)) → (ZI T N 187 [vi (J x_3)] h_12 (fun x_93 h_92 => (ZI T N 187 [vi (J 0)] h_92 (fun x_97 h_96 => (((x_93 < x_97 → (WV T N 207 129 [some (vr (some w)), some (vi (J x1)), none, none, none, some (vi (J ((3 * x2) + x3))), some (vi (J ((ai h_2 a_7 x1) - x_13))), none, none, none] [] h_96 K)) ∧ (¬ (x_93 < x_97) → (ZI T N 187 [vi (J x_3)] h_96 (fun x_102 h_101 => (ZI T N 187 [vi (J 0)] h_101 (fun x_106 h_105 => (((x_102 = x_106 → (ZI T N 190 [vi (J x_3)] h_105 (fun x_111 h_110 => (ZI T N 190 [vi (J 0)] h_110 (fun x_115 h_114 => (((x_115 < x_111 → (WV T N 207 129 [some (vr (some w)), some (vi (J x1)), none, none, none, some (vi (J ((3 * x2) + x3))), some (vi (J ((ai h_2 a_7 x1) - x_13))), none, none, none] [] h_114 K)) ∧ (¬ (x_115 < x_111) → (WV T N 207 133 [some (vr (some w)), some (vi (J x1)), none, none, none, some (vi (J ((3 * x2) + x3))), some (vi (J ((ai h_2 a_7 x1) - x_13))), none, none, none] [] h_114 K))))))))) ∧ (¬ (x_102 = x_106) → (WV T N 207 133 [some (vr (some w)), some (vi (J x1)), none, none, none, some (vi (J ((3 * x2) + x3))), some (vi (J ((ai h_2 a_7 x1) - x_13))), none, none, none] [] h_105 K)))))))))))))))) ∧ (¬ (((ai h_2 a_7 x1) - x_13) = (ai h_12 a_84 ((3 * x2) + x3))) → (WV T N 207 82 [some (vr (some w)), some (vi (J x1)), none, none, some (vi (J x_3)), some (vi (J ((3 * x2) + x3))), some (vi (J ((ai h_2 a_7 x1) - x_13))), some (vi (J 0)), none, none] [] h_12 K)))))))) ∧ (¬ ((ai h_12 a_17 ((3 * x2) + x3)) < 0) → (∃ a_24, (gr h_12 w 17) = some a_24 ∧ T a_24 = 22 ∧ (0 ≤ ((3 * x2) + x3) ∧ ((3 * x2) + x3) < (N a_24 : Int) ∧ ((3 * x2) + x3) < 2147483648) ∧ ZI T N 205 [vr (some w), vi (J (ai h_12 a_24 ((3 * x2) + x3)))] h_12 (fun x_30 h_29 => (∃ a_34, (gr h_29 w 17) = some a_34 ∧ T a_34 = 22 ∧ (0 ≤ ((3 * x2) + x3) ∧ ((3 * x2) + x3) < (N a_34 : Int) ∧ ((3 * x2) + x3) < 2147483648) ∧ (((ai h_29 a_34 ((3 * x2) + x3)) < 0 → (WV T N 207 82 [some (vr (some w)), some (vi (J x1)), none, none, some (vi (J x_3)), some (vi (J ((3 * x2) + x3))), some (vi (J ((ai h_2 a_7 x1) - x_13))), some (vi (J x_30)), none, none] [] h_29 K)) ∧ (¬ ((ai h_29 a_34 ((3 * x2) + x3)) < 0) → (∃ a_41, (gr h_29 w 16) = some a_41 ∧ T a_41 = 22 ∧ (0 ≤ ((3 * x2) + x3) ∧ ((3 * x2) + x3) < (N a_41 : Int) ∧ ((3 * x2) + x3) < 2147483648) ∧ In ((ai h_2 a_7 x1) - x_13) ∧ ((((ai h_2 a_7 x1) - x_13) = (ai h_29 a_41 ((3 * x2) + x3)) → (ZI T N 187 [vi (J x_3)] h_29 (fun x_50 h_49 => (ZI T N 187 [vi (J x_30)] h_49 (fun x_54 h_53 => (((x_50 < x_54 → (WV T N 207 129 [some (vr (some w)), some (vi (J x1)), none, none, none, some (vi (J ((3 * x2) + x3))), some (vi (J ((ai h_2 a_7 x1) - x_13))), none, none, none] [] h_53 K)) ∧ (¬ (x_50 < x_54) → (ZI T N 187 [vi (J x_3)] h_53 (fun x_59 h_58 => (ZI T N 187 [vi (J x_30)] h_58 (fun x_63 h_62 => (((x_59 = x_63 → (ZI T N 190 [vi (J x_3)] h_62 (fun x_68 h_67 => (ZI T N 190 [vi (J x_30)] h_67 (fun x_72 h_71 => (((x_72 < x_68 → (WV T N 207 129 [some (vr (some w)), some (vi (J x1)), none, none, none, some (vi (J ((3 * x2) + x3))), some (vi (J ((ai h_2 a_7 x1) - x_13))), none, none, none] [] h_71 K)) ∧ (¬ (x_72 < x_68) → (WV T N 207 133 [some (vr (some w)), some (vi (J x1)), none, none, none, some (vi (J ((3 * x2) + x3))), some (vi (J ((ai h_2 a_7 x1) - x_13))), none, none, none] [] h_71 K))))))))) ∧ (¬ (x_59 = x_63) → (WV T N 207 133 [some (vr (some w)), some (vi (J x1)), none, none, none, some (vi (J ((3 * x2) + x3))), some (vi (J ((ai h_2 a_7 x1) - x_13))), none, none, none] [] h_62 K)))))))))))))))) ∧ (¬ (((ai h_2 a_7 x1) - x_13) = (ai h_29 a_41 ((3 * x2) + x3))) → (WV T N 207 82 [some (vr (some w)), some (vi (J x1)), none, none, some (vi (J x_3)), some (vi (J ((3 * x2) + x3))), some (vi (J ((ai h_2 a_7 x1) - x_13))), some (vi (J x_30)), none, none] [] h_29 K))))))))))))))))) : CV T N 207 [vr (some w), vi (J x1), vi (J x2), vi (J x3)] h K := by
  show WP T N 207 0 [some (vr (some w)), some (vi (J x1)), some (vi (J x2)), some (vi (J x3)), none, none, none, none, none, none] [] h _
  refine R_ps 2 (pc2 := 2) (L2 := [some (vr (some w)), some (vi (J x1)), some (vi (J x2)), some (vi (J x3)), none, none, none, none, none, none]) (st2 := [vi (J x1), vr (some w)]) rfl ?_
  refine R_zcI (as := [vr (some w), vi (J x1)]) rfl rfl ⟨Nat.le_of_ble_eq_true rfl, Nat.le_of_ble_eq_true rfl, rfl, (Or.inr ⟨_, rfl, t0⟩)⟩ rfl rfl k (fun x_3 h_2 r_4 k => ?_)
  refine R_ps 8 (pc2 := 15) (L2 := [some (vr (some w)), some (vi (J x1)), some (vi (J x2)), some (vi (J x3)), some (vi (J x_3)), some (vi (((J 3) * (J x2)) + (J x3))), none, none, none, none]) (st2 := [vr (some w)]) rfl ?_
  rw [show (((J 3) * (J x2)) + (J x3)) = J ((3 * x2) + x3) from J_add' (J_mul' rfl rfl) rfl]
  refine R_getR rfl t0 ?_
  refine R_ps 1 (pc2 := 19) (L2 := [some (vr (some w)), some (vi (J x1)), some (vi (J x2)), some (vi (J x3)), some (vi (J x_3)), some (vi (J ((3 * x2) + x3))), none, none, none, none]) (st2 := [vi (J x1), vr (gr h_2 w 14)]) rfl ?_
  obtain ⟨a_7, e_8, k⟩ := k
  rw [e_8]
  obtain ⟨t_9, k⟩ := k
  obtain ⟨t_10, k⟩ := k
  refine R_ziald (i := x1) rfl (Or.inl t_9) t_10 ?_
  refine R_ps 2 (pc2 := 23) (L2 := [some (vr (some w)), some (vi (J x1)), some (vi (J x2)), some (vi (J x3)), some (vi (J x_3)), some (vi (J ((3 * x2) + x3))), none, none, none, none]) (st2 := [vi (J x_3), vr (some w), vi (J (ai h_2 a_7 x1))]) rfl ?_
  refine R_zcI (as := [vr (some w), vi (J x_3)]) rfl rfl ⟨Nat.le_of_ble_eq_true rfl, Nat.le_of_ble_eq_true rfl, rfl, (Or.inr ⟨_, rfl, t0⟩)⟩ rfl rfl k (fun x_13 h_12 r_14 k => ?_)
  refine R_ps 3 (pc2 := 30) (L2 := [some (vr (some w)), some (vi (J x1)), some (vi (J x2)), some (vi (J x3)), some (vi (J x_3)), some (vi (J ((3 * x2) + x3))), some (vi ((J (ai h_2 a_7 x1)) - (J x_13))), none, none, none]) (st2 := [vr (some w)]) rfl ?_
  rw [show ((J (ai h_2 a_7 x1)) - (J x_13)) = J ((ai h_2 a_7 x1) - x_13) from J_sub' rfl rfl]
  refine R_getR rfl t0 ?_
  refine R_ps 1 (pc2 := 35) (L2 := [some (vr (some w)), some (vi (J x1)), some (vi (J x2)), some (vi (J x3)), some (vi (J x_3)), some (vi (J ((3 * x2) + x3))), some (vi (J ((ai h_2 a_7 x1) - x_13))), none, none, none]) (st2 := [vi (J ((3 * x2) + x3)), vr (gr h_12 w 17)]) rfl ?_
  obtain ⟨a_17, e_18, k⟩ := k
  rw [e_18]
  obtain ⟨t_19, k⟩ := k
  obtain ⟨t_20, k⟩ := k
  refine R_ziald (i := (3 * x2) + x3) rfl (Or.inl t_19) t_20 ?_
  refine R_zif0 (x := ai h_12 a_17 ((3 * x2) + x3)) rfl (ai_in _ _ _) (fun c_21 => ?_) (fun c_21 => ?_)
  · have k := k.2 c_21
    refine R_ps 2 (pc2 := 45) (L2 := [some (vr (some w)), some (vi (J x1)), some (vi (J x2)), some (vi (J x3)), some (vi (J x_3)), some (vi (J ((3 * x2) + x3))), some (vi (J ((ai h_2 a_7 x1) - x_13))), none, none, none]) (st2 := [vr (some w), vr (some w)]) rfl ?_
    refine R_getR rfl t0 ?_
    refine R_ps 1 (pc2 := 50) (L2 := [some (vr (some w)), some (vi (J x1)), some (vi (J x2)), some (vi (J x3)), some (vi (J x_3)), some (vi (J ((3 * x2) + x3))), some (vi (J ((ai h_2 a_7 x1) - x_13))), none, none, none]) (st2 := [vi (J ((3 * x2) + x3)), vr (gr h_12 w 17), vr (some w)]) rfl ?_
    obtain ⟨a_24, e_25, k⟩ := k
    rw [e_25]
    obtain ⟨t_26, k⟩ := k
    obtain ⟨t_27, k⟩ := k
    refine R_ziald (i := (3 * x2) + x3) rfl (Or.inl t_26) t_27 ?_
    refine R_zcI (as := [vr (some w), vi (J (ai h_12 a_24 ((3 * x2) + x3)))]) rfl rfl ⟨Nat.le_of_ble_eq_true rfl, Nat.le_of_ble_eq_true rfl, rfl, (Or.inr ⟨_, rfl, t0⟩)⟩ rfl rfl k (fun x_30 h_29 r_31 k => ?_)
    refine R_ps 2 (pc2 := 57) (L2 := [some (vr (some w)), some (vi (J x1)), some (vi (J x2)), some (vi (J x3)), some (vi (J x_3)), some (vi (J ((3 * x2) + x3))), some (vi (J ((ai h_2 a_7 x1) - x_13))), some (vi (J x_30)), none, none]) (st2 := [vr (some w)]) rfl ?_
    refine R_getR rfl t0 ?_
    refine R_ps 1 (pc2 := 62) (L2 := [some (vr (some w)), some (vi (J x1)), some (vi (J x2)), some (vi (J x3)), some (vi (J x_3)), some (vi (J ((3 * x2) + x3))), some (vi (J ((ai h_2 a_7 x1) - x_13))), some (vi (J x_30)), none, none]) (st2 := [vi (J ((3 * x2) + x3)), vr (gr h_29 w 17)]) rfl ?_
    obtain ⟨a_34, e_35, k⟩ := k
    rw [e_35]
    obtain ⟨t_36, k⟩ := k
    obtain ⟨t_37, k⟩ := k
    refine R_ziald (i := (3 * x2) + x3) rfl (Or.inl t_36) t_37 ?_
    refine R_zif0 (x := ai h_29 a_34 ((3 * x2) + x3)) rfl (ai_in _ _ _) (fun c_38 => ?_) (fun c_38 => ?_)
    · have k := k.1 c_38
      exact R_drop k (LE_of (L := [some (vr (some w)), some (vi (J x1)), none, none, some (vi (J x_3)), some (vi (J ((3 * x2) + x3))), some (vi (J ((ai h_2 a_7 x1) - x_13))), some (vi (J x_30)), none, none]) (L2 := [some (vr (some w)), some (vi (J x1)), some (vi (J x2)), some (vi (J x3)), some (vi (J x_3)), some (vi (J ((3 * x2) + x3))), some (vi (J ((ai h_2 a_7 x1) - x_13))), some (vi (J x_30)), none, none]) ⟨rfl, rfl, rfl, rfl, rfl, rfl, trivial⟩)
    · have k := k.2 c_38
      refine R_ps 2 (pc2 := 69) (L2 := [some (vr (some w)), some (vi (J x1)), some (vi (J x2)), some (vi (J x3)), some (vi (J x_3)), some (vi (J ((3 * x2) + x3))), some (vi (J ((ai h_2 a_7 x1) - x_13))), some (vi (J x_30)), none, none]) (st2 := [vr (some w), vi (J ((ai h_2 a_7 x1) - x_13))]) rfl ?_
      refine R_getR rfl t0 ?_
      refine R_ps 1 (pc2 := 74) (L2 := [some (vr (some w)), some (vi (J x1)), some (vi (J x2)), some (vi (J x3)), some (vi (J x_3)), some (vi (J ((3 * x2) + x3))), some (vi (J ((ai h_2 a_7 x1) - x_13))), some (vi (J x_30)), none, none]) (st2 := [vi (J ((3 * x2) + x3)), vr (gr h_29 w 16), vi (J ((ai h_2 a_7 x1) - x_13))]) rfl ?_
      obtain ⟨a_41, e_42, k⟩ := k
      rw [e_42]
      obtain ⟨t_43, k⟩ := k
      obtain ⟨t_44, k⟩ := k
      refine R_ziald (i := (3 * x2) + x3) rfl (Or.inl t_43) t_44 ?_
      obtain ⟨t_46, k⟩ := k
      refine R_zif (x := (ai h_2 a_7 x1) - x_13) (z := ai h_29 a_41 ((3 * x2) + x3)) rfl t_46 (ai_in _ _ _) (fun c_45 => ?_) (fun c_45 => ?_)
      · have k := k.2 c_45
        exact R_drop k (LE_of (L := [some (vr (some w)), some (vi (J x1)), none, none, some (vi (J x_3)), some (vi (J ((3 * x2) + x3))), some (vi (J ((ai h_2 a_7 x1) - x_13))), some (vi (J x_30)), none, none]) (L2 := [some (vr (some w)), some (vi (J x1)), some (vi (J x2)), some (vi (J x3)), some (vi (J x_3)), some (vi (J ((3 * x2) + x3))), some (vi (J ((ai h_2 a_7 x1) - x_13))), some (vi (J x_30)), none, none]) ⟨rfl, rfl, rfl, rfl, rfl, rfl, trivial⟩)
      · have k := k.1 (Classical.not_not.mp c_45)
        refine R_ps 4 (pc2 := 87) (L2 := [some (vr (some w)), some (vi (J x1)), some (vi (J x2)), some (vi (J x3)), some (vi (J x_3)), some (vi (J ((3 * x2) + x3))), some (vi (J ((ai h_2 a_7 x1) - x_13))), some (vi (J x_30)), some (vi (J 1)), none]) (st2 := [vi (J 1)]) rfl ?_
        refine R_zif0 (x := 1) rfl (by decide) (fun c_47 => absurd (show (1 : Int) = (0 : Int) from c_47) (by decide)) (fun _ => ?_)
        refine R_ps 1 (pc2 := 92) (L2 := [some (vr (some w)), some (vi (J x1)), some (vi (J x2)), some (vi (J x3)), some (vi (J x_3)), some (vi (J ((3 * x2) + x3))), some (vi (J ((ai h_2 a_7 x1) - x_13))), some (vi (J x_30)), some (vi (J 1)), none]) (st2 := [vi (J x_3)]) rfl ?_
        refine R_zcI (as := [vi (J x_3)]) rfl rfl ⟨Nat.le_of_ble_eq_true rfl, Nat.le_of_ble_eq_true rfl, rfl, (Or.inl rfl)⟩ rfl rfl k (fun x_50 h_49 r_51 k => ?_)
        refine R_ps 1 (pc2 := 97) (L2 := [some (vr (some w)), some (vi (J x1)), some (vi (J x2)), some (vi (J x3)), some (vi (J x_3)), some (vi (J ((3 * x2) + x3))), some (vi (J ((ai h_2 a_7 x1) - x_13))), some (vi (J x_30)), some (vi (J 1)), none]) (st2 := [vi (J x_30), vi (J x_50)]) rfl ?_
        refine R_zcI (as := [vi (J x_30)]) rfl rfl ⟨Nat.le_of_ble_eq_true rfl, Nat.le_of_ble_eq_true rfl, rfl, (Or.inl rfl)⟩ rfl rfl k (fun x_54 h_53 r_55 k => ?_)
        refine R_zif (x := x_50) (z := x_54) rfl r_51 r_55 (fun c_56 => ?_) (fun c_56 => ?_)
        · have k := k.1 c_56
          exact R_drop k (LE_of (L := [some (vr (some w)), some (vi (J x1)), none, none, none, some (vi (J ((3 * x2) + x3))), some (vi (J ((ai h_2 a_7 x1) - x_13))), none, none, none]) (L2 := [some (vr (some w)), some (vi (J x1)), some (vi (J x2)), some (vi (J x3)), some (vi (J x_3)), some (vi (J ((3 * x2) + x3))), some (vi (J ((ai h_2 a_7 x1) - x_13))), some (vi (J x_30)), some (vi (J 1)), none]) ⟨rfl, rfl, rfl, rfl, trivial⟩)
        · have k := k.2 c_56
          refine R_ps 1 (pc2 := 105) (L2 := [some (vr (some w)), some (vi (J x1)), some (vi (J x2)), some (vi (J x3)), some (vi (J x_3)), some (vi (J ((3 * x2) + x3))), some (vi (J ((ai h_2 a_7 x1) - x_13))), some (vi (J x_30)), some (vi (J 1)), none]) (st2 := [vi (J x_3)]) rfl ?_
          refine R_zcI (as := [vi (J x_3)]) rfl rfl ⟨Nat.le_of_ble_eq_true rfl, Nat.le_of_ble_eq_true rfl, rfl, (Or.inl rfl)⟩ rfl rfl k (fun x_59 h_58 r_60 k => ?_)
          refine R_ps 1 (pc2 := 110) (L2 := [some (vr (some w)), some (vi (J x1)), some (vi (J x2)), some (vi (J x3)), some (vi (J x_3)), some (vi (J ((3 * x2) + x3))), some (vi (J ((ai h_2 a_7 x1) - x_13))), some (vi (J x_30)), some (vi (J 1)), none]) (st2 := [vi (J x_30), vi (J x_59)]) rfl ?_
          refine R_zcI (as := [vi (J x_30)]) rfl rfl ⟨Nat.le_of_ble_eq_true rfl, Nat.le_of_ble_eq_true rfl, rfl, (Or.inl rfl)⟩ rfl rfl k (fun x_63 h_62 r_64 k => ?_)
          refine R_zif (x := x_59) (z := x_63) rfl r_60 r_64 (fun c_65 => ?_) (fun c_65 => ?_)
          · have k := k.2 c_65
            exact R_drop k (LE_of (L := [some (vr (some w)), some (vi (J x1)), none, none, none, some (vi (J ((3 * x2) + x3))), some (vi (J ((ai h_2 a_7 x1) - x_13))), none, none, none]) (L2 := [some (vr (some w)), some (vi (J x1)), some (vi (J x2)), some (vi (J x3)), some (vi (J x_3)), some (vi (J ((3 * x2) + x3))), some (vi (J ((ai h_2 a_7 x1) - x_13))), some (vi (J x_30)), some (vi (J 1)), none]) ⟨rfl, rfl, rfl, rfl, trivial⟩)
          · have k := k.1 (Classical.not_not.mp c_65)
            refine R_ps 1 (pc2 := 118) (L2 := [some (vr (some w)), some (vi (J x1)), some (vi (J x2)), some (vi (J x3)), some (vi (J x_3)), some (vi (J ((3 * x2) + x3))), some (vi (J ((ai h_2 a_7 x1) - x_13))), some (vi (J x_30)), some (vi (J 1)), none]) (st2 := [vi (J x_3)]) rfl ?_
            refine R_zcI (as := [vi (J x_3)]) rfl rfl ⟨Nat.le_of_ble_eq_true rfl, Nat.le_of_ble_eq_true rfl, rfl, (Or.inl rfl)⟩ rfl rfl k (fun x_68 h_67 r_69 k => ?_)
            refine R_ps 1 (pc2 := 123) (L2 := [some (vr (some w)), some (vi (J x1)), some (vi (J x2)), some (vi (J x3)), some (vi (J x_3)), some (vi (J ((3 * x2) + x3))), some (vi (J ((ai h_2 a_7 x1) - x_13))), some (vi (J x_30)), some (vi (J 1)), none]) (st2 := [vi (J x_30), vi (J x_68)]) rfl ?_
            refine R_zcI (as := [vi (J x_30)]) rfl rfl ⟨Nat.le_of_ble_eq_true rfl, Nat.le_of_ble_eq_true rfl, rfl, (Or.inl rfl)⟩ rfl rfl k (fun x_72 h_71 r_73 k => ?_)
            refine R_zif (x := x_68) (z := x_72) rfl r_69 r_73 (fun c_74 => ?_) (fun c_74 => ?_)
            · have k := k.2 c_74
              exact R_drop k (LE_of (L := [some (vr (some w)), some (vi (J x1)), none, none, none, some (vi (J ((3 * x2) + x3))), some (vi (J ((ai h_2 a_7 x1) - x_13))), none, none, none]) (L2 := [some (vr (some w)), some (vi (J x1)), some (vi (J x2)), some (vi (J x3)), some (vi (J x_3)), some (vi (J ((3 * x2) + x3))), some (vi (J ((ai h_2 a_7 x1) - x_13))), some (vi (J x_30)), some (vi (J 1)), none]) ⟨rfl, rfl, rfl, rfl, trivial⟩)
            · have k := k.1 (Classical.not_not.mp c_74)
              exact R_drop k (LE_of (L := [some (vr (some w)), some (vi (J x1)), none, none, none, some (vi (J ((3 * x2) + x3))), some (vi (J ((ai h_2 a_7 x1) - x_13))), none, none, none]) (L2 := [some (vr (some w)), some (vi (J x1)), some (vi (J x2)), some (vi (J x3)), some (vi (J x_3)), some (vi (J ((3 * x2) + x3))), some (vi (J ((ai h_2 a_7 x1) - x_13))), some (vi (J x_30)), some (vi (J 1)), none]) ⟨rfl, rfl, rfl, rfl, trivial⟩)
  · have k := k.1 (Classical.not_not.mp c_21)
    refine R_ps 4 (pc2 := 57) (L2 := [some (vr (some w)), some (vi (J x1)), some (vi (J x2)), some (vi (J x3)), some (vi (J x_3)), some (vi (J ((3 * x2) + x3))), some (vi (J ((ai h_2 a_7 x1) - x_13))), some (vi (J 0)), none, none]) (st2 := [vr (some w)]) rfl ?_
    refine R_getR rfl t0 ?_
    refine R_ps 1 (pc2 := 62) (L2 := [some (vr (some w)), some (vi (J x1)), some (vi (J x2)), some (vi (J x3)), some (vi (J x_3)), some (vi (J ((3 * x2) + x3))), some (vi (J ((ai h_2 a_7 x1) - x_13))), some (vi (J 0)), none, none]) (st2 := [vi (J ((3 * x2) + x3)), vr (gr h_12 w 17)]) rfl ?_
    obtain ⟨a_77, e_78, k⟩ := k
    rw [e_78]
    obtain ⟨t_79, k⟩ := k
    obtain ⟨t_80, k⟩ := k
    refine R_ziald (i := (3 * x2) + x3) rfl (Or.inl t_79) t_80 ?_
    refine R_zif0 (x := ai h_12 a_77 ((3 * x2) + x3)) rfl (ai_in _ _ _) (fun c_81 => ?_) (fun c_81 => ?_)
    · have k := k.1 c_81
      exact R_drop k (LE_of (L := [some (vr (some w)), some (vi (J x1)), none, none, some (vi (J x_3)), some (vi (J ((3 * x2) + x3))), some (vi (J ((ai h_2 a_7 x1) - x_13))), some (vi (J 0)), none, none]) (L2 := [some (vr (some w)), some (vi (J x1)), some (vi (J x2)), some (vi (J x3)), some (vi (J x_3)), some (vi (J ((3 * x2) + x3))), some (vi (J ((ai h_2 a_7 x1) - x_13))), some (vi (J 0)), none, none]) ⟨rfl, rfl, rfl, rfl, rfl, rfl, trivial⟩)
    · have k := k.2 c_81
      refine R_ps 2 (pc2 := 69) (L2 := [some (vr (some w)), some (vi (J x1)), some (vi (J x2)), some (vi (J x3)), some (vi (J x_3)), some (vi (J ((3 * x2) + x3))), some (vi (J ((ai h_2 a_7 x1) - x_13))), some (vi (J 0)), none, none]) (st2 := [vr (some w), vi (J ((ai h_2 a_7 x1) - x_13))]) rfl ?_
      refine R_getR rfl t0 ?_
      refine R_ps 1 (pc2 := 74) (L2 := [some (vr (some w)), some (vi (J x1)), some (vi (J x2)), some (vi (J x3)), some (vi (J x_3)), some (vi (J ((3 * x2) + x3))), some (vi (J ((ai h_2 a_7 x1) - x_13))), some (vi (J 0)), none, none]) (st2 := [vi (J ((3 * x2) + x3)), vr (gr h_12 w 16), vi (J ((ai h_2 a_7 x1) - x_13))]) rfl ?_
      obtain ⟨a_84, e_85, k⟩ := k
      rw [e_85]
      obtain ⟨t_86, k⟩ := k
      obtain ⟨t_87, k⟩ := k
      refine R_ziald (i := (3 * x2) + x3) rfl (Or.inl t_86) t_87 ?_
      obtain ⟨t_89, k⟩ := k
      refine R_zif (x := (ai h_2 a_7 x1) - x_13) (z := ai h_12 a_84 ((3 * x2) + x3)) rfl t_89 (ai_in _ _ _) (fun c_88 => ?_) (fun c_88 => ?_)
      · have k := k.2 c_88
        exact R_drop k (LE_of (L := [some (vr (some w)), some (vi (J x1)), none, none, some (vi (J x_3)), some (vi (J ((3 * x2) + x3))), some (vi (J ((ai h_2 a_7 x1) - x_13))), some (vi (J 0)), none, none]) (L2 := [some (vr (some w)), some (vi (J x1)), some (vi (J x2)), some (vi (J x3)), some (vi (J x_3)), some (vi (J ((3 * x2) + x3))), some (vi (J ((ai h_2 a_7 x1) - x_13))), some (vi (J 0)), none, none]) ⟨rfl, rfl, rfl, rfl, rfl, rfl, trivial⟩)
      · have k := k.1 (Classical.not_not.mp c_88)
        refine R_ps 4 (pc2 := 87) (L2 := [some (vr (some w)), some (vi (J x1)), some (vi (J x2)), some (vi (J x3)), some (vi (J x_3)), some (vi (J ((3 * x2) + x3))), some (vi (J ((ai h_2 a_7 x1) - x_13))), some (vi (J 0)), some (vi (J 1)), none]) (st2 := [vi (J 1)]) rfl ?_
        refine R_zif0 (x := 1) rfl (by decide) (fun c_90 => absurd (show (1 : Int) = (0 : Int) from c_90) (by decide)) (fun _ => ?_)
        refine R_ps 1 (pc2 := 92) (L2 := [some (vr (some w)), some (vi (J x1)), some (vi (J x2)), some (vi (J x3)), some (vi (J x_3)), some (vi (J ((3 * x2) + x3))), some (vi (J ((ai h_2 a_7 x1) - x_13))), some (vi (J 0)), some (vi (J 1)), none]) (st2 := [vi (J x_3)]) rfl ?_
        refine R_zcI (as := [vi (J x_3)]) rfl rfl ⟨Nat.le_of_ble_eq_true rfl, Nat.le_of_ble_eq_true rfl, rfl, (Or.inl rfl)⟩ rfl rfl k (fun x_93 h_92 r_94 k => ?_)
        refine R_ps 1 (pc2 := 97) (L2 := [some (vr (some w)), some (vi (J x1)), some (vi (J x2)), some (vi (J x3)), some (vi (J x_3)), some (vi (J ((3 * x2) + x3))), some (vi (J ((ai h_2 a_7 x1) - x_13))), some (vi (J 0)), some (vi (J 1)), none]) (st2 := [vi (J 0), vi (J x_93)]) rfl ?_
        refine R_zcI (as := [vi (J 0)]) rfl rfl ⟨Nat.le_of_ble_eq_true rfl, Nat.le_of_ble_eq_true rfl, rfl, (Or.inl rfl)⟩ rfl rfl k (fun x_97 h_96 r_98 k => ?_)
        refine R_zif (x := x_93) (z := x_97) rfl r_94 r_98 (fun c_99 => ?_) (fun c_99 => ?_)
        · have k := k.1 c_99
          exact R_drop k (LE_of (L := [some (vr (some w)), some (vi (J x1)), none, none, none, some (vi (J ((3 * x2) + x3))), some (vi (J ((ai h_2 a_7 x1) - x_13))), none, none, none]) (L2 := [some (vr (some w)), some (vi (J x1)), some (vi (J x2)), some (vi (J x3)), some (vi (J x_3)), some (vi (J ((3 * x2) + x3))), some (vi (J ((ai h_2 a_7 x1) - x_13))), some (vi (J 0)), some (vi (J 1)), none]) ⟨rfl, rfl, rfl, rfl, trivial⟩)
        · have k := k.2 c_99
          refine R_ps 1 (pc2 := 105) (L2 := [some (vr (some w)), some (vi (J x1)), some (vi (J x2)), some (vi (J x3)), some (vi (J x_3)), some (vi (J ((3 * x2) + x3))), some (vi (J ((ai h_2 a_7 x1) - x_13))), some (vi (J 0)), some (vi (J 1)), none]) (st2 := [vi (J x_3)]) rfl ?_
          refine R_zcI (as := [vi (J x_3)]) rfl rfl ⟨Nat.le_of_ble_eq_true rfl, Nat.le_of_ble_eq_true rfl, rfl, (Or.inl rfl)⟩ rfl rfl k (fun x_102 h_101 r_103 k => ?_)
          refine R_ps 1 (pc2 := 110) (L2 := [some (vr (some w)), some (vi (J x1)), some (vi (J x2)), some (vi (J x3)), some (vi (J x_3)), some (vi (J ((3 * x2) + x3))), some (vi (J ((ai h_2 a_7 x1) - x_13))), some (vi (J 0)), some (vi (J 1)), none]) (st2 := [vi (J 0), vi (J x_102)]) rfl ?_
          refine R_zcI (as := [vi (J 0)]) rfl rfl ⟨Nat.le_of_ble_eq_true rfl, Nat.le_of_ble_eq_true rfl, rfl, (Or.inl rfl)⟩ rfl rfl k (fun x_106 h_105 r_107 k => ?_)
          refine R_zif (x := x_102) (z := x_106) rfl r_103 r_107 (fun c_108 => ?_) (fun c_108 => ?_)
          · have k := k.2 c_108
            exact R_drop k (LE_of (L := [some (vr (some w)), some (vi (J x1)), none, none, none, some (vi (J ((3 * x2) + x3))), some (vi (J ((ai h_2 a_7 x1) - x_13))), none, none, none]) (L2 := [some (vr (some w)), some (vi (J x1)), some (vi (J x2)), some (vi (J x3)), some (vi (J x_3)), some (vi (J ((3 * x2) + x3))), some (vi (J ((ai h_2 a_7 x1) - x_13))), some (vi (J 0)), some (vi (J 1)), none]) ⟨rfl, rfl, rfl, rfl, trivial⟩)
          · have k := k.1 (Classical.not_not.mp c_108)
            refine R_ps 1 (pc2 := 118) (L2 := [some (vr (some w)), some (vi (J x1)), some (vi (J x2)), some (vi (J x3)), some (vi (J x_3)), some (vi (J ((3 * x2) + x3))), some (vi (J ((ai h_2 a_7 x1) - x_13))), some (vi (J 0)), some (vi (J 1)), none]) (st2 := [vi (J x_3)]) rfl ?_
            refine R_zcI (as := [vi (J x_3)]) rfl rfl ⟨Nat.le_of_ble_eq_true rfl, Nat.le_of_ble_eq_true rfl, rfl, (Or.inl rfl)⟩ rfl rfl k (fun x_111 h_110 r_112 k => ?_)
            refine R_ps 1 (pc2 := 123) (L2 := [some (vr (some w)), some (vi (J x1)), some (vi (J x2)), some (vi (J x3)), some (vi (J x_3)), some (vi (J ((3 * x2) + x3))), some (vi (J ((ai h_2 a_7 x1) - x_13))), some (vi (J 0)), some (vi (J 1)), none]) (st2 := [vi (J 0), vi (J x_111)]) rfl ?_
            refine R_zcI (as := [vi (J 0)]) rfl rfl ⟨Nat.le_of_ble_eq_true rfl, Nat.le_of_ble_eq_true rfl, rfl, (Or.inl rfl)⟩ rfl rfl k (fun x_115 h_114 r_116 k => ?_)
            refine R_zif (x := x_111) (z := x_115) rfl r_112 r_116 (fun c_117 => ?_) (fun c_117 => ?_)
            · have k := k.2 c_117
              exact R_drop k (LE_of (L := [some (vr (some w)), some (vi (J x1)), none, none, none, some (vi (J ((3 * x2) + x3))), some (vi (J ((ai h_2 a_7 x1) - x_13))), none, none, none]) (L2 := [some (vr (some w)), some (vi (J x1)), some (vi (J x2)), some (vi (J x3)), some (vi (J x_3)), some (vi (J ((3 * x2) + x3))), some (vi (J ((ai h_2 a_7 x1) - x_13))), some (vi (J 0)), some (vi (J 1)), none]) ⟨rfl, rfl, rfl, rfl, trivial⟩)
            · have k := k.1 (Classical.not_not.mp c_117)
              exact R_drop k (LE_of (L := [some (vr (some w)), some (vi (J x1)), none, none, none, some (vi (J ((3 * x2) + x3))), some (vi (J ((ai h_2 a_7 x1) - x_13))), none, none, none]) (L2 := [some (vr (some w)), some (vi (J x1)), some (vi (J x2)), some (vi (J x3)), some (vi (J x_3)), some (vi (J ((3 * x2) + x3))), some (vi (J ((ai h_2 a_7 x1) - x_13))), some (vi (J 0)), some (vi (J 1)), none]) ⟨rfl, rfl, rfl, rfl, trivial⟩)
theorem z207_82 {T N : Nat → Nat} {h : PH} {w : Nat} {x1 : Int} {x4 : Int} {x5 : Int} {x6 : Int} {x7 : Int} {K : PH → Prop} (r1 : In x1) (r4 : In x4) (r5 : In x5) (r6 : In x6) (r7 : In x7) (k : (WV T N 207 133 [some (vr (some w)), some (vi (J x1)), none, none, none, some (vi (J x5)), some (vi (J x6)), none, none, none] [] h K)) : WV T N 207 82 [some (vr (some w)), some (vi (J x1)), none, none, some (vi (J x4)), some (vi (J x5)), some (vi (J x6)), some (vi (J x7)), none, none] [] h K := by
  show WP T N 207 82 [some (vr (some w)), some (vi (J x1)), none, none, some (vi (J x4)), some (vi (J x5)), some (vi (J x6)), some (vi (J x7)), none, none] [] h _
  refine R_ps 3 (pc2 := 87) (L2 := [some (vr (some w)), some (vi (J x1)), none, none, some (vi (J x4)), some (vi (J x5)), some (vi (J x6)), some (vi (J x7)), some (vi (J 0)), none]) (st2 := [vi (J 0)]) rfl ?_
  refine R_zif0 (x := 0) rfl (by decide) (fun _ => ?_) (fun c_1 => absurd (show (0 : Int) = (0 : Int) by decide) c_1)
  exact R_drop k (LE_of (L := [some (vr (some w)), some (vi (J x1)), none, none, none, some (vi (J x5)), some (vi (J x6)), none, none, none]) (L2 := [some (vr (some w)), some (vi (J x1)), none, none, some (vi (J x4)), some (vi (J x5)), some (vi (J x6)), some (vi (J x7)), some (vi (J 0)), none]) ⟨rfl, rfl, rfl, rfl, trivial⟩)
theorem z207_129 {T N : Nat → Nat} {h : PH} {w : Nat} {x1 : Int} {x5 : Int} {x6 : Int} {K : PH → Prop} (t0 : T w = 12) (r1 : In x1) (r5 : In x5) (r6 : In x6) (k : (∃ a_3, (gr h w 17) = some a_3 ∧ T a_3 = 22 ∧ (0 ≤ x5 ∧ x5 < (N a_3 : Int) ∧ x5 < 2147483648) ∧ (((ai h a_3 x5) < 0 → (WV T N 207 164 [some (vr (some w)), some (vi (J x1)), none, none, none, some (vi (J x5)), some (vi (J x6)), none, none, none] [] h K)) ∧ (¬ ((ai h a_3 x5) < 0) → (∃ a_10, (gr h w 16) = some a_10 ∧ T a_10 = 22 ∧ (0 ≤ x5 ∧ x5 < (N a_10 : Int) ∧ x5 < 2147483648) ∧ ((x6 < (ai h a_10 x5) → (WV T N 207 164 [some (vr (some w)), some (vi (J x1)), none, none, none, some (vi (J x5)), some (vi (J x6)), none, none, none] [] h K)) ∧ (¬ (x6 < (ai h a_10 x5)) → (WV T N 207 164 [some (vr (some w)), some (vi (J x1)), none, none, none, some (vi (J x5)), some (vi (J x6)), none, none, none] [] h K)))))))) : WV T N 207 129 [some (vr (some w)), some (vi (J x1)), none, none, none, some (vi (J x5)), some (vi (J x6)), none, none, none] [] h K := by
  show WP T N 207 129 [some (vr (some w)), some (vi (J x1)), none, none, none, some (vi (J x5)), some (vi (J x6)), none, none, none] [] h _
  refine R_ps 4 (pc2 := 137) (L2 := [some (vr (some w)), some (vi (J x1)), none, none, none, some (vi (J x5)), some (vi (J x6)), none, none, some (vi (J 1))]) (st2 := [vr (some w)]) rfl ?_
  refine R_getR rfl t0 ?_
  refine R_ps 1 (pc2 := 142) (L2 := [some (vr (some w)), some (vi (J x1)), none, none, none, some (vi (J x5)), some (vi (J x6)), none, none, some (vi (J 1))]) (st2 := [vi (J x5), vr (gr h w 17)]) rfl ?_
  obtain ⟨a_3, e_4, k⟩ := k
  rw [e_4]
  obtain ⟨t_5, k⟩ := k
  obtain ⟨t_6, k⟩ := k
  refine R_ziald (i := x5) rfl (Or.inl t_5) t_6 ?_
  refine R_zif0 (x := ai h a_3 x5) rfl (ai_in _ _ _) (fun c_7 => ?_) (fun c_7 => ?_)
  · have k := k.1 c_7
    exact R_drop k (LE_of (L := [some (vr (some w)), some (vi (J x1)), none, none, none, some (vi (J x5)), some (vi (J x6)), none, none, none]) (L2 := [some (vr (some w)), some (vi (J x1)), none, none, none, some (vi (J x5)), some (vi (J x6)), none, none, some (vi (J 1))]) ⟨rfl, rfl, rfl, rfl, trivial⟩)
  · have k := k.2 c_7
    refine R_ps 2 (pc2 := 149) (L2 := [some (vr (some w)), some (vi (J x1)), none, none, none, some (vi (J x5)), some (vi (J x6)), none, none, some (vi (J 1))]) (st2 := [vr (some w), vi (J x6)]) rfl ?_
    refine R_getR rfl t0 ?_
    refine R_ps 1 (pc2 := 154) (L2 := [some (vr (some w)), some (vi (J x1)), none, none, none, some (vi (J x5)), some (vi (J x6)), none, none, some (vi (J 1))]) (st2 := [vi (J x5), vr (gr h w 16), vi (J x6)]) rfl ?_
    obtain ⟨a_10, e_11, k⟩ := k
    rw [e_11]
    obtain ⟨t_12, k⟩ := k
    obtain ⟨t_13, k⟩ := k
    refine R_ziald (i := x5) rfl (Or.inl t_12) t_13 ?_
    refine R_zif (x := x6) (z := ai h a_10 x5) rfl r6 (ai_in _ _ _) (fun c_14 => ?_) (fun c_14 => ?_)
    · have k := k.1 c_14
      exact R_drop k (LE_of (L := [some (vr (some w)), some (vi (J x1)), none, none, none, some (vi (J x5)), some (vi (J x6)), none, none, none]) (L2 := [some (vr (some w)), some (vi (J x1)), none, none, none, some (vi (J x5)), some (vi (J x6)), none, none, some (vi (J 1))]) ⟨rfl, rfl, rfl, rfl, trivial⟩)
    · have k := k.2 c_14
      refine R_ps 1 (pc2 := 160) (L2 := [some (vr (some w)), some (vi (J x1)), none, none, none, some (vi (J x5)), some (vi (J x6)), none, none, some (vi (J 1))]) (st2 := [vi (J 1)]) rfl ?_
      refine R_zif0 (x := 1) rfl (by decide) (fun _ => ?_) (fun c_15 => absurd (show ¬ (1 : Int) = (0 : Int) by decide) c_15)
      exact R_drop k (LE_of (L := [some (vr (some w)), some (vi (J x1)), none, none, none, some (vi (J x5)), some (vi (J x6)), none, none, none]) (L2 := [some (vr (some w)), some (vi (J x1)), none, none, none, some (vi (J x5)), some (vi (J x6)), none, none, some (vi (J 1))]) ⟨rfl, rfl, rfl, rfl, trivial⟩)
theorem z207_133 {T N : Nat → Nat} {h : PH} {w : Nat} {x1 : Int} {x5 : Int} {x6 : Int} {K : PH → Prop} (t0 : T w = 12) (r1 : In x1) (r5 : In x5) (r6 : In x6) (k : (∃ a_3, (gr h w 17) = some a_3 ∧ T a_3 = 22 ∧ (0 ≤ x5 ∧ x5 < (N a_3 : Int) ∧ x5 < 2147483648) ∧ (((ai h a_3 x5) < 0 → (WV T N 207 164 [some (vr (some w)), some (vi (J x1)), none, none, none, some (vi (J x5)), some (vi (J x6)), none, none, none] [] h K)) ∧ (¬ ((ai h a_3 x5) < 0) → (∃ a_10, (gr h w 16) = some a_10 ∧ T a_10 = 22 ∧ (0 ≤ x5 ∧ x5 < (N a_10 : Int) ∧ x5 < 2147483648) ∧ ((x6 < (ai h a_10 x5) → (WV T N 207 164 [some (vr (some w)), some (vi (J x1)), none, none, none, some (vi (J x5)), some (vi (J x6)), none, none, none] [] h K)) ∧ (¬ (x6 < (ai h a_10 x5)) → (K h)))))))) : WV T N 207 133 [some (vr (some w)), some (vi (J x1)), none, none, none, some (vi (J x5)), some (vi (J x6)), none, none, none] [] h K := by
  show WP T N 207 133 [some (vr (some w)), some (vi (J x1)), none, none, none, some (vi (J x5)), some (vi (J x6)), none, none, none] [] h _
  refine R_ps 3 (pc2 := 137) (L2 := [some (vr (some w)), some (vi (J x1)), none, none, none, some (vi (J x5)), some (vi (J x6)), none, none, some (vi (J 0))]) (st2 := [vr (some w)]) rfl ?_
  refine R_getR rfl t0 ?_
  refine R_ps 1 (pc2 := 142) (L2 := [some (vr (some w)), some (vi (J x1)), none, none, none, some (vi (J x5)), some (vi (J x6)), none, none, some (vi (J 0))]) (st2 := [vi (J x5), vr (gr h w 17)]) rfl ?_
  obtain ⟨a_3, e_4, k⟩ := k
  rw [e_4]
  obtain ⟨t_5, k⟩ := k
  obtain ⟨t_6, k⟩ := k
  refine R_ziald (i := x5) rfl (Or.inl t_5) t_6 ?_
  refine R_zif0 (x := ai h a_3 x5) rfl (ai_in _ _ _) (fun c_7 => ?_) (fun c_7 => ?_)
  · have k := k.1 c_7
    exact R_drop k (LE_of (L := [some (vr (some w)), some (vi (J x1)), none, none, none, some (vi (J x5)), some (vi (J x6)), none, none, none]) (L2 := [some (vr (some w)), some (vi (J x1)), none, none, none, some (vi (J x5)), some (vi (J x6)), none, none, some (vi (J 0))]) ⟨rfl, rfl, rfl, rfl, trivial⟩)
  · have k := k.2 c_7
    refine R_ps 2 (pc2 := 149) (L2 := [some (vr (some w)), some (vi (J x1)), none, none, none, some (vi (J x5)), some (vi (J x6)), none, none, some (vi (J 0))]) (st2 := [vr (some w), vi (J x6)]) rfl ?_
    refine R_getR rfl t0 ?_
    refine R_ps 1 (pc2 := 154) (L2 := [some (vr (some w)), some (vi (J x1)), none, none, none, some (vi (J x5)), some (vi (J x6)), none, none, some (vi (J 0))]) (st2 := [vi (J x5), vr (gr h w 16), vi (J x6)]) rfl ?_
    obtain ⟨a_10, e_11, k⟩ := k
    rw [e_11]
    obtain ⟨t_12, k⟩ := k
    obtain ⟨t_13, k⟩ := k
    refine R_ziald (i := x5) rfl (Or.inl t_12) t_13 ?_
    refine R_zif (x := x6) (z := ai h a_10 x5) rfl r6 (ai_in _ _ _) (fun c_14 => ?_) (fun c_14 => ?_)
    · have k := k.1 c_14
      exact R_drop k (LE_of (L := [some (vr (some w)), some (vi (J x1)), none, none, none, some (vi (J x5)), some (vi (J x6)), none, none, none]) (L2 := [some (vr (some w)), some (vi (J x1)), none, none, none, some (vi (J x5)), some (vi (J x6)), none, none, some (vi (J 0))]) ⟨rfl, rfl, rfl, rfl, trivial⟩)
    · have k := k.2 c_14
      refine R_ps 1 (pc2 := 160) (L2 := [some (vr (some w)), some (vi (J x1)), none, none, none, some (vi (J x5)), some (vi (J x6)), none, none, some (vi (J 0))]) (st2 := [vi (J 0)]) rfl ?_
      refine R_zif0 (x := 0) rfl (by decide) (fun c_15 => absurd (show ¬ (0 : Int) = (0 : Int) from c_15) (by decide)) (fun _ => ?_)
      exact R_ret rfl rfl ⟨rfl, k⟩
theorem z207_164 {T N : Nat → Nat} {h : PH} {w : Nat} {x1 : Int} {x5 : Int} {x6 : Int} {K : PH → Prop} (t0 : T w = 12) (r1 : In x1) (r5 : In x5) (r6 : In x6) (k : (∃ a_3, (gr h w 16) = some a_3 ∧ T a_3 = 22 ∧ (0 ≤ x5 ∧ x5 < (N a_3 : Int) ∧ x5 < 2147483648) ∧ ∀ h_5, h_5 = wi h a_3 x5 x6 → ∃ a_11, (gr h_5 w 17) = some a_11 ∧ T a_11 = 22 ∧ (0 ≤ x5 ∧ x5 < (N a_11 : Int) ∧ x5 < 2147483648) ∧ ∀ h_13, h_13 = wi h_5 a_11 x5 x1 → K h_13)) : WV T N 207 164 [some (vr (some w)), some (vi (J x1)), none, none, none, some (vi (J x5)), some (vi (J x6)), none, none, none] [] h K := by
  show WP T N 207 164 [some (vr (some w)), some (vi (J x1)), none, none, none, some (vi (J x5)), some (vi (J x6)), none, none, none] [] h _
  refine R_ps 1 (pc2 := 165) (L2 := [some (vr (some w)), some (vi (J x1)), none, none, none, some (vi (J x5)), some (vi (J x6)), none, none, none]) (st2 := [vr (some w)]) rfl ?_
  refine R_getR rfl t0 ?_
  refine R_ps 2 (pc2 := 172) (L2 := [some (vr (some w)), some (vi (J x1)), none, none, none, some (vi (J x5)), some (vi (J x6)), none, none, none]) (st2 := [vi (J x6), vi (J x5), vr (gr h w 16)]) rfl ?_
  obtain ⟨a_3, e_4, k⟩ := k
  rw [e_4]
  obtain ⟨t_7, k⟩ := k
  obtain ⟨t_8, k⟩ := k
  refine R_ziast (i := x5) (x := x6) rfl t_7 t_8  ?_
  show WP T N _ _ _ _ (wi h a_3 x5 x6) _
  generalize e_6 : wi h a_3 x5 x6 = h_5
  replace k := k h_5 e_6.symm
  refine R_ps 1 (pc2 := 174) (L2 := [some (vr (some w)), some (vi (J x1)), none, none, none, some (vi (J x5)), some (vi (J x6)), none, none, none]) (st2 := [vr (some w)]) rfl ?_
  refine R_getR rfl t0 ?_
  refine R_ps 2 (pc2 := 180) (L2 := [some (vr (some w)), some (vi (J x1)), none, none, none, some (vi (J x5)), some (vi (J x6)), none, none, none]) (st2 := [vi (J x1), vi (J x5), vr (gr h_5 w 17)]) rfl ?_
  obtain ⟨a_11, e_12, k⟩ := k
  rw [e_12]
  obtain ⟨t_15, k⟩ := k
  obtain ⟨t_16, k⟩ := k
  refine R_ziast (i := x5) (x := x1) rfl t_15 t_16  ?_
  show WP T N _ _ _ _ (wi h_5 a_11 x5 x1) _
  generalize e_14 : wi h_5 a_11 x5 x1 = h_13
  replace k := k h_13 e_14.symm
  exact R_ret rfl rfl ⟨rfl, k⟩
/-- DroneCorridorsModel.looks -/
theorem z208 {T N : Nat → Nat} {h : PH} {w : Nat} {x1 : Int} {x2 : Int} {x3 : Int} {K : PH → Prop} (t0 : T w = 12) (r1 : In x1) (r2 : In x2) (r3 : In x3) (k : (CV T N 182 [vr (some w)] h (fun h_2 => (WV T N 208 7 [some (vr (some w)), some (vi (J x1)), some (vi (J x2)), some (vi (J x3)), some (vi (J 0)), none, none, none, none, none] [] h_2 K)))) : CV T N 208 [vr (some w), vi (J x1), vi (J x2), vi (J x3)] h K := by
  show WP T N 208 0 [some (vr (some w)), some (vi (J x1)), some (vi (J x2)), some (vi (J x3)), none, none, none, none, none, none] [] h _
  refine R_ps 1 (pc2 := 1) (L2 := [some (vr (some w)), some (vi (J x1)), some (vi (J x2)), some (vi (J x3)), none, none, none, none, none, none]) (st2 := [vr (some w)]) rfl ?_
  refine R_cV (as := [vr (some w)]) rfl rfl ⟨Nat.le_of_ble_eq_true rfl, Nat.le_of_ble_eq_true rfl, rfl, (Or.inr ⟨_, rfl, t0⟩)⟩ rfl rfl k (fun h_2 k => ?_)
  refine R_ps 2 (pc2 := 7) (L2 := [some (vr (some w)), some (vi (J x1)), some (vi (J x2)), some (vi (J x3)), some (vi (J 0)), none, none, none, none, none]) (st2 := []) rfl ?_
  exact k
theorem z208_7 {T N : Nat → Nat} {h : PH} {w : Nat} {x1 : Int} {x2 : Int} {x3 : Int} {x4 : Int} {K : PH → Prop} (t0 : T w = 12) (r1 : In x1) (r2 : In x2) (r3 : In x3) (r4 : In x4) (k : (((x4 < 3936 → (∃ a_4, (gr h w 14) = some a_4 ∧ T a_4 = 22 ∧ (0 ≤ x4 ∧ x4 < (N a_4 : Int) ∧ x4 < 2147483648) ∧ ∀ h_6, h_6 = wi h a_4 x4 (-1) → WV T N 208 7 [some (vr (some w)), some (vi (J x1)), some (vi (J x2)), some (vi (J x3)), some (vi (J (x4 + 1))), none, none, none, none, none] [] h_6 K)) ∧ (¬ (x4 < 3936) → (WV T N 208 32 [some (vr (some w)), some (vi (J x1)), some (vi (J x2)), some (vi (J x3)), some (vi (J 0)), none, none, none, none, none] [] h K))))) : WV T N 208 7 [some (vr (some w)), some (vi (J x1)), some (vi (J x2)), some (vi (J x3)), some (vi (J x4)), none, none, none, none, none] [] h K := by
  show WP T N 208 7 [some (vr (some w)), some (vi (J x1)), some (vi (J x2)), some (vi (J x3)), some (vi (J x4)), none, none, none, none, none] [] h _
  refine R_ps 2 (pc2 := 12) (L2 := [some (vr (some w)), some (vi (J x1)), some (vi (J x2)), some (vi (J x3)), some (vi (J x4)), none, none, none, none, none]) (st2 := [vi (J 3936), vi (J x4)]) rfl ?_
  refine R_zif (x := x4) (z := 3936) rfl r4 (by decide) (fun c_1 => ?_) (fun c_1 => ?_)
  · have k := k.2 c_1
    refine R_ps 2 (pc2 := 32) (L2 := [some (vr (some w)), some (vi (J x1)), some (vi (J x2)), some (vi (J x3)), some (vi (J 0)), none, none, none, none, none]) (st2 := []) rfl ?_
    exact k
  · have k := k.1 (Classical.not_not.mp c_1)
    refine R_ps 1 (pc2 := 16) (L2 := [some (vr (some w)), some (vi (J x1)), some (vi (J x2)), some (vi (J x3)), some (vi (J x4)), none, none, none, none, none]) (st2 := [vr (some w)]) rfl ?_
    refine R_getR rfl t0 ?_
    refine R_ps 2 (pc2 := 22) (L2 := [some (vr (some w)), some (vi (J x1)), some (vi (J x2)), some (vi (J x3)), some (vi (J x4)), none, none, none, none, none]) (st2 := [vi (J (-1)), vi (J x4), vr (gr h w 14)]) rfl ?_
    obtain ⟨a_4, e_5, k⟩ := k
    rw [e_5]
    obtain ⟨t_8, k⟩ := k
    obtain ⟨t_9, k⟩ := k
    refine R_ziast (i := x4) (x := (-1)) rfl t_8 t_9  ?_
    show WP T N _ _ _ _ (wi h a_4 x4 (-1)) _
    generalize e_7 : wi h a_4 x4 (-1) = h_6
    replace k := k h_6 e_7.symm
    refine R_ps 2 (pc2 := 7) (L2 := [some (vr (some w)), some (vi (J x1)), some (vi (J x2)), some (vi (J x3)), some (vi ((J x4) + J 1)), none, none, none, none, none]) (st2 := []) rfl ?_
    rw [show ((J x4) + J 1) = J (x4 + 1) from J_add' rfl rfl]
    exact k
theorem z208_32 {T N : Nat → Nat} {h : PH} {w : Nat} {x1 : Int} {x2 : Int} {x3 : Int} {x4 : Int} {K : PH → Prop} (t0 : T w = 12) (r1 : In x1) (r2 : In x2) (r3 : In x3) (r4 : In x4) (k : (((x4 < 30 → (∃ a_11, (gr h w 17) = some a_11 ∧ T a_11 = 22 ∧ (0 ≤ x4 ∧ x4 < (N a_11 : Int) ∧ x4 < 2147483648) ∧ ∀ h_13, h_13 = wi h a_11 x4 (-1) → WV T N 208 32 [some (vr (some w)), some (vi (J x1)), some (vi (J x2)), some (vi (J x3)), some (vi (J (x4 + 1))), none, none, none, none, none] [] h_13 K)) ∧ (¬ (x4 < 30) → (∃ a_4, (gr h w 1) = some a_4 ∧ T a_4 = 22 ∧ (0 ≤ (448 : Int) ∧ (448 : Int) < (N a_4 : Int) ∧ (448 : Int) < 2147483648) ∧ WV T N 208 72 [some (vr (some w)), some (vi (J x1)), some (vi (J x2)), some (vi (J x3)), some (vi (J ((ai h a_4 448) + 40))), some (vi (J (ai h w 18))), none, none, none, none] [] h K))))) : WV T N 208 32 [some (vr (some w)), some (vi (J x1)), some (vi (J x2)), some (vi (J x3)), some (vi (J x4)), none, none, none, none, none] [] h K := by
  show WP T N 208 32 [some (vr (some w)), some (vi (J x1)), some (vi (J x2)), some (vi (J x3)), some (vi (J x4)), none, none, none, none, none] [] h _
  refine R_ps 2 (pc2 := 36) (L2 := [some (vr (some w)), some (vi (J x1)), some (vi (J x2)), some (vi (J x3)), some (vi (J x4)), none, none, none, none, none]) (st2 := [vi (J 30), vi (J x4)]) rfl ?_
  refine R_zif (x := x4) (z := 30) rfl r4 (by decide) (fun c_1 => ?_) (fun c_1 => ?_)
  · have k := k.2 c_1
    refine R_ps 1 (pc2 := 54) (L2 := [some (vr (some w)), some (vi (J x1)), some (vi (J x2)), some (vi (J x3)), some (vi (J x4)), none, none, none, none, none]) (st2 := [vr (some w)]) rfl ?_
    refine R_getR rfl t0 ?_
    refine R_ps 1 (pc2 := 60) (L2 := [some (vr (some w)), some (vi (J x1)), some (vi (J x2)), some (vi (J x3)), some (vi (J x4)), none, none, none, none, none]) (st2 := [vi (J 448), vr (gr h w 1)]) rfl ?_
    obtain ⟨a_4, e_5, k⟩ := k
    rw [e_5]
    obtain ⟨t_6, k⟩ := k
    obtain ⟨t_7, k⟩ := k
    refine R_ziald (i := 448) rfl (Or.inl t_6) t_7 ?_
    refine R_ps 4 (pc2 := 67) (L2 := [some (vr (some w)), some (vi (J x1)), some (vi (J x2)), some (vi (J x3)), some (vi ((J (ai h a_4 448)) + (J 40))), none, none, none, none, none]) (st2 := [vr (some w)]) rfl ?_
    rw [show ((J (ai h a_4 448)) + (J 40)) = J ((ai h a_4 448) + 40) from J_add' rfl rfl]
    refine R_zgetI (z := 18) rfl t0 rfl ?_
    refine R_ps 1 (pc2 := 72) (L2 := [some (vr (some w)), some (vi (J x1)), some (vi (J x2)), some (vi (J x3)), some (vi (J ((ai h a_4 448) + 40))), some (vi (J (ai h w 18))), none, none, none, none]) (st2 := []) rfl ?_
    exact k
  · have k := k.1 (Classical.not_not.mp c_1)
    refine R_ps 1 (pc2 := 40) (L2 := [some (vr (some w)), some (vi (J x1)), some (vi (J x2)), some (vi (J x3)), some (vi (J x4)), none, none, none, none, none]) (st2 := [vr (some w)]) rfl ?_
    refine R_getR rfl t0 ?_
    refine R_ps 2 (pc2 := 46) (L2 := [some (vr (some w)), some (vi (J x1)), some (vi (J x2)), some (vi (J x3)), some (vi (J x4)), none, none, none, none, none]) (st2 := [vi (J (-1)), vi (J x4), vr (gr h w 17)]) rfl ?_
    obtain ⟨a_11, e_12, k⟩ := k
    rw [e_12]
    obtain ⟨t_15, k⟩ := k
    obtain ⟨t_16, k⟩ := k
    refine R_ziast (i := x4) (x := (-1)) rfl t_15 t_16  ?_
    show WP T N _ _ _ _ (wi h a_11 x4 (-1)) _
    generalize e_14 : wi h a_11 x4 (-1) = h_13
    replace k := k h_13 e_14.symm
    refine R_ps 2 (pc2 := 32) (L2 := [some (vr (some w)), some (vi (J x1)), some (vi (J x2)), some (vi (J x3)), some (vi ((J x4) + J 1)), none, none, none, none, none]) (st2 := []) rfl ?_
    rw [show ((J x4) + J 1) = J (x4 + 1) from J_add' rfl rfl]
    exact k
theorem z208_72 {T N : Nat → Nat} {h : PH} {w : Nat} {x1 : Int} {x2 : Int} {x3 : Int} {x4 : Int} {x5 : Int} {K : PH → Prop} (r1 : In x1) (r2 : In x2) (r3 : In x3) (r4 : In x4) (r5 : In x5) (k : (((x5 < x4 → (WV T N 208 82 [some (vr (some w)), some (vi (J x1)), some (vi (J x2)), some (vi (J x3)), some (vi (J x4)), some (vi (J x5)), some (vi (J 0)), none, none, none] [] h K)) ∧ (¬ (x5 < x4) → (K h))))) : WV T N 208 72 [some (vr (some w)), some (vi (J x1)), some (vi (J x2)), some (vi (J x3)), some (vi (J x4)), some (vi (J x5)), none, none, none, none] [] h K := by
  show WP T N 208 72 [some (vr (some w)), some (vi (J x1)), some (vi (J x2)), some (vi (J x3)), some (vi (J x4)), some (vi (J x5)), none, none, none, none] [] h _
  refine R_ps 2 (pc2 := 76) (L2 := [some (vr (some w)), some (vi (J x1)), some (vi (J x2)), some (vi (J x3)), some (vi (J x4)), some (vi (J x5)), none, none, none, none]) (st2 := [vi (J x4), vi (J x5)]) rfl ?_
  refine R_zif (x := x5) (z := x4) rfl r5 r4 (fun c_1 => ?_) (fun c_1 => ?_)
  · have k := k.2 c_1
    exact R_ret rfl rfl ⟨rfl, k⟩
  · have k := k.1 (Classical.not_not.mp c_1)
    refine R_ps 2 (pc2 := 82) (L2 := [some (vr (some w)), some (vi (J x1)), some (vi (J x2)), some (vi (J x3)), some (vi (J x4)), some (vi (J x5)), some (vi (J 0)), none, none, none]) (st2 := []) rfl ?_
    exact k
theorem z208_82 {T N : Nat → Nat} {h : PH} {w : Nat} {x1 : Int} {x2 : Int} {x3 : Int} {x4 : Int} {x5 : Int} {x6 : Int} {K : PH → Prop} (t0 : T w = 12) (r1 : In x1) (r2 : In x2) (r3 : In x3) (r4 : In x4) (r5 : In x5) (r6 : In x6) (k : (∃ a_3, (gr h w 1) = some a_3 ∧ T a_3 = 22 ∧ (0 ≤ (11 : Int) ∧ (11 : Int) < (N a_3 : Int) ∧ (11 : Int) < 2147483648) ∧ ((x6 < (ai h a_3 11) → (ZI T N 166 [vr (some w), vi (J x6)] h (fun x_10 h_9 => (WV T N 208 113 [some (vr (some w)), some (vi (J x1)), some (vi (J x2)), some (vi (J x3)), some (vi (J x4)), some (vi (J x5)), some (vi (J x6)), some (vi (J ((x5 - x_10) - (ai h_9 w 18)))), some (vi (J 0)), none] [] h_9 K)))) ∧ (¬ (x6 < (ai h a_3 11)) → (WV T N 208 188 [some (vr (some w)), some (vi (J x1)), some (vi (J x2)), some (vi (J x3)), some (vi (J x4)), some (vi (J x5)), some (vi (J 0)), none, none, none] [] h K))))) : WV T N 208 82 [some (vr (some w)), some (vi (J x1)), some (vi (J x2)), some (vi (J x3)), some (vi (J x4)), some (vi (J x5)), some (vi (J x6)), none, none, none] [] h K := by
  show WP T N 208 82 [some (vr (some w)), some (vi (J x1)), some (vi (J x2)), some (vi (J x3)), some (vi (J x4)), some (vi (J x5)), some (vi (J x6)), none, none, none] [] h _
  refine R_ps 2 (pc2 := 85) (L2 := [some (vr (some w)), some (vi (J x1)), some (vi (J x2)), some (vi (J x3)), some (vi (J x4)), some (vi (J x5)), some (vi (J x6)), none, none, none]) (st2 := [vr (some w), vi (J x6)]) rfl ?_
  refine R_getR rfl t0 ?_
  refine R_ps 1 (pc2 := 90) (L2 := [some (vr (some w)), some (vi (J x1)), some (vi (J x2)), some (vi (J x3)), some (vi (J x4)), some (vi (J x5)), some (vi (J x6)), none, none, none]) (st2 := [vi (J 11), vr (gr h w 1), vi (J x6)]) rfl ?_
  obtain ⟨a_3, e_4, k⟩ := k
  rw [e_4]
  obtain ⟨t_5, k⟩ := k
  obtain ⟨t_6, k⟩ := k
  refine R_ziald (i := 11) rfl (Or.inl t_5) t_6 ?_
  refine R_zif (x := x6) (z := ai h a_3 11) rfl r6 (ai_in _ _ _) (fun c_7 => ?_) (fun c_7 => ?_)
  · have k := k.2 c_7
    refine R_ps 2 (pc2 := 188) (L2 := [some (vr (some w)), some (vi (J x1)), some (vi (J x2)), some (vi (J x3)), some (vi (J x4)), some (vi (J x5)), some (vi (J 0)), none, none, none]) (st2 := []) rfl ?_
    exact k
  · have k := k.1 (Classical.not_not.mp c_7)
    refine R_ps 3 (pc2 := 99) (L2 := [some (vr (some w)), some (vi (J x1)), some (vi (J x2)), some (vi (J x3)), some (vi (J x4)), some (vi (J x5)), some (vi (J x6)), none, none, none]) (st2 := [vi (J x6), vr (some w), vi (J x5)]) rfl ?_
    refine R_zcI (as := [vr (some w), vi (J x6)]) rfl rfl ⟨Nat.le_of_ble_eq_true rfl, Nat.le_of_ble_eq_true rfl, rfl, (Or.inr ⟨_, rfl, t0⟩)⟩ rfl rfl k (fun x_10 h_9 r_11 k => ?_)
    refine R_ps 2 (pc2 := 104) (L2 := [some (vr (some w)), some (vi (J x1)), some (vi (J x2)), some (vi (J x3)), some (vi (J x4)), some (vi (J x5)), some (vi (J x6)), none, none, none]) (st2 := [vr (some w), vi ((J x5) - (J x_10))]) rfl ?_
    rw [show ((J x5) - (J x_10)) = J (x5 - x_10) from J_sub' rfl rfl]
    refine R_zgetI (z := 18) rfl t0 rfl ?_
    refine R_ps 4 (pc2 := 113) (L2 := [some (vr (some w)), some (vi (J x1)), some (vi (J x2)), some (vi (J x3)), some (vi (J x4)), some (vi (J x5)), some (vi (J x6)), some (vi ((J (x5 - x_10)) - (J (ai h_9 w 18)))), some (vi (J 0)), none]) (st2 := []) rfl ?_
    rw [show ((J (x5 - x_10)) - (J (ai h_9 w 18))) = J ((x5 - x_10) - (ai h_9 w 18)) from J_sub' rfl rfl]
    exact k
theorem z208_113 {T N : Nat → Nat} {h : PH} {w : Nat} {x1 : Int} {x2 : Int} {x3 : Int} {x4 : Int} {x5 : Int} {x6 : Int} {x7 : Int} {x8 : Int} {K : PH → Prop} (t0 : T w = 12) (r1 : In x1) (r2 : In x2) (r3 : In x3) (r4 : In x4) (r5 : In x5) (r6 : In x6) (r7 : In x7) (r8 : In x8) (k : (((x8 < 6 → (((x7 < 0 → (WV T N 208 82 [some (vr (some w)), some (vi (J x1)), some (vi (J x2)), some (vi (J x3)), some (vi (J x4)), some (vi (J x5)), some (vi (J (x6 + 1))), none, none, none] [] h K)) ∧ (¬ (x7 < 0) → (∃ a_5, (gr h w 14) = some a_5 ∧ T a_5 = 22 ∧ (0 ≤ (((96 * x7) + (6 * x6)) + x8) ∧ (((96 * x7) + (6 * x6)) + x8) < (N a_5 : Int) ∧ (((96 * x7) + (6 * x6)) + x8) < 2147483648) ∧ (((ai h a_5 (((96 * x7) + (6 * x6)) + x8)) < 0 → (WV T N 208 113 [some (vr (some w)), some (vi (J x1)), some (vi (J x2)), some (vi (J x3)), some (vi (J x4)), some (vi (J x5)), some (vi (J x6)), some (vi (J x7)), some (vi (J (x8 + 1))), none] [] h K)) ∧ (¬ ((ai h a_5 (((96 * x7) + (6 * x6)) + x8)) < 0) → ((0 ≤ x8 ∧ x8 < 2147483648) ∧ ZI T N 165 [vr (some w), vi (J x6), vi (J (1 - (x8 / 3)))] h (fun x_14 h_13 => (CV T N 207 [vr (some w), vi (J (((96 * x7) + (6 * x6)) + x8)), vi (J x_14), vi (J (x8 % 3))] h_13 (fun h_18 => (WV T N 208 113 [some (vr (some w)), some (vi (J x1)), some (vi (J x2)), some (vi (J x3)), some (vi (J x4)), some (vi (J x5)), some (vi (J x6)), some (vi (J x7)), some (vi (J (x8 + 1))), none] [] h_18 K)))))))))))) ∧ (¬ (x8 < 6) → (WV T N 208 82 [some (vr (some w)), some (vi (J x1)), some (vi (J x2)), some (vi (J x3)), some (vi (J x4)), some (vi (J x5)), some (vi (J (x6 + 1))), none, none, none] [] h K))))) : WV T N 208 113 [some (vr (some w)), some (vi (J x1)), some (vi (J x2)), some (vi (J x3)), some (vi (J x4)), some (vi (J x5)), some (vi (J x6)), some (vi (J x7)), some (vi (J x8)), none] [] h K := by
  show WP T N 208 113 [some (vr (some w)), some (vi (J x1)), some (vi (J x2)), some (vi (J x3)), some (vi (J x4)), some (vi (J x5)), some (vi (J x6)), some (vi (J x7)), some (vi (J x8)), none] [] h _
  refine R_ps 2 (pc2 := 117) (L2 := [some (vr (some w)), some (vi (J x1)), some (vi (J x2)), some (vi (J x3)), some (vi (J x4)), some (vi (J x5)), some (vi (J x6)), some (vi (J x7)), some (vi (J x8)), none]) (st2 := [vi (J 6), vi (J x8)]) rfl ?_
  refine R_zif (x := x8) (z := 6) rfl r8 (by decide) (fun c_1 => ?_) (fun c_1 => ?_)
  · have k := k.2 c_1
    refine R_ps 2 (pc2 := 82) (L2 := [some (vr (some w)), some (vi (J x1)), some (vi (J x2)), some (vi (J x3)), some (vi (J x4)), some (vi (J x5)), some (vi ((J x6) + J 1)), some (vi (J x7)), some (vi (J x8)), none]) (st2 := []) rfl ?_
    rw [show ((J x6) + J 1) = J (x6 + 1) from J_add' rfl rfl]
    exact R_drop k (LE_of (L := [some (vr (some w)), some (vi (J x1)), some (vi (J x2)), some (vi (J x3)), some (vi (J x4)), some (vi (J x5)), some (vi (J (x6 + 1))), none, none, none]) (L2 := [some (vr (some w)), some (vi (J x1)), some (vi (J x2)), some (vi (J x3)), some (vi (J x4)), some (vi (J x5)), some (vi (J (x6 + 1))), some (vi (J x7)), some (vi (J x8)), none]) ⟨rfl, rfl, rfl, rfl, rfl, rfl, rfl, trivial⟩)
  · have k := k.1 (Classical.not_not.mp c_1)
    refine R_ps 1 (pc2 := 122) (L2 := [some (vr (some w)), some (vi (J x1)), some (vi (J x2)), some (vi (J x3)), some (vi (J x4)), some (vi (J x5)), some (vi (J x6)), some (vi (J x7)), some (vi (J x8)), none]) (st2 := [vi (J x7)]) rfl ?_
    refine R_zif0 (x := x7) rfl r7 (fun c_2 => ?_) (fun c_2 => ?_)
    · have k := k.1 c_2
      refine R_ps 2 (pc2 := 82) (L2 := [some (vr (some w)), some (vi (J x1)), some (vi (J x2)), some (vi (J x3)), some (vi (J x4)), some (vi (J x5)), some (vi ((J x6) + J 1)), some (vi (J x7)), some (vi (J x8)), none]) (st2 := []) rfl ?_
      rw [show ((J x6) + J 1) = J (x6 + 1) from J_add' rfl rfl]
      exact R_drop k (LE_of (L := [some (vr (some w)), some (vi (J x1)), some (vi (J x2)), some (vi (J x3)), some (vi (J x4)), some (vi (J x5)), some (vi (J (x6 + 1))), none, none, none]) (L2 := [some (vr (some w)), some (vi (J x1)), some (vi (J x2)), some (vi (J x3)), some (vi (J x4)), some (vi (J x5)), some (vi (J (x6 + 1))), some (vi (J x7)), some (vi (J x8)), none]) ⟨rfl, rfl, rfl, rfl, rfl, rfl, rfl, trivial⟩)
    · have k := k.2 c_2
      refine R_ps 11 (pc2 := 142) (L2 := [some (vr (some w)), some (vi (J x1)), some (vi (J x2)), some (vi (J x3)), some (vi (J x4)), some (vi (J x5)), some (vi (J x6)), some (vi (J x7)), some (vi (J x8)), some (vi ((((J 96) * (J x7)) + ((J 6) * (J x6))) + (J x8)))]) (st2 := [vr (some w)]) rfl ?_
      rw [show ((((J 96) * (J x7)) + ((J 6) * (J x6))) + (J x8)) = J (((96 * x7) + (6 * x6)) + x8) from J_add' (J_add' (J_mul' rfl rfl) (J_mul' rfl rfl)) rfl]
      refine R_getR rfl t0 ?_
      refine R_ps 1 (pc2 := 147) (L2 := [some (vr (some w)), some (vi (J x1)), some (vi (J x2)), some (vi (J x3)), some (vi (J x4)), some (vi (J x5)), some (vi (J x6)), some (vi (J x7)), some (vi (J x8)), some (vi (J (((96 * x7) + (6 * x6)) + x8)))]) (st2 := [vi (J (((96 * x7) + (6 * x6)) + x8)), vr (gr h w 14)]) rfl ?_
      obtain ⟨a_5, e_6, k⟩ := k
      rw [e_6]
      obtain ⟨t_7, k⟩ := k
      obtain ⟨t_8, k⟩ := k
      refine R_ziald (i := ((96 * x7) + (6 * x6)) + x8) rfl (Or.inl t_7) t_8 ?_
      refine R_zif0 (x := ai h a_5 (((96 * x7) + (6 * x6)) + x8)) rfl (ai_in _ _ _) (fun c_9 => ?_) (fun c_9 => ?_)
      · have k := k.1 c_9
        refine R_ps 2 (pc2 := 113) (L2 := [some (vr (some w)), some (vi (J x1)), some (vi (J x2)), some (vi (J x3)), some (vi (J x4)), some (vi (J x5)), some (vi (J x6)), some (vi (J x7)), some (vi ((J x8) + J 1)), some (vi (J (((96 * x7) + (6 * x6)) + x8)))]) (st2 := []) rfl ?_
        rw [show ((J x8) + J 1) = J (x8 + 1) from J_add' rfl rfl]
        exact R_drop k (LE_of (L := [some (vr (some w)), some (vi (J x1)), some (vi (J x2)), some (vi (J x3)), some (vi (J x4)), some (vi (J x5)), some (vi (J x6)), some (vi (J x7)), some (vi (J (x8 + 1))), none]) (L2 := [some (vr (some w)), some (vi (J x1)), some (vi (J x2)), some (vi (J x3)), some (vi (J x4)), some (vi (J x5)), some (vi (J x6)), some (vi (J x7)), some (vi (J (x8 + 1))), some (vi (J (((96 * x7) + (6 * x6)) + x8)))]) ⟨rfl, rfl, rfl, rfl, rfl, rfl, rfl, rfl, rfl, trivial⟩)
      · have k := k.2 c_9
        refine R_ps 7 (pc2 := 161) (L2 := [some (vr (some w)), some (vi (J x1)), some (vi (J x2)), some (vi (J x3)), some (vi (J x4)), some (vi (J x5)), some (vi (J x6)), some (vi (J x7)), some (vi (J x8)), some (vi (J (((96 * x7) + (6 * x6)) + x8)))]) (st2 := [vi (J 3), vi (J x8), vi (J 1), vi (J x6), vr (some w), vi (J (((96 * x7) + (6 * x6)) + x8)), vr (some w)]) rfl ?_
        obtain ⟨t_11, k⟩ := k
        refine R_zdiv (x := x8) (z := 3) rfl (by decide) t_11 ?_
        refine R_ps 1 (pc2 := 163) (L2 := [some (vr (some w)), some (vi (J x1)), some (vi (J x2)), some (vi (J x3)), some (vi (J x4)), some (vi (J x5)), some (vi (J x6)), some (vi (J x7)), some (vi (J x8)), some (vi (J (((96 * x7) + (6 * x6)) + x8)))]) (st2 := [vi ((J 1) - (J (x8 / 3))), vi (J x6), vr (some w), vi (J (((96 * x7) + (6 * x6)) + x8)), vr (some w)]) rfl ?_
        rw [show ((J 1) - (J (x8 / 3))) = J (1 - (x8 / 3)) from J_sub' rfl rfl]
        refine R_zcI (as := [vr (some w), vi (J x6), vi (J (1 - (x8 / 3)))]) rfl rfl ⟨Nat.le_of_ble_eq_true rfl, Nat.le_of_ble_eq_true rfl, rfl, (Or.inr ⟨_, rfl, t0⟩)⟩ rfl rfl k (fun x_14 h_13 r_15 k => ?_)
        refine R_ps 2 (pc2 := 169) (L2 := [some (vr (some w)), some (vi (J x1)), some (vi (J x2)), some (vi (J x3)), some (vi (J x4)), some (vi (J x5)), some (vi (J x6)), some (vi (J x7)), some (vi (J x8)), some (vi (J (((96 * x7) + (6 * x6)) + x8)))]) (st2 := [vi (J 3), vi (J x8), vi (J x_14), vi (J (((96 * x7) + (6 * x6)) + x8)), vr (some w)]) rfl ?_
        refine R_zrem (x := x8) (z := 3) rfl (by decide) t_11 ?_
        refine R_cV (as := [vr (some w), vi (J (((96 * x7) + (6 * x6)) + x8)), vi (J x_14), vi (J (x8 % 3))]) rfl rfl ⟨Nat.le_of_ble_eq_true rfl, Nat.le_of_ble_eq_true rfl, rfl, (Or.inr ⟨_, rfl, t0⟩)⟩ rfl rfl k (fun h_18 k => ?_)
        refine R_ps 2 (pc2 := 113) (L2 := [some (vr (some w)), some (vi (J x1)), some (vi (J x2)), some (vi (J x3)), some (vi (J x4)), some (vi (J x5)), some (vi (J x6)), some (vi (J x7)), some (vi ((J x8) + J 1)), some (vi (J (((96 * x7) + (6 * x6)) + x8)))]) (st2 := []) rfl ?_
        rw [show ((J x8) + J 1) = J (x8 + 1) from J_add' rfl rfl]
        exact R_drop k (LE_of (L := [some (vr (some w)), some (vi (J x1)), some (vi (J x2)), some (vi (J x3)), some (vi (J x4)), some (vi (J x5)), some (vi (J x6)), some (vi (J x7)), some (vi (J (x8 + 1))), none]) (L2 := [some (vr (some w)), some (vi (J x1)), some (vi (J x2)), some (vi (J x3)), some (vi (J x4)), some (vi (J x5)), some (vi (J x6)), some (vi (J x7)), some (vi (J (x8 + 1))), some (vi (J (((96 * x7) + (6 * x6)) + x8)))]) ⟨rfl, rfl, rfl, rfl, rfl, rfl, rfl, rfl, rfl, trivial⟩)
theorem z208_188 {T N : Nat → Nat} {h : PH} {w : Nat} {x1 : Int} {x2 : Int} {x3 : Int} {x4 : Int} {x5 : Int} {x6 : Int} {K : PH → Prop} (t0 : T w = 12) (r1 : In x1) (r2 : In x2) (r3 : In x3) (r4 : In x4) (r5 : In x5) (r6 : In x6) (k : (∃ a_3, (gr h w 1) = some a_3 ∧ T a_3 = 22 ∧ (0 ≤ (11 : Int) ∧ (11 : Int) < (N a_3 : Int) ∧ (11 : Int) < 2147483648) ∧ ((x6 < (ai h a_3 11) → (ZI T N 166 [vr (some w), vi (J x6)] h (fun x_10 h_9 => (In (x5 + x_10) ∧ ((x4 < (x5 + x_10) → (WV T N 208 188 [some (vr (some w)), some (vi (J x1)), some (vi (J x2)), some (vi (J x3)), some (vi (J x4)), some (vi (J x5)), some (vi (J (x6 + 1))), none, none, none] [] h_9 K)) ∧ (¬ (x4 < (x5 + x_10)) → (WV T N 208 220 [some (vr (some w)), some (vi (J x1)), some (vi (J x2)), some (vi (J x3)), some (vi (J x4)), some (vi (J x5)), some (vi (J x6)), some (vi (J 0)), none, none] [] h_9 K))))))) ∧ (¬ (x6 < (ai h a_3 11)) → (WV T N 208 72 [some (vr (some w)), some (vi (J x1)), some (vi (J x2)), some (vi (J x3)), some (vi (J x4)), some (vi (J (x5 + 1))), none, none, none, none] [] h K))))) : WV T N 208 188 [some (vr (some w)), some (vi (J x1)), some (vi (J x2)), some (vi (J x3)), some (vi (J x4)), some (vi (J x5)), some (vi (J x6)), none, none, none] [] h K := by
  show WP T N 208 188 [some (vr (some w)), some (vi (J x1)), some (vi (J x2)), some (vi (J x3)), some (vi (J x4)), some (vi (J x5)), some (vi (J x6)), none, none, none] [] h _
  refine R_ps 2 (pc2 := 191) (L2 := [some (vr (some w)), some (vi (J x1)), some (vi (J x2)), some (vi (J x3)), some (vi (J x4)), some (vi (J x5)), some (vi (J x6)), none, none, none]) (st2 := [vr (some w), vi (J x6)]) rfl ?_
  refine R_getR rfl t0 ?_
  refine R_ps 1 (pc2 := 196) (L2 := [some (vr (some w)), some (vi (J x1)), some (vi (J x2)), some (vi (J x3)), some (vi (J x4)), some (vi (J x5)), some (vi (J x6)), none, none, none]) (st2 := [vi (J 11), vr (gr h w 1), vi (J x6)]) rfl ?_
  obtain ⟨a_3, e_4, k⟩ := k
  rw [e_4]
  obtain ⟨t_5, k⟩ := k
  obtain ⟨t_6, k⟩ := k
  refine R_ziald (i := 11) rfl (Or.inl t_5) t_6 ?_
  refine R_zif (x := x6) (z := ai h a_3 11) rfl r6 (ai_in _ _ _) (fun c_7 => ?_) (fun c_7 => ?_)
  · have k := k.2 c_7
    refine R_ps 2 (pc2 := 72) (L2 := [some (vr (some w)), some (vi (J x1)), some (vi (J x2)), some (vi (J x3)), some (vi (J x4)), some (vi ((J x5) + J 1)), some (vi (J x6)), none, none, none]) (st2 := []) rfl ?_
    rw [show ((J x5) + J 1) = J (x5 + 1) from J_add' rfl rfl]
    exact R_drop k (LE_of (L := [some (vr (some w)), some (vi (J x1)), some (vi (J x2)), some (vi (J x3)), some (vi (J x4)), some (vi (J (x5 + 1))), none, none, none, none]) (L2 := [some (vr (some w)), some (vi (J x1)), some (vi (J x2)), some (vi (J x3)), some (vi (J x4)), some (vi (J (x5 + 1))), some (vi (J x6)), none, none, none]) ⟨rfl, rfl, rfl, rfl, rfl, rfl, trivial⟩)
  · have k := k.1 (Classical.not_not.mp c_7)
    refine R_ps 3 (pc2 := 205) (L2 := [some (vr (some w)), some (vi (J x1)), some (vi (J x2)), some (vi (J x3)), some (vi (J x4)), some (vi (J x5)), some (vi (J x6)), none, none, none]) (st2 := [vi (J x6), vr (some w), vi (J x5)]) rfl ?_
    refine R_zcI (as := [vr (some w), vi (J x6)]) rfl rfl ⟨Nat.le_of_ble_eq_true rfl, Nat.le_of_ble_eq_true rfl, rfl, (Or.inr ⟨_, rfl, t0⟩)⟩ rfl rfl k (fun x_10 h_9 r_11 k => ?_)
    refine R_ps 2 (pc2 := 211) (L2 := [some (vr (some w)), some (vi (J x1)), some (vi (J x2)), some (vi (J x3)), some (vi (J x4)), some (vi (J x5)), some (vi (J x6)), none, none, none]) (st2 := [vi (J x4), vi ((J x5) + (J x_10))]) rfl ?_
    rw [show ((J x5) + (J x_10)) = J (x5 + x_10) from J_add' rfl rfl]
    obtain ⟨t_13, k⟩ := k
    refine R_zif (x := x5 + x_10) (z := x4) rfl t_13 r4 (fun c_12 => ?_) (fun c_12 => ?_)
    · have k := k.2 c_12
      refine R_ps 2 (pc2 := 220) (L2 := [some (vr (some w)), some (vi (J x1)), some (vi (J x2)), some (vi (J x3)), some (vi (J x4)), some (vi (J x5)), some (vi (J x6)), some (vi (J 0)), none, none]) (st2 := []) rfl ?_
      exact k
    · have k := k.1 (Classical.not_not.mp c_12)
      refine R_ps 3 (pc2 := 188) (L2 := [some (vr (some w)), some (vi (J x1)), some (vi (J x2)), some (vi (J x3)), some (vi (J x4)), some (vi (J x5)), some (vi ((J x6) + J 1)), none, none, none]) (st2 := []) rfl ?_
      rw [show ((J x6) + J 1) = J (x6 + 1) from J_add' rfl rfl]
      exact k
theorem z208_220 {T N : Nat → Nat} {h : PH} {w : Nat} {x1 : Int} {x2 : Int} {x3 : Int} {x4 : Int} {x5 : Int} {x6 : Int} {x7 : Int} {K : PH → Prop} (t0 : T w = 12) (r1 : In x1) (r2 : In x2) (r3 : In x3) (r4 : In x4) (r5 : In x5) (r6 : In x6) (r7 : In x7) (k : (((x7 < 6 → (CV T N 209 [vr (some w), vi (J x1), vi (J (((96 * (x5 - (ai h w 18))) + (6 * x6)) + x7)), vi (J x2), vi (J x3)] h (fun h_4 => (WV T N 208 220 [some (vr (some w)), some (vi (J x1)), some (vi (J x2)), some (vi (J x3)), some (vi (J x4)), some (vi (J x5)), some (vi (J x6)), some (vi (J (x7 + 1))), none, none] [] h_4 K)))) ∧ (¬ (x7 < 6) → (WV T N 208 188 [some (vr (some w)), some (vi (J x1)), some (vi (J x2)), some (vi (J x3)), some (vi (J x4)), some (vi (J x5)), some (vi (J (x6 + 1))), none, none, none] [] h K))))) : WV T N 208 220 [some (vr (some w)), some (vi (J x1)), some (vi (J x2)), some (vi (J x3)), some (vi (J x4)), some (vi (J x5)), some (vi (J x6)), some (vi (J x7)), none, none] [] h K := by
  show WP T N 208 220 [some (vr (some w)), some (vi (J x1)), some (vi (J x2)), some (vi (J x3)), some (vi (J x4)), some (vi (J x5)), some (vi (J x6)), some (vi (J x7)), none, none] [] h _
  refine R_ps 2 (pc2 := 224) (L2 := [some (vr (some w)), some (vi (J x1)), some (vi (J x2)), some (vi (J x3)), some (vi (J x4)), some (vi (J x5)), some (vi (J x6)), some (vi (J x7)), none, none]) (st2 := [vi (J 6), vi (J x7)]) rfl ?_
  refine R_zif (x := x7) (z := 6) rfl r7 (by decide) (fun c_1 => ?_) (fun c_1 => ?_)
  · have k := k.2 c_1
    refine R_ps 2 (pc2 := 188) (L2 := [some (vr (some w)), some (vi (J x1)), some (vi (J x2)), some (vi (J x3)), some (vi (J x4)), some (vi (J x5)), some (vi ((J x6) + J 1)), some (vi (J x7)), none, none]) (st2 := []) rfl ?_
    rw [show ((J x6) + J 1) = J (x6 + 1) from J_add' rfl rfl]
    exact R_drop k (LE_of (L := [some (vr (some w)), some (vi (J x1)), some (vi (J x2)), some (vi (J x3)), some (vi (J x4)), some (vi (J x5)), some (vi (J (x6 + 1))), none, none, none]) (L2 := [some (vr (some w)), some (vi (J x1)), some (vi (J x2)), some (vi (J x3)), some (vi (J x4)), some (vi (J x5)), some (vi (J (x6 + 1))), some (vi (J x7)), none, none]) ⟨rfl, rfl, rfl, rfl, rfl, rfl, rfl, trivial⟩)
  · have k := k.1 (Classical.not_not.mp c_1)
    refine R_ps 5 (pc2 := 234) (L2 := [some (vr (some w)), some (vi (J x1)), some (vi (J x2)), some (vi (J x3)), some (vi (J x4)), some (vi (J x5)), some (vi (J x6)), some (vi (J x7)), none, none]) (st2 := [vr (some w), vi (J x5), vi (J 96), vi (J x1), vr (some w)]) rfl ?_
    refine R_zgetI (z := 18) rfl t0 rfl ?_
    refine R_ps 10 (pc2 := 250) (L2 := [some (vr (some w)), some (vi (J x1)), some (vi (J x2)), some (vi (J x3)), some (vi (J x4)), some (vi (J x5)), some (vi (J x6)), some (vi (J x7)), none, none]) (st2 := [vi (J x3), vi (J x2), vi ((((J 96) * ((J x5) - (J (ai h w 18)))) + ((J 6) * (J x6))) + (J x7)), vi (J x1), vr (some w)]) rfl ?_
    rw [show ((((J 96) * ((J x5) - (J (ai h w 18)))) + ((J 6) * (J x6))) + (J x7)) = J (((96 * (x5 - (ai h w 18))) + (6 * x6)) + x7) from J_add' (J_add' (J_mul' rfl (J_sub' rfl rfl)) (J_mul' rfl rfl)) rfl]
    refine R_cV (as := [vr (some w), vi (J x1), vi (J (((96 * (x5 - (ai h w 18))) + (6 * x6)) + x7)), vi (J x2), vi (J x3)]) rfl rfl ⟨Nat.le_of_ble_eq_true rfl, Nat.le_of_ble_eq_true rfl, rfl, (Or.inr ⟨_, rfl, t0⟩)⟩ rfl rfl k (fun h_4 k => ?_)
    refine R_ps 2 (pc2 := 220) (L2 := [some (vr (some w)), some (vi (J x1)), some (vi (J x2)), some (vi (J x3)), some (vi (J x4)), some (vi (J x5)), some (vi (J x6)), some (vi ((J x7) + J 1)), none, none]) (st2 := []) rfl ?_
    rw [show ((J x7) + J 1) = J (x7 + 1) from J_add' rfl rfl]
    exact k
/-- DroneCorridorsModel.tries -/
theorem z209 {T N : Nat → Nat} {h : PH} {w : Nat} {x1 : Int} {x2 : Int} {x3 : Int} {x4 : Int} {K : PH → Prop} (t0 : T w = 12) (r1 : In x1) (r2 : In x2) (r3 : In x3) (r4 : In x4) (k : (ZI T N 205 [vr (some w), vi (J x2)] h (fun x_3 h_2 => (ZI T N 187 [vi (J x_3)] h_2 (fun x_7 h_6 => (ZI T N 189 [vi (J x_3)] h_6 (fun x_11 h_10 => (ZI T N 188 [vi (J x_3)] h_10 (fun x_15 h_14 => (ZI T N 165 [vr (some w), vi (J x_7), vi (J x_15)] h_14 (fun x_19 h_18 => (ZI T N 188 [vi (J x_3)] h_18 (fun x_23 h_22 => (ZI T N 165 [vr (some w), vi (J x_7), vi (J (1 - x_23))] h_22 (fun x_27 h_26 => (∃ a_31, (gr h_26 w 12) = some a_31 ∧ T a_31 = 22 ∧ (0 ≤ x_27 ∧ x_27 < (N a_31 : Int) ∧ x_27 < 2147483648) ∧ (((ai h_26 a_31 x_27) < 1000000 → (((x_19 = (ai h_26 w 20) → (ZI T N 168 [vr (some w), vi (J x1), vi (J 0)] h_26 (fun x_40 h_39 => (((x_40 = 0 → (ZI T N 159 [vi (J (x_11 - (ai h_39 w 19)))] h_39 (fun x_56 h_55 => (WV T N 209 113 [some (vr (some w)), some (vi (J x1)), some (vi (J x2)), some (vi (J x3)), some (vi (J x4)), some (vi (J x_3)), some (vi (J x_7)), some (vi (J x_11)), some (vi (J x_19)), some (vi (J x_27)), some (vi (J (0 + x_56))), some (vi (J (-1))), none, none] [] h_55 K)))) ∧ (¬ (x_40 = 0) → (ZI T N 190 [vi (J x_3)] h_39 (fun x_45 h_44 => (ZI T N 159 [vi (J (x_11 - (ai h_44 w 19)))] h_44 (fun x_51 h_50 => (WV T N 209 113 [some (vr (some w)), some (vi (J x1)), some (vi (J x2)), some (vi (J x3)), some (vi (J x4)), some (vi (J x_3)), some (vi (J x_7)), some (vi (J x_11)), some (vi (J x_19)), some (vi (J x_27)), some (vi (J ((x_45 - (ai h_44 w 18)) + x_51))), some (vi (J (-1))), none, none] [] h_50 K))))))))))) ∧ (¬ (x_19 = (ai h_26 w 20)) → (WV T N 209 113 [some (vr (some w)), some (vi (J x1)), some (vi (J x2)), some (vi (J x3)), some (vi (J x4)), some (vi (J x_3)), some (vi (J x_7)), some (vi (J x_11)), some (vi (J x_19)), some (vi (J x_27)), some (vi (J (-1))), some (vi (J (-1))), none, none] [] h_26 K))))) ∧ (¬ ((ai h_26 a_31 x_27) < 1000000) → (K h_26))))))))))))))))))) : CV T N 209 [vr (some w), vi (J x1), vi (J x2), vi (J x3), vi (J x4)] h K := by
  show WP T N 209 0 [some (vr (some w)), some (vi (J x1)), some (vi (J x2)), some (vi (J x3)), some (vi (J x4)), none, none, none, none, none, none, none, none, none] [] h _
  refine R_ps 2 (pc2 := 2) (L2 := [some (vr (some w)), some (vi (J x1)), some (vi (J x2)), some (vi (J x3)), some (vi (J x4)), none, none, none, none, none, none, none, none, none]) (st2 := [vi (J x2), vr (some w)]) rfl ?_
  refine R_zcI (as := [vr (some w), vi (J x2)]) rfl rfl ⟨Nat.le_of_ble_eq_true rfl, Nat.le_of_ble_eq_true rfl, rfl, (Or.inr ⟨_, rfl, t0⟩)⟩ rfl rfl k (fun x_3 h_2 r_4 k => ?_)
  refine R_ps 2 (pc2 := 9) (L2 := [some (vr (some w)), some (vi (J x1)), some (vi (J x2)), some (vi (J x3)), some (vi (J x4)), some (vi (J x_3)), none, none, none, none, none, none, none, none]) (st2 := [vi (J x_3)]) rfl ?_
  refine R_zcI (as := [vi (J x_3)]) rfl rfl ⟨Nat.le_of_ble_eq_true rfl, Nat.le_of_ble_eq_true rfl, rfl, (Or.inl rfl)⟩ rfl rfl k (fun x_7 h_6 r_8 k => ?_)
  refine R_ps 2 (pc2 := 16) (L2 := [some (vr (some w)), some (vi (J x1)), some (vi (J x2)), some (vi (J x3)), some (vi (J x4)), some (vi (J x_3)), some (vi (J x_7)), none, none, none, none, none, none, none]) (st2 := [vi (J x_3)]) rfl ?_
  refine R_zcI (as := [vi (J x_3)]) rfl rfl ⟨Nat.le_of_ble_eq_true rfl, Nat.le_of_ble_eq_true rfl, rfl, (Or.inl rfl)⟩ rfl rfl k (fun x_11 h_10 r_12 k => ?_)
  refine R_ps 4 (pc2 := 26) (L2 := [some (vr (some w)), some (vi (J x1)), some (vi (J x2)), some (vi (J x3)), some (vi (J x4)), some (vi (J x_3)), some (vi (J x_7)), some (vi (J x_11)), none, none, none, none, none, none]) (st2 := [vi (J x_3), vi (J x_7), vr (some w)]) rfl ?_
  refine R_zcI (as := [vi (J x_3)]) rfl rfl ⟨Nat.le_of_ble_eq_true rfl, Nat.le_of_ble_eq_true rfl, rfl, (Or.inl rfl)⟩ rfl rfl k (fun x_15 h_14 r_16 k => ?_)
  refine R_zcI (as := [vr (some w), vi (J x_7), vi (J x_15)]) rfl rfl ⟨Nat.le_of_ble_eq_true rfl, Nat.le_of_ble_eq_true rfl, rfl, (Or.inr ⟨_, rfl, t0⟩)⟩ rfl rfl k (fun x_19 h_18 r_20 k => ?_)
  refine R_ps 5 (pc2 := 40) (L2 := [some (vr (some w)), some (vi (J x1)), some (vi (J x2)), some (vi (J x3)), some (vi (J x4)), some (vi (J x_3)), some (vi (J x_7)), some (vi (J x_11)), some (vi (J x_19)), none, none, none, none, none]) (st2 := [vi (J x_3), vi (J 1), vi (J x_7), vr (some w)]) rfl ?_
  refine R_zcI (as := [vi (J x_3)]) rfl rfl ⟨Nat.le_of_ble_eq_true rfl, Nat.le_of_ble_eq_true rfl, rfl, (Or.inl rfl)⟩ rfl rfl k (fun x_23 h_22 r_24 k => ?_)
  refine R_ps 1 (pc2 := 44) (L2 := [some (vr (some w)), some (vi (J x1)), some (vi (J x2)), some (vi (J x3)), some (vi (J x4)), some (vi (J x_3)), some (vi (J x_7)), some (vi (J x_11)), some (vi (J x_19)), none, none, none, none, none]) (st2 := [vi ((J 1) - (J x_23)), vi (J x_7), vr (some w)]) rfl ?_
  rw [show ((J 1) - (J x_23)) = J (1 - x_23) from J_sub' rfl rfl]
  refine R_zcI (as := [vr (some w), vi (J x_7), vi (J (1 - x_23))]) rfl rfl ⟨Nat.le_of_ble_eq_true rfl, Nat.le_of_ble_eq_true rfl, rfl, (Or.inr ⟨_, rfl, t0⟩)⟩ rfl rfl k (fun x_27 h_26 r_28 k => ?_)
  refine R_ps 2 (pc2 := 50) (L2 := [some (vr (some w)), some (vi (J x1)), some (vi (J x2)), some (vi (J x3)), some (vi (J x4)), some (vi (J x_3)), some (vi (J x_7)), some (vi (J x_11)), some (vi (J x_19)), some (vi (J x_27)), none, none, none, none]) (st2 := [vr (some w)]) rfl ?_
  refine R_getR rfl t0 ?_
  refine R_ps 1 (pc2 := 55) (L2 := [some (vr (some w)), some (vi (J x1)), some (vi (J x2)), some (vi (J x3)), some (vi (J x4)), some (vi (J x_3)), some (vi (J x_7)), some (vi (J x_11)), some (vi (J x_19)), some (vi (J x_27)), none, none, none, none]) (st2 := [vi (J x_27), vr (gr h_26 w 12)]) rfl ?_
  obtain ⟨a_31, e_32, k⟩ := k
  rw [e_32]
  obtain ⟨t_33, k⟩ := k
  obtain ⟨t_34, k⟩ := k
  refine R_ziald (i := x_27) rfl (Or.inl t_33) t_34 ?_
  refine R_ps 1 (pc2 := 58) (L2 := [some (vr (some w)), some (vi (J x1)), some (vi (J x2)), some (vi (J x3)), some (vi (J x4)), some (vi (J x_3)), some (vi (J x_7)), some (vi (J x_11)), some (vi (J x_19)), some (vi (J x_27)), none, none, none, none]) (st2 := [vi (J 1000000), vi (J (ai h_26 a_31 x_27))]) rfl ?_
  refine R_zif (x := ai h_26 a_31 x_27) (z := 1000000) rfl (ai_in _ _ _) (by decide) (fun c_35 => ?_) (fun c_35 => ?_)
  · have k := k.1 c_35
    refine R_ps 6 (pc2 := 71) (L2 := [some (vr (some w)), some (vi (J x1)), some (vi (J x2)), some (vi (J x3)), some (vi (J x4)), some (vi (J x_3)), some (vi (J x_7)), some (vi (J x_11)), some (vi (J x_19)), some (vi (J x_27)), some (vi (J (-1))), some (vi (J (-1))), none, none]) (st2 := [vr (some w), vi (J x_19)]) rfl ?_
    refine R_zgetI (z := 20) rfl t0 rfl ?_
    refine R_zif (x := x_19) (z := ai h_26 w 20) rfl r_20 (ai_in _ _ _) (fun c_37 => ?_) (fun c_37 => ?_)
    · have k := k.2 c_37
      exact k
    · have k := k.1 (Classical.not_not.mp c_37)
      refine R_ps 3 (pc2 := 80) (L2 := [some (vr (some w)), some (vi (J x1)), some (vi (J x2)), some (vi (J x3)), some (vi (J x4)), some (vi (J x_3)), some (vi (J x_7)), some (vi (J x_11)), some (vi (J x_19)), some (vi (J x_27)), some (vi (J (-1))), some (vi (J (-1))), none, none]) (st2 := [vi (J 0), vi (J x1), vr (some w)]) rfl ?_
      refine R_zcI (as := [vr (some w), vi (J x1), vi (J 0)]) rfl rfl ⟨Nat.le_of_ble_eq_true rfl, Nat.le_of_ble_eq_true rfl, rfl, (Or.inr ⟨_, rfl, t0⟩)⟩ rfl rfl k (fun x_40 h_39 r_41 k => ?_)
      refine R_zif0 (x := x_40) rfl r_41 (fun c_42 => ?_) (fun c_42 => ?_)
      · have k := k.2 c_42
        refine R_ps 1 (pc2 := 92) (L2 := [some (vr (some w)), some (vi (J x1)), some (vi (J x2)), some (vi (J x3)), some (vi (J x4)), some (vi (J x_3)), some (vi (J x_7)), some (vi (J x_11)), some (vi (J x_19)), some (vi (J x_27)), some (vi (J (-1))), some (vi (J (-1))), none, none]) (st2 := [vi (J x_3)]) rfl ?_
        refine R_zcI (as := [vi (J x_3)]) rfl rfl ⟨Nat.le_of_ble_eq_true rfl, Nat.le_of_ble_eq_true rfl, rfl, (Or.inl rfl)⟩ rfl rfl k (fun x_45 h_44 r_46 k => ?_)
        refine R_ps 1 (pc2 := 96) (L2 := [some (vr (some w)), some (vi (J x1)), some (vi (J x2)), some (vi (J x3)), some (vi (J x4)), some (vi (J x_3)), some (vi (J x_7)), some (vi (J x_11)), some (vi (J x_19)), some (vi (J x_27)), some (vi (J (-1))), some (vi (J (-1))), none, none]) (st2 := [vr (some w), vi (J x_45)]) rfl ?_
        refine R_zgetI (z := 18) rfl t0 rfl ?_
        refine R_ps 3 (pc2 := 103) (L2 := [some (vr (some w)), some (vi (J x1)), some (vi (J x2)), some (vi (J x3)), some (vi (J x4)), some (vi (J x_3)), some (vi (J x_7)), some (vi (J x_11)), some (vi (J x_19)), some (vi (J x_27)), some (vi (J (-1))), some (vi (J (-1))), none, none]) (st2 := [vr (some w), vi (J x_11), vi ((J x_45) - (J (ai h_44 w 18)))]) rfl ?_
        rw [show ((J x_45) - (J (ai h_44 w 18))) = J (x_45 - (ai h_44 w 18)) from J_sub' rfl rfl]
        refine R_zgetI (z := 19) rfl t0 rfl ?_
        refine R_ps 1 (pc2 := 107) (L2 := [some (vr (some w)), some (vi (J x1)), some (vi (J x2)), some (vi (J x3)), some (vi (J x4)), some (vi (J x_3)), some (vi (J x_7)), some (vi (J x_11)), some (vi (J x_19)), some (vi (J x_27)), some (vi (J (-1))), some (vi (J (-1))), none, none]) (st2 := [vi ((J x_11) - (J (ai h_44 w 19))), vi (J (x_45 - (ai h_44 w 18)))]) rfl ?_
        rw [show ((J x_11) - (J (ai h_44 w 19))) = J (x_11 - (ai h_44 w 19)) from J_sub' rfl rfl]
        refine R_zcI (as := [vi (J (x_11 - (ai h_44 w 19)))]) rfl rfl ⟨Nat.le_of_ble_eq_true rfl, Nat.le_of_ble_eq_true rfl, rfl, (Or.inl rfl)⟩ rfl rfl k (fun x_51 h_50 r_52 k => ?_)
        refine R_ps 2 (pc2 := 113) (L2 := [some (vr (some w)), some (vi (J x1)), some (vi (J x2)), some (vi (J x3)), some (vi (J x4)), some (vi (J x_3)), some (vi (J x_7)), some (vi (J x_11)), some (vi (J x_19)), some (vi (J x_27)), some (vi ((J (x_45 - (ai h_44 w 18))) + (J x_51))), some (vi (J (-1))), none, none]) (st2 := []) rfl ?_
        rw [show ((J (x_45 - (ai h_44 w 18))) + (J x_51)) = J ((x_45 - (ai h_44 w 18)) + x_51) from J_add' rfl rfl]
        exact k
      · have k := k.1 (Classical.not_not.mp c_42)
        refine R_ps 4 (pc2 := 103) (L2 := [some (vr (some w)), some (vi (J x1)), some (vi (J x2)), some (vi (J x3)), some (vi (J x4)), some (vi (J x_3)), some (vi (J x_7)), some (vi (J x_11)), some (vi (J x_19)), some (vi (J x_27)), some (vi (J (-1))), some (vi (J (-1))), none, none]) (st2 := [vr (some w), vi (J x_11), vi (J 0)]) rfl ?_
        refine R_zgetI (z := 19) rfl t0 rfl ?_
        refine R_ps 1 (pc2 := 107) (L2 := [some (vr (some w)), some (vi (J x1)), some (vi (J x2)), some (vi (J x3)), some (vi (J x4)), some (vi (J x_3)), some (vi (J x_7)), some (vi (J x_11)), some (vi (J x_19)), some (vi (J x_27)), some (vi (J (-1))), some (vi (J (-1))), none, none]) (st2 := [vi ((J x_11) - (J (ai h_39 w 19))), vi (J 0)]) rfl ?_
        rw [show ((J x_11) - (J (ai h_39 w 19))) = J (x_11 - (ai h_39 w 19)) from J_sub' rfl rfl]
        refine R_zcI (as := [vi (J (x_11 - (ai h_39 w 19)))]) rfl rfl ⟨Nat.le_of_ble_eq_true rfl, Nat.le_of_ble_eq_true rfl, rfl, (Or.inl rfl)⟩ rfl rfl k (fun x_56 h_55 r_57 k => ?_)
        refine R_ps 2 (pc2 := 113) (L2 := [some (vr (some w)), some (vi (J x1)), some (vi (J x2)), some (vi (J x3)), some (vi (J x4)), some (vi (J x_3)), some (vi (J x_7)), some (vi (J x_11)), some (vi (J x_19)), some (vi (J x_27)), some (vi ((J 0) + (J x_56))), some (vi (J (-1))), none, none]) (st2 := []) rfl ?_
        rw [show ((J 0) + (J x_56)) = J (0 + x_56) from J_add' rfl rfl]
        exact k
  · have k := k.2 c_35
    exact R_ret rfl rfl ⟨rfl, k⟩
theorem z209_113 {T N : Nat → Nat} {h : PH} {w : Nat} {x1 : Int} {x2 : Int} {x3 : Int} {x4 : Int} {x5 : Int} {x6 : Int} {x7 : Int} {x8 : Int} {x9 : Int} {x10 : Int} {x11 : Int} {K : PH → Prop} (r1 : In x1) (r2 : In x2) (r3 : In x3) (r4 : In x4) (r5 : In x5) (r6 : In x6) (r7 : In x7) (r8 : In x8) (r9 : In x9) (r10 : In x10) (r11 : In x11) (k : (WV T N 209 116 [some (vr (some w)), some (vi (J x1)), some (vi (J x2)), some (vi (J x3)), some (vi (J x4)), some (vi (J x5)), some (vi (J x6)), some (vi (J x7)), some (vi (J x8)), some (vi (J x9)), some (vi (J x10)), some (vi (J x11)), some (vi (J 0)), none] [] h K)) : WV T N 209 113 [some (vr (some w)), some (vi (J x1)), some (vi (J x2)), some (vi (J x3)), some (vi (J x4)), some (vi (J x5)), some (vi (J x6)), some (vi (J x7)), some (vi (J x8)), some (vi (J x9)), some (vi (J x10)), some (vi (J x11)), none, none] [] h K := by
  show WP T N 209 113 [some (vr (some w)), some (vi (J x1)), some (vi (J x2)), some (vi (J x3)), some (vi (J x4)), some (vi (J x5)), some (vi (J x6)), some (vi (J x7)), some (vi (J x8)), some (vi (J x9)), some (vi (J x10)), some (vi (J x11)), none, none] [] h _
  refine R_ps 2 (pc2 := 116) (L2 := [some (vr (some w)), some (vi (J x1)), some (vi (J x2)), some (vi (J x3)), some (vi (J x4)), some (vi (J x5)), some (vi (J x6)), some (vi (J x7)), some (vi (J x8)), some (vi (J x9)), some (vi (J x10)), some (vi (J x11)), some (vi (J 0)), none]) (st2 := []) rfl ?_
  exact k
theorem z209_116 {T N : Nat → Nat} {h : PH} {w : Nat} {x1 : Int} {x2 : Int} {x3 : Int} {x4 : Int} {x5 : Int} {x6 : Int} {x7 : Int} {x8 : Int} {x9 : Int} {x10 : Int} {x11 : Int} {x12 : Int} {K : PH → Prop} (t0 : T w = 12) (r1 : In x1) (r2 : In x2) (r3 : In x3) (r4 : In x4) (r5 : In x5) (r6 : In x6) (r7 : In x7) (r8 : In x8) (r9 : In x9) (r10 : In x10) (r11 : In x11) (r12 : In x12) (k : (((x12 < 3 → (∃ a_32, (gr h w 17) = some a_32 ∧ T a_32 = 22 ∧ (0 ≤ ((3 * x8) + x12) ∧ ((3 * x8) + x12) < (N a_32 : Int) ∧ ((3 * x8) + x12) < 2147483648) ∧ (((ai h a_32 ((3 * x8) + x12)) < 0 → (WV T N 209 202 [some (vr (some w)), some (vi (J x1)), some (vi (J x2)), some (vi (J x3)), some (vi (J x4)), some (vi (J x5)), some (vi (J x6)), some (vi (J x7)), some (vi (J x8)), some (vi (J x9)), some (vi (J x10)), some (vi (J x11)), some (vi (J x12)), none] [] h K)) ∧ (¬ ((ai h a_32 ((3 * x8) + x12)) < 0) → (∃ a_39, (gr h w 16) = some a_39 ∧ T a_39 = 22 ∧ (0 ≤ ((3 * x8) + x12) ∧ ((3 * x8) + x12) < (N a_39 : Int) ∧ ((3 * x8) + x12) < 2147483648) ∧ ZI T N 190 [vi (J x5)] h (fun x_45 h_44 => (ZI T N 159 [vi (J (x7 - x12))] h_44 (fun x_49 h_48 => (((x10 < 0 → (WV T N 209 184 [some (vr (some w)), some (vi (J x1)), some (vi (J x2)), some (vi (J x3)), some (vi (J x4)), some (vi (J x5)), some (vi (J x6)), some (vi (J x7)), some (vi (J x8)), some (vi (J x9)), none, none, some (vi (J x12)), some (vi (J (((ai h a_39 ((3 * x8) + x12)) + x_45) + x_49)))] [] h_48 K)) ∧ (¬ (x10 < 0) → (In (((ai h a_39 ((3 * x8) + x12)) + x_45) + x_49) ∧ (((((ai h a_39 ((3 * x8) + x12)) + x_45) + x_49) < x10 → (WV T N 209 184 [some (vr (some w)), some (vi (J x1)), some (vi (J x2)), some (vi (J x3)), some (vi (J x4)), some (vi (J x5)), some (vi (J x6)), some (vi (J x7)), some (vi (J x8)), some (vi (J x9)), none, none, some (vi (J x12)), some (vi (J (((ai h a_39 ((3 * x8) + x12)) + x_45) + x_49)))] [] h_48 K)) ∧ (¬ ((((ai h a_39 ((3 * x8) + x12)) + x_45) + x_49) < x10) → (WV T N 209 202 [some (vr (some w)), some (vi (J x1)), some (vi (J x2)), some (vi (J x3)), some (vi (J x4)), some (vi (J x5)), some (vi (J x6)), some (vi (J x7)), some (vi (J x8)), some (vi (J x9)), some (vi (J x10)), some (vi (J x11)), some (vi (J x12)), none] [] h_48 K))))))))))))))) ∧ (¬ (x12 < 3) → (((x10 < 0 → (WV T N 209 244 [none, none, none, none, none, none, none, none, none, none, none, none, none, none] [] h K)) ∧ (¬ (x10 < 0) → (ZI T N 168 [vr (some w), vi (J x1), vi (J 1)] h (fun x_5 h_4 => (ZI T N 188 [vi (J x5)] h_4 (fun x_9 h_8 => (ZI T N 167 [vr (some w), vi (J x6), vi (J x_9)] h_8 (fun x_13 h_12 => (∃ a_17, (gr h_12 w 12) = some a_17 ∧ T a_17 = 22 ∧ (0 ≤ x9 ∧ x9 < (N a_17 : Int) ∧ x9 < 2147483648) ∧ In ((x_5 - x10) - x_13) ∧ ((((x_5 - x10) - x_13) < (ai h_12 a_17 x9) → (WV T N 209 244 [none, none, none, none, none, none, none, none, none, none, none, none, none, none] [] h_12 K)) ∧ (¬ (((x_5 - x10) - x_13) < (ai h_12 a_17 x9)) → (((x3 = 0 → (WV T N 209 258 [some (vr (some w)), some (vi (J x1)), some (vi (J x2)), none, some (vi (J x4)), some (vi (J x5)), some (vi (J x6)), none, none, none, some (vi (J x10)), some (vi (J x11)), none, none] [] h_12 K)) ∧ (¬ (x3 = 0) → (ZI T N 199 [vr (some w), vi (J x5)] h_12 (fun x_26 h_25 => (((x_26 = 0 → (WV T N 209 258 [some (vr (some w)), some (vi (J x1)), some (vi (J x2)), none, some (vi (J x4)), some (vi (J x5)), some (vi (J x6)), none, none, none, some (vi (J x10)), some (vi (J x11)), none, none] [] h_25 K)) ∧ (¬ (x_26 = 0) → (K h_25))))))))))))))))))))))))) : WV T N 209 116 [some (vr (some w)), some (vi (J x1)), some (vi (J x2)), some (vi (J x3)), some (vi (J x4)), some (vi (J x5)), some (vi (J x6)), some (vi (J x7)), some (vi (J x8)), some (vi (J x9)), some (vi (J x10)), some (vi (J x11)), some (vi (J x12)), none] [] h K := by
  show WP T N 209 116 [some (vr (some w)), some (vi (J x1)), some (vi (J x2)), some (vi (J x3)), some (vi (J x4)), some (vi (J x5)), some (vi (J x6)), some (vi (J x7)), some (vi (J x8)), some (vi (J x9)), some (vi (J x10)), some (vi (J x11)), some (vi (J x12)), none] [] h _
  refine R_ps 2 (pc2 := 119) (L2 := [some (vr (some w)), some (vi (J x1)), some (vi (J x2)), some (vi (J x3)), some (vi (J x4)), some (vi (J x5)), some (vi (J x6)), some (vi (J x7)), some (vi (J x8)), some (vi (J x9)), some (vi (J x10)), some (vi (J x11)), some (vi (J x12)), none]) (st2 := [vi (J 3), vi (J x12)]) rfl ?_
  refine R_zif (x := x12) (z := 3) rfl r12 (by decide) (fun c_1 => ?_) (fun c_1 => ?_)
  · have k := k.2 c_1
    refine R_ps 1 (pc2 := 210) (L2 := [some (vr (some w)), some (vi (J x1)), some (vi (J x2)), some (vi (J x3)), some (vi (J x4)), some (vi (J x5)), some (vi (J x6)), some (vi (J x7)), some (vi (J x8)), some (vi (J x9)), some (vi (J x10)), some (vi (J x11)), some (vi (J x12)), none]) (st2 := [vi (J x10)]) rfl ?_
    refine R_zif0 (x := x10) rfl r10 (fun c_2 => ?_) (fun c_2 => ?_)
    · have k := k.1 c_2
      exact R_drop k (LE_of (L := [none, none, none, none, none, none, none, none, none, none, none, none, none, none]) (L2 := [some (vr (some w)), some (vi (J x1)), some (vi (J x2)), some (vi (J x3)), some (vi (J x4)), some (vi (J x5)), some (vi (J x6)), some (vi (J x7)), some (vi (J x8)), some (vi (J x9)), some (vi (J x10)), some (vi (J x11)), some (vi (J x12)), none]) trivial)
    · have k := k.2 c_2
      refine R_ps 3 (pc2 := 216) (L2 := [some (vr (some w)), some (vi (J x1)), some (vi (J x2)), some (vi (J x3)), some (vi (J x4)), some (vi (J x5)), some (vi (J x6)), some (vi (J x7)), some (vi (J x8)), some (vi (J x9)), some (vi (J x10)), some (vi (J x11)), some (vi (J x12)), none]) (st2 := [vi (J 1), vi (J x1), vr (some w)]) rfl ?_
      refine R_zcI (as := [vr (some w), vi (J x1), vi (J 1)]) rfl rfl ⟨Nat.le_of_ble_eq_true rfl, Nat.le_of_ble_eq_true rfl, rfl, (Or.inr ⟨_, rfl, t0⟩)⟩ rfl rfl k (fun x_5 h_4 r_6 k => ?_)
      refine R_ps 5 (pc2 := 227) (L2 := [some (vr (some w)), some (vi (J x1)), some (vi (J x2)), some (vi (J x3)), some (vi (J x4)), some (vi (J x5)), some (vi (J x6)), some (vi (J x7)), some (vi (J x8)), some (vi (J x9)), some (vi (J x10)), some (vi (J x11)), some (vi (J x12)), none]) (st2 := [vi (J x5), vi (J x6), vr (some w), vi ((J x_5) - (J x10))]) rfl ?_
      rw [show ((J x_5) - (J x10)) = J (x_5 - x10) from J_sub' rfl rfl]
      refine R_zcI (as := [vi (J x5)]) rfl rfl ⟨Nat.le_of_ble_eq_true rfl, Nat.le_of_ble_eq_true rfl, rfl, (Or.inl rfl)⟩ rfl rfl k (fun x_9 h_8 r_10 k => ?_)
      refine R_zcI (as := [vr (some w), vi (J x6), vi (J x_9)]) rfl rfl ⟨Nat.le_of_ble_eq_true rfl, Nat.le_of_ble_eq_true rfl, rfl, (Or.inr ⟨_, rfl, t0⟩)⟩ rfl rfl k (fun x_13 h_12 r_14 k => ?_)
      refine R_ps 2 (pc2 := 235) (L2 := [some (vr (some w)), some (vi (J x1)), some (vi (J x2)), some (vi (J x3)), some (vi (J x4)), some (vi (J x5)), some (vi (J x6)), some (vi (J x7)), some (vi (J x8)), some (vi (J x9)), some (vi (J x10)), some (vi (J x11)), some (vi (J x12)), none]) (st2 := [vr (some w), vi ((J (x_5 - x10)) - (J x_13))]) rfl ?_
      rw [show ((J (x_5 - x10)) - (J x_13)) = J ((x_5 - x10) - x_13) from J_sub' rfl rfl]
      refine R_getR rfl t0 ?_
      refine R_ps 1 (pc2 := 240) (L2 := [some (vr (some w)), some (vi (J x1)), some (vi (J x2)), some (vi (J x3)), some (vi (J x4)), some (vi (J x5)), some (vi (J x6)), some (vi (J x7)), some (vi (J x8)), some (vi (J x9)), some (vi (J x10)), some (vi (J x11)), some (vi (J x12)), none]) (st2 := [vi (J x9), vr (gr h_12 w 12), vi (J ((x_5 - x10) - x_13))]) rfl ?_
      obtain ⟨a_17, e_18, k⟩ := k
      rw [e_18]
      obtain ⟨t_19, k⟩ := k
      obtain ⟨t_20, k⟩ := k
      refine R_ziald (i := x9) rfl (Or.inl t_19) t_20 ?_
      obtain ⟨t_22, k⟩ := k
      refine R_zif (x := (x_5 - x10) - x_13) (z := ai h_12 a_17 x9) rfl t_22 (ai_in _ _ _) (fun c_21 => ?_) (fun c_21 => ?_)
      · have k := k.2 c_21
        refine R_ps 1 (pc2 := 246) (L2 := [some (vr (some w)), some (vi (J x1)), some (vi (J x2)), some (vi (J x3)), some (vi (J x4)), some (vi (J x5)), some (vi (J x6)), some (vi (J x7)), some (vi (J x8)), some (vi (J x9)), some (vi (J x10)), some (vi (J x11)), some (vi (J x12)), none]) (st2 := [vi (J x3)]) rfl ?_
        refine R_zif0 (x := x3) rfl r3 (fun c_23 => ?_) (fun c_23 => ?_)
        · have k := k.1 c_23
          exact R_drop k (LE_of (L := [some (vr (some w)), some (vi (J x1)), some (vi (J x2)), none, some (vi (J x4)), some (vi (J x5)), some (vi (J x6)), none, none, none, some (vi (J x10)), some (vi (J x11)), none, none]) (L2 := [some (vr (some w)), some (vi (J x1)), some (vi (J x2)), some (vi (J x3)), some (vi (J x4)), some (vi (J x5)), some (vi (J x6)), some (vi (J x7)), some (vi (J x8)), some (vi (J x9)), some (vi (J x10)), some (vi (J x11)), some (vi (J x12)), none]) ⟨rfl, rfl, rfl, rfl, rfl, rfl, rfl, rfl, trivial⟩)
        · have k := k.2 c_23
          refine R_ps 2 (pc2 := 252) (L2 := [some (vr (some w)), some (vi (J x1)), some (vi (J x2)), some (vi (J x3)), some (vi (J x4)), some (vi (J x5)), some (vi (J x6)), some (vi (J x7)), some (vi (J x8)), some (vi (J x9)), some (vi (J x10)), some (vi (J x11)), some (vi (J x12)), none]) (st2 := [vi (J x5), vr (some w)]) rfl ?_
          refine R_zcI (as := [vr (some w), vi (J x5)]) rfl rfl ⟨Nat.le_of_ble_eq_true rfl, Nat.le_of_ble_eq_true rfl, rfl, (Or.inr ⟨_, rfl, t0⟩)⟩ rfl rfl k (fun x_26 h_25 r_27 k => ?_)
          refine R_zif0 (x := x_26) rfl r_27 (fun c_28 => ?_) (fun c_28 => ?_)
          · have k := k.2 c_28
            exact R_ret rfl rfl ⟨rfl, k⟩
          · have k := k.1 (Classical.not_not.mp c_28)
            exact R_drop k (LE_of (L := [some (vr (some w)), some (vi (J x1)), some (vi (J x2)), none, some (vi (J x4)), some (vi (J x5)), some (vi (J x6)), none, none, none, some (vi (J x10)), some (vi (J x11)), none, none]) (L2 := [some (vr (some w)), some (vi (J x1)), some (vi (J x2)), some (vi (J x3)), some (vi (J x4)), some (vi (J x5)), some (vi (J x6)), some (vi (J x7)), some (vi (J x8)), some (vi (J x9)), some (vi (J x10)), some (vi (J x11)), some (vi (J x12)), none]) ⟨rfl, rfl, rfl, rfl, rfl, rfl, rfl, rfl, trivial⟩)
      · have k := k.1 (Classical.not_not.mp c_21)
        exact R_drop k (LE_of (L := [none, none, none, none, none, none, none, none, none, none, none, none, none, none]) (L2 := [some (vr (some w)), some (vi (J x1)), some (vi (J x2)), some (vi (J x3)), some (vi (J x4)), some (vi (J x5)), some (vi (J x6)), some (vi (J x7)), some (vi (J x8)), some (vi (J x9)), some (vi (J x10)), some (vi (J x11)), some (vi (J x12)), none]) trivial)
  · have k := k.1 (Classical.not_not.mp c_1)
    refine R_ps 1 (pc2 := 123) (L2 := [some (vr (some w)), some (vi (J x1)), some (vi (J x2)), some (vi (J x3)), some (vi (J x4)), some (vi (J x5)), some (vi (J x6)), some (vi (J x7)), some (vi (J x8)), some (vi (J x9)), some (vi (J x10)), some (vi (J x11)), some (vi (J x12)), none]) (st2 := [vr (some w)]) rfl ?_
    refine R_getR rfl t0 ?_
    refine R_ps 5 (pc2 := 133) (L2 := [some (vr (some w)), some (vi (J x1)), some (vi (J x2)), some (vi (J x3)), some (vi (J x4)), some (vi (J x5)), some (vi (J x6)), some (vi (J x7)), some (vi (J x8)), some (vi (J x9)), some (vi (J x10)), some (vi (J x11)), some (vi (J x12)), none]) (st2 := [vi (((J 3) * (J x8)) + (J x12)), vr (gr h w 17)]) rfl ?_
    rw [show (((J 3) * (J x8)) + (J x12)) = J ((3 * x8) + x12) from J_add' (J_mul' rfl rfl) rfl]
    obtain ⟨a_32, e_33, k⟩ := k
    rw [e_33]
    obtain ⟨t_34, k⟩ := k
    obtain ⟨t_35, k⟩ := k
    refine R_ziald (i := (3 * x8) + x12) rfl (Or.inl t_34) t_35 ?_
    refine R_zif0 (x := ai h a_32 ((3 * x8) + x12)) rfl (ai_in _ _ _) (fun c_36 => ?_) (fun c_36 => ?_)
    · have k := k.2 c_36
      refine R_ps 1 (pc2 := 141) (L2 := [some (vr (some w)), some (vi (J x1)), some (vi (J x2)), some (vi (J x3)), some (vi (J x4)), some (vi (J x5)), some (vi (J x6)), some (vi (J x7)), some (vi (J x8)), some (vi (J x9)), some (vi (J x10)), some (vi (J x11)), some (vi (J x12)), none]) (st2 := [vr (some w)]) rfl ?_
      refine R_getR rfl t0 ?_
      refine R_ps 5 (pc2 := 151) (L2 := [some (vr (some w)), some (vi (J x1)), some (vi (J x2)), some (vi (J x3)), some (vi (J x4)), some (vi (J x5)), some (vi (J x6)), some (vi (J x7)), some (vi (J x8)), some (vi (J x9)), some (vi (J x10)), some (vi (J x11)), some (vi (J x12)), none]) (st2 := [vi (((J 3) * (J x8)) + (J x12)), vr (gr h w 16)]) rfl ?_
      rw [show (((J 3) * (J x8)) + (J x12)) = J ((3 * x8) + x12) from J_add' (J_mul' rfl rfl) rfl]
      obtain ⟨a_39, e_40, k⟩ := k
      rw [e_40]
      obtain ⟨t_41, k⟩ := k
      obtain ⟨t_42, k⟩ := k
      refine R_ziald (i := (3 * x8) + x12) rfl (Or.inl t_41) t_42 ?_
      refine R_ps 1 (pc2 := 154) (L2 := [some (vr (some w)), some (vi (J x1)), some (vi (J x2)), some (vi (J x3)), some (vi (J x4)), some (vi (J x5)), some (vi (J x6)), some (vi (J x7)), some (vi (J x8)), some (vi (J x9)), some (vi (J x10)), some (vi (J x11)), some (vi (J x12)), none]) (st2 := [vi (J x5), vi (J (ai h a_39 ((3 * x8) + x12)))]) rfl ?_
      refine R_zcI (as := [vi (J x5)]) rfl rfl ⟨Nat.le_of_ble_eq_true rfl, Nat.le_of_ble_eq_true rfl, rfl, (Or.inl rfl)⟩ rfl rfl k (fun x_45 h_44 r_46 k => ?_)
      refine R_ps 4 (pc2 := 163) (L2 := [some (vr (some w)), some (vi (J x1)), some (vi (J x2)), some (vi (J x3)), some (vi (J x4)), some (vi (J x5)), some (vi (J x6)), some (vi (J x7)), some (vi (J x8)), some (vi (J x9)), some (vi (J x10)), some (vi (J x11)), some (vi (J x12)), none]) (st2 := [vi ((J x7) - (J x12)), vi ((J (ai h a_39 ((3 * x8) + x12))) + (J x_45))]) rfl ?_
      rw [show ((J (ai h a_39 ((3 * x8) + x12))) + (J x_45)) = J ((ai h a_39 ((3 * x8) + x12)) + x_45) from J_add' rfl rfl]
      rw [show ((J x7) - (J x12)) = J (x7 - x12) from J_sub' rfl rfl]
      refine R_zcI (as := [vi (J (x7 - x12))]) rfl rfl ⟨Nat.le_of_ble_eq_true rfl, Nat.le_of_ble_eq_true rfl, rfl, (Or.inl rfl)⟩ rfl rfl k (fun x_49 h_48 r_50 k => ?_)
      refine R_ps 3 (pc2 := 171) (L2 := [some (vr (some w)), some (vi (J x1)), some (vi (J x2)), some (vi (J x3)), some (vi (J x4)), some (vi (J x5)), some (vi (J x6)), some (vi (J x7)), some (vi (J x8)), some (vi (J x9)), some (vi (J x10)), some (vi (J x11)), some (vi (J x12)), some (vi ((J ((ai h a_39 ((3 * x8) + x12)) + x_45)) + (J x_49)))]) (st2 := [vi (J x10)]) rfl ?_
      rw [show ((J ((ai h a_39 ((3 * x8) + x12)) + x_45)) + (J x_49)) = J (((ai h a_39 ((3 * x8) + x12)) + x_45) + x_49) from J_add' rfl rfl]
      refine R_zif0 (x := x10) rfl r10 (fun c_51 => ?_) (fun c_51 => ?_)
      · have k := k.1 c_51
        exact R_drop k (LE_of (L := [some (vr (some w)), some (vi (J x1)), some (vi (J x2)), some (vi (J x3)), some (vi (J x4)), some (vi (J x5)), some (vi (J x6)), some (vi (J x7)), some (vi (J x8)), some (vi (J x9)), none, none, some (vi (J x12)), some (vi (J (((ai h a_39 ((3 * x8) + x12)) + x_45) + x_49)))]) (L2 := [some (vr (some w)), some (vi (J x1)), some (vi (J x2)), some (vi (J x3)), some (vi (J x4)), some (vi (J x5)), some (vi (J x6)), some (vi (J x7)), some (vi (J x8)), some (vi (J x9)), some (vi (J x10)), some (vi (J x11)), some (vi (J x12)), some (vi (J (((ai h a_39 ((3 * x8) + x12)) + x_45) + x_49)))]) ⟨rfl, rfl, rfl, rfl, rfl, rfl, rfl, rfl, rfl, rfl, rfl, rfl, trivial⟩)
      · have k := k.2 c_51
        refine R_ps 2 (pc2 := 178) (L2 := [some (vr (some w)), some (vi (J x1)), some (vi (J x2)), some (vi (J x3)), some (vi (J x4)), some (vi (J x5)), some (vi (J x6)), some (vi (J x7)), some (vi (J x8)), some (vi (J x9)), some (vi (J x10)), some (vi (J x11)), some (vi (J x12)), some (vi (J (((ai h a_39 ((3 * x8) + x12)) + x_45) + x_49)))]) (st2 := [vi (J x10), vi (J (((ai h a_39 ((3 * x8) + x12)) + x_45) + x_49))]) rfl ?_
        obtain ⟨t_53, k⟩ := k
        refine R_zif (x := ((ai h a_39 ((3 * x8) + x12)) + x_45) + x_49) (z := x10) rfl t_53 r10 (fun c_52 => ?_) (fun c_52 => ?_)
        · have k := k.1 c_52
          exact R_drop k (LE_of (L := [some (vr (some w)), some (vi (J x1)), some (vi (J x2)), some (vi (J x3)), some (vi (J x4)), some (vi (J x5)), some (vi (J x6)), some (vi (J x7)), some (vi (J x8)), some (vi (J x9)), none, none, some (vi (J x12)), some (vi (J (((ai h a_39 ((3 * x8) + x12)) + x_45) + x_49)))]) (L2 := [some (vr (some w)), some (vi (J x1)), some (vi (J x2)), some (vi (J x3)), some (vi (J x4)), some (vi (J x5)), some (vi (J x6)), some (vi (J x7)), some (vi (J x8)), some (vi (J x9)), some (vi (J x10)), some (vi (J x11)), some (vi (J x12)), some (vi (J (((ai h a_39 ((3 * x8) + x12)) + x_45) + x_49)))]) ⟨rfl, rfl, rfl, rfl, rfl, rfl, rfl, rfl, rfl, rfl, rfl, rfl, trivial⟩)
        · have k := k.2 c_52
          refine R_ps 1 (pc2 := 202) (L2 := [some (vr (some w)), some (vi (J x1)), some (vi (J x2)), some (vi (J x3)), some (vi (J x4)), some (vi (J x5)), some (vi (J x6)), some (vi (J x7)), some (vi (J x8)), some (vi (J x9)), some (vi (J x10)), some (vi (J x11)), some (vi (J x12)), some (vi (J (((ai h a_39 ((3 * x8) + x12)) + x_45) + x_49)))]) (st2 := []) rfl ?_
          exact R_drop k (LE_of (L := [some (vr (some w)), some (vi (J x1)), some (vi (J x2)), some (vi (J x3)), some (vi (J x4)), some (vi (J x5)), some (vi (J x6)), some (vi (J x7)), some (vi (J x8)), some (vi (J x9)), some (vi (J x10)), some (vi (J x11)), some (vi (J x12)), none]) (L2 := [some (vr (some w)), some (vi (J x1)), some (vi (J x2)), some (vi (J x3)), some (vi (J x4)), some (vi (J x5)), some (vi (J x6)), some (vi (J x7)), some (vi (J x8)), some (vi (J x9)), some (vi (J x10)), some (vi (J x11)), some (vi (J x12)), some (vi (J (((ai h a_39 ((3 * x8) + x12)) + x_45) + x_49)))]) ⟨rfl, rfl, rfl, rfl, rfl, rfl, rfl, rfl, rfl, rfl, rfl, rfl, rfl, trivial⟩)
    · have k := k.1 (Classical.not_not.mp c_36)
      refine R_ps 1 (pc2 := 202) (L2 := [some (vr (some w)), some (vi (J x1)), some (vi (J x2)), some (vi (J x3)), some (vi (J x4)), some (vi (J x5)), some (vi (J x6)), some (vi (J x7)), some (vi (J x8)), some (vi (J x9)), some (vi (J x10)), some (vi (J x11)), some (vi (J x12)), none]) (st2 := []) rfl ?_
      exact k
theorem z209_184 {T N : Nat → Nat} {h : PH} {w : Nat} {x1 : Int} {x2 : Int} {x3 : Int} {x4 : Int} {x5 : Int} {x6 : Int} {x7 : Int} {x8 : Int} {x9 : Int} {x12 : Int} {x13 : Int} {K : PH → Prop} (t0 : T w = 12) (r1 : In x1) (r2 : In x2) (r3 : In x3) (r4 : In x4) (r5 : In x5) (r6 : In x6) (r7 : In x7) (r8 : In x8) (r9 : In x9) (r12 : In x12) (r13 : In x13) (k : (∃ a_3, (gr h w 17) = some a_3 ∧ T a_3 = 22 ∧ (0 ≤ ((3 * x8) + x12) ∧ ((3 * x8) + x12) < (N a_3 : Int) ∧ ((3 * x8) + x12) < 2147483648) ∧ WV T N 209 202 [some (vr (some w)), some (vi (J x1)), some (vi (J x2)), some (vi (J x3)), some (vi (J x4)), some (vi (J x5)), some (vi (J x6)), some (vi (J x7)), some (vi (J x8)), some (vi (J x9)), some (vi (J x13)), some (vi (J (ai h a_3 ((3 * x8) + x12)))), some (vi (J x12)), none] [] h K)) : WV T N 209 184 [some (vr (some w)), some (vi (J x1)), some (vi (J x2)), some (vi (J x3)), some (vi (J x4)), some (vi (J x5)), some (vi (J x6)), some (vi (J x7)), some (vi (J x8)), some (vi (J x9)), none, none, some (vi (J x12)), some (vi (J x13))] [] h K := by
  show WP T N 209 184 [some (vr (some w)), some (vi (J x1)), some (vi (J x2)), some (vi (J x3)), some (vi (J x4)), some (vi (J x5)), some (vi (J x6)), some (vi (J x7)), some (vi (J x8)), some (vi (J x9)), none, none, some (vi (J x12)), some (vi (J x13))] [] h _
  refine R_ps 3 (pc2 := 189) (L2 := [some (vr (some w)), some (vi (J x1)), some (vi (J x2)), some (vi (J x3)), some (vi (J x4)), some (vi (J x5)), some (vi (J x6)), some (vi (J x7)), some (vi (J x8)), some (vi (J x9)), some (vi (J x13)), none, some (vi (J x12)), some (vi (J x13))]) (st2 := [vr (some w)]) rfl ?_
  refine R_getR rfl t0 ?_
  refine R_ps 5 (pc2 := 199) (L2 := [some (vr (some w)), some (vi (J x1)), some (vi (J x2)), some (vi (J x3)), some (vi (J x4)), some (vi (J x5)), some (vi (J x6)), some (vi (J x7)), some (vi (J x8)), some (vi (J x9)), some (vi (J x13)), none, some (vi (J x12)), some (vi (J x13))]) (st2 := [vi (((J 3) * (J x8)) + (J x12)), vr (gr h w 17)]) rfl ?_
  rw [show (((J 3) * (J x8)) + (J x12)) = J ((3 * x8) + x12) from J_add' (J_mul' rfl rfl) rfl]
  obtain ⟨a_3, e_4, k⟩ := k
  rw [e_4]
  obtain ⟨t_5, k⟩ := k
  obtain ⟨t_6, k⟩ := k
  refine R_ziald (i := (3 * x8) + x12) rfl (Or.inl t_5) t_6 ?_
  refine R_ps 1 (pc2 := 202) (L2 := [some (vr (some w)), some (vi (J x1)), some (vi (J x2)), some (vi (J x3)), some (vi (J x4)), some (vi (J x5)), some (vi (J x6)), some (vi (J x7)), some (vi (J x8)), some (vi (J x9)), some (vi (J x13)), some (vi (J (ai h a_3 ((3 * x8) + x12)))), some (vi (J x12)), some (vi (J x13))]) (st2 := []) rfl ?_
  exact R_drop k (LE_of (L := [some (vr (some w)), some (vi (J x1)), some (vi (J x2)), some (vi (J x3)), some (vi (J x4)), some (vi (J x5)), some (vi (J x6)), some (vi (J x7)), some (vi (J x8)), some (vi (J x9)), some (vi (J x13)), some (vi (J (ai h a_3 ((3 * x8) + x12)))), some (vi (J x12)), none]) (L2 := [some (vr (some w)), some (vi (J x1)), some (vi (J x2)), some (vi (J x3)), some (vi (J x4)), some (vi (J x5)), some (vi (J x6)), some (vi (J x7)), some (vi (J x8)), some (vi (J x9)), some (vi (J x13)), some (vi (J (ai h a_3 ((3 * x8) + x12)))), some (vi (J x12)), some (vi (J x13))]) ⟨rfl, rfl, rfl, rfl, rfl, rfl, rfl, rfl, rfl, rfl, rfl, rfl, rfl, trivial⟩)
theorem z209_202 {T N : Nat → Nat} {h : PH} {w : Nat} {x1 : Int} {x2 : Int} {x3 : Int} {x4 : Int} {x5 : Int} {x6 : Int} {x7 : Int} {x8 : Int} {x9 : Int} {x10 : Int} {x11 : Int} {x12 : Int} {K : PH → Prop} (r1 : In x1) (r2 : In x2) (r3 : In x3) (r4 : In x4) (r5 : In x5) (r6 : In x6) (r7 : In x7) (r8 : In x8) (r9 : In x9) (r10 : In x10) (r11 : In x11) (r12 : In x12) (k : (WV T N 209 116 [some (vr (some w)), some (vi (J x1)), some (vi (J x2)), some (vi (J x3)), some (vi (J x4)), some (vi (J x5)), some (vi (J x6)), some (vi (J x7)), some (vi (J x8)), some (vi (J x9)), some (vi (J x10)), some (vi (J x11)), some (vi (J (x12 + 1))), none] [] h K)) : WV T N 209 202 [some (vr (some w)), some (vi (J x1)), some (vi (J x2)), some (vi (J x3)), some (vi (J x4)), some (vi (J x5)), some (vi (J x6)), some (vi (J x7)), some (vi (J x8)), some (vi (J x9)), some (vi (J x10)), some (vi (J x11)), some (vi (J x12)), none] [] h K := by
  show WP T N 209 202 [some (vr (some w)), some (vi (J x1)), some (vi (J x2)), some (vi (J x3)), some (vi (J x4)), some (vi (J x5)), some (vi (J x6)), some (vi (J x7)), some (vi (J x8)), some (vi (J x9)), some (vi (J x10)), some (vi (J x11)), some (vi (J x12)), none] [] h _
  refine R_ps 2 (pc2 := 116) (L2 := [some (vr (some w)), some (vi (J x1)), some (vi (J x2)), some (vi (J x3)), some (vi (J x4)), some (vi (J x5)), some (vi (J x6)), some (vi (J x7)), some (vi (J x8)), some (vi (J x9)), some (vi (J x10)), some (vi (J x11)), some (vi ((J x12) + J 1)), none]) (st2 := []) rfl ?_
  rw [show ((J x12) + J 1) = J (x12 + 1) from J_add' rfl rfl]
  exact k
theorem z209_244 {T N : Nat → Nat} {h : PH} {K : PH → Prop} (k : (K h)) : WV T N 209 244 [none, none, none, none, none, none, none, none, none, none, none, none, none, none] [] h K := by
  show WP T N 209 244 [none, none, none, none, none, none, none, none, none, none, none, none, none, none] [] h _
  exact R_ret rfl rfl ⟨rfl, k⟩
theorem z209_258 {T N : Nat → Nat} {h : PH} {w : Nat} {x1 : Int} {x2 : Int} {x4 : Int} {x5 : Int} {x6 : Int} {x10 : Int} {x11 : Int} {K : PH → Prop} (t0 : T w = 12) (r1 : In x1) (r2 : In x2) (r4 : In x4) (r5 : In x5) (r6 : In x6) (r10 : In x10) (r11 : In x11) (k : (((x4 = 0 → (ZI T N 188 [vi (J x5)] h (fun x_5 h_4 => (ZI T N 167 [vr (some w), vi (J x6), vi (J x_5)] h_4 (fun x_9 h_8 => (∃ a_12, (gr h w 14) = some a_12 ∧ T a_12 = 22 ∧ (0 ≤ x2 ∧ x2 < (N a_12 : Int) ∧ x2 < 2147483648) ∧ ∀ h_14, h_14 = wi h_8 a_12 x2 (x10 + x_9) → ∃ a_20, (gr h_14 w 15) = some a_20 ∧ T a_20 = 22 ∧ (0 ≤ x2 ∧ x2 < (N a_20 : Int) ∧ x2 < 2147483648) ∧ ∀ h_22, h_22 = wi h_14 a_20 x2 x11 → K h_22)))))) ∧ (¬ (x4 = 0) → (ZI T N 204 [vr (some w), vi (J x1), vi (J x5)] h (fun x_29 h_28 => (((x_29 = 0 → (K h_28)) ∧ (¬ (x_29 = 0) → (ZI T N 188 [vi (J x5)] h_28 (fun x_35 h_34 => (ZI T N 167 [vr (some w), vi (J x6), vi (J x_35)] h_34 (fun x_39 h_38 => (∃ a_42, (gr h_28 w 14) = some a_42 ∧ T a_42 = 22 ∧ (0 ≤ x2 ∧ x2 < (N a_42 : Int) ∧ x2 < 2147483648) ∧ ∀ h_44, h_44 = wi h_38 a_42 x2 (x10 + x_39) → ∃ a_50, (gr h_44 w 15) = some a_50 ∧ T a_50 = 22 ∧ (0 ≤ x2 ∧ x2 < (N a_50 : Int) ∧ x2 < 2147483648) ∧ ∀ h_52, h_52 = wi h_44 a_50 x2 x11 → K h_52)))))))))))))) : WV T N 209 258 [some (vr (some w)), some (vi (J x1)), some (vi (J x2)), none, some (vi (J x4)), some (vi (J x5)), some (vi (J x6)), none, none, none, some (vi (J x10)), some (vi (J x11)), none, none] [] h K := by
  show WP T N 209 258 [some (vr (some w)), some (vi (J x1)), some (vi (J x2)), none, some (vi (J x4)), some (vi (J x5)), some (vi (J x6)), none, none, none, some (vi (J x10)), some (vi (J x11)), none, none] [] h _
  refine R_ps 1 (pc2 := 260) (L2 := [some (vr (some w)), some (vi (J x1)), some (vi (J x2)), none, some (vi (J x4)), some (vi (J x5)), some (vi (J x6)), none, none, none, some (vi (J x10)), some (vi (J x11)), none, none]) (st2 := [vi (J x4)]) rfl ?_
  refine R_zif0 (x := x4) rfl r4 (fun c_1 => ?_) (fun c_1 => ?_)
  · have k := k.1 c_1
    refine R_ps 1 (pc2 := 275) (L2 := [some (vr (some w)), some (vi (J x1)), some (vi (J x2)), none, some (vi (J x4)), some (vi (J x5)), some (vi (J x6)), none, none, none, some (vi (J x10)), some (vi (J x11)), none, none]) (st2 := [vr (some w)]) rfl ?_
    refine R_getR rfl t0 ?_
    refine R_ps 5 (pc2 := 286) (L2 := [some (vr (some w)), some (vi (J x1)), some (vi (J x2)), none, some (vi (J x4)), some (vi (J x5)), some (vi (J x6)), none, none, none, some (vi (J x10)), some (vi (J x11)), none, none]) (st2 := [vi (J x5), vi (J x6), vr (some w), vi (J x10), vi (J x2), vr (gr h w 14)]) rfl ?_
    refine R_zcI (as := [vi (J x5)]) rfl rfl ⟨Nat.le_of_ble_eq_true rfl, Nat.le_of_ble_eq_true rfl, rfl, (Or.inl rfl)⟩ rfl rfl k (fun x_5 h_4 r_6 k => ?_)
    refine R_zcI (as := [vr (some w), vi (J x6), vi (J x_5)]) rfl rfl ⟨Nat.le_of_ble_eq_true rfl, Nat.le_of_ble_eq_true rfl, rfl, (Or.inr ⟨_, rfl, t0⟩)⟩ rfl rfl k (fun x_9 h_8 r_10 k => ?_)
    refine R_ps 1 (pc2 := 293) (L2 := [some (vr (some w)), some (vi (J x1)), some (vi (J x2)), none, some (vi (J x4)), some (vi (J x5)), some (vi (J x6)), none, none, none, some (vi (J x10)), some (vi (J x11)), none, none]) (st2 := [vi ((J x10) + (J x_9)), vi (J x2), vr (gr h w 14)]) rfl ?_
    rw [show ((J x10) + (J x_9)) = J (x10 + x_9) from J_add' rfl rfl]
    obtain ⟨a_12, e_13, k⟩ := k
    rw [e_13]
    obtain ⟨t_16, k⟩ := k
    obtain ⟨t_17, k⟩ := k
    refine R_ziast (i := x2) (x := x10 + x_9) rfl t_16 t_17  ?_
    show WP T N _ _ _ _ (wi h_8 a_12 x2 (x10 + x_9)) _
    generalize e_15 : wi h_8 a_12 x2 (x10 + x_9) = h_14
    replace k := k h_14 e_15.symm
    refine R_ps 1 (pc2 := 295) (L2 := [some (vr (some w)), some (vi (J x1)), some (vi (J x2)), none, some (vi (J x4)), some (vi (J x5)), some (vi (J x6)), none, none, none, some (vi (J x10)), some (vi (J x11)), none, none]) (st2 := [vr (some w)]) rfl ?_
    refine R_getR rfl t0 ?_
    refine R_ps 2 (pc2 := 301) (L2 := [some (vr (some w)), some (vi (J x1)), some (vi (J x2)), none, some (vi (J x4)), some (vi (J x5)), some (vi (J x6)), none, none, none, some (vi (J x10)), some (vi (J x11)), none, none]) (st2 := [vi (J x11), vi (J x2), vr (gr h_14 w 15)]) rfl ?_
    obtain ⟨a_20, e_21, k⟩ := k
    rw [e_21]
    obtain ⟨t_24, k⟩ := k
    obtain ⟨t_25, k⟩ := k
    refine R_ziast (i := x2) (x := x11) rfl t_24 t_25  ?_
    show WP T N _ _ _ _ (wi h_14 a_20 x2 x11) _
    generalize e_23 : wi h_14 a_20 x2 x11 = h_22
    replace k := k h_22 e_23.symm
    exact R_ret rfl rfl ⟨rfl, k⟩
  · have k := k.2 c_1
    refine R_ps 3 (pc2 := 267) (L2 := [some (vr (some w)), some (vi (J x1)), some (vi (J x2)), none, some (vi (J x4)), some (vi (J x5)), some (vi (J x6)), none, none, none, some (vi (J x10)), some (vi (J x11)), none, none]) (st2 := [vi (J x5), vi (J x1), vr (some w)]) rfl ?_
    refine R_zcI (as := [vr (some w), vi (J x1), vi (J x5)]) rfl rfl ⟨Nat.le_of_ble_eq_true rfl, Nat.le_of_ble_eq_true rfl, rfl, (Or.inr ⟨_, rfl, t0⟩)⟩ rfl rfl k (fun x_29 h_28 r_30 k => ?_)
    refine R_zif0 (x := x_29) rfl r_30 (fun c_31 => ?_) (fun c_31 => ?_)
    · have k := k.2 c_31
      refine R_ps 1 (pc2 := 275) (L2 := [some (vr (some w)), some (vi (J x1)), some (vi (J x2)), none, some (vi (J x4)), some (vi (J x5)), some (vi (J x6)), none, none, none, some (vi (J x10)), some (vi (J x11)), none, none]) (st2 := [vr (some w)]) rfl ?_
      refine R_getR rfl t0 ?_
      refine R_ps 5 (pc2 := 286) (L2 := [some (vr (some w)), some (vi (J x1)), some (vi (J x2)), none, some (vi (J x4)), some (vi (J x5)), some (vi (J x6)), none, none, none, some (vi (J x10)), some (vi (J x11)), none, none]) (st2 := [vi (J x5), vi (J x6), vr (some w), vi (J x10), vi (J x2), vr (gr h_28 w 14)]) rfl ?_
      refine R_zcI (as := [vi (J x5)]) rfl rfl ⟨Nat.le_of_ble_eq_true rfl, Nat.le_of_ble_eq_true rfl, rfl, (Or.inl rfl)⟩ rfl rfl k (fun x_35 h_34 r_36 k => ?_)
      refine R_zcI (as := [vr (some w), vi (J x6), vi (J x_35)]) rfl rfl ⟨Nat.le_of_ble_eq_true rfl, Nat.le_of_ble_eq_true rfl, rfl, (Or.inr ⟨_, rfl, t0⟩)⟩ rfl rfl k (fun x_39 h_38 r_40 k => ?_)
      refine R_ps 1 (pc2 := 293) (L2 := [some (vr (some w)), some (vi (J x1)), some (vi (J x2)), none, some (vi (J x4)), some (vi (J x5)), some (vi (J x6)), none, none, none, some (vi (J x10)), some (vi (J x11)), none, none]) (st2 := [vi ((J x10) + (J x_39)), vi (J x2), vr (gr h_28 w 14)]) rfl ?_
      rw [show ((J x10) + (J x_39)) = J (x10 + x_39) from J_add' rfl rfl]
      obtain ⟨a_42, e_43, k⟩ := k
      rw [e_43]
      obtain ⟨t_46, k⟩ := k
      obtain ⟨t_47, k⟩ := k
      refine R_ziast (i := x2) (x := x10 + x_39) rfl t_46 t_47  ?_
      show WP T N _ _ _ _ (wi h_38 a_42 x2 (x10 + x_39)) _
      generalize e_45 : wi h_38 a_42 x2 (x10 + x_39) = h_44
      replace k := k h_44 e_45.symm
      refine R_ps 1 (pc2 := 295) (L2 := [some (vr (some w)), some (vi (J x1)), some (vi (J x2)), none, some (vi (J x4)), some (vi (J x5)), some (vi (J x6)), none, none, none, some (vi (J x10)), some (vi (J x11)), none, none]) (st2 := [vr (some w)]) rfl ?_
      refine R_getR rfl t0 ?_
      refine R_ps 2 (pc2 := 301) (L2 := [some (vr (some w)), some (vi (J x1)), some (vi (J x2)), none, some (vi (J x4)), some (vi (J x5)), some (vi (J x6)), none, none, none, some (vi (J x10)), some (vi (J x11)), none, none]) (st2 := [vi (J x11), vi (J x2), vr (gr h_44 w 15)]) rfl ?_
      obtain ⟨a_50, e_51, k⟩ := k
      rw [e_51]
      obtain ⟨t_54, k⟩ := k
      obtain ⟨t_55, k⟩ := k
      refine R_ziast (i := x2) (x := x11) rfl t_54 t_55  ?_
      show WP T N _ _ _ _ (wi h_44 a_50 x2 x11) _
      generalize e_53 : wi h_44 a_50 x2 x11 = h_52
      replace k := k h_52 e_53.symm
      exact R_ret rfl rfl ⟨rfl, k⟩
    · have k := k.1 (Classical.not_not.mp c_31)
      exact R_ret rfl rfl ⟨rfl, k⟩
/-- DroneCorridorsModel.best -/
theorem z210 {T N : Nat → Nat} {h : PH} {w : Nat} {x1 : Int} {K : Int → PH → Prop} (t0 : T w = 12) (r1 : In x1) (k : (∀ h_3, h_3 = wi h w 21 (ai h w 18) → ∀ h_6, h_6 = wi h_3 w 22 0 → ((x1 = (ai h_6 w 20) → (K (-2) h_6)) ∧ (¬ (x1 = (ai h_6 w 20)) → (ZW T N 210 28 [some (vr (some w)), some (vi (J x1)), some (vi (J (-1))), some (vi (J 0)), none, none, none, none, none] [] h_6 K))))) : ZI T N 210 [vr (some w), vi (J x1)] h K := by
  show WP T N 210 0 [some (vr (some w)), some (vi (J x1)), none, none, none, none, none, none, none] [] h _
  refine R_ps 2 (pc2 := 2) (L2 := [some (vr (some w)), some (vi (J x1)), none, none, none, none, none, none, none]) (st2 := [vr (some w), vr (some w)]) rfl ?_
  refine R_zgetI (z := 18) rfl t0 rfl ?_
  refine R_zputI (x := ai h w 18) (z := 21) rfl t0 rfl ?_
  show WP T N _ _ _ _ (wi h w 21 (ai h w 18)) _
  generalize e_4 : wi h w 21 (ai h w 18) = h_3
  replace k := k h_3 e_4.symm
  refine R_ps 2 (pc2 := 10) (L2 := [some (vr (some w)), some (vi (J x1)), none, none, none, none, none, none, none]) (st2 := [vi (J 0), vr (some w)]) rfl ?_
  refine R_zputI (x := 0) (z := 22) rfl t0 rfl ?_
  show WP T N _ _ _ _ (wi h_3 w 22 0) _
  generalize e_7 : wi h_3 w 22 0 = h_6
  replace k := k h_6 e_7.symm
  refine R_ps 2 (pc2 := 15) (L2 := [some (vr (some w)), some (vi (J x1)), none, none, none, none, none, none, none]) (st2 := [vr (some w), vi (J x1)]) rfl ?_
  refine R_zgetI (z := 20) rfl t0 rfl ?_
  refine R_zif (x := x1) (z := ai h_6 w 20) rfl r1 (ai_in _ _ _) (fun c_9 => ?_) (fun c_9 => ?_)
  · have k := k.2 c_9
    refine R_ps 4 (pc2 := 28) (L2 := [some (vr (some w)), some (vi (J x1)), some (vi (J (-1))), some (vi (J 0)), none, none, none, none, none]) (st2 := []) rfl ?_
    exact k
  · have k := k.1 (Classical.not_not.mp c_9)
    refine R_ps 1 (pc2 := 23) (L2 := [some (vr (some w)), some (vi (J x1)), none, none, none, none, none, none, none]) (st2 := [vi (J (-2))]) rfl ?_
    exact R_iret rfl rfl (R_zr (x := (-2)) (K := K) (by decide) k)
theorem z210_28 {T N : Nat → Nat} {h : PH} {w : Nat} {x1 : Int} {x2 : Int} {x3 : Int} {K : Int → PH → Prop} (t0 : T w = 12) (r1 : In x1) (r2 : In x2) (r3 : In x3) (k : (((x3 < 3936 → (∃ a_5, (gr h w 14) = some a_5 ∧ T a_5 = 22 ∧ (0 ≤ x3 ∧ x3 < (N a_5 : Int) ∧ x3 < 2147483648) ∧ (((ai h a_5 x3) < 0 → (ZW T N 210 223 [some (vr (some w)), some (vi (J x1)), some (vi (J x2)), some (vi (J x3)), none, none, none, none, none] [] h K)) ∧ (¬ ((ai h a_5 x3) < 0) → ((0 ≤ x3 ∧ x3 < 2147483648) ∧ (0 ≤ (x3 % 96) ∧ (x3 % 96) < 2147483648) ∧ (0 ≤ (x3 % 6) ∧ (x3 % 6) < 2147483648) ∧ ZI T N 165 [vr (some w), vi (J ((x3 % 96) / 6)), vi (J (1 - ((x3 % 6) / 3)))] h (fun x_19 h_18 => (((x_19 = x1 → (ZI T N 205 [vr (some w), vi (J x3)] h_18 (fun x_24 h_23 => (ZI T N 191 [vr (some w), vi (J x_24)] h_23 (fun x_28 h_27 => (((x2 < 0 → (ZW T N 210 94 [some (vr (some w)), some (vi (J x1)), some (vi (J x2)), some (vi (J x3)), some (vi (J x_28)), none, none, none, none] [] h_27 K)) ∧ (¬ (x2 < 0) → (((x_28 < (ai h_27 w 21) → (ZW T N 210 94 [some (vr (some w)), some (vi (J x1)), some (vi (J x2)), some (vi (J x3)), some (vi (J x_28)), none, none, none, none] [] h_27 K)) ∧ (¬ (x_28 < (ai h_27 w 21)) → (((x2 < 0 → (ZW T N 210 118 [some (vr (some w)), some (vi (J x1)), some (vi (J x2)), some (vi (J x3)), some (vi (J x_28)), some (vi (J 0)), none, none, none] [] h_27 K)) ∧ (¬ (x2 < 0) → (((x_28 = (ai h_27 w 21) → (∃ a_39, (gr h_27 w 14) = some a_39 ∧ T a_39 = 22 ∧ (0 ≤ x3 ∧ x3 < (N a_39 : Int) ∧ x3 < 2147483648) ∧ (((ai h_27 a_39 x3) < (ai h_27 w 22) → (∃ a_48, (gr h_27 w 14) = some a_48 ∧ T a_48 = 22 ∧ (0 ≤ x3 ∧ x3 < (N a_48 : Int) ∧ x3 < 2147483648) ∧ (((ai h_27 a_48 x3) = (ai h_27 w 22) → (ZI T N 205 [vr (some w), vi (J x3)] h_27 (fun x_56 h_55 => (ZI T N 205 [vr (some w), vi (J x2)] h_55 (fun x_60 h_59 => (ZI T N 211 [vi (J x_56), vi (J x_60)] h_59 (fun x_64 h_63 => (((x_64 = 0 → (ZW T N 210 184 [some (vr (some w)), some (vi (J x1)), some (vi (J x2)), some (vi (J x3)), some (vi (J x_28)), some (vi (J 0)), none, some (vi (J 1)), none] [] h_63 K)) ∧ (¬ (x_64 = 0) → (ZW T N 210 205 [some (vr (some w)), some (vi (J x1)), none, some (vi (J x3)), some (vi (J x_28)), none, none, none, none] [] h_63 K))))))))))) ∧ (¬ ((ai h_27 a_48 x3) = (ai h_27 w 22)) → (ZW T N 210 184 [some (vr (some w)), some (vi (J x1)), some (vi (J x2)), some (vi (J x3)), some (vi (J x_28)), some (vi (J 0)), none, some (vi (J 1)), none] [] h_27 K))))) ∧ (¬ ((ai h_27 a_39 x3) < (ai h_27 w 22)) → (ZW T N 210 143 [some (vr (some w)), some (vi (J x1)), some (vi (J x2)), some (vi (J x3)), some (vi (J x_28)), some (vi (J 0)), some (vi (J 1)), none, none] [] h_27 K))))) ∧ (¬ (x_28 = (ai h_27 w 21)) → (ZW T N 210 118 [some (vr (some w)), some (vi (J x1)), some (vi (J x2)), some (vi (J x3)), some (vi (J x_28)), some (vi (J 0)), none, none, none] [] h_27 K)))))))))))))))))) ∧ (¬ (x_19 = x1) → (ZW T N 210 223 [some (vr (some w)), some (vi (J x1)), some (vi (J x2)), some (vi (J x3)), none, none, none, none, none] [] h_18 K)))))))))) ∧ (¬ (x3 < 3936) → (K x2 h))))) : ZW T N 210 28 [some (vr (some w)), some (vi (J x1)), some (vi (J x2)), some (vi (J x3)), none, none, none, none, none] [] h K := by
  show WP T N 210 28 [some (vr (some w)), some (vi (J x1)), some (vi (J x2)), some (vi (J x3)), none, none, none, none, none] [] h _
  refine R_ps 2 (pc2 := 32) (L2 := [some (vr (some w)), some (vi (J x1)), some (vi (J x2)), some (vi (J x3)), none, none, none, none, none]) (st2 := [vi (J 3936), vi (J x3)]) rfl ?_
  refine R_zif (x := x3) (z := 3936) rfl r3 (by decide) (fun c_1 => ?_) (fun c_1 => ?_)
  · have k := k.2 c_1
    refine R_ps 1 (pc2 := 230) (L2 := [some (vr (some w)), some (vi (J x1)), some (vi (J x2)), some (vi (J x3)), none, none, none, none, none]) (st2 := [vi (J x2)]) rfl ?_
    exact R_iret rfl rfl (R_zr (x := x2) (K := K) r2 k)
  · have k := k.1 (Classical.not_not.mp c_1)
    refine R_ps 1 (pc2 := 36) (L2 := [some (vr (some w)), some (vi (J x1)), some (vi (J x2)), some (vi (J x3)), none, none, none, none, none]) (st2 := [vr (some w)]) rfl ?_
    refine R_getR rfl t0 ?_
    refine R_ps 1 (pc2 := 40) (L2 := [some (vr (some w)), some (vi (J x1)), some (vi (J x2)), some (vi (J x3)), none, none, none, none, none]) (st2 := [vi (J x3), vr (gr h w 14)]) rfl ?_
    obtain ⟨a_5, e_6, k⟩ := k
    rw [e_6]
    obtain ⟨t_7, k⟩ := k
    obtain ⟨t_8, k⟩ := k
    refine R_ziald (i := x3) rfl (Or.inl t_7) t_8 ?_
    refine R_zif0 (x := ai h a_5 x3) rfl (ai_in _ _ _) (fun c_9 => ?_) (fun c_9 => ?_)
    · have k := k.1 c_9
      exact k
    · have k := k.2 c_9
      refine R_ps 3 (pc2 := 48) (L2 := [some (vr (some w)), some (vi (J x1)), some (vi (J x2)), some (vi (J x3)), none, none, none, none, none]) (st2 := [vi (J 96), vi (J x3), vr (some w)]) rfl ?_
      obtain ⟨t_11, k⟩ := k
      refine R_zrem (x := x3) (z := 96) rfl (by decide) t_11 ?_
      refine R_ps 1 (pc2 := 51) (L2 := [some (vr (some w)), some (vi (J x1)), some (vi (J x2)), some (vi (J x3)), none, none, none, none, none]) (st2 := [vi (J 6), vi (J (x3 % 96)), vr (some w)]) rfl ?_
      obtain ⟨t_13, k⟩ := k
      refine R_zdiv (x := x3 % 96) (z := 6) rfl (by decide) t_13 ?_
      refine R_ps 3 (pc2 := 56) (L2 := [some (vr (some w)), some (vi (J x1)), some (vi (J x2)), some (vi (J x3)), none, none, none, none, none]) (st2 := [vi (J 6), vi (J x3), vi (J 1), vi (J ((x3 % 96) / 6)), vr (some w)]) rfl ?_
      refine R_zrem (x := x3) (z := 6) rfl (by decide) t_11 ?_
      refine R_ps 1 (pc2 := 58) (L2 := [some (vr (some w)), some (vi (J x1)), some (vi (J x2)), some (vi (J x3)), none, none, none, none, none]) (st2 := [vi (J 3), vi (J (x3 % 6)), vi (J 1), vi (J ((x3 % 96) / 6)), vr (some w)]) rfl ?_
      obtain ⟨t_16, k⟩ := k
      refine R_zdiv (x := x3 % 6) (z := 3) rfl (by decide) t_16 ?_
      refine R_ps 1 (pc2 := 60) (L2 := [some (vr (some w)), some (vi (J x1)), some (vi (J x2)), some (vi (J x3)), none, none, none, none, none]) (st2 := [vi ((J 1) - (J ((x3 % 6) / 3))), vi (J ((x3 % 96) / 6)), vr (some w)]) rfl ?_
      rw [show ((J 1) - (J ((x3 % 6) / 3))) = J (1 - ((x3 % 6) / 3)) from J_sub' rfl rfl]
      refine R_zcI (as := [vr (some w), vi (J ((x3 % 96) / 6)), vi (J (1 - ((x3 % 6) / 3)))]) rfl rfl ⟨Nat.le_of_ble_eq_true rfl, Nat.le_of_ble_eq_true rfl, rfl, (Or.inr ⟨_, rfl, t0⟩)⟩ rfl rfl k (fun x_19 h_18 r_20 k => ?_)
      refine R_ps 1 (pc2 := 64) (L2 := [some (vr (some w)), some (vi (J x1)), some (vi (J x2)), some (vi (J x3)), none, none, none, none, none]) (st2 := [vi (J x1), vi (J x_19)]) rfl ?_
      refine R_zif (x := x_19) (z := x1) rfl r_20 r1 (fun c_21 => ?_) (fun c_21 => ?_)
      · have k := k.1 c_21
        refine R_ps 3 (pc2 := 73) (L2 := [some (vr (some w)), some (vi (J x1)), some (vi (J x2)), some (vi (J x3)), none, none, none, none, none]) (st2 := [vi (J x3), vr (some w), vr (some w)]) rfl ?_
        refine R_zcI (as := [vr (some w), vi (J x3)]) rfl rfl ⟨Nat.le_of_ble_eq_true rfl, Nat.le_of_ble_eq_true rfl, rfl, (Or.inr ⟨_, rfl, t0⟩)⟩ rfl rfl k (fun x_24 h_23 r_25 k => ?_)
        refine R_zcI (as := [vr (some w), vi (J x_24)]) rfl rfl ⟨Nat.le_of_ble_eq_true rfl, Nat.le_of_ble_eq_true rfl, rfl, (Or.inr ⟨_, rfl, t0⟩)⟩ rfl rfl k (fun x_28 h_27 r_29 k => ?_)
        refine R_ps 2 (pc2 := 82) (L2 := [some (vr (some w)), some (vi (J x1)), some (vi (J x2)), some (vi (J x3)), some (vi (J x_28)), none, none, none, none]) (st2 := [vi (J x2)]) rfl ?_
        refine R_zif0 (x := x2) rfl r2 (fun c_30 => ?_) (fun c_30 => ?_)
        · have k := k.1 c_30
          exact k
        · have k := k.2 c_30
          refine R_ps 2 (pc2 := 88) (L2 := [some (vr (some w)), some (vi (J x1)), some (vi (J x2)), some (vi (J x3)), some (vi (J x_28)), none, none, none, none]) (st2 := [vr (some w), vi (J x_28)]) rfl ?_
          refine R_zgetI (z := 21) rfl t0 rfl ?_
          refine R_zif (x := x_28) (z := ai h_27 w 21) rfl r_29 (ai_in _ _ _) (fun c_32 => ?_) (fun c_32 => ?_)
          · have k := k.2 c_32
            refine R_ps 3 (pc2 := 102) (L2 := [some (vr (some w)), some (vi (J x1)), some (vi (J x2)), some (vi (J x3)), some (vi (J x_28)), some (vi (J 0)), none, none, none]) (st2 := [vi (J x2)]) rfl ?_
            refine R_zif0 (x := x2) rfl r2 (fun c_33 => ?_) (fun c_33 => ?_)
            · have k := k.1 c_33
              exact k
            · have k := k.2 c_33
              refine R_ps 2 (pc2 := 108) (L2 := [some (vr (some w)), some (vi (J x1)), some (vi (J x2)), some (vi (J x3)), some (vi (J x_28)), some (vi (J 0)), none, none, none]) (st2 := [vr (some w), vi (J x_28)]) rfl ?_
              refine R_zgetI (z := 21) rfl t0 rfl ?_
              refine R_zif (x := x_28) (z := ai h_27 w 21) rfl r_29 (ai_in _ _ _) (fun c_35 => ?_) (fun c_35 => ?_)
              · have k := k.2 c_35
                exact k
              · have k := k.1 (Classical.not_not.mp c_35)
                refine R_ps 4 (pc2 := 123) (L2 := [some (vr (some w)), some (vi (J x1)), some (vi (J x2)), some (vi (J x3)), some (vi (J x_28)), some (vi (J 0)), some (vi (J 1)), none, none]) (st2 := [vi (J 1)]) rfl ?_
                refine R_zif0 (x := 1) rfl (by decide) (fun c_36 => absurd (show (1 : Int) = (0 : Int) from c_36) (by decide)) (fun _ => ?_)
                refine R_ps 1 (pc2 := 127) (L2 := [some (vr (some w)), some (vi (J x1)), some (vi (J x2)), some (vi (J x3)), some (vi (J x_28)), some (vi (J 0)), some (vi (J 1)), none, none]) (st2 := [vr (some w)]) rfl ?_
                refine R_getR rfl t0 ?_
                refine R_ps 1 (pc2 := 131) (L2 := [some (vr (some w)), some (vi (J x1)), some (vi (J x2)), some (vi (J x3)), some (vi (J x_28)), some (vi (J 0)), some (vi (J 1)), none, none]) (st2 := [vi (J x3), vr (gr h_27 w 14)]) rfl ?_
                obtain ⟨a_39, e_40, k⟩ := k
                rw [e_40]
                obtain ⟨t_41, k⟩ := k
                obtain ⟨t_42, k⟩ := k
                refine R_ziald (i := x3) rfl (Or.inl t_41) t_42 ?_
                refine R_ps 1 (pc2 := 133) (L2 := [some (vr (some w)), some (vi (J x1)), some (vi (J x2)), some (vi (J x3)), some (vi (J x_28)), some (vi (J 0)), some (vi (J 1)), none, none]) (st2 := [vr (some w), vi (J (ai h_27 a_39 x3))]) rfl ?_
                refine R_zgetI (z := 22) rfl t0 rfl ?_
                refine R_zif (x := ai h_27 a_39 x3) (z := ai h_27 w 22) rfl (ai_in _ _ _) (ai_in _ _ _) (fun c_44 => ?_) (fun c_44 => ?_)
                · have k := k.2 c_44
                  exact k
                · have k := k.1 (Classical.not_not.mp c_44)
                  refine R_ps 4 (pc2 := 148) (L2 := [some (vr (some w)), some (vi (J x1)), some (vi (J x2)), some (vi (J x3)), some (vi (J x_28)), some (vi (J 0)), some (vi (J 1)), some (vi (J 1)), none]) (st2 := [vi (J 1)]) rfl ?_
                  refine R_zif0 (x := 1) rfl (by decide) (fun c_45 => absurd (show (1 : Int) = (0 : Int) from c_45) (by decide)) (fun _ => ?_)
                  refine R_ps 1 (pc2 := 152) (L2 := [some (vr (some w)), some (vi (J x1)), some (vi (J x2)), some (vi (J x3)), some (vi (J x_28)), some (vi (J 0)), some (vi (J 1)), some (vi (J 1)), none]) (st2 := [vr (some w)]) rfl ?_
                  refine R_getR rfl t0 ?_
                  refine R_ps 1 (pc2 := 156) (L2 := [some (vr (some w)), some (vi (J x1)), some (vi (J x2)), some (vi (J x3)), some (vi (J x_28)), some (vi (J 0)), some (vi (J 1)), some (vi (J 1)), none]) (st2 := [vi (J x3), vr (gr h_27 w 14)]) rfl ?_
                  obtain ⟨a_48, e_49, k⟩ := k
                  rw [e_49]
                  obtain ⟨t_50, k⟩ := k
                  obtain ⟨t_51, k⟩ := k
                  refine R_ziald (i := x3) rfl (Or.inl t_50) t_51 ?_
                  refine R_ps 1 (pc2 := 158) (L2 := [some (vr (some w)), some (vi (J x1)), some (vi (J x2)), some (vi (J x3)), some (vi (J x_28)), some (vi (J 0)), some (vi (J 1)), some (vi (J 1)), none]) (st2 := [vr (some w), vi (J (ai h_27 a_48 x3))]) rfl ?_
                  refine R_zgetI (z := 22) rfl t0 rfl ?_
                  refine R_zif (x := ai h_27 a_48 x3) (z := ai h_27 w 22) rfl (ai_in _ _ _) (ai_in _ _ _) (fun c_53 => ?_) (fun c_53 => ?_)
                  · have k := k.2 c_53
                    exact R_drop k (LE_of (L := [some (vr (some w)), some (vi (J x1)), some (vi (J x2)), some (vi (J x3)), some (vi (J x_28)), some (vi (J 0)), none, some (vi (J 1)), none]) (L2 := [some (vr (some w)), some (vi (J x1)), some (vi (J x2)), some (vi (J x3)), some (vi (J x_28)), some (vi (J 0)), some (vi (J 1)), some (vi (J 1)), none]) ⟨rfl, rfl, rfl, rfl, rfl, rfl, rfl, trivial⟩)
                  · have k := k.1 (Classical.not_not.mp c_53)
                    refine R_ps 2 (pc2 := 166) (L2 := [some (vr (some w)), some (vi (J x1)), some (vi (J x2)), some (vi (J x3)), some (vi (J x_28)), some (vi (J 0)), some (vi (J 1)), some (vi (J 1)), none]) (st2 := [vi (J x3), vr (some w)]) rfl ?_
                    refine R_zcI (as := [vr (some w), vi (J x3)]) rfl rfl ⟨Nat.le_of_ble_eq_true rfl, Nat.le_of_ble_eq_true rfl, rfl, (Or.inr ⟨_, rfl, t0⟩)⟩ rfl rfl k (fun x_56 h_55 r_57 k => ?_)
                    refine R_ps 2 (pc2 := 171) (L2 := [some (vr (some w)), some (vi (J x1)), some (vi (J x2)), some (vi (J x3)), some (vi (J x_28)), some (vi (J 0)), some (vi (J 1)), some (vi (J 1)), none]) (st2 := [vi (J x2), vr (some w), vi (J x_56)]) rfl ?_
                    refine R_zcI (as := [vr (some w), vi (J x2)]) rfl rfl ⟨Nat.le_of_ble_eq_true rfl, Nat.le_of_ble_eq_true rfl, rfl, (Or.inr ⟨_, rfl, t0⟩)⟩ rfl rfl k (fun x_60 h_59 r_61 k => ?_)
                    refine R_zcI (as := [vi (J x_56), vi (J x_60)]) rfl rfl ⟨Nat.le_of_ble_eq_true rfl, Nat.le_of_ble_eq_true rfl, rfl, (Or.inl rfl)⟩ rfl rfl k (fun x_64 h_63 r_65 k => ?_)
                    refine R_zif0 (x := x_64) rfl r_65 (fun c_66 => ?_) (fun c_66 => ?_)
                    · have k := k.1 c_66
                      exact R_drop k (LE_of (L := [some (vr (some w)), some (vi (J x1)), some (vi (J x2)), some (vi (J x3)), some (vi (J x_28)), some (vi (J 0)), none, some (vi (J 1)), none]) (L2 := [some (vr (some w)), some (vi (J x1)), some (vi (J x2)), some (vi (J x3)), some (vi (J x_28)), some (vi (J 0)), some (vi (J 1)), some (vi (J 1)), none]) ⟨rfl, rfl, rfl, rfl, rfl, rfl, rfl, trivial⟩)
                    · have k := k.2 c_66
                      refine R_ps 4 (pc2 := 189) (L2 := [some (vr (some w)), some (vi (J x1)), some (vi (J x2)), some (vi (J x3)), some (vi (J x_28)), some (vi (J 0)), some (vi (J 1)), some (vi (J 1)), some (vi (J 1))]) (st2 := [vi (J 0)]) rfl ?_
                      refine R_zif0 (x := 0) rfl (by decide) (fun c_67 => absurd (show ¬ (0 : Int) = (0 : Int) from c_67) (by decide)) (fun _ => ?_)
                      refine R_ps 1 (pc2 := 194) (L2 := [some (vr (some w)), some (vi (J x1)), some (vi (J x2)), some (vi (J x3)), some (vi (J x_28)), some (vi (J 0)), some (vi (J 1)), some (vi (J 1)), some (vi (J 1))]) (st2 := [vi (J 1)]) rfl ?_
                      refine R_zif0 (x := 1) rfl (by decide) (fun _ => ?_) (fun c_68 => absurd (show ¬ (1 : Int) = (0 : Int) by decide) c_68)
                      exact R_drop k (LE_of (L := [some (vr (some w)), some (vi (J x1)), none, some (vi (J x3)), some (vi (J x_28)), none, none, none, none]) (L2 := [some (vr (some w)), some (vi (J x1)), some (vi (J x2)), some (vi (J x3)), some (vi (J x_28)), some (vi (J 0)), some (vi (J 1)), some (vi (J 1)), some (vi (J 1))]) ⟨rfl, rfl, rfl, rfl, trivial⟩)
          · have k := k.1 (Classical.not_not.mp c_32)
            exact k
      · have k := k.2 c_21
        refine R_ps 1 (pc2 := 223) (L2 := [some (vr (some w)), some (vi (J x1)), some (vi (J x2)), some (vi (J x3)), none, none, none, none, none]) (st2 := []) rfl ?_
        exact k
theorem z210_94 {T N : Nat → Nat} {h : PH} {w : Nat} {x1 : Int} {x2 : Int} {x3 : Int} {x4 : Int} {K : Int → PH → Prop} (t0 : T w = 12) (r1 : In x1) (r2 : In x2) (r3 : In x3) (r4 : In x4) (k : (((x2 < 0 → (ZW T N 210 118 [some (vr (some w)), some (vi (J x1)), some (vi (J x2)), some (vi (J x3)), some (vi (J x4)), some (vi (J 1)), none, none, none] [] h K)) ∧ (¬ (x2 < 0) → (((x4 = (ai h w 21) → (∃ a_7, (gr h w 14) = some a_7 ∧ T a_7 = 22 ∧ (0 ≤ x3 ∧ x3 < (N a_7 : Int) ∧ x3 < 2147483648) ∧ (((ai h a_7 x3) < (ai h w 22) → (∃ a_16, (gr h w 14) = some a_16 ∧ T a_16 = 22 ∧ (0 ≤ x3 ∧ x3 < (N a_16 : Int) ∧ x3 < 2147483648) ∧ (((ai h a_16 x3) = (ai h w 22) → (ZI T N 205 [vr (some w), vi (J x3)] h (fun x_24 h_23 => (ZI T N 205 [vr (some w), vi (J x2)] h_23 (fun x_28 h_27 => (ZI T N 211 [vi (J x_24), vi (J x_28)] h_27 (fun x_32 h_31 => (((x_32 = 0 → (ZW T N 210 184 [some (vr (some w)), some (vi (J x1)), some (vi (J x2)), some (vi (J x3)), some (vi (J x4)), some (vi (J 1)), none, some (vi (J 1)), none] [] h_31 K)) ∧ (¬ (x_32 = 0) → (ZW T N 210 205 [some (vr (some w)), some (vi (J x1)), none, some (vi (J x3)), some (vi (J x4)), none, none, none, none] [] h_31 K))))))))))) ∧ (¬ ((ai h a_16 x3) = (ai h w 22)) → (ZW T N 210 184 [some (vr (some w)), some (vi (J x1)), some (vi (J x2)), some (vi (J x3)), some (vi (J x4)), some (vi (J 1)), none, some (vi (J 1)), none] [] h K))))) ∧ (¬ ((ai h a_7 x3) < (ai h w 22)) → (ZW T N 210 143 [some (vr (some w)), some (vi (J x1)), some (vi (J x2)), some (vi (J x3)), some (vi (J x4)), some (vi (J 1)), some (vi (J 1)), none, none] [] h K))))) ∧ (¬ (x4 = (ai h w 21)) → (ZW T N 210 118 [some (vr (some w)), some (vi (J x1)), some (vi (J x2)), some (vi (J x3)), some (vi (J x4)), some (vi (J 1)), none, none, none] [] h K)))))))) : ZW T N 210 94 [some (vr (some w)), some (vi (J x1)), some (vi (J x2)), some (vi (J x3)), some (vi (J x4)), none, none, none, none] [] h K := by
  show WP T N 210 94 [some (vr (some w)), some (vi (J x1)), some (vi (J x2)), some (vi (J x3)), some (vi (J x4)), none, none, none, none] [] h _
  refine R_ps 4 (pc2 := 102) (L2 := [some (vr (some w)), some (vi (J x1)), some (vi (J x2)), some (vi (J x3)), some (vi (J x4)), some (vi (J 1)), none, none, none]) (st2 := [vi (J x2)]) rfl ?_
  refine R_zif0 (x := x2) rfl r2 (fun c_1 => ?_) (fun c_1 => ?_)
  · have k := k.1 c_1
    exact k
  · have k := k.2 c_1
    refine R_ps 2 (pc2 := 108) (L2 := [some (vr (some w)), some (vi (J x1)), some (vi (J x2)), some (vi (J x3)), some (vi (J x4)), some (vi (J 1)), none, none, none]) (st2 := [vr (some w), vi (J x4)]) rfl ?_
    refine R_zgetI (z := 21) rfl t0 rfl ?_
    refine R_zif (x := x4) (z := ai h w 21) rfl r4 (ai_in _ _ _) (fun c_3 => ?_) (fun c_3 => ?_)
    · have k := k.2 c_3
      exact k
    · have k := k.1 (Classical.not_not.mp c_3)
      refine R_ps 4 (pc2 := 123) (L2 := [some (vr (some w)), some (vi (J x1)), some (vi (J x2)), some (vi (J x3)), some (vi (J x4)), some (vi (J 1)), some (vi (J 1)), none, none]) (st2 := [vi (J 1)]) rfl ?_
      refine R_zif0 (x := 1) rfl (by decide) (fun c_4 => absurd (show (1 : Int) = (0 : Int) from c_4) (by decide)) (fun _ => ?_)
      refine R_ps 1 (pc2 := 127) (L2 := [some (vr (some w)), some (vi (J x1)), some (vi (J x2)), some (vi (J x3)), some (vi (J x4)), some (vi (J 1)), some (vi (J 1)), none, none]) (st2 := [vr (some w)]) rfl ?_
      refine R_getR rfl t0 ?_
      refine R_ps 1 (pc2 := 131) (L2 := [some (vr (some w)), some (vi (J x1)), some (vi (J x2)), some (vi (J x3)), some (vi (J x4)), some (vi (J 1)), some (vi (J 1)), none, none]) (st2 := [vi (J x3), vr (gr h w 14)]) rfl ?_
      obtain ⟨a_7, e_8, k⟩ := k
      rw [e_8]
      obtain ⟨t_9, k⟩ := k
      obtain ⟨t_10, k⟩ := k
      refine R_ziald (i := x3) rfl (Or.inl t_9) t_10 ?_
      refine R_ps 1 (pc2 := 133) (L2 := [some (vr (some w)), some (vi (J x1)), some (vi (J x2)), some (vi (J x3)), some (vi (J x4)), some (vi (J 1)), some (vi (J 1)), none, none]) (st2 := [vr (some w), vi (J (ai h a_7 x3))]) rfl ?_
      refine R_zgetI (z := 22) rfl t0 rfl ?_
      refine R_zif (x := ai h a_7 x3) (z := ai h w 22) rfl (ai_in _ _ _) (ai_in _ _ _) (fun c_12 => ?_) (fun c_12 => ?_)
      · have k := k.2 c_12
        exact k
      · have k := k.1 (Classical.not_not.mp c_12)
        refine R_ps 4 (pc2 := 148) (L2 := [some (vr (some w)), some (vi (J x1)), some (vi (J x2)), some (vi (J x3)), some (vi (J x4)), some (vi (J 1)), some (vi (J 1)), some (vi (J 1)), none]) (st2 := [vi (J 1)]) rfl ?_
        refine R_zif0 (x := 1) rfl (by decide) (fun c_13 => absurd (show (1 : Int) = (0 : Int) from c_13) (by decide)) (fun _ => ?_)
        refine R_ps 1 (pc2 := 152) (L2 := [some (vr (some w)), some (vi (J x1)), some (vi (J x2)), some (vi (J x3)), some (vi (J x4)), some (vi (J 1)), some (vi (J 1)), some (vi (J 1)), none]) (st2 := [vr (some w)]) rfl ?_
        refine R_getR rfl t0 ?_
        refine R_ps 1 (pc2 := 156) (L2 := [some (vr (some w)), some (vi (J x1)), some (vi (J x2)), some (vi (J x3)), some (vi (J x4)), some (vi (J 1)), some (vi (J 1)), some (vi (J 1)), none]) (st2 := [vi (J x3), vr (gr h w 14)]) rfl ?_
        obtain ⟨a_16, e_17, k⟩ := k
        rw [e_17]
        obtain ⟨t_18, k⟩ := k
        obtain ⟨t_19, k⟩ := k
        refine R_ziald (i := x3) rfl (Or.inl t_18) t_19 ?_
        refine R_ps 1 (pc2 := 158) (L2 := [some (vr (some w)), some (vi (J x1)), some (vi (J x2)), some (vi (J x3)), some (vi (J x4)), some (vi (J 1)), some (vi (J 1)), some (vi (J 1)), none]) (st2 := [vr (some w), vi (J (ai h a_16 x3))]) rfl ?_
        refine R_zgetI (z := 22) rfl t0 rfl ?_
        refine R_zif (x := ai h a_16 x3) (z := ai h w 22) rfl (ai_in _ _ _) (ai_in _ _ _) (fun c_21 => ?_) (fun c_21 => ?_)
        · have k := k.2 c_21
          exact R_drop k (LE_of (L := [some (vr (some w)), some (vi (J x1)), some (vi (J x2)), some (vi (J x3)), some (vi (J x4)), some (vi (J 1)), none, some (vi (J 1)), none]) (L2 := [some (vr (some w)), some (vi (J x1)), some (vi (J x2)), some (vi (J x3)), some (vi (J x4)), some (vi (J 1)), some (vi (J 1)), some (vi (J 1)), none]) ⟨rfl, rfl, rfl, rfl, rfl, rfl, rfl, trivial⟩)
        · have k := k.1 (Classical.not_not.mp c_21)
          refine R_ps 2 (pc2 := 166) (L2 := [some (vr (some w)), some (vi (J x1)), some (vi (J x2)), some (vi (J x3)), some (vi (J x4)), some (vi (J 1)), some (vi (J 1)), some (vi (J 1)), none]) (st2 := [vi (J x3), vr (some w)]) rfl ?_
          refine R_zcI (as := [vr (some w), vi (J x3)]) rfl rfl ⟨Nat.le_of_ble_eq_true rfl, Nat.le_of_ble_eq_true rfl, rfl, (Or.inr ⟨_, rfl, t0⟩)⟩ rfl rfl k (fun x_24 h_23 r_25 k => ?_)
          refine R_ps 2 (pc2 := 171) (L2 := [some (vr (some w)), some (vi (J x1)), some (vi (J x2)), some (vi (J x3)), some (vi (J x4)), some (vi (J 1)), some (vi (J 1)), some (vi (J 1)), none]) (st2 := [vi (J x2), vr (some w), vi (J x_24)]) rfl ?_
          refine R_zcI (as := [vr (some w), vi (J x2)]) rfl rfl ⟨Nat.le_of_ble_eq_true rfl, Nat.le_of_ble_eq_true rfl, rfl, (Or.inr ⟨_, rfl, t0⟩)⟩ rfl rfl k (fun x_28 h_27 r_29 k => ?_)
          refine R_zcI (as := [vi (J x_24), vi (J x_28)]) rfl rfl ⟨Nat.le_of_ble_eq_true rfl, Nat.le_of_ble_eq_true rfl, rfl, (Or.inl rfl)⟩ rfl rfl k (fun x_32 h_31 r_33 k => ?_)
          refine R_zif0 (x := x_32) rfl r_33 (fun c_34 => ?_) (fun c_34 => ?_)
          · have k := k.1 c_34
            exact R_drop k (LE_of (L := [some (vr (some w)), some (vi (J x1)), some (vi (J x2)), some (vi (J x3)), some (vi (J x4)), some (vi (J 1)), none, some (vi (J 1)), none]) (L2 := [some (vr (some w)), some (vi (J x1)), some (vi (J x2)), some (vi (J x3)), some (vi (J x4)), some (vi (J 1)), some (vi (J 1)), some (vi (J 1)), none]) ⟨rfl, rfl, rfl, rfl, rfl, rfl, rfl, trivial⟩)
          · have k := k.2 c_34
            refine R_ps 4 (pc2 := 189) (L2 := [some (vr (some w)), some (vi (J x1)), some (vi (J x2)), some (vi (J x3)), some (vi (J x4)), some (vi (J 1)), some (vi (J 1)), some (vi (J 1)), some (vi (J 1))]) (st2 := [vi (J 1)]) rfl ?_
            refine R_zif0 (x := 1) rfl (by decide) (fun _ => ?_) (fun c_35 => absurd (show ¬ (1 : Int) = (0 : Int) by decide) c_35)
            exact R_drop k (LE_of (L := [some (vr (some w)), some (vi (J x1)), none, some (vi (J x3)), some (vi (J x4)), none, none, none, none]) (L2 := [some (vr (some w)), some (vi (J x1)), some (vi (J x2)), some (vi (J x3)), some (vi (J x4)), some (vi (J 1)), some (vi (J 1)), some (vi (J 1)), some (vi (J 1))]) ⟨rfl, rfl, rfl, rfl, trivial⟩)
theorem z210_118 {T N : Nat → Nat} {h : PH} {w : Nat} {x1 : Int} {x2 : Int} {x3 : Int} {x4 : Int} {x5 : Int} {K : Int → PH → Prop} (r1 : In x1) (r2 : In x2) (r3 : In x3) (r4 : In x4) (r5 : In x5) (k : (ZW T N 210 143 [some (vr (some w)), some (vi (J x1)), some (vi (J x2)), some (vi (J x3)), some (vi (J x4)), some (vi (J x5)), some (vi (J 0)), none, none] [] h K)) : ZW T N 210 118 [some (vr (some w)), some (vi (J x1)), some (vi (J x2)), some (vi (J x3)), some (vi (J x4)), some (vi (J x5)), none, none, none] [] h K := by
  show WP T N 210 118 [some (vr (some w)), some (vi (J x1)), some (vi (J x2)), some (vi (J x3)), some (vi (J x4)), some (vi (J x5)), none, none, none] [] h _
  refine R_ps 3 (pc2 := 123) (L2 := [some (vr (some w)), some (vi (J x1)), some (vi (J x2)), some (vi (J x3)), some (vi (J x4)), some (vi (J x5)), some (vi (J 0)), none, none]) (st2 := [vi (J 0)]) rfl ?_
  refine R_zif0 (x := 0) rfl (by decide) (fun _ => ?_) (fun c_1 => absurd (show (0 : Int) = (0 : Int) by decide) c_1)
  exact k
theorem z210_143 {T N : Nat → Nat} {h : PH} {w : Nat} {x1 : Int} {x2 : Int} {x3 : Int} {x4 : Int} {x5 : Int} {x6 : Int} {K : Int → PH → Prop} (t0 : T w = 12) (r1 : In x1) (r2 : In x2) (r3 : In x3) (r4 : In x4) (r5 : In x5) (r6 : In x6) (k : (((x6 = 0 → (ZW T N 210 184 [some (vr (some w)), some (vi (J x1)), some (vi (J x2)), some (vi (J x3)), some (vi (J x4)), some (vi (J x5)), none, some (vi (J 0)), none] [] h K)) ∧ (¬ (x6 = 0) → (∃ a_4, (gr h w 14) = some a_4 ∧ T a_4 = 22 ∧ (0 ≤ x3 ∧ x3 < (N a_4 : Int) ∧ x3 < 2147483648) ∧ (((ai h a_4 x3) = (ai h w 22) → (ZI T N 205 [vr (some w), vi (J x3)] h (fun x_12 h_11 => (ZI T N 205 [vr (some w), vi (J x2)] h_11 (fun x_16 h_15 => (ZI T N 211 [vi (J x_12), vi (J x_16)] h_15 (fun x_20 h_19 => (((x_20 = 0 → (ZW T N 210 184 [some (vr (some w)), some (vi (J x1)), some (vi (J x2)), some (vi (J x3)), some (vi (J x4)), some (vi (J x5)), none, some (vi (J 0)), none] [] h_19 K)) ∧ (¬ (x_20 = 0) → (((x5 = 0 → (ZW T N 210 205 [some (vr (some w)), some (vi (J x1)), none, some (vi (J x3)), some (vi (J x4)), none, none, none, none] [] h_19 K)) ∧ (¬ (x5 = 0) → (ZW T N 210 205 [some (vr (some w)), some (vi (J x1)), none, some (vi (J x3)), some (vi (J x4)), none, none, none, none] [] h_19 K)))))))))))))) ∧ (¬ ((ai h a_4 x3) = (ai h w 22)) → (ZW T N 210 184 [some (vr (some w)), some (vi (J x1)), some (vi (J x2)), some (vi (J x3)), some (vi (J x4)), some (vi (J x5)), none, some (vi (J 0)), none] [] h K)))))))) : ZW T N 210 143 [some (vr (some w)), some (vi (J x1)), some (vi (J x2)), some (vi (J x3)), some (vi (J x4)), some (vi (J x5)), some (vi (J x6)), none, none] [] h K := by
  show WP T N 210 143 [some (vr (some w)), some (vi (J x1)), some (vi (J x2)), some (vi (J x3)), some (vi (J x4)), some (vi (J x5)), some (vi (J x6)), none, none] [] h _
  refine R_ps 3 (pc2 := 148) (L2 := [some (vr (some w)), some (vi (J x1)), some (vi (J x2)), some (vi (J x3)), some (vi (J x4)), some (vi (J x5)), some (vi (J x6)), some (vi (J 0)), none]) (st2 := [vi (J x6)]) rfl ?_
  refine R_zif0 (x := x6) rfl r6 (fun c_1 => ?_) (fun c_1 => ?_)
  · have k := k.1 c_1
    exact R_drop k (LE_of (L := [some (vr (some w)), some (vi (J x1)), some (vi (J x2)), some (vi (J x3)), some (vi (J x4)), some (vi (J x5)), none, some (vi (J 0)), none]) (L2 := [some (vr (some w)), some (vi (J x1)), some (vi (J x2)), some (vi (J x3)), some (vi (J x4)), some (vi (J x5)), some (vi (J x6)), some (vi (J 0)), none]) ⟨rfl, rfl, rfl, rfl, rfl, rfl, rfl, trivial⟩)
  · have k := k.2 c_1
    refine R_ps 1 (pc2 := 152) (L2 := [some (vr (some w)), some (vi (J x1)), some (vi (J x2)), some (vi (J x3)), some (vi (J x4)), some (vi (J x5)), some (vi (J x6)), some (vi (J 0)), none]) (st2 := [vr (some w)]) rfl ?_
    refine R_getR rfl t0 ?_
    refine R_ps 1 (pc2 := 156) (L2 := [some (vr (some w)), some (vi (J x1)), some (vi (J x2)), some (vi (J x3)), some (vi (J x4)), some (vi (J x5)), some (vi (J x6)), some (vi (J 0)), none]) (st2 := [vi (J x3), vr (gr h w 14)]) rfl ?_
    obtain ⟨a_4, e_5, k⟩ := k
    rw [e_5]
    obtain ⟨t_6, k⟩ := k
    obtain ⟨t_7, k⟩ := k
    refine R_ziald (i := x3) rfl (Or.inl t_6) t_7 ?_
    refine R_ps 1 (pc2 := 158) (L2 := [some (vr (some w)), some (vi (J x1)), some (vi (J x2)), some (vi (J x3)), some (vi (J x4)), some (vi (J x5)), some (vi (J x6)), some (vi (J 0)), none]) (st2 := [vr (some w), vi (J (ai h a_4 x3))]) rfl ?_
    refine R_zgetI (z := 22) rfl t0 rfl ?_
    refine R_zif (x := ai h a_4 x3) (z := ai h w 22) rfl (ai_in _ _ _) (ai_in _ _ _) (fun c_9 => ?_) (fun c_9 => ?_)
    · have k := k.2 c_9
      exact R_drop k (LE_of (L := [some (vr (some w)), some (vi (J x1)), some (vi (J x2)), some (vi (J x3)), some (vi (J x4)), some (vi (J x5)), none, some (vi (J 0)), none]) (L2 := [some (vr (some w)), some (vi (J x1)), some (vi (J x2)), some (vi (J x3)), some (vi (J x4)), some (vi (J x5)), some (vi (J x6)), some (vi (J 0)), none]) ⟨rfl, rfl, rfl, rfl, rfl, rfl, rfl, trivial⟩)
    · have k := k.1 (Classical.not_not.mp c_9)
      refine R_ps 2 (pc2 := 166) (L2 := [some (vr (some w)), some (vi (J x1)), some (vi (J x2)), some (vi (J x3)), some (vi (J x4)), some (vi (J x5)), some (vi (J x6)), some (vi (J 0)), none]) (st2 := [vi (J x3), vr (some w)]) rfl ?_
      refine R_zcI (as := [vr (some w), vi (J x3)]) rfl rfl ⟨Nat.le_of_ble_eq_true rfl, Nat.le_of_ble_eq_true rfl, rfl, (Or.inr ⟨_, rfl, t0⟩)⟩ rfl rfl k (fun x_12 h_11 r_13 k => ?_)
      refine R_ps 2 (pc2 := 171) (L2 := [some (vr (some w)), some (vi (J x1)), some (vi (J x2)), some (vi (J x3)), some (vi (J x4)), some (vi (J x5)), some (vi (J x6)), some (vi (J 0)), none]) (st2 := [vi (J x2), vr (some w), vi (J x_12)]) rfl ?_
      refine R_zcI (as := [vr (some w), vi (J x2)]) rfl rfl ⟨Nat.le_of_ble_eq_true rfl, Nat.le_of_ble_eq_true rfl, rfl, (Or.inr ⟨_, rfl, t0⟩)⟩ rfl rfl k (fun x_16 h_15 r_17 k => ?_)
      refine R_zcI (as := [vi (J x_12), vi (J x_16)]) rfl rfl ⟨Nat.le_of_ble_eq_true rfl, Nat.le_of_ble_eq_true rfl, rfl, (Or.inl rfl)⟩ rfl rfl k (fun x_20 h_19 r_21 k => ?_)
      refine R_zif0 (x := x_20) rfl r_21 (fun c_22 => ?_) (fun c_22 => ?_)
      · have k := k.1 c_22
        exact R_drop k (LE_of (L := [some (vr (some w)), some (vi (J x1)), some (vi (J x2)), some (vi (J x3)), some (vi (J x4)), some (vi (J x5)), none, some (vi (J 0)), none]) (L2 := [some (vr (some w)), some (vi (J x1)), some (vi (J x2)), some (vi (J x3)), some (vi (J x4)), some (vi (J x5)), some (vi (J x6)), some (vi (J 0)), none]) ⟨rfl, rfl, rfl, rfl, rfl, rfl, rfl, trivial⟩)
      · have k := k.2 c_22
        refine R_ps 4 (pc2 := 189) (L2 := [some (vr (some w)), some (vi (J x1)), some (vi (J x2)), some (vi (J x3)), some (vi (J x4)), some (vi (J x5)), some (vi (J x6)), some (vi (J 0)), some (vi (J 1))]) (st2 := [vi (J x5)]) rfl ?_
        refine R_zif0 (x := x5) rfl r5 (fun c_23 => ?_) (fun c_23 => ?_)
        · have k := k.2 c_23
          exact R_drop k (LE_of (L := [some (vr (some w)), some (vi (J x1)), none, some (vi (J x3)), some (vi (J x4)), none, none, none, none]) (L2 := [some (vr (some w)), some (vi (J x1)), some (vi (J x2)), some (vi (J x3)), some (vi (J x4)), some (vi (J x5)), some (vi (J x6)), some (vi (J 0)), some (vi (J 1))]) ⟨rfl, rfl, rfl, rfl, trivial⟩)
        · have k := k.1 (Classical.not_not.mp c_23)
          refine R_ps 1 (pc2 := 194) (L2 := [some (vr (some w)), some (vi (J x1)), some (vi (J x2)), some (vi (J x3)), some (vi (J x4)), some (vi (J x5)), some (vi (J x6)), some (vi (J 0)), some (vi (J 1))]) (st2 := [vi (J 0)]) rfl ?_
          refine R_zif0 (x := 0) rfl (by decide) (fun c_24 => absurd (show ¬ (0 : Int) = (0 : Int) from c_24) (by decide)) (fun _ => ?_)
          refine R_ps 1 (pc2 := 199) (L2 := [some (vr (some w)), some (vi (J x1)), some (vi (J x2)), some (vi (J x3)), some (vi (J x4)), some (vi (J x5)), some (vi (J x6)), some (vi (J 0)), some (vi (J 1))]) (st2 := [vi (J 1)]) rfl ?_
          refine R_zif0 (x := 1) rfl (by decide) (fun _ => ?_) (fun c_25 => absurd (show ¬ (1 : Int) = (0 : Int) by decide) c_25)
          exact R_drop k (LE_of (L := [some (vr (some w)), some (vi (J x1)), none, some (vi (J x3)), some (vi (J x4)), none, none, none, none]) (L2 := [some (vr (some w)), some (vi (J x1)), some (vi (J x2)), some (vi (J x3)), some (vi (J x4)), some (vi (J x5)), some (vi (J x6)), some (vi (J 0)), some (vi (J 1))]) ⟨rfl, rfl, rfl, rfl, trivial⟩)
theorem z210_184 {T N : Nat → Nat} {h : PH} {w : Nat} {x1 : Int} {x2 : Int} {x3 : Int} {x4 : Int} {x5 : Int} {x7 : Int} {K : Int → PH → Prop} (r1 : In x1) (r2 : In x2) (r3 : In x3) (r4 : In x4) (r5 : In x5) (r7 : In x7) (k : (((x5 = 0 → (((x7 = 0 → (ZW T N 210 223 [some (vr (some w)), some (vi (J x1)), some (vi (J x2)), some (vi (J x3)), none, none, none, none, none] [] h K)) ∧ (¬ (x7 = 0) → (ZW T N 210 205 [some (vr (some w)), some (vi (J x1)), none, some (vi (J x3)), some (vi (J x4)), none, none, none, none] [] h K))))) ∧ (¬ (x5 = 0) → (ZW T N 210 205 [some (vr (some w)), some (vi (J x1)), none, some (vi (J x3)), some (vi (J x4)), none, none, none, none] [] h K))))) : ZW T N 210 184 [some (vr (some w)), some (vi (J x1)), some (vi (J x2)), some (vi (J x3)), some (vi (J x4)), some (vi (J x5)), none, some (vi (J x7)), none] [] h K := by
  show WP T N 210 184 [some (vr (some w)), some (vi (J x1)), some (vi (J x2)), some (vi (J x3)), some (vi (J x4)), some (vi (J x5)), none, some (vi (J x7)), none] [] h _
  refine R_ps 3 (pc2 := 189) (L2 := [some (vr (some w)), some (vi (J x1)), some (vi (J x2)), some (vi (J x3)), some (vi (J x4)), some (vi (J x5)), none, some (vi (J x7)), some (vi (J 0))]) (st2 := [vi (J x5)]) rfl ?_
  refine R_zif0 (x := x5) rfl r5 (fun c_1 => ?_) (fun c_1 => ?_)
  · have k := k.2 c_1
    exact R_drop k (LE_of (L := [some (vr (some w)), some (vi (J x1)), none, some (vi (J x3)), some (vi (J x4)), none, none, none, none]) (L2 := [some (vr (some w)), some (vi (J x1)), some (vi (J x2)), some (vi (J x3)), some (vi (J x4)), some (vi (J x5)), none, some (vi (J x7)), some (vi (J 0))]) ⟨rfl, rfl, rfl, rfl, trivial⟩)
  · have k := k.1 (Classical.not_not.mp c_1)
    refine R_ps 1 (pc2 := 194) (L2 := [some (vr (some w)), some (vi (J x1)), some (vi (J x2)), some (vi (J x3)), some (vi (J x4)), some (vi (J x5)), none, some (vi (J x7)), some (vi (J 0))]) (st2 := [vi (J x7)]) rfl ?_
    refine R_zif0 (x := x7) rfl r7 (fun c_2 => ?_) (fun c_2 => ?_)
    · have k := k.2 c_2
      exact R_drop k (LE_of (L := [some (vr (some w)), some (vi (J x1)), none, some (vi (J x3)), some (vi (J x4)), none, none, none, none]) (L2 := [some (vr (some w)), some (vi (J x1)), some (vi (J x2)), some (vi (J x3)), some (vi (J x4)), some (vi (J x5)), none, some (vi (J x7)), some (vi (J 0))]) ⟨rfl, rfl, rfl, rfl, trivial⟩)
    · have k := k.1 (Classical.not_not.mp c_2)
      refine R_ps 1 (pc2 := 199) (L2 := [some (vr (some w)), some (vi (J x1)), some (vi (J x2)), some (vi (J x3)), some (vi (J x4)), some (vi (J x5)), none, some (vi (J x7)), some (vi (J 0))]) (st2 := [vi (J 0)]) rfl ?_
      refine R_zif0 (x := 0) rfl (by decide) (fun c_3 => absurd (show ¬ (0 : Int) = (0 : Int) from c_3) (by decide)) (fun _ => ?_)
      refine R_ps 1 (pc2 := 223) (L2 := [some (vr (some w)), some (vi (J x1)), some (vi (J x2)), some (vi (J x3)), some (vi (J x4)), some (vi (J x5)), none, some (vi (J x7)), some (vi (J 0))]) (st2 := []) rfl ?_
      exact R_drop k (LE_of (L := [some (vr (some w)), some (vi (J x1)), some (vi (J x2)), some (vi (J x3)), none, none, none, none, none]) (L2 := [some (vr (some w)), some (vi (J x1)), some (vi (J x2)), some (vi (J x3)), some (vi (J x4)), some (vi (J x5)), none, some (vi (J x7)), some (vi (J 0))]) ⟨rfl, rfl, rfl, rfl, trivial⟩)
theorem z210_205 {T N : Nat → Nat} {h : PH} {w : Nat} {x1 : Int} {x3 : Int} {x4 : Int} {K : Int → PH → Prop} (t0 : T w = 12) (r1 : In x1) (r3 : In x3) (r4 : In x4) (k : (∀ h_2, h_2 = wi h w 21 x4 → ∃ a_6, (gr h_2 w 14) = some a_6 ∧ T a_6 = 22 ∧ (0 ≤ x3 ∧ x3 < (N a_6 : Int) ∧ x3 < 2147483648) ∧ ∀ h_11, h_11 = wi h_2 w 22 (ai h_2 a_6 x3) → ZW T N 210 223 [some (vr (some w)), some (vi (J x1)), some (vi (J x3)), some (vi (J x3)), none, none, none, none, none] [] h_11 K)) : ZW T N 210 205 [some (vr (some w)), some (vi (J x1)), none, some (vi (J x3)), some (vi (J x4)), none, none, none, none] [] h K := by
  show WP T N 210 205 [some (vr (some w)), some (vi (J x1)), none, some (vi (J x3)), some (vi (J x4)), none, none, none, none] [] h _
  refine R_ps 4 (pc2 := 210) (L2 := [some (vr (some w)), some (vi (J x1)), some (vi (J x3)), some (vi (J x3)), some (vi (J x4)), none, none, none, none]) (st2 := [vi (J x4), vr (some w)]) rfl ?_
  refine R_zputI (x := x4) (z := 21) rfl t0 rfl ?_
  show WP T N _ _ _ _ (wi h w 21 x4) _
  generalize e_3 : wi h w 21 x4 = h_2
  replace k := k h_2 e_3.symm
  refine R_ps 2 (pc2 := 215) (L2 := [some (vr (some w)), some (vi (J x1)), some (vi (J x3)), some (vi (J x3)), some (vi (J x4)), none, none, none, none]) (st2 := [vr (some w), vr (some w)]) rfl ?_
  refine R_getR rfl t0 ?_
  refine R_ps 1 (pc2 := 219) (L2 := [some (vr (some w)), some (vi (J x1)), some (vi (J x3)), some (vi (J x3)), some (vi (J x4)), none, none, none, none]) (st2 := [vi (J x3), vr (gr h_2 w 14), vr (some w)]) rfl ?_
  obtain ⟨a_6, e_7, k⟩ := k
  rw [e_7]
  obtain ⟨t_8, k⟩ := k
  obtain ⟨t_9, k⟩ := k
  refine R_ziald (i := x3) rfl (Or.inl t_8) t_9 ?_
  refine R_zputI (x := ai h_2 a_6 x3) (z := 22) rfl t0 rfl ?_
  show WP T N _ _ _ _ (wi h_2 w 22 (ai h_2 a_6 x3)) _
  generalize e_12 : wi h_2 w 22 (ai h_2 a_6 x3) = h_11
  replace k := k h_11 e_12.symm
  exact R_drop k (LE_of (L := [some (vr (some w)), some (vi (J x1)), some (vi (J x3)), some (vi (J x3)), none, none, none, none, none]) (L2 := [some (vr (some w)), some (vi (J x1)), some (vi (J x3)), some (vi (J x3)), some (vi (J x4)), none, none, none, none]) ⟨rfl, rfl, rfl, rfl, trivial⟩)
theorem z210_223 {T N : Nat → Nat} {h : PH} {w : Nat} {x1 : Int} {x2 : Int} {x3 : Int} {K : Int → PH → Prop} (r1 : In x1) (r2 : In x2) (r3 : In x3) (k : (ZW T N 210 28 [some (vr (some w)), some (vi (J x1)), some (vi (J x2)), some (vi (J (x3 + 1))), none, none, none, none, none] [] h K)) : ZW T N 210 223 [some (vr (some w)), some (vi (J x1)), some (vi (J x2)), some (vi (J x3)), none, none, none, none, none] [] h K := by
  show WP T N 210 223 [some (vr (some w)), some (vi (J x1)), some (vi (J x2)), some (vi (J x3)), none, none, none, none, none] [] h _
  refine R_ps 2 (pc2 := 28) (L2 := [some (vr (some w)), some (vi (J x1)), some (vi (J x2)), some (vi ((J x3) + J 1)), none, none, none, none, none]) (st2 := []) rfl ?_
  rw [show ((J x3) + J 1) = J (x3 + 1) from J_add' rfl rfl]
  exact k
/-- DroneCorridorsModel.isFirst -/
theorem z211 {T N : Nat → Nat} {h : PH} {x0 : Int} {x1 : Int} {K : Int → PH → Prop} (r0 : In x0) (r1 : In x1) (k : (ZI T N 189 [vi (J x0)] h (fun x_3 h_2 => (ZI T N 189 [vi (J x1)] h_2 (fun x_7 h_6 => (((x_3 = x_7 → (ZI T N 187 [vi (J x0)] h_6 (fun x_12 h_11 => (ZI T N 187 [vi (J x1)] h_11 (fun x_16 h_15 => (((x_12 = x_16 → (ZI T N 190 [vi (J x0)] h_15 (fun x_21 h_20 => (ZI T N 190 [vi (J x1)] h_20 (fun x_25 h_24 => (((x_25 < x_21 → (K 1 h_24)) ∧ (¬ (x_25 < x_21) → (K 0 h_24))))))))) ∧ (¬ (x_12 = x_16) → (ZI T N 187 [vi (J x0)] h_15 (fun x_32 h_31 => (ZI T N 187 [vi (J x1)] h_31 (fun x_36 h_35 => (((x_32 < x_36 → (K 1 h_35)) ∧ (¬ (x_32 < x_36) → (K 0 h_35)))))))))))))))) ∧ (¬ (x_3 = x_7) → (ZI T N 189 [vi (J x0)] h_6 (fun x_43 h_42 => (ZI T N 189 [vi (J x1)] h_42 (fun x_47 h_46 => (((x_43 < x_47 → (K 1 h_46)) ∧ (¬ (x_43 < x_47) → (K 0 h_46)))))))))))))))) : ZI T N 211 [vi (J x0), vi (J x1)] h K := by
  show WP T N 211 0 [some (vi (J x0)), some (vi (J x1))] [] h _
  refine R_ps 1 (pc2 := 1) (L2 := [some (vi (J x0)), some (vi (J x1))]) (st2 := [vi (J x0)]) rfl ?_
  refine R_zcI (as := [vi (J x0)]) rfl rfl ⟨Nat.le_of_ble_eq_true rfl, Nat.le_of_ble_eq_true rfl, rfl, (Or.inl rfl)⟩ rfl rfl k (fun x_3 h_2 r_4 k => ?_)
  refine R_ps 1 (pc2 := 5) (L2 := [some (vi (J x0)), some (vi (J x1))]) (st2 := [vi (J x1), vi (J x_3)]) rfl ?_
  refine R_zcI (as := [vi (J x1)]) rfl rfl ⟨Nat.le_of_ble_eq_true rfl, Nat.le_of_ble_eq_true rfl, rfl, (Or.inl rfl)⟩ rfl rfl k (fun x_7 h_6 r_8 k => ?_)
  refine R_zif (x := x_3) (z := x_7) rfl r_4 r_8 (fun c_9 => ?_) (fun c_9 => ?_)
  · have k := k.1 c_9
    refine R_ps 1 (pc2 := 29) (L2 := [some (vi (J x0)), some (vi (J x1))]) (st2 := [vi (J x0)]) rfl ?_
    refine R_zcI (as := [vi (J x0)]) rfl rfl ⟨Nat.le_of_ble_eq_true rfl, Nat.le_of_ble_eq_true rfl, rfl, (Or.inl rfl)⟩ rfl rfl k (fun x_12 h_11 r_13 k => ?_)
    refine R_ps 1 (pc2 := 33) (L2 := [some (vi (J x0)), some (vi (J x1))]) (st2 := [vi (J x1), vi (J x_12)]) rfl ?_
    refine R_zcI (as := [vi (J x1)]) rfl rfl ⟨Nat.le_of_ble_eq_true rfl, Nat.le_of_ble_eq_true rfl, rfl, (Or.inl rfl)⟩ rfl rfl k (fun x_16 h_15 r_17 k => ?_)
    refine R_zif (x := x_12) (z := x_16) rfl r_13 r_17 (fun c_18 => ?_) (fun c_18 => ?_)
    · have k := k.1 c_18
      refine R_ps 1 (pc2 := 59) (L2 := [some (vi (J x0)), some (vi (J x1))]) (st2 := [vi (J x0)]) rfl ?_
      refine R_zcI (as := [vi (J x0)]) rfl rfl ⟨Nat.le_of_ble_eq_true rfl, Nat.le_of_ble_eq_true rfl, rfl, (Or.inl rfl)⟩ rfl rfl k (fun x_21 h_20 r_22 k => ?_)
      refine R_ps 1 (pc2 := 63) (L2 := [some (vi (J x0)), some (vi (J x1))]) (st2 := [vi (J x1), vi (J x_21)]) rfl ?_
      refine R_zcI (as := [vi (J x1)]) rfl rfl ⟨Nat.le_of_ble_eq_true rfl, Nat.le_of_ble_eq_true rfl, rfl, (Or.inl rfl)⟩ rfl rfl k (fun x_25 h_24 r_26 k => ?_)
      refine R_zif (x := x_21) (z := x_25) rfl r_22 r_26 (fun c_27 => ?_) (fun c_27 => ?_)
      · have k := k.2 c_27
        refine R_ps 1 (pc2 := 74) (L2 := [some (vi (J x0)), some (vi (J x1))]) (st2 := [vi (J 0)]) rfl ?_
        exact R_zzret (x := 0) rfl rfl (Or.inl rfl) (R_zr (x := 0) (K := K) (by decide) k)
      · have k := k.1 (Classical.not_not.mp c_27)
        refine R_ps 2 (pc2 := 74) (L2 := [some (vi (J x0)), some (vi (J x1))]) (st2 := [vi (J 1)]) rfl ?_
        exact R_zzret (x := 1) rfl rfl (Or.inr rfl) (R_zr (x := 1) (K := K) (by decide) k)
    · have k := k.2 c_18
      refine R_ps 1 (pc2 := 40) (L2 := [some (vi (J x0)), some (vi (J x1))]) (st2 := [vi (J x0)]) rfl ?_
      refine R_zcI (as := [vi (J x0)]) rfl rfl ⟨Nat.le_of_ble_eq_true rfl, Nat.le_of_ble_eq_true rfl, rfl, (Or.inl rfl)⟩ rfl rfl k (fun x_32 h_31 r_33 k => ?_)
      refine R_ps 1 (pc2 := 44) (L2 := [some (vi (J x0)), some (vi (J x1))]) (st2 := [vi (J x1), vi (J x_32)]) rfl ?_
      refine R_zcI (as := [vi (J x1)]) rfl rfl ⟨Nat.le_of_ble_eq_true rfl, Nat.le_of_ble_eq_true rfl, rfl, (Or.inl rfl)⟩ rfl rfl k (fun x_36 h_35 r_37 k => ?_)
      refine R_zif (x := x_32) (z := x_36) rfl r_33 r_37 (fun c_38 => ?_) (fun c_38 => ?_)
      · have k := k.2 c_38
        refine R_ps 2 (pc2 := 74) (L2 := [some (vi (J x0)), some (vi (J x1))]) (st2 := [vi (J 0)]) rfl ?_
        exact R_zzret (x := 0) rfl rfl (Or.inl rfl) (R_zr (x := 0) (K := K) (by decide) k)
      · have k := k.1 (Classical.not_not.mp c_38)
        refine R_ps 2 (pc2 := 74) (L2 := [some (vi (J x0)), some (vi (J x1))]) (st2 := [vi (J 1)]) rfl ?_
        exact R_zzret (x := 1) rfl rfl (Or.inr rfl) (R_zr (x := 1) (K := K) (by decide) k)
  · have k := k.2 c_9
    refine R_ps 1 (pc2 := 12) (L2 := [some (vi (J x0)), some (vi (J x1))]) (st2 := [vi (J x0)]) rfl ?_
    refine R_zcI (as := [vi (J x0)]) rfl rfl ⟨Nat.le_of_ble_eq_true rfl, Nat.le_of_ble_eq_true rfl, rfl, (Or.inl rfl)⟩ rfl rfl k (fun x_43 h_42 r_44 k => ?_)
    refine R_ps 1 (pc2 := 16) (L2 := [some (vi (J x0)), some (vi (J x1))]) (st2 := [vi (J x1), vi (J x_43)]) rfl ?_
    refine R_zcI (as := [vi (J x1)]) rfl rfl ⟨Nat.le_of_ble_eq_true rfl, Nat.le_of_ble_eq_true rfl, rfl, (Or.inl rfl)⟩ rfl rfl k (fun x_47 h_46 r_48 k => ?_)
    refine R_zif (x := x_43) (z := x_47) rfl r_44 r_48 (fun c_49 => ?_) (fun c_49 => ?_)
    · have k := k.2 c_49
      refine R_ps 1 (pc2 := 27) (L2 := [some (vi (J x0)), some (vi (J x1))]) (st2 := [vi (J 0)]) rfl ?_
      exact R_zzret (x := 0) rfl rfl (Or.inl rfl) (R_zr (x := 0) (K := K) (by decide) k)
    · have k := k.1 (Classical.not_not.mp c_49)
      refine R_ps 2 (pc2 := 27) (L2 := [some (vi (J x0)), some (vi (J x1))]) (st2 := [vi (J 1)]) rfl ?_
      exact R_zzret (x := 1) rfl rfl (Or.inr rfl) (R_zr (x := 1) (K := K) (by decide) k)
/-- DroneCorridorsModel.mayGo -/
theorem z212 {T N : Nat → Nat} {h : PH} {w : Nat} {x1 : Int} {x2 : Int} {x3 : Int} {x4 : Int} {K : Int → PH → Prop} (t0 : T w = 12) (r1 : In x1) (r2 : In x2) (r3 : In x3) (r4 : In x4) (k : (CV T N 208 [vr (some w), vi (J x1), vi (J x3), vi (J x4)] h (fun h_2 => (ZI T N 210 [vr (some w), vi (J x2)] h_2 (fun x_6 h_5 => (((x_6 = (-1) → (K 0 h_5)) ∧ (¬ (x_6 = (-1)) → (K 1 h_5))))))))) : ZI T N 212 [vr (some w), vi (J x1), vi (J x2), vi (J x3), vi (J x4)] h K := by
  show WP T N 212 0 [some (vr (some w)), some (vi (J x1)), some (vi (J x2)), some (vi (J x3)), some (vi (J x4))] [] h _
  refine R_ps 4 (pc2 := 5) (L2 := [some (vr (some w)), some (vi (J x1)), some (vi (J x2)), some (vi (J x3)), some (vi (J x4))]) (st2 := [vi (J x4), vi (J x3), vi (J x1), vr (some w)]) rfl ?_
  refine R_cV (as := [vr (some w), vi (J x1), vi (J x3), vi (J x4)]) rfl rfl ⟨Nat.le_of_ble_eq_true rfl, Nat.le_of_ble_eq_true rfl, rfl, (Or.inr ⟨_, rfl, t0⟩)⟩ rfl rfl k (fun h_2 k => ?_)
  refine R_ps 2 (pc2 := 10) (L2 := [some (vr (some w)), some (vi (J x1)), some (vi (J x2)), some (vi (J x3)), some (vi (J x4))]) (st2 := [vi (J x2), vr (some w)]) rfl ?_
  refine R_zcI (as := [vr (some w), vi (J x2)]) rfl rfl ⟨Nat.le_of_ble_eq_true rfl, Nat.le_of_ble_eq_true rfl, rfl, (Or.inr ⟨_, rfl, t0⟩)⟩ rfl rfl k (fun x_6 h_5 r_7 k => ?_)
  refine R_ps 1 (pc2 := 14) (L2 := [some (vr (some w)), some (vi (J x1)), some (vi (J x2)), some (vi (J x3)), some (vi (J x4))]) (st2 := [vi (J (-1)), vi (J x_6)]) rfl ?_
  refine R_zif (x := x_6) (z := (-1)) rfl r_7 (by decide) (fun c_8 => ?_) (fun c_8 => ?_)
  · have k := k.1 c_8
    refine R_ps 1 (pc2 := 22) (L2 := [some (vr (some w)), some (vi (J x1)), some (vi (J x2)), some (vi (J x3)), some (vi (J x4))]) (st2 := [vi (J 0)]) rfl ?_
    exact R_zzret (x := 0) rfl rfl (Or.inl rfl) (R_zr (x := 0) (K := K) (by decide) k)
  · have k := k.2 c_8
    refine R_ps 2 (pc2 := 22) (L2 := [some (vr (some w)), some (vi (J x1)), some (vi (J x2)), some (vi (J x3)), some (vi (J x4))]) (st2 := [vi (J 1)]) rfl ?_
    exact R_zzret (x := 1) rfl rfl (Or.inr rfl) (R_zr (x := 1) (K := K) (by decide) k)
/-- DroneCorridorsModel.goes -/
theorem z213 {T N : Nat → Nat} {h : PH} {w : Nat} {x1 : Int} {x2 : Int} {x3 : Int} {K : PH → Prop} (r1 : In x1) (r2 : In x2) (r3 : In x3) (k : (WV T N 213 6 [some (vr (some w)), some (vi (J x1)), some (vi (J x2)), some (vi (J x3)), some (vi (J 0)), some (vi (J x2)), none] [] h K)) : CV T N 213 [vr (some w), vi (J x1), vi (J x2), vi (J x3)] h K := by
  show WP T N 213 0 [some (vr (some w)), some (vi (J x1)), some (vi (J x2)), some (vi (J x3)), none, none, none] [] h _
  refine R_ps 4 (pc2 := 6) (L2 := [some (vr (some w)), some (vi (J x1)), some (vi (J x2)), some (vi (J x3)), some (vi (J 0)), some (vi (J x2)), none]) (st2 := []) rfl ?_
  exact k
theorem z213_6 {T N : Nat → Nat} {h : PH} {w : Nat} {x1 : Int} {x2 : Int} {x3 : Int} {x4 : Int} {x5 : Int} {K : PH → Prop} (t0 : T w = 12) (r1 : In x1) (r2 : In x2) (r3 : In x3) (r4 : In x4) (r5 : In x5) (k : (((x5 < 0 → (ZI T N 193 [vr (some w), vi (J x1)] h (fun x_4 h_3 => (CV T N 169 [vr (some w), vi (J x1), vi (J 5), vi (J (x_4 + x4))] h_3 (fun h_7 => (WV T N 213 47 [some (vr (some w)), some (vi (J x1)), none, some (vi (J x3)), some (vi (J x4)), some (vi (J x_4)), some (vi (J x2))] [] h_7 K)))))) ∧ (¬ (x5 < 0) → (∃ a_11, (gr h w 15) = some a_11 ∧ T a_11 = 22 ∧ (0 ≤ x5 ∧ x5 < (N a_11 : Int) ∧ x5 < 2147483648) ∧ WV T N 213 6 [some (vr (some w)), some (vi (J x1)), some (vi (J x2)), some (vi (J x3)), some (vi (J (x4 + 1))), some (vi (J (ai h a_11 x5))), none] [] h K))))) : WV T N 213 6 [some (vr (some w)), some (vi (J x1)), some (vi (J x2)), some (vi (J x3)), some (vi (J x4)), some (vi (J x5)), none] [] h K := by
  show WP T N 213 6 [some (vr (some w)), some (vi (J x1)), some (vi (J x2)), some (vi (J x3)), some (vi (J x4)), some (vi (J x5)), none] [] h _
  refine R_ps 1 (pc2 := 8) (L2 := [some (vr (some w)), some (vi (J x1)), some (vi (J x2)), some (vi (J x3)), some (vi (J x4)), some (vi (J x5)), none]) (st2 := [vi (J x5)]) rfl ?_
  refine R_zif0 (x := x5) rfl r5 (fun c_1 => ?_) (fun c_1 => ?_)
  · have k := k.1 c_1
    refine R_ps 2 (pc2 := 28) (L2 := [some (vr (some w)), some (vi (J x1)), some (vi (J x2)), some (vi (J x3)), some (vi (J x4)), some (vi (J x5)), none]) (st2 := [vi (J x1), vr (some w)]) rfl ?_
    refine R_zcI (as := [vr (some w), vi (J x1)]) rfl rfl ⟨Nat.le_of_ble_eq_true rfl, Nat.le_of_ble_eq_true rfl, rfl, (Or.inr ⟨_, rfl, t0⟩)⟩ rfl rfl k (fun x_4 h_3 r_5 k => ?_)
    refine R_ps 7 (pc2 := 41) (L2 := [some (vr (some w)), some (vi (J x1)), some (vi (J x2)), some (vi (J x3)), some (vi (J x4)), some (vi (J x_4)), none]) (st2 := [vi ((J x_4) + (J x4)), vi (J 5), vi (J x1), vr (some w)]) rfl ?_
    rw [show ((J x_4) + (J x4)) = J (x_4 + x4) from J_add' rfl rfl]
    refine R_cV (as := [vr (some w), vi (J x1), vi (J 5), vi (J (x_4 + x4))]) rfl rfl ⟨Nat.le_of_ble_eq_true rfl, Nat.le_of_ble_eq_true rfl, rfl, (Or.inr ⟨_, rfl, t0⟩)⟩ rfl rfl k (fun h_7 k => ?_)
    refine R_ps 2 (pc2 := 47) (L2 := [some (vr (some w)), some (vi (J x1)), some (vi (J x2)), some (vi (J x3)), some (vi (J x4)), some (vi (J x_4)), some (vi (J x2))]) (st2 := []) rfl ?_
    exact R_drop k (LE_of (L := [some (vr (some w)), some (vi (J x1)), none, some (vi (J x3)), some (vi (J x4)), some (vi (J x_4)), some (vi (J x2))]) (L2 := [some (vr (some w)), some (vi (J x1)), some (vi (J x2)), some (vi (J x3)), some (vi (J x4)), some (vi (J x_4)), some (vi (J x2))]) ⟨rfl, rfl, rfl, rfl, rfl, rfl, trivial⟩)
  · have k := k.2 c_1
    refine R_ps 2 (pc2 := 15) (L2 := [some (vr (some w)), some (vi (J x1)), some (vi (J x2)), some (vi (J x3)), some (vi ((J x4) + J 1)), some (vi (J x5)), none]) (st2 := [vr (some w)]) rfl ?_
    rw [show ((J x4) + J 1) = J (x4 + 1) from J_add' rfl rfl]
    refine R_getR rfl t0 ?_
    refine R_ps 1 (pc2 := 20) (L2 := [some (vr (some w)), some (vi (J x1)), some (vi (J x2)), some (vi (J x3)), some (vi (J (x4 + 1))), some (vi (J x5)), none]) (st2 := [vi (J x5), vr (gr h w 15)]) rfl ?_
    obtain ⟨a_11, e_12, k⟩ := k
    rw [e_12]
    obtain ⟨t_13, k⟩ := k
    obtain ⟨t_14, k⟩ := k
    refine R_ziald (i := x5) rfl (Or.inl t_13) t_14 ?_
    refine R_ps 2 (pc2 := 6) (L2 := [some (vr (some w)), some (vi (J x1)), some (vi (J x2)), some (vi (J x3)), some (vi (J (x4 + 1))), some (vi (J (ai h a_11 x5))), none]) (st2 := []) rfl ?_
    exact k
theorem z213_47 {T N : Nat → Nat} {h : PH} {w : Nat} {x1 : Int} {x3 : Int} {x4 : Int} {x5 : Int} {x6 : Int} {K : PH → Prop} (t0 : T w = 12) (r1 : In x1) (r3 : In x3) (r4 : In x4) (r5 : In x5) (r6 : In x6) (k : (((x6 < 0 → (CV T N 169 [vr (some w), vi (J x1), vi (J 4), vi (J x3)] h (fun h_3 => (ZI T N 168 [vr (some w), vi (J x1), vi (J 5)] h_3 (fun x_7 h_6 => (((x_7 = 0 → (ZI T N 168 [vr (some w), vi (J x1), vi (J 0)] h_6 (fun x_13 h_12 => (((x_13 = 1 → (∃ a_19, (gr h_12 w 1) = some a_19 ∧ T a_19 = 22 ∧ (0 ≤ (1 + x3) ∧ (1 + x3) < (N a_19 : Int) ∧ (1 + x3) < 2147483648) ∧ (((ai h_12 a_19 (1 + x3)) = 1 → (CV T N 214 [vr (some w), vi (J x1)] h_12 (fun h_26 => (K h_26)))) ∧ (¬ ((ai h_12 a_19 (1 + x3)) = 1) → (K h_12))))) ∧ (¬ (x_13 = 1) → (K h_12))))))) ∧ (¬ (x_7 = 0) → (K h_6))))))))) ∧ (¬ (x6 < 0) → (ZI T N 205 [vr (some w), vi (J x6)] h (fun x_31 h_30 => (CV T N 169 [vr (some w), vi (J x1), vi (J ((13 + x5) + (x4 + (-1)))), vi (J x_31)] h_30 (fun h_34 => (∃ a_38, (gr h_34 w 15) = some a_38 ∧ T a_38 = 22 ∧ (0 ≤ x6 ∧ x6 < (N a_38 : Int) ∧ x6 < 2147483648) ∧ WV T N 213 47 [some (vr (some w)), some (vi (J x1)), none, some (vi (J x3)), some (vi (J (x4 + (-1)))), some (vi (J x5)), some (vi (J (ai h_34 a_38 x6)))] [] h_34 K))))))))) : WV T N 213 47 [some (vr (some w)), some (vi (J x1)), none, some (vi (J x3)), some (vi (J x4)), some (vi (J x5)), some (vi (J x6))] [] h K := by
  show WP T N 213 47 [some (vr (some w)), some (vi (J x1)), none, some (vi (J x3)), some (vi (J x4)), some (vi (J x5)), some (vi (J x6))] [] h _
  refine R_ps 1 (pc2 := 49) (L2 := [some (vr (some w)), some (vi (J x1)), none, some (vi (J x3)), some (vi (J x4)), some (vi (J x5)), some (vi (J x6))]) (st2 := [vi (J x6)]) rfl ?_
  refine R_zif0 (x := x6) rfl r6 (fun c_1 => ?_) (fun c_1 => ?_)
  · have k := k.1 c_1
    refine R_ps 4 (pc2 := 90) (L2 := [some (vr (some w)), some (vi (J x1)), none, some (vi (J x3)), some (vi (J x4)), some (vi (J x5)), some (vi (J x6))]) (st2 := [vi (J x3), vi (J 4), vi (J x1), vr (some w)]) rfl ?_
    refine R_cV (as := [vr (some w), vi (J x1), vi (J 4), vi (J x3)]) rfl rfl ⟨Nat.le_of_ble_eq_true rfl, Nat.le_of_ble_eq_true rfl, rfl, (Or.inr ⟨_, rfl, t0⟩)⟩ rfl rfl k (fun h_3 k => ?_)
    refine R_ps 3 (pc2 := 96) (L2 := [some (vr (some w)), some (vi (J x1)), none, some (vi (J x3)), some (vi (J x4)), some (vi (J x5)), some (vi (J x6))]) (st2 := [vi (J 5), vi (J x1), vr (some w)]) rfl ?_
    refine R_zcI (as := [vr (some w), vi (J x1), vi (J 5)]) rfl rfl ⟨Nat.le_of_ble_eq_true rfl, Nat.le_of_ble_eq_true rfl, rfl, (Or.inr ⟨_, rfl, t0⟩)⟩ rfl rfl k (fun x_7 h_6 r_8 k => ?_)
    refine R_zif0 (x := x_7) rfl r_8 (fun c_9 => ?_) (fun c_9 => ?_)
    · have k := k.2 c_9
      exact R_ret rfl rfl ⟨rfl, k⟩
    · have k := k.1 (Classical.not_not.mp c_9)
      refine R_ps 3 (pc2 := 105) (L2 := [some (vr (some w)), some (vi (J x1)), none, some (vi (J x3)), some (vi (J x4)), some (vi (J x5)), some (vi (J x6))]) (st2 := [vi (J 0), vi (J x1), vr (some w)]) rfl ?_
      refine R_zcI (as := [vr (some w), vi (J x1), vi (J 0)]) rfl rfl ⟨Nat.le_of_ble_eq_true rfl, Nat.le_of_ble_eq_true rfl, rfl, (Or.inr ⟨_, rfl, t0⟩)⟩ rfl rfl k (fun x_13 h_12 r_14 k => ?_)
      refine R_ps 1 (pc2 := 109) (L2 := [some (vr (some w)), some (vi (J x1)), none, some (vi (J x3)), some (vi (J x4)), some (vi (J x5)), some (vi (J x6))]) (st2 := [vi (J 1), vi (J x_13)]) rfl ?_
      refine R_zif (x := x_13) (z := 1) rfl r_14 (by decide) (fun c_15 => ?_) (fun c_15 => ?_)
      · have k := k.2 c_15
        exact R_ret rfl rfl ⟨rfl, k⟩
      · have k := k.1 (Classical.not_not.mp c_15)
        refine R_ps 1 (pc2 := 113) (L2 := [some (vr (some w)), some (vi (J x1)), none, some (vi (J x3)), some (vi (J x4)), some (vi (J x5)), some (vi (J x6))]) (st2 := [vr (some w)]) rfl ?_
        refine R_getR rfl t0 ?_
        refine R_ps 3 (pc2 := 119) (L2 := [some (vr (some w)), some (vi (J x1)), none, some (vi (J x3)), some (vi (J x4)), some (vi (J x5)), some (vi (J x6))]) (st2 := [vi ((J 1) + (J x3)), vr (gr h_12 w 1)]) rfl ?_
        rw [show ((J 1) + (J x3)) = J (1 + x3) from J_add' rfl rfl]
        obtain ⟨a_19, e_20, k⟩ := k
        rw [e_20]
        obtain ⟨t_21, k⟩ := k
        obtain ⟨t_22, k⟩ := k
        refine R_ziald (i := 1 + x3) rfl (Or.inl t_21) t_22 ?_
        refine R_ps 1 (pc2 := 121) (L2 := [some (vr (some w)), some (vi (J x1)), none, some (vi (J x3)), some (vi (J x4)), some (vi (J x5)), some (vi (J x6))]) (st2 := [vi (J 1), vi (J (ai h_12 a_19 (1 + x3)))]) rfl ?_
        refine R_zif (x := ai h_12 a_19 (1 + x3)) (z := 1) rfl (ai_in _ _ _) (by decide) (fun c_23 => ?_) (fun c_23 => ?_)
        · have k := k.2 c_23
          exact R_ret rfl rfl ⟨rfl, k⟩
        · have k := k.1 (Classical.not_not.mp c_23)
          refine R_ps 2 (pc2 := 126) (L2 := [some (vr (some w)), some (vi (J x1)), none, some (vi (J x3)), some (vi (J x4)), some (vi (J x5)), some (vi (J x6))]) (st2 := [vi (J x1), vr (some w)]) rfl ?_
          refine R_cV (as := [vr (some w), vi (J x1)]) rfl rfl ⟨Nat.le_of_ble_eq_true rfl, Nat.le_of_ble_eq_true rfl, rfl, (Or.inr ⟨_, rfl, t0⟩)⟩ rfl rfl k (fun h_26 k => ?_)
          exact R_ret rfl rfl ⟨rfl, k⟩
  · have k := k.2 c_1
    refine R_ps 10 (pc2 := 68) (L2 := [some (vr (some w)), some (vi (J x1)), none, some (vi (J x3)), some (vi ((J x4) + J (-1))), some (vi (J x5)), some (vi (J x6))]) (st2 := [vi (J x6), vr (some w), vi (((J 13) + (J x5)) + ((J x4) + J (-1))), vi (J x1), vr (some w)]) rfl ?_
    rw [show (((J 13) + (J x5)) + ((J x4) + J (-1))) = J ((13 + x5) + (x4 + (-1))) from J_add' (J_add' rfl rfl) (J_add' rfl rfl)]
    rw [show ((J x4) + J (-1)) = J (x4 + (-1)) from J_add' rfl rfl]
    refine R_zcI (as := [vr (some w), vi (J x6)]) rfl rfl ⟨Nat.le_of_ble_eq_true rfl, Nat.le_of_ble_eq_true rfl, rfl, (Or.inr ⟨_, rfl, t0⟩)⟩ rfl rfl k (fun x_31 h_30 r_32 k => ?_)
    refine R_cV (as := [vr (some w), vi (J x1), vi (J ((13 + x5) + (x4 + (-1)))), vi (J x_31)]) rfl rfl ⟨Nat.le_of_ble_eq_true rfl, Nat.le_of_ble_eq_true rfl, rfl, (Or.inr ⟨_, rfl, t0⟩)⟩ rfl rfl k (fun h_34 k => ?_)
    refine R_ps 1 (pc2 := 75) (L2 := [some (vr (some w)), some (vi (J x1)), none, some (vi (J x3)), some (vi (J (x4 + (-1)))), some (vi (J x5)), some (vi (J x6))]) (st2 := [vr (some w)]) rfl ?_
    refine R_getR rfl t0 ?_
    refine R_ps 1 (pc2 := 80) (L2 := [some (vr (some w)), some (vi (J x1)), none, some (vi (J x3)), some (vi (J (x4 + (-1)))), some (vi (J x5)), some (vi (J x6))]) (st2 := [vi (J x6), vr (gr h_34 w 15)]) rfl ?_
    obtain ⟨a_38, e_39, k⟩ := k
    rw [e_39]
    obtain ⟨t_40, k⟩ := k
    obtain ⟨t_41, k⟩ := k
    refine R_ziald (i := x6) rfl (Or.inl t_40) t_41 ?_
    refine R_ps 2 (pc2 := 47) (L2 := [some (vr (some w)), some (vi (J x1)), none, some (vi (J x3)), some (vi (J (x4 + (-1)))), some (vi (J x5)), some (vi (J (ai h_34 a_38 x6)))]) (st2 := []) rfl ?_
    exact k
/-- DroneCorridorsModel.lands -/
theorem z214 {T N : Nat → Nat} {h : PH} {w : Nat} {x1 : Int} {K : PH → Prop} (t0 : T w = 12) (r1 : In x1) (k : (CV T N 169 [vr (some w), vi (J x1), vi (J 0), vi (J 0)] h (fun h_2 => (CV T N 169 [vr (some w), vi (J x1), vi (J 2), vi (J 0)] h_2 (fun h_5 => (K h_5)))))) : CV T N 214 [vr (some w), vi (J x1)] h K := by
  show WP T N 214 0 [some (vr (some w)), some (vi (J x1))] [] h _
  refine R_ps 4 (pc2 := 4) (L2 := [some (vr (some w)), some (vi (J x1))]) (st2 := [vi (J 0), vi (J 0), vi (J x1), vr (some w)]) rfl ?_
  refine R_cV (as := [vr (some w), vi (J x1), vi (J 0), vi (J 0)]) rfl rfl ⟨Nat.le_of_ble_eq_true rfl, Nat.le_of_ble_eq_true rfl, rfl, (Or.inr ⟨_, rfl, t0⟩)⟩ rfl rfl k (fun h_2 k => ?_)
  refine R_ps 4 (pc2 := 11) (L2 := [some (vr (some w)), some (vi (J x1))]) (st2 := [vi (J 0), vi (J 2), vi (J x1), vr (some w)]) rfl ?_
  refine R_cV (as := [vr (some w), vi (J x1), vi (J 2), vi (J 0)]) rfl rfl ⟨Nat.le_of_ble_eq_true rfl, Nat.le_of_ble_eq_true rfl, rfl, (Or.inr ⟨_, rfl, t0⟩)⟩ rfl rfl k (fun h_5 k => ?_)
  exact R_ret rfl rfl ⟨rfl, k⟩
/-- DroneCorridorsModel.plan -/
theorem z215 {T N : Nat → Nat} {h : PH} {w : Nat} {x1 : Int} {x2 : Int} {K : Int → PH → Prop} (t0 : T w = 12) (r1 : In x1) (r2 : In x2) (k : (ZI T N 164 [vr (some w), vi (J x1)] h (fun x_3 h_2 => (((x_3 = 0 → (∀ h_7, h_7 = wi h_2 w 0 1 → (((ai h_7 w 0) = 1 → (K 0 h_7)) ∧ (¬ ((ai h_7 w 0) = 1) → (ZI T N 206 [vr (some w), vi (J x1)] h_7 (fun x_13 h_12 => (((x_13 = 0 → (ZW T N 215 121 [some (vr (some w)), some (vi (J x1)), some (vi (J x2)), some (vi (J 1)), none] [] h_12 K)) ∧ (¬ (x_13 = 0) → (((x2 = (ai h_12 w 20) → (ZW T N 215 121 [some (vr (some w)), some (vi (J x1)), some (vi (J x2)), some (vi (J 0)), none] [] h_12 K)) ∧ (¬ (x2 = (ai h_12 w 20)) → (CV T N 182 [vr (some w)] h_12 (fun h_19 => (∃ a_23, (gr h_19 w 12) = some a_23 ∧ T a_23 = 22 ∧ (0 ≤ x2 ∧ x2 < (N a_23 : Int) ∧ x2 < 2147483648) ∧ (((ai h_19 a_23 x2) < 1000000 → (ZI T N 212 [vr (some w), vi (J x1), vi (J x2), vi (J 1), vi (J 1)] h_19 (fun x_30 h_29 => (((x_30 = 0 → (ZI T N 212 [vr (some w), vi (J x1), vi (J x2), vi (J 0), vi (J 0)] h_29 (fun x_35 h_34 => (((x_35 = 0 → (ZW T N 215 121 [some (vr (some w)), some (vi (J x1)), some (vi (J x2)), some (vi (J 3)), none] [] h_34 K)) ∧ (¬ (x_35 = 0) → (ZI T N 212 [vr (some w), vi (J x1), vi (J x2), vi (J 1), vi (J 0)] h_34 (fun x_40 h_39 => (((x_40 = 0 → (ZW T N 215 121 [some (vr (some w)), some (vi (J x1)), some (vi (J x2)), some (vi (J 4)), none] [] h_39 K)) ∧ (¬ (x_40 = 0) → (ZW T N 215 121 [some (vr (some w)), some (vi (J x1)), some (vi (J x2)), some (vi (J 5)), none] [] h_39 K)))))))))))) ∧ (¬ (x_30 = 0) → (ZW T N 215 121 [some (vr (some w)), some (vi (J x1)), some (vi (J x2)), some (vi (J 0)), none] [] h_29 K))))))) ∧ (¬ ((ai h_19 a_23 x2) < 1000000) → (ZW T N 215 121 [some (vr (some w)), some (vi (J x1)), some (vi (J x2)), some (vi (J 2)), none] [] h_19 K)))))))))))))))))) ∧ (¬ (x_3 = 0) → (ZI T N 162 [vr (some w), vi (J x2)] h_2 (fun x_46 h_45 => (((x_46 = 0 → (∀ h_50, h_50 = wi h_45 w 0 1 → (((ai h_50 w 0) = 1 → (K 0 h_50)) ∧ (¬ ((ai h_50 w 0) = 1) → (ZI T N 206 [vr (some w), vi (J x1)] h_50 (fun x_56 h_55 => (((x_56 = 0 → (ZW T N 215 121 [some (vr (some w)), some (vi (J x1)), some (vi (J x2)), some (vi (J 1)), none] [] h_55 K)) ∧ (¬ (x_56 = 0) → (((x2 = (ai h_55 w 20) → (ZW T N 215 121 [some (vr (some w)), some (vi (J x1)), some (vi (J x2)), some (vi (J 0)), none] [] h_55 K)) ∧ (¬ (x2 = (ai h_55 w 20)) → (CV T N 182 [vr (some w)] h_55 (fun h_62 => (∃ a_66, (gr h_62 w 12) = some a_66 ∧ T a_66 = 22 ∧ (0 ≤ x2 ∧ x2 < (N a_66 : Int) ∧ x2 < 2147483648) ∧ (((ai h_62 a_66 x2) < 1000000 → (ZI T N 212 [vr (some w), vi (J x1), vi (J x2), vi (J 1), vi (J 1)] h_62 (fun x_73 h_72 => (((x_73 = 0 → (ZI T N 212 [vr (some w), vi (J x1), vi (J x2), vi (J 0), vi (J 0)] h_72 (fun x_78 h_77 => (((x_78 = 0 → (ZW T N 215 121 [some (vr (some w)), some (vi (J x1)), some (vi (J x2)), some (vi (J 3)), none] [] h_77 K)) ∧ (¬ (x_78 = 0) → (ZI T N 212 [vr (some w), vi (J x1), vi (J x2), vi (J 1), vi (J 0)] h_77 (fun x_83 h_82 => (((x_83 = 0 → (ZW T N 215 121 [some (vr (some w)), some (vi (J x1)), some (vi (J x2)), some (vi (J 4)), none] [] h_82 K)) ∧ (¬ (x_83 = 0) → (ZW T N 215 121 [some (vr (some w)), some (vi (J x1)), some (vi (J x2)), some (vi (J 5)), none] [] h_82 K)))))))))))) ∧ (¬ (x_73 = 0) → (ZW T N 215 121 [some (vr (some w)), some (vi (J x1)), some (vi (J x2)), some (vi (J 0)), none] [] h_72 K))))))) ∧ (¬ ((ai h_62 a_66 x2) < 1000000) → (ZW T N 215 121 [some (vr (some w)), some (vi (J x1)), some (vi (J x2)), some (vi (J 2)), none] [] h_62 K)))))))))))))))))) ∧ (¬ (x_46 = 0) → (∀ h_88, h_88 = wi h_45 w 0 0 → (((ai h_88 w 0) = 1 → (K 0 h_88)) ∧ (¬ ((ai h_88 w 0) = 1) → (ZI T N 206 [vr (some w), vi (J x1)] h_88 (fun x_94 h_93 => (((x_94 = 0 → (ZW T N 215 121 [some (vr (some w)), some (vi (J x1)), some (vi (J x2)), some (vi (J 1)), none] [] h_93 K)) ∧ (¬ (x_94 = 0) → (((x2 = (ai h_93 w 20) → (ZW T N 215 121 [some (vr (some w)), some (vi (J x1)), some (vi (J x2)), some (vi (J 0)), none] [] h_93 K)) ∧ (¬ (x2 = (ai h_93 w 20)) → (CV T N 182 [vr (some w)] h_93 (fun h_100 => (∃ a_104, (gr h_100 w 12) = some a_104 ∧ T a_104 = 22 ∧ (0 ≤ x2 ∧ x2 < (N a_104 : Int) ∧ x2 < 2147483648) ∧ (((ai h_100 a_104 x2) < 1000000 → (ZI T N 212 [vr (some w), vi (J x1), vi (J x2), vi (J 1), vi (J 1)] h_100 (fun x_111 h_110 => (((x_111 = 0 → (ZI T N 212 [vr (some w), vi (J x1), vi (J x2), vi (J 0), vi (J 0)] h_110 (fun x_116 h_115 => (((x_116 = 0 → (ZW T N 215 121 [some (vr (some w)), some (vi (J x1)), some (vi (J x2)), some (vi (J 3)), none] [] h_115 K)) ∧ (¬ (x_116 = 0) → (ZI T N 212 [vr (some w), vi (J x1), vi (J x2), vi (J 1), vi (J 0)] h_115 (fun x_121 h_120 => (((x_121 = 0 → (ZW T N 215 121 [some (vr (some w)), some (vi (J x1)), some (vi (J x2)), some (vi (J 4)), none] [] h_120 K)) ∧ (¬ (x_121 = 0) → (ZW T N 215 121 [some (vr (some w)), some (vi (J x1)), some (vi (J x2)), some (vi (J 5)), none] [] h_120 K)))))))))))) ∧ (¬ (x_111 = 0) → (ZW T N 215 121 [some (vr (some w)), some (vi (J x1)), some (vi (J x2)), some (vi (J 0)), none] [] h_110 K))))))) ∧ (¬ ((ai h_100 a_104 x2) < 1000000) → (ZW T N 215 121 [some (vr (some w)), some (vi (J x1)), some (vi (J x2)), some (vi (J 2)), none] [] h_100 K)))))))))))))))))))))))))))) : ZI T N 215 [vr (some w), vi (J x1), vi (J x2)] h K := by
  show WP T N 215 0 [some (vr (some w)), some (vi (J x1)), some (vi (J x2)), none, none] [] h _
  refine R_ps 3 (pc2 := 3) (L2 := [some (vr (some w)), some (vi (J x1)), some (vi (J x2)), none, none]) (st2 := [vi (J x1), vr (some w), vr (some w)]) rfl ?_
  refine R_zcI (as := [vr (some w), vi (J x1)]) rfl rfl ⟨Nat.le_of_ble_eq_true rfl, Nat.le_of_ble_eq_true rfl, rfl, (Or.inr ⟨_, rfl, t0⟩)⟩ rfl rfl k (fun x_3 h_2 r_4 k => ?_)
  refine R_zif0 (x := x_3) rfl r_4 (fun c_5 => ?_) (fun c_5 => ?_)
  · have k := k.1 c_5
    refine R_ps 1 (pc2 := 22) (L2 := [some (vr (some w)), some (vi (J x1)), some (vi (J x2)), none, none]) (st2 := [vi (J 1), vr (some w)]) rfl ?_
    refine R_zputI (x := 1) (z := 0) rfl t0 rfl ?_
    show WP T N _ _ _ _ (wi h_2 w 0 1) _
    generalize e_8 : wi h_2 w 0 1 = h_7
    replace k := k h_7 e_8.symm
    refine R_ps 1 (pc2 := 26) (L2 := [some (vr (some w)), some (vi (J x1)), some (vi (J x2)), none, none]) (st2 := [vr (some w)]) rfl ?_
    refine R_zgetI (z := 0) rfl t0 rfl ?_
    refine R_ps 1 (pc2 := 30) (L2 := [some (vr (some w)), some (vi (J x1)), some (vi (J x2)), none, none]) (st2 := [vi (J 1), vi (J (ai h_7 w 0))]) rfl ?_
    refine R_zif (x := ai h_7 w 0) (z := 1) rfl (ai_in _ _ _) (by decide) (fun c_10 => ?_) (fun c_10 => ?_)
    · have k := k.2 c_10
      refine R_ps 4 (pc2 := 39) (L2 := [some (vr (some w)), some (vi (J x1)), some (vi (J x2)), some (vi (J 0)), none]) (st2 := [vi (J x1), vr (some w)]) rfl ?_
      refine R_zcI (as := [vr (some w), vi (J x1)]) rfl rfl ⟨Nat.le_of_ble_eq_true rfl, Nat.le_of_ble_eq_true rfl, rfl, (Or.inr ⟨_, rfl, t0⟩)⟩ rfl rfl k (fun x_13 h_12 r_14 k => ?_)
      refine R_zif0 (x := x_13) rfl r_14 (fun c_15 => ?_) (fun c_15 => ?_)
      · have k := k.2 c_15
        refine R_ps 2 (pc2 := 52) (L2 := [some (vr (some w)), some (vi (J x1)), some (vi (J x2)), some (vi (J 0)), none]) (st2 := [vr (some w), vi (J x2)]) rfl ?_
        refine R_zgetI (z := 20) rfl t0 rfl ?_
        refine R_zif (x := x2) (z := ai h_12 w 20) rfl r2 (ai_in _ _ _) (fun c_17 => ?_) (fun c_17 => ?_)
        · have k := k.1 c_17
          exact k
        · have k := k.2 c_17
          refine R_ps 1 (pc2 := 59) (L2 := [some (vr (some w)), some (vi (J x1)), some (vi (J x2)), some (vi (J 0)), none]) (st2 := [vr (some w)]) rfl ?_
          refine R_cV (as := [vr (some w)]) rfl rfl ⟨Nat.le_of_ble_eq_true rfl, Nat.le_of_ble_eq_true rfl, rfl, (Or.inr ⟨_, rfl, t0⟩)⟩ rfl rfl k (fun h_19 k => ?_)
          refine R_ps 1 (pc2 := 63) (L2 := [some (vr (some w)), some (vi (J x1)), some (vi (J x2)), some (vi (J 0)), none]) (st2 := [vr (some w)]) rfl ?_
          refine R_getR rfl t0 ?_
          refine R_ps 1 (pc2 := 67) (L2 := [some (vr (some w)), some (vi (J x1)), some (vi (J x2)), some (vi (J 0)), none]) (st2 := [vi (J x2), vr (gr h_19 w 12)]) rfl ?_
          obtain ⟨a_23, e_24, k⟩ := k
          rw [e_24]
          obtain ⟨t_25, k⟩ := k
          obtain ⟨t_26, k⟩ := k
          refine R_ziald (i := x2) rfl (Or.inl t_25) t_26 ?_
          refine R_ps 1 (pc2 := 70) (L2 := [some (vr (some w)), some (vi (J x1)), some (vi (J x2)), some (vi (J 0)), none]) (st2 := [vi (J 1000000), vi (J (ai h_19 a_23 x2))]) rfl ?_
          refine R_zif (x := ai h_19 a_23 x2) (z := 1000000) rfl (ai_in _ _ _) (by decide) (fun c_27 => ?_) (fun c_27 => ?_)
          · have k := k.1 c_27
            refine R_ps 5 (pc2 := 83) (L2 := [some (vr (some w)), some (vi (J x1)), some (vi (J x2)), some (vi (J 0)), none]) (st2 := [vi (J 1), vi (J 1), vi (J x2), vi (J x1), vr (some w)]) rfl ?_
            refine R_zcI (as := [vr (some w), vi (J x1), vi (J x2), vi (J 1), vi (J 1)]) rfl rfl ⟨Nat.le_of_ble_eq_true rfl, Nat.le_of_ble_eq_true rfl, rfl, (Or.inr ⟨_, rfl, t0⟩)⟩ rfl rfl k (fun x_30 h_29 r_31 k => ?_)
            refine R_zif0 (x := x_30) rfl r_31 (fun c_32 => ?_) (fun c_32 => ?_)
            · have k := k.2 c_32
              exact k
            · have k := k.1 (Classical.not_not.mp c_32)
              refine R_ps 5 (pc2 := 94) (L2 := [some (vr (some w)), some (vi (J x1)), some (vi (J x2)), some (vi (J 0)), none]) (st2 := [vi (J 0), vi (J 0), vi (J x2), vi (J x1), vr (some w)]) rfl ?_
              refine R_zcI (as := [vr (some w), vi (J x1), vi (J x2), vi (J 0), vi (J 0)]) rfl rfl ⟨Nat.le_of_ble_eq_true rfl, Nat.le_of_ble_eq_true rfl, rfl, (Or.inr ⟨_, rfl, t0⟩)⟩ rfl rfl k (fun x_35 h_34 r_36 k => ?_)
              refine R_zif0 (x := x_35) rfl r_36 (fun c_37 => ?_) (fun c_37 => ?_)
              · have k := k.2 c_37
                refine R_ps 5 (pc2 := 109) (L2 := [some (vr (some w)), some (vi (J x1)), some (vi (J x2)), some (vi (J 0)), none]) (st2 := [vi (J 0), vi (J 1), vi (J x2), vi (J x1), vr (some w)]) rfl ?_
                refine R_zcI (as := [vr (some w), vi (J x1), vi (J x2), vi (J 1), vi (J 0)]) rfl rfl ⟨Nat.le_of_ble_eq_true rfl, Nat.le_of_ble_eq_true rfl, rfl, (Or.inr ⟨_, rfl, t0⟩)⟩ rfl rfl k (fun x_40 h_39 r_41 k => ?_)
                refine R_zif0 (x := x_40) rfl r_41 (fun c_42 => ?_) (fun c_42 => ?_)
                · have k := k.2 c_42
                  refine R_ps 2 (pc2 := 121) (L2 := [some (vr (some w)), some (vi (J x1)), some (vi (J x2)), some (vi (J 5)), none]) (st2 := []) rfl ?_
                  exact k
                · have k := k.1 (Classical.not_not.mp c_42)
                  refine R_ps 3 (pc2 := 121) (L2 := [some (vr (some w)), some (vi (J x1)), some (vi (J x2)), some (vi (J 4)), none]) (st2 := []) rfl ?_
                  exact k
              · have k := k.1 (Classical.not_not.mp c_37)
                refine R_ps 3 (pc2 := 121) (L2 := [some (vr (some w)), some (vi (J x1)), some (vi (J x2)), some (vi (J 3)), none]) (st2 := []) rfl ?_
                exact k
          · have k := k.2 c_27
            refine R_ps 3 (pc2 := 121) (L2 := [some (vr (some w)), some (vi (J x1)), some (vi (J x2)), some (vi (J 2)), none]) (st2 := []) rfl ?_
            exact k
      · have k := k.1 (Classical.not_not.mp c_15)
        refine R_ps 3 (pc2 := 121) (L2 := [some (vr (some w)), some (vi (J x1)), some (vi (J x2)), some (vi (J 1)), none]) (st2 := []) rfl ?_
        exact k
    · have k := k.1 (Classical.not_not.mp c_10)
      refine R_ps 1 (pc2 := 34) (L2 := [some (vr (some w)), some (vi (J x1)), some (vi (J x2)), none, none]) (st2 := [vi (J 0)]) rfl ?_
      exact R_iret rfl rfl (R_zr (x := 0) (K := K) (by decide) k)
  · have k := k.2 c_5
    refine R_ps 2 (pc2 := 11) (L2 := [some (vr (some w)), some (vi (J x1)), some (vi (J x2)), none, none]) (st2 := [vi (J x2), vr (some w), vr (some w)]) rfl ?_
    refine R_zcI (as := [vr (some w), vi (J x2)]) rfl rfl ⟨Nat.le_of_ble_eq_true rfl, Nat.le_of_ble_eq_true rfl, rfl, (Or.inr ⟨_, rfl, t0⟩)⟩ rfl rfl k (fun x_46 h_45 r_47 k => ?_)
    refine R_zif0 (x := x_46) rfl r_47 (fun c_48 => ?_) (fun c_48 => ?_)
    · have k := k.1 c_48
      refine R_ps 1 (pc2 := 22) (L2 := [some (vr (some w)), some (vi (J x1)), some (vi (J x2)), none, none]) (st2 := [vi (J 1), vr (some w)]) rfl ?_
      refine R_zputI (x := 1) (z := 0) rfl t0 rfl ?_
      show WP T N _ _ _ _ (wi h_45 w 0 1) _
      generalize e_51 : wi h_45 w 0 1 = h_50
      replace k := k h_50 e_51.symm
      refine R_ps 1 (pc2 := 26) (L2 := [some (vr (some w)), some (vi (J x1)), some (vi (J x2)), none, none]) (st2 := [vr (some w)]) rfl ?_
      refine R_zgetI (z := 0) rfl t0 rfl ?_
      refine R_ps 1 (pc2 := 30) (L2 := [some (vr (some w)), some (vi (J x1)), some (vi (J x2)), none, none]) (st2 := [vi (J 1), vi (J (ai h_50 w 0))]) rfl ?_
      refine R_zif (x := ai h_50 w 0) (z := 1) rfl (ai_in _ _ _) (by decide) (fun c_53 => ?_) (fun c_53 => ?_)
      · have k := k.2 c_53
        refine R_ps 4 (pc2 := 39) (L2 := [some (vr (some w)), some (vi (J x1)), some (vi (J x2)), some (vi (J 0)), none]) (st2 := [vi (J x1), vr (some w)]) rfl ?_
        refine R_zcI (as := [vr (some w), vi (J x1)]) rfl rfl ⟨Nat.le_of_ble_eq_true rfl, Nat.le_of_ble_eq_true rfl, rfl, (Or.inr ⟨_, rfl, t0⟩)⟩ rfl rfl k (fun x_56 h_55 r_57 k => ?_)
        refine R_zif0 (x := x_56) rfl r_57 (fun c_58 => ?_) (fun c_58 => ?_)
        · have k := k.2 c_58
          refine R_ps 2 (pc2 := 52) (L2 := [some (vr (some w)), some (vi (J x1)), some (vi (J x2)), some (vi (J 0)), none]) (st2 := [vr (some w), vi (J x2)]) rfl ?_
          refine R_zgetI (z := 20) rfl t0 rfl ?_
          refine R_zif (x := x2) (z := ai h_55 w 20) rfl r2 (ai_in _ _ _) (fun c_60 => ?_) (fun c_60 => ?_)
          · have k := k.1 c_60
            exact k
          · have k := k.2 c_60
            refine R_ps 1 (pc2 := 59) (L2 := [some (vr (some w)), some (vi (J x1)), some (vi (J x2)), some (vi (J 0)), none]) (st2 := [vr (some w)]) rfl ?_
            refine R_cV (as := [vr (some w)]) rfl rfl ⟨Nat.le_of_ble_eq_true rfl, Nat.le_of_ble_eq_true rfl, rfl, (Or.inr ⟨_, rfl, t0⟩)⟩ rfl rfl k (fun h_62 k => ?_)
            refine R_ps 1 (pc2 := 63) (L2 := [some (vr (some w)), some (vi (J x1)), some (vi (J x2)), some (vi (J 0)), none]) (st2 := [vr (some w)]) rfl ?_
            refine R_getR rfl t0 ?_
            refine R_ps 1 (pc2 := 67) (L2 := [some (vr (some w)), some (vi (J x1)), some (vi (J x2)), some (vi (J 0)), none]) (st2 := [vi (J x2), vr (gr h_62 w 12)]) rfl ?_
            obtain ⟨a_66, e_67, k⟩ := k
            rw [e_67]
            obtain ⟨t_68, k⟩ := k
            obtain ⟨t_69, k⟩ := k
            refine R_ziald (i := x2) rfl (Or.inl t_68) t_69 ?_
            refine R_ps 1 (pc2 := 70) (L2 := [some (vr (some w)), some (vi (J x1)), some (vi (J x2)), some (vi (J 0)), none]) (st2 := [vi (J 1000000), vi (J (ai h_62 a_66 x2))]) rfl ?_
            refine R_zif (x := ai h_62 a_66 x2) (z := 1000000) rfl (ai_in _ _ _) (by decide) (fun c_70 => ?_) (fun c_70 => ?_)
            · have k := k.1 c_70
              refine R_ps 5 (pc2 := 83) (L2 := [some (vr (some w)), some (vi (J x1)), some (vi (J x2)), some (vi (J 0)), none]) (st2 := [vi (J 1), vi (J 1), vi (J x2), vi (J x1), vr (some w)]) rfl ?_
              refine R_zcI (as := [vr (some w), vi (J x1), vi (J x2), vi (J 1), vi (J 1)]) rfl rfl ⟨Nat.le_of_ble_eq_true rfl, Nat.le_of_ble_eq_true rfl, rfl, (Or.inr ⟨_, rfl, t0⟩)⟩ rfl rfl k (fun x_73 h_72 r_74 k => ?_)
              refine R_zif0 (x := x_73) rfl r_74 (fun c_75 => ?_) (fun c_75 => ?_)
              · have k := k.2 c_75
                exact k
              · have k := k.1 (Classical.not_not.mp c_75)
                refine R_ps 5 (pc2 := 94) (L2 := [some (vr (some w)), some (vi (J x1)), some (vi (J x2)), some (vi (J 0)), none]) (st2 := [vi (J 0), vi (J 0), vi (J x2), vi (J x1), vr (some w)]) rfl ?_
                refine R_zcI (as := [vr (some w), vi (J x1), vi (J x2), vi (J 0), vi (J 0)]) rfl rfl ⟨Nat.le_of_ble_eq_true rfl, Nat.le_of_ble_eq_true rfl, rfl, (Or.inr ⟨_, rfl, t0⟩)⟩ rfl rfl k (fun x_78 h_77 r_79 k => ?_)
                refine R_zif0 (x := x_78) rfl r_79 (fun c_80 => ?_) (fun c_80 => ?_)
                · have k := k.2 c_80
                  refine R_ps 5 (pc2 := 109) (L2 := [some (vr (some w)), some (vi (J x1)), some (vi (J x2)), some (vi (J 0)), none]) (st2 := [vi (J 0), vi (J 1), vi (J x2), vi (J x1), vr (some w)]) rfl ?_
                  refine R_zcI (as := [vr (some w), vi (J x1), vi (J x2), vi (J 1), vi (J 0)]) rfl rfl ⟨Nat.le_of_ble_eq_true rfl, Nat.le_of_ble_eq_true rfl, rfl, (Or.inr ⟨_, rfl, t0⟩)⟩ rfl rfl k (fun x_83 h_82 r_84 k => ?_)
                  refine R_zif0 (x := x_83) rfl r_84 (fun c_85 => ?_) (fun c_85 => ?_)
                  · have k := k.2 c_85
                    refine R_ps 2 (pc2 := 121) (L2 := [some (vr (some w)), some (vi (J x1)), some (vi (J x2)), some (vi (J 5)), none]) (st2 := []) rfl ?_
                    exact k
                  · have k := k.1 (Classical.not_not.mp c_85)
                    refine R_ps 3 (pc2 := 121) (L2 := [some (vr (some w)), some (vi (J x1)), some (vi (J x2)), some (vi (J 4)), none]) (st2 := []) rfl ?_
                    exact k
                · have k := k.1 (Classical.not_not.mp c_80)
                  refine R_ps 3 (pc2 := 121) (L2 := [some (vr (some w)), some (vi (J x1)), some (vi (J x2)), some (vi (J 3)), none]) (st2 := []) rfl ?_
                  exact k
            · have k := k.2 c_70
              refine R_ps 3 (pc2 := 121) (L2 := [some (vr (some w)), some (vi (J x1)), some (vi (J x2)), some (vi (J 2)), none]) (st2 := []) rfl ?_
              exact k
        · have k := k.1 (Classical.not_not.mp c_58)
          refine R_ps 3 (pc2 := 121) (L2 := [some (vr (some w)), some (vi (J x1)), some (vi (J x2)), some (vi (J 1)), none]) (st2 := []) rfl ?_
          exact k
      · have k := k.1 (Classical.not_not.mp c_53)
        refine R_ps 1 (pc2 := 34) (L2 := [some (vr (some w)), some (vi (J x1)), some (vi (J x2)), none, none]) (st2 := [vi (J 0)]) rfl ?_
        exact R_iret rfl rfl (R_zr (x := 0) (K := K) (by decide) k)
    · have k := k.2 c_48
      refine R_ps 2 (pc2 := 22) (L2 := [some (vr (some w)), some (vi (J x1)), some (vi (J x2)), none, none]) (st2 := [vi (J 0), vr (some w)]) rfl ?_
      refine R_zputI (x := 0) (z := 0) rfl t0 rfl ?_
      show WP T N _ _ _ _ (wi h_45 w 0 0) _
      generalize e_89 : wi h_45 w 0 0 = h_88
      replace k := k h_88 e_89.symm
      refine R_ps 1 (pc2 := 26) (L2 := [some (vr (some w)), some (vi (J x1)), some (vi (J x2)), none, none]) (st2 := [vr (some w)]) rfl ?_
      refine R_zgetI (z := 0) rfl t0 rfl ?_
      refine R_ps 1 (pc2 := 30) (L2 := [some (vr (some w)), some (vi (J x1)), some (vi (J x2)), none, none]) (st2 := [vi (J 1), vi (J (ai h_88 w 0))]) rfl ?_
      refine R_zif (x := ai h_88 w 0) (z := 1) rfl (ai_in _ _ _) (by decide) (fun c_91 => ?_) (fun c_91 => ?_)
      · have k := k.2 c_91
        refine R_ps 4 (pc2 := 39) (L2 := [some (vr (some w)), some (vi (J x1)), some (vi (J x2)), some (vi (J 0)), none]) (st2 := [vi (J x1), vr (some w)]) rfl ?_
        refine R_zcI (as := [vr (some w), vi (J x1)]) rfl rfl ⟨Nat.le_of_ble_eq_true rfl, Nat.le_of_ble_eq_true rfl, rfl, (Or.inr ⟨_, rfl, t0⟩)⟩ rfl rfl k (fun x_94 h_93 r_95 k => ?_)
        refine R_zif0 (x := x_94) rfl r_95 (fun c_96 => ?_) (fun c_96 => ?_)
        · have k := k.2 c_96
          refine R_ps 2 (pc2 := 52) (L2 := [some (vr (some w)), some (vi (J x1)), some (vi (J x2)), some (vi (J 0)), none]) (st2 := [vr (some w), vi (J x2)]) rfl ?_
          refine R_zgetI (z := 20) rfl t0 rfl ?_
          refine R_zif (x := x2) (z := ai h_93 w 20) rfl r2 (ai_in _ _ _) (fun c_98 => ?_) (fun c_98 => ?_)
          · have k := k.1 c_98
            exact k
          · have k := k.2 c_98
            refine R_ps 1 (pc2 := 59) (L2 := [some (vr (some w)), some (vi (J x1)), some (vi (J x2)), some (vi (J 0)), none]) (st2 := [vr (some w)]) rfl ?_
            refine R_cV (as := [vr (some w)]) rfl rfl ⟨Nat.le_of_ble_eq_true rfl, Nat.le_of_ble_eq_true rfl, rfl, (Or.inr ⟨_, rfl, t0⟩)⟩ rfl rfl k (fun h_100 k => ?_)
            refine R_ps 1 (pc2 := 63) (L2 := [some (vr (some w)), some (vi (J x1)), some (vi (J x2)), some (vi (J 0)), none]) (st2 := [vr (some w)]) rfl ?_
            refine R_getR rfl t0 ?_
            refine R_ps 1 (pc2 := 67) (L2 := [some (vr (some w)), some (vi (J x1)), some (vi (J x2)), some (vi (J 0)), none]) (st2 := [vi (J x2), vr (gr h_100 w 12)]) rfl ?_
            obtain ⟨a_104, e_105, k⟩ := k
            rw [e_105]
            obtain ⟨t_106, k⟩ := k
            obtain ⟨t_107, k⟩ := k
            refine R_ziald (i := x2) rfl (Or.inl t_106) t_107 ?_
            refine R_ps 1 (pc2 := 70) (L2 := [some (vr (some w)), some (vi (J x1)), some (vi (J x2)), some (vi (J 0)), none]) (st2 := [vi (J 1000000), vi (J (ai h_100 a_104 x2))]) rfl ?_
            refine R_zif (x := ai h_100 a_104 x2) (z := 1000000) rfl (ai_in _ _ _) (by decide) (fun c_108 => ?_) (fun c_108 => ?_)
            · have k := k.1 c_108
              refine R_ps 5 (pc2 := 83) (L2 := [some (vr (some w)), some (vi (J x1)), some (vi (J x2)), some (vi (J 0)), none]) (st2 := [vi (J 1), vi (J 1), vi (J x2), vi (J x1), vr (some w)]) rfl ?_
              refine R_zcI (as := [vr (some w), vi (J x1), vi (J x2), vi (J 1), vi (J 1)]) rfl rfl ⟨Nat.le_of_ble_eq_true rfl, Nat.le_of_ble_eq_true rfl, rfl, (Or.inr ⟨_, rfl, t0⟩)⟩ rfl rfl k (fun x_111 h_110 r_112 k => ?_)
              refine R_zif0 (x := x_111) rfl r_112 (fun c_113 => ?_) (fun c_113 => ?_)
              · have k := k.2 c_113
                exact k
              · have k := k.1 (Classical.not_not.mp c_113)
                refine R_ps 5 (pc2 := 94) (L2 := [some (vr (some w)), some (vi (J x1)), some (vi (J x2)), some (vi (J 0)), none]) (st2 := [vi (J 0), vi (J 0), vi (J x2), vi (J x1), vr (some w)]) rfl ?_
                refine R_zcI (as := [vr (some w), vi (J x1), vi (J x2), vi (J 0), vi (J 0)]) rfl rfl ⟨Nat.le_of_ble_eq_true rfl, Nat.le_of_ble_eq_true rfl, rfl, (Or.inr ⟨_, rfl, t0⟩)⟩ rfl rfl k (fun x_116 h_115 r_117 k => ?_)
                refine R_zif0 (x := x_116) rfl r_117 (fun c_118 => ?_) (fun c_118 => ?_)
                · have k := k.2 c_118
                  refine R_ps 5 (pc2 := 109) (L2 := [some (vr (some w)), some (vi (J x1)), some (vi (J x2)), some (vi (J 0)), none]) (st2 := [vi (J 0), vi (J 1), vi (J x2), vi (J x1), vr (some w)]) rfl ?_
                  refine R_zcI (as := [vr (some w), vi (J x1), vi (J x2), vi (J 1), vi (J 0)]) rfl rfl ⟨Nat.le_of_ble_eq_true rfl, Nat.le_of_ble_eq_true rfl, rfl, (Or.inr ⟨_, rfl, t0⟩)⟩ rfl rfl k (fun x_121 h_120 r_122 k => ?_)
                  refine R_zif0 (x := x_121) rfl r_122 (fun c_123 => ?_) (fun c_123 => ?_)
                  · have k := k.2 c_123
                    refine R_ps 2 (pc2 := 121) (L2 := [some (vr (some w)), some (vi (J x1)), some (vi (J x2)), some (vi (J 5)), none]) (st2 := []) rfl ?_
                    exact k
                  · have k := k.1 (Classical.not_not.mp c_123)
                    refine R_ps 3 (pc2 := 121) (L2 := [some (vr (some w)), some (vi (J x1)), some (vi (J x2)), some (vi (J 4)), none]) (st2 := []) rfl ?_
                    exact k
                · have k := k.1 (Classical.not_not.mp c_118)
                  refine R_ps 3 (pc2 := 121) (L2 := [some (vr (some w)), some (vi (J x1)), some (vi (J x2)), some (vi (J 3)), none]) (st2 := []) rfl ?_
                  exact k
            · have k := k.2 c_108
              refine R_ps 3 (pc2 := 121) (L2 := [some (vr (some w)), some (vi (J x1)), some (vi (J x2)), some (vi (J 2)), none]) (st2 := []) rfl ?_
              exact k
        · have k := k.1 (Classical.not_not.mp c_96)
          refine R_ps 3 (pc2 := 121) (L2 := [some (vr (some w)), some (vi (J x1)), some (vi (J x2)), some (vi (J 1)), none]) (st2 := []) rfl ?_
          exact k
      · have k := k.1 (Classical.not_not.mp c_91)
        refine R_ps 1 (pc2 := 34) (L2 := [some (vr (some w)), some (vi (J x1)), some (vi (J x2)), none, none]) (st2 := [vi (J 0)]) rfl ?_
        exact R_iret rfl rfl (R_zr (x := 0) (K := K) (by decide) k)
theorem z215_121 {T N : Nat → Nat} {h : PH} {w : Nat} {x1 : Int} {x2 : Int} {x3 : Int} {K : Int → PH → Prop} (t0 : T w = 12) (r1 : In x1) (r2 : In x2) (r3 : In x3) (k : (((0 < x3 → (∀ h_18, h_18 = wi h w 7 x3 → ZI T N 157 [vr (some w), vi (J 2)] h_18 (fun x_22 h_21 => (K x_22 h_21)))) ∧ (¬ (0 < x3) → (CV T N 160 [vr (some w)] h (fun h_3 => (CV T N 208 [vr (some w), vi (J x1), vi (J 1), vi (J 1)] h_3 (fun h_6 => (ZI T N 210 [vr (some w), vi (J x2)] h_6 (fun x_10 h_9 => (CV T N 213 [vr (some w), vi (J x1), vi (J x_10), vi (J x2)] h_9 (fun h_13 => (K (ai h_13 w 21) h_13))))))))))))) : ZW T N 215 121 [some (vr (some w)), some (vi (J x1)), some (vi (J x2)), some (vi (J x3)), none] [] h K := by
  show WP T N 215 121 [some (vr (some w)), some (vi (J x1)), some (vi (J x2)), some (vi (J x3)), none] [] h _
  refine R_ps 1 (pc2 := 122) (L2 := [some (vr (some w)), some (vi (J x1)), some (vi (J x2)), some (vi (J x3)), none]) (st2 := [vi (J x3)]) rfl ?_
  refine R_zif0 (x := x3) rfl r3 (fun c_1 => ?_) (fun c_1 => ?_)
  · have k := k.2 c_1
    refine R_ps 1 (pc2 := 137) (L2 := [some (vr (some w)), some (vi (J x1)), some (vi (J x2)), some (vi (J x3)), none]) (st2 := [vr (some w)]) rfl ?_
    refine R_cV (as := [vr (some w)]) rfl rfl ⟨Nat.le_of_ble_eq_true rfl, Nat.le_of_ble_eq_true rfl, rfl, (Or.inr ⟨_, rfl, t0⟩)⟩ rfl rfl k (fun h_3 k => ?_)
    refine R_ps 4 (pc2 := 144) (L2 := [some (vr (some w)), some (vi (J x1)), some (vi (J x2)), some (vi (J x3)), none]) (st2 := [vi (J 1), vi (J 1), vi (J x1), vr (some w)]) rfl ?_
    refine R_cV (as := [vr (some w), vi (J x1), vi (J 1), vi (J 1)]) rfl rfl ⟨Nat.le_of_ble_eq_true rfl, Nat.le_of_ble_eq_true rfl, rfl, (Or.inr ⟨_, rfl, t0⟩)⟩ rfl rfl k (fun h_6 k => ?_)
    refine R_ps 2 (pc2 := 149) (L2 := [some (vr (some w)), some (vi (J x1)), some (vi (J x2)), some (vi (J x3)), none]) (st2 := [vi (J x2), vr (some w)]) rfl ?_
    refine R_zcI (as := [vr (some w), vi (J x2)]) rfl rfl ⟨Nat.le_of_ble_eq_true rfl, Nat.le_of_ble_eq_true rfl, rfl, (Or.inr ⟨_, rfl, t0⟩)⟩ rfl rfl k (fun x_10 h_9 r_11 k => ?_)
    refine R_ps 5 (pc2 := 159) (L2 := [some (vr (some w)), some (vi (J x1)), some (vi (J x2)), some (vi (J x3)), some (vi (J x_10))]) (st2 := [vi (J x2), vi (J x_10), vi (J x1), vr (some w)]) rfl ?_
    refine R_cV (as := [vr (some w), vi (J x1), vi (J x_10), vi (J x2)]) rfl rfl ⟨Nat.le_of_ble_eq_true rfl, Nat.le_of_ble_eq_true rfl, rfl, (Or.inr ⟨_, rfl, t0⟩)⟩ rfl rfl k (fun h_13 k => ?_)
    refine R_ps 1 (pc2 := 163) (L2 := [some (vr (some w)), some (vi (J x1)), some (vi (J x2)), some (vi (J x3)), some (vi (J x_10))]) (st2 := [vr (some w)]) rfl ?_
    refine R_zgetI (z := 21) rfl t0 rfl ?_
    exact R_iret rfl rfl (R_zr (x := ai h_13 w 21) (K := K) (ai_in _ _ _) k)
  · have k := k.1 (Classical.not_not.mp c_1)
    refine R_ps 2 (pc2 := 127) (L2 := [some (vr (some w)), some (vi (J x1)), some (vi (J x2)), some (vi (J x3)), none]) (st2 := [vi (J x3), vr (some w)]) rfl ?_
    refine R_zputI (x := x3) (z := 7) rfl t0 rfl ?_
    show WP T N _ _ _ _ (wi h w 7 x3) _
    generalize e_19 : wi h w 7 x3 = h_18
    replace k := k h_18 e_19.symm
    refine R_ps 2 (pc2 := 132) (L2 := [some (vr (some w)), some (vi (J x1)), some (vi (J x2)), some (vi (J x3)), none]) (st2 := [vi (J 2), vr (some w)]) rfl ?_
    refine R_zcI (as := [vr (some w), vi (J 2)]) rfl rfl ⟨Nat.le_of_ble_eq_true rfl, Nat.le_of_ble_eq_true rfl, rfl, (Or.inr ⟨_, rfl, t0⟩)⟩ rfl rfl k (fun x_22 h_21 r_23 k => ?_)
    exact R_iret rfl rfl (R_zr (x := x_22) (K := K) r_23 k)
/-- DroneCorridorsModel.isPlanned -/
theorem z216 {T N : Nat → Nat} {h : PH} {w : Nat} {x1 : Int} {x2 : Int} {K : Int → PH → Prop} (t0 : T w = 12) (r1 : In x1) (r2 : In x2) (k : (ZI T N 164 [vr (some w), vi (J x1)] h (fun x_3 h_2 => (((x_3 = 0 → (∀ h_7, h_7 = wi h_2 w 0 1 → (((ai h_7 w 0) = 1 → (K 0 h_7)) ∧ (¬ ((ai h_7 w 0) = 1) → (ZI T N 206 [vr (some w), vi (J x1)] h_7 (fun x_13 h_12 => (((x_13 = 0 → (ZW T N 216 58 [some (vr (some w)), none, none, none] [] h_12 K)) ∧ (¬ (x_13 = 0) → (ZI T N 212 [vr (some w), vi (J x1), vi (J x2), vi (J 1), vi (J 1)] h_12 (fun x_18 h_17 => (((x_18 = 0 → (ZW T N 216 58 [some (vr (some w)), none, none, none] [] h_17 K)) ∧ (¬ (x_18 = 0) → (∀ h_23, h_23 = wi h_17 w 0 0 → K 1 h_23))))))))))))))) ∧ (¬ (x_3 = 0) → (ZI T N 162 [vr (some w), vi (J x2)] h_2 (fun x_29 h_28 => (((x_29 = 0 → (∀ h_33, h_33 = wi h_28 w 0 1 → (((ai h_33 w 0) = 1 → (K 0 h_33)) ∧ (¬ ((ai h_33 w 0) = 1) → (ZI T N 206 [vr (some w), vi (J x1)] h_33 (fun x_39 h_38 => (((x_39 = 0 → (ZW T N 216 58 [some (vr (some w)), none, none, none] [] h_38 K)) ∧ (¬ (x_39 = 0) → (ZI T N 212 [vr (some w), vi (J x1), vi (J x2), vi (J 1), vi (J 1)] h_38 (fun x_44 h_43 => (((x_44 = 0 → (ZW T N 216 58 [some (vr (some w)), none, none, none] [] h_43 K)) ∧ (¬ (x_44 = 0) → (∀ h_49, h_49 = wi h_43 w 0 0 → K 1 h_49))))))))))))))) ∧ (¬ (x_29 = 0) → (∀ h_54, h_54 = wi h_28 w 0 0 → (((ai h_54 w 0) = 1 → (K 0 h_54)) ∧ (¬ ((ai h_54 w 0) = 1) → (ZI T N 206 [vr (some w), vi (J x1)] h_54 (fun x_60 h_59 => (((x_60 = 0 → (ZW T N 216 58 [some (vr (some w)), none, none, none] [] h_59 K)) ∧ (¬ (x_60 = 0) → (ZI T N 212 [vr (some w), vi (J x1), vi (J x2), vi (J 1), vi (J 1)] h_59 (fun x_65 h_64 => (((x_65 = 0 → (ZW T N 216 58 [some (vr (some w)), none, none, none] [] h_64 K)) ∧ (¬ (x_65 = 0) → (∀ h_70, h_70 = wi h_64 w 0 0 → K 1 h_70))))))))))))))))))))))))) : ZI T N 216 [vr (some w), vi (J x1), vi (J x2)] h K := by
  show WP T N 216 0 [some (vr (some w)), some (vi (J x1)), some (vi (J x2)), none] [] h _
  refine R_ps 3 (pc2 := 3) (L2 := [some (vr (some w)), some (vi (J x1)), some (vi (J x2)), none]) (st2 := [vi (J x1), vr (some w), vr (some w)]) rfl ?_
  refine R_zcI (as := [vr (some w), vi (J x1)]) rfl rfl ⟨Nat.le_of_ble_eq_true rfl, Nat.le_of_ble_eq_true rfl, rfl, (Or.inr ⟨_, rfl, t0⟩)⟩ rfl rfl k (fun x_3 h_2 r_4 k => ?_)
  refine R_zif0 (x := x_3) rfl r_4 (fun c_5 => ?_) (fun c_5 => ?_)
  · have k := k.1 c_5
    refine R_ps 1 (pc2 := 22) (L2 := [some (vr (some w)), some (vi (J x1)), some (vi (J x2)), none]) (st2 := [vi (J 1), vr (some w)]) rfl ?_
    refine R_zputI (x := 1) (z := 0) rfl t0 rfl ?_
    show WP T N _ _ _ _ (wi h_2 w 0 1) _
    generalize e_8 : wi h_2 w 0 1 = h_7
    replace k := k h_7 e_8.symm
    refine R_ps 1 (pc2 := 26) (L2 := [some (vr (some w)), some (vi (J x1)), some (vi (J x2)), none]) (st2 := [vr (some w)]) rfl ?_
    refine R_zgetI (z := 0) rfl t0 rfl ?_
    refine R_ps 1 (pc2 := 30) (L2 := [some (vr (some w)), some (vi (J x1)), some (vi (J x2)), none]) (st2 := [vi (J 1), vi (J (ai h_7 w 0))]) rfl ?_
    refine R_zif (x := ai h_7 w 0) (z := 1) rfl (ai_in _ _ _) (by decide) (fun c_10 => ?_) (fun c_10 => ?_)
    · have k := k.2 c_10
      refine R_ps 2 (pc2 := 37) (L2 := [some (vr (some w)), some (vi (J x1)), some (vi (J x2)), none]) (st2 := [vi (J x1), vr (some w)]) rfl ?_
      refine R_zcI (as := [vr (some w), vi (J x1)]) rfl rfl ⟨Nat.le_of_ble_eq_true rfl, Nat.le_of_ble_eq_true rfl, rfl, (Or.inr ⟨_, rfl, t0⟩)⟩ rfl rfl k (fun x_13 h_12 r_14 k => ?_)
      refine R_zif0 (x := x_13) rfl r_14 (fun c_15 => ?_) (fun c_15 => ?_)
      · have k := k.1 c_15
        exact R_drop k (LE_of (L := [some (vr (some w)), none, none, none]) (L2 := [some (vr (some w)), some (vi (J x1)), some (vi (J x2)), none]) ⟨rfl, trivial⟩)
      · have k := k.2 c_15
        refine R_ps 5 (pc2 := 48) (L2 := [some (vr (some w)), some (vi (J x1)), some (vi (J x2)), none]) (st2 := [vi (J 1), vi (J 1), vi (J x2), vi (J x1), vr (some w)]) rfl ?_
        refine R_zcI (as := [vr (some w), vi (J x1), vi (J x2), vi (J 1), vi (J 1)]) rfl rfl ⟨Nat.le_of_ble_eq_true rfl, Nat.le_of_ble_eq_true rfl, rfl, (Or.inr ⟨_, rfl, t0⟩)⟩ rfl rfl k (fun x_18 h_17 r_19 k => ?_)
        refine R_zif0 (x := x_18) rfl r_19 (fun c_20 => ?_) (fun c_20 => ?_)
        · have k := k.1 c_20
          exact R_drop k (LE_of (L := [some (vr (some w)), none, none, none]) (L2 := [some (vr (some w)), some (vi (J x1)), some (vi (J x2)), none]) ⟨rfl, trivial⟩)
        · have k := k.2 c_20
          refine R_ps 5 (pc2 := 62) (L2 := [some (vr (some w)), some (vi (J x1)), some (vi (J x2)), some (vi (J 1))]) (st2 := [vi (J 1), vr (some w)]) rfl ?_
          refine R_zif0 (x := 1) rfl (by decide) (fun c_21 => absurd (show (1 : Int) = (0 : Int) from c_21) (by decide)) (fun _ => ?_)
          refine R_ps 2 (pc2 := 70) (L2 := [some (vr (some w)), some (vi (J x1)), some (vi (J x2)), some (vi (J 1))]) (st2 := [vi (J 0), vr (some w)]) rfl ?_
          refine R_zputI (x := 0) (z := 0) rfl t0 rfl ?_
          show WP T N _ _ _ _ (wi h_17 w 0 0) _
          generalize e_24 : wi h_17 w 0 0 = h_23
          replace k := k h_23 e_24.symm
          refine R_ps 1 (pc2 := 74) (L2 := [some (vr (some w)), some (vi (J x1)), some (vi (J x2)), some (vi (J 1))]) (st2 := [vi (J 1)]) rfl ?_
          exact R_zzret (x := 1) rfl rfl (Or.inr rfl) (R_zr (x := 1) (K := K) (by decide) k)
    · have k := k.1 (Classical.not_not.mp c_10)
      refine R_ps 1 (pc2 := 34) (L2 := [some (vr (some w)), some (vi (J x1)), some (vi (J x2)), none]) (st2 := [vi (J 0)]) rfl ?_
      exact R_zzret (x := 0) rfl rfl (Or.inl rfl) (R_zr (x := 0) (K := K) (by decide) k)
  · have k := k.2 c_5
    refine R_ps 2 (pc2 := 11) (L2 := [some (vr (some w)), some (vi (J x1)), some (vi (J x2)), none]) (st2 := [vi (J x2), vr (some w), vr (some w)]) rfl ?_
    refine R_zcI (as := [vr (some w), vi (J x2)]) rfl rfl ⟨Nat.le_of_ble_eq_true rfl, Nat.le_of_ble_eq_true rfl, rfl, (Or.inr ⟨_, rfl, t0⟩)⟩ rfl rfl k (fun x_29 h_28 r_30 k => ?_)
    refine R_zif0 (x := x_29) rfl r_30 (fun c_31 => ?_) (fun c_31 => ?_)
    · have k := k.1 c_31
      refine R_ps 1 (pc2 := 22) (L2 := [some (vr (some w)), some (vi (J x1)), some (vi (J x2)), none]) (st2 := [vi (J 1), vr (some w)]) rfl ?_
      refine R_zputI (x := 1) (z := 0) rfl t0 rfl ?_
      show WP T N _ _ _ _ (wi h_28 w 0 1) _
      generalize e_34 : wi h_28 w 0 1 = h_33
      replace k := k h_33 e_34.symm
      refine R_ps 1 (pc2 := 26) (L2 := [some (vr (some w)), some (vi (J x1)), some (vi (J x2)), none]) (st2 := [vr (some w)]) rfl ?_
      refine R_zgetI (z := 0) rfl t0 rfl ?_
      refine R_ps 1 (pc2 := 30) (L2 := [some (vr (some w)), some (vi (J x1)), some (vi (J x2)), none]) (st2 := [vi (J 1), vi (J (ai h_33 w 0))]) rfl ?_
      refine R_zif (x := ai h_33 w 0) (z := 1) rfl (ai_in _ _ _) (by decide) (fun c_36 => ?_) (fun c_36 => ?_)
      · have k := k.2 c_36
        refine R_ps 2 (pc2 := 37) (L2 := [some (vr (some w)), some (vi (J x1)), some (vi (J x2)), none]) (st2 := [vi (J x1), vr (some w)]) rfl ?_
        refine R_zcI (as := [vr (some w), vi (J x1)]) rfl rfl ⟨Nat.le_of_ble_eq_true rfl, Nat.le_of_ble_eq_true rfl, rfl, (Or.inr ⟨_, rfl, t0⟩)⟩ rfl rfl k (fun x_39 h_38 r_40 k => ?_)
        refine R_zif0 (x := x_39) rfl r_40 (fun c_41 => ?_) (fun c_41 => ?_)
        · have k := k.1 c_41
          exact R_drop k (LE_of (L := [some (vr (some w)), none, none, none]) (L2 := [some (vr (some w)), some (vi (J x1)), some (vi (J x2)), none]) ⟨rfl, trivial⟩)
        · have k := k.2 c_41
          refine R_ps 5 (pc2 := 48) (L2 := [some (vr (some w)), some (vi (J x1)), some (vi (J x2)), none]) (st2 := [vi (J 1), vi (J 1), vi (J x2), vi (J x1), vr (some w)]) rfl ?_
          refine R_zcI (as := [vr (some w), vi (J x1), vi (J x2), vi (J 1), vi (J 1)]) rfl rfl ⟨Nat.le_of_ble_eq_true rfl, Nat.le_of_ble_eq_true rfl, rfl, (Or.inr ⟨_, rfl, t0⟩)⟩ rfl rfl k (fun x_44 h_43 r_45 k => ?_)
          refine R_zif0 (x := x_44) rfl r_45 (fun c_46 => ?_) (fun c_46 => ?_)
          · have k := k.1 c_46
            exact R_drop k (LE_of (L := [some (vr (some w)), none, none, none]) (L2 := [some (vr (some w)), some (vi (J x1)), some (vi (J x2)), none]) ⟨rfl, trivial⟩)
          · have k := k.2 c_46
            refine R_ps 5 (pc2 := 62) (L2 := [some (vr (some w)), some (vi (J x1)), some (vi (J x2)), some (vi (J 1))]) (st2 := [vi (J 1), vr (some w)]) rfl ?_
            refine R_zif0 (x := 1) rfl (by decide) (fun c_47 => absurd (show (1 : Int) = (0 : Int) from c_47) (by decide)) (fun _ => ?_)
            refine R_ps 2 (pc2 := 70) (L2 := [some (vr (some w)), some (vi (J x1)), some (vi (J x2)), some (vi (J 1))]) (st2 := [vi (J 0), vr (some w)]) rfl ?_
            refine R_zputI (x := 0) (z := 0) rfl t0 rfl ?_
            show WP T N _ _ _ _ (wi h_43 w 0 0) _
            generalize e_50 : wi h_43 w 0 0 = h_49
            replace k := k h_49 e_50.symm
            refine R_ps 1 (pc2 := 74) (L2 := [some (vr (some w)), some (vi (J x1)), some (vi (J x2)), some (vi (J 1))]) (st2 := [vi (J 1)]) rfl ?_
            exact R_zzret (x := 1) rfl rfl (Or.inr rfl) (R_zr (x := 1) (K := K) (by decide) k)
      · have k := k.1 (Classical.not_not.mp c_36)
        refine R_ps 1 (pc2 := 34) (L2 := [some (vr (some w)), some (vi (J x1)), some (vi (J x2)), none]) (st2 := [vi (J 0)]) rfl ?_
        exact R_zzret (x := 0) rfl rfl (Or.inl rfl) (R_zr (x := 0) (K := K) (by decide) k)
    · have k := k.2 c_31
      refine R_ps 2 (pc2 := 22) (L2 := [some (vr (some w)), some (vi (J x1)), some (vi (J x2)), none]) (st2 := [vi (J 0), vr (some w)]) rfl ?_
      refine R_zputI (x := 0) (z := 0) rfl t0 rfl ?_
      show WP T N _ _ _ _ (wi h_28 w 0 0) _
      generalize e_55 : wi h_28 w 0 0 = h_54
      replace k := k h_54 e_55.symm
      refine R_ps 1 (pc2 := 26) (L2 := [some (vr (some w)), some (vi (J x1)), some (vi (J x2)), none]) (st2 := [vr (some w)]) rfl ?_
      refine R_zgetI (z := 0) rfl t0 rfl ?_
      refine R_ps 1 (pc2 := 30) (L2 := [some (vr (some w)), some (vi (J x1)), some (vi (J x2)), none]) (st2 := [vi (J 1), vi (J (ai h_54 w 0))]) rfl ?_
      refine R_zif (x := ai h_54 w 0) (z := 1) rfl (ai_in _ _ _) (by decide) (fun c_57 => ?_) (fun c_57 => ?_)
      · have k := k.2 c_57
        refine R_ps 2 (pc2 := 37) (L2 := [some (vr (some w)), some (vi (J x1)), some (vi (J x2)), none]) (st2 := [vi (J x1), vr (some w)]) rfl ?_
        refine R_zcI (as := [vr (some w), vi (J x1)]) rfl rfl ⟨Nat.le_of_ble_eq_true rfl, Nat.le_of_ble_eq_true rfl, rfl, (Or.inr ⟨_, rfl, t0⟩)⟩ rfl rfl k (fun x_60 h_59 r_61 k => ?_)
        refine R_zif0 (x := x_60) rfl r_61 (fun c_62 => ?_) (fun c_62 => ?_)
        · have k := k.1 c_62
          exact R_drop k (LE_of (L := [some (vr (some w)), none, none, none]) (L2 := [some (vr (some w)), some (vi (J x1)), some (vi (J x2)), none]) ⟨rfl, trivial⟩)
        · have k := k.2 c_62
          refine R_ps 5 (pc2 := 48) (L2 := [some (vr (some w)), some (vi (J x1)), some (vi (J x2)), none]) (st2 := [vi (J 1), vi (J 1), vi (J x2), vi (J x1), vr (some w)]) rfl ?_
          refine R_zcI (as := [vr (some w), vi (J x1), vi (J x2), vi (J 1), vi (J 1)]) rfl rfl ⟨Nat.le_of_ble_eq_true rfl, Nat.le_of_ble_eq_true rfl, rfl, (Or.inr ⟨_, rfl, t0⟩)⟩ rfl rfl k (fun x_65 h_64 r_66 k => ?_)
          refine R_zif0 (x := x_65) rfl r_66 (fun c_67 => ?_) (fun c_67 => ?_)
          · have k := k.1 c_67
            exact R_drop k (LE_of (L := [some (vr (some w)), none, none, none]) (L2 := [some (vr (some w)), some (vi (J x1)), some (vi (J x2)), none]) ⟨rfl, trivial⟩)
          · have k := k.2 c_67
            refine R_ps 5 (pc2 := 62) (L2 := [some (vr (some w)), some (vi (J x1)), some (vi (J x2)), some (vi (J 1))]) (st2 := [vi (J 1), vr (some w)]) rfl ?_
            refine R_zif0 (x := 1) rfl (by decide) (fun c_68 => absurd (show (1 : Int) = (0 : Int) from c_68) (by decide)) (fun _ => ?_)
            refine R_ps 2 (pc2 := 70) (L2 := [some (vr (some w)), some (vi (J x1)), some (vi (J x2)), some (vi (J 1))]) (st2 := [vi (J 0), vr (some w)]) rfl ?_
            refine R_zputI (x := 0) (z := 0) rfl t0 rfl ?_
            show WP T N _ _ _ _ (wi h_64 w 0 0) _
            generalize e_71 : wi h_64 w 0 0 = h_70
            replace k := k h_70 e_71.symm
            refine R_ps 1 (pc2 := 74) (L2 := [some (vr (some w)), some (vi (J x1)), some (vi (J x2)), some (vi (J 1))]) (st2 := [vi (J 1)]) rfl ?_
            exact R_zzret (x := 1) rfl rfl (Or.inr rfl) (R_zr (x := 1) (K := K) (by decide) k)
      · have k := k.1 (Classical.not_not.mp c_57)
        refine R_ps 1 (pc2 := 34) (L2 := [some (vr (some w)), some (vi (J x1)), some (vi (J x2)), none]) (st2 := [vi (J 0)]) rfl ?_
        exact R_zzret (x := 0) rfl rfl (Or.inl rfl) (R_zr (x := 0) (K := K) (by decide) k)
theorem z216_58 {T N : Nat → Nat} {h : PH} {w : Nat} {K : Int → PH → Prop} (t0 : T w = 12) (k : (∀ h_3, h_3 = wi h w 0 2 → K 0 h_3)) : ZW T N 216 58 [some (vr (some w)), none, none, none] [] h K := by
  show WP T N 216 58 [some (vr (some w)), none, none, none] [] h _
  refine R_ps 4 (pc2 := 62) (L2 := [some (vr (some w)), none, none, some (vi (J 0))]) (st2 := [vi (J 0), vr (some w)]) rfl ?_
  refine R_zif0 (x := 0) rfl (by decide) (fun _ => ?_) (fun c_1 => absurd (show (0 : Int) = (0 : Int) by decide) c_1)
  refine R_ps 1 (pc2 := 70) (L2 := [some (vr (some w)), none, none, some (vi (J 0))]) (st2 := [vi (J 2), vr (some w)]) rfl ?_
  refine R_zputI (x := 2) (z := 0) rfl t0 rfl ?_
  show WP T N _ _ _ _ (wi h w 0 2) _
  generalize e_4 : wi h w 0 2 = h_3
  replace k := k h_3 e_4.symm
  refine R_ps 1 (pc2 := 74) (L2 := [some (vr (some w)), none, none, some (vi (J 0))]) (st2 := [vi (J 0)]) rfl ?_
  exact R_zzret (x := 0) rfl rfl (Or.inl rfl) (R_zr (x := 0) (K := K) (by decide) k)
/-- DroneCorridorsModel.arrival -/
theorem z217 {T N : Nat → Nat} {h : PH} {w : Nat} {x1 : Int} {x2 : Int} {K : Int → PH → Prop} (t0 : T w = 12) (r1 : In x1) (r2 : In x2) (k : (ZI T N 216 [vr (some w), vi (J x1), vi (J x2)] h (fun x_3 h_2 => (((x_3 = 0 → (K 0 h_2)) ∧ (¬ (x_3 = 0) → (K (ai h_2 w 21) h_2))))))) : ZI T N 217 [vr (some w), vi (J x1), vi (J x2)] h K := by
  show WP T N 217 0 [some (vr (some w)), some (vi (J x1)), some (vi (J x2))] [] h _
  refine R_ps 3 (pc2 := 3) (L2 := [some (vr (some w)), some (vi (J x1)), some (vi (J x2))]) (st2 := [vi (J x2), vi (J x1), vr (some w)]) rfl ?_
  refine R_zcI (as := [vr (some w), vi (J x1), vi (J x2)]) rfl rfl ⟨Nat.le_of_ble_eq_true rfl, Nat.le_of_ble_eq_true rfl, rfl, (Or.inr ⟨_, rfl, t0⟩)⟩ rfl rfl k (fun x_3 h_2 r_4 k => ?_)
  refine R_zif0 (x := x_3) rfl r_4 (fun c_5 => ?_) (fun c_5 => ?_)
  · have k := k.1 c_5
    refine R_ps 1 (pc2 := 17) (L2 := [some (vr (some w)), some (vi (J x1)), some (vi (J x2))]) (st2 := [vi (J 0)]) rfl ?_
    exact R_iret rfl rfl (R_zr (x := 0) (K := K) (by decide) k)
  · have k := k.2 c_5
    refine R_ps 1 (pc2 := 10) (L2 := [some (vr (some w)), some (vi (J x1)), some (vi (J x2))]) (st2 := [vr (some w)]) rfl ?_
    refine R_zgetI (z := 21) rfl t0 rfl ?_
    refine R_ps 1 (pc2 := 17) (L2 := [some (vr (some w)), some (vi (J x1)), some (vi (J x2))]) (st2 := [vi (J (ai h_2 w 21))]) rfl ?_
    exact R_iret rfl rfl (R_zr (x := ai h_2 w 21) (K := K) (ai_in _ _ _) k)
/-- DroneCorridorsModel.planEnergy -/
theorem z218 {T N : Nat → Nat} {h : PH} {w : Nat} {x1 : Int} {x2 : Int} {K : Int → PH → Prop} (t0 : T w = 12) (r1 : In x1) (r2 : In x2) (k : (ZI T N 216 [vr (some w), vi (J x1), vi (J x2)] h (fun x_3 h_2 => (((x_3 = 0 → (K 0 h_2)) ∧ (¬ (x_3 = 0) → (K (ai h_2 w 22) h_2))))))) : ZI T N 218 [vr (some w), vi (J x1), vi (J x2)] h K := by
  show WP T N 218 0 [some (vr (some w)), some (vi (J x1)), some (vi (J x2))] [] h _
  refine R_ps 3 (pc2 := 3) (L2 := [some (vr (some w)), some (vi (J x1)), some (vi (J x2))]) (st2 := [vi (J x2), vi (J x1), vr (some w)]) rfl ?_
  refine R_zcI (as := [vr (some w), vi (J x1), vi (J x2)]) rfl rfl ⟨Nat.le_of_ble_eq_true rfl, Nat.le_of_ble_eq_true rfl, rfl, (Or.inr ⟨_, rfl, t0⟩)⟩ rfl rfl k (fun x_3 h_2 r_4 k => ?_)
  refine R_zif0 (x := x_3) rfl r_4 (fun c_5 => ?_) (fun c_5 => ?_)
  · have k := k.1 c_5
    refine R_ps 1 (pc2 := 17) (L2 := [some (vr (some w)), some (vi (J x1)), some (vi (J x2))]) (st2 := [vi (J 0)]) rfl ?_
    exact R_iret rfl rfl (R_zr (x := 0) (K := K) (by decide) k)
  · have k := k.2 c_5
    refine R_ps 1 (pc2 := 10) (L2 := [some (vr (some w)), some (vi (J x1)), some (vi (J x2))]) (st2 := [vr (some w)]) rfl ?_
    refine R_zgetI (z := 22) rfl t0 rfl ?_
    refine R_ps 1 (pc2 := 17) (L2 := [some (vr (some w)), some (vi (J x1)), some (vi (J x2))]) (st2 := [vi (J (ai h_2 w 22))]) rfl ?_
    exact R_iret rfl rfl (R_zr (x := ai h_2 w 22) (K := K) (ai_in _ _ _) k)
/-- DroneCorridorsModel.cancel -/
theorem z219 {T N : Nat → Nat} {h : PH} {w : Nat} {x1 : Int} {K : Int → PH → Prop} (t0 : T w = 12) (r1 : In x1) (k : (ZI T N 164 [vr (some w), vi (J x1)] h (fun x_3 h_2 => (((x_3 = 0 → (∀ h_7, h_7 = wi h_2 w 0 1 → (((ai h_7 w 0) = 1 → (K 0 h_7)) ∧ (¬ ((ai h_7 w 0) = 1) → (CV T N 160 [vr (some w)] h_7 (fun h_12 => (ZI T N 168 [vr (some w), vi (J x1), vi (J 5)] h_12 (fun x_16 h_15 => (ZI T N 193 [vr (some w), vi (J x1)] h_15 (fun x_20 h_19 => (ZI T N 193 [vr (some w), vi (J x1)] h_19 (fun x_24 h_23 => (CV T N 169 [vr (some w), vi (J x1), vi (J 5), vi (J x_24)] h_23 (fun h_27 => (ZI T N 168 [vr (some w), vi (J x1), vi (J 0)] h_27 (fun x_31 h_30 => (((x_31 = 2 → (ZI T N 168 [vr (some w), vi (J x1), vi (J 3)] h_30 (fun x_41 h_40 => (CV T N 169 [vr (some w), vi (J x1), vi (J 4), vi (J x_41)] h_40 (fun h_44 => (In (x_16 - x_20) ∧ K (x_16 - x_20) h_44)))))) ∧ (¬ (x_31 = 2) → (CV T N 169 [vr (some w), vi (J x1), vi (J 4), vi (J (-1))] h_30 (fun h_35 => (In (x_16 - x_20) ∧ K (x_16 - x_20) h_35)))))))))))))))))))))) ∧ (¬ (x_3 = 0) → (∀ h_50, h_50 = wi h_2 w 0 0 → (((ai h_50 w 0) = 1 → (K 0 h_50)) ∧ (¬ ((ai h_50 w 0) = 1) → (CV T N 160 [vr (some w)] h_50 (fun h_55 => (ZI T N 168 [vr (some w), vi (J x1), vi (J 5)] h_55 (fun x_59 h_58 => (ZI T N 193 [vr (some w), vi (J x1)] h_58 (fun x_63 h_62 => (ZI T N 193 [vr (some w), vi (J x1)] h_62 (fun x_67 h_66 => (CV T N 169 [vr (some w), vi (J x1), vi (J 5), vi (J x_67)] h_66 (fun h_70 => (ZI T N 168 [vr (some w), vi (J x1), vi (J 0)] h_70 (fun x_74 h_73 => (((x_74 = 2 → (ZI T N 168 [vr (some w), vi (J x1), vi (J 3)] h_73 (fun x_84 h_83 => (CV T N 169 [vr (some w), vi (J x1), vi (J 4), vi (J x_84)] h_83 (fun h_87 => (In (x_59 - x_63) ∧ K (x_59 - x_63) h_87)))))) ∧ (¬ (x_74 = 2) → (CV T N 169 [vr (some w), vi (J x1), vi (J 4), vi (J (-1))] h_73 (fun h_78 => (In (x_59 - x_63) ∧ K (x_59 - x_63) h_78))))))))))))))))))))))))))) : ZI T N 219 [vr (some w), vi (J x1)] h K := by
  show WP T N 219 0 [some (vr (some w)), some (vi (J x1)), none] [] h _
  refine R_ps 3 (pc2 := 3) (L2 := [some (vr (some w)), some (vi (J x1)), none]) (st2 := [vi (J x1), vr (some w), vr (some w)]) rfl ?_
  refine R_zcI (as := [vr (some w), vi (J x1)]) rfl rfl ⟨Nat.le_of_ble_eq_true rfl, Nat.le_of_ble_eq_true rfl, rfl, (Or.inr ⟨_, rfl, t0⟩)⟩ rfl rfl k (fun x_3 h_2 r_4 k => ?_)
  refine R_zif0 (x := x_3) rfl r_4 (fun c_5 => ?_) (fun c_5 => ?_)
  · have k := k.1 c_5
    refine R_ps 1 (pc2 := 14) (L2 := [some (vr (some w)), some (vi (J x1)), none]) (st2 := [vi (J 1), vr (some w)]) rfl ?_
    refine R_zputI (x := 1) (z := 0) rfl t0 rfl ?_
    show WP T N _ _ _ _ (wi h_2 w 0 1) _
    generalize e_8 : wi h_2 w 0 1 = h_7
    replace k := k h_7 e_8.symm
    refine R_ps 1 (pc2 := 18) (L2 := [some (vr (some w)), some (vi (J x1)), none]) (st2 := [vr (some w)]) rfl ?_
    refine R_zgetI (z := 0) rfl t0 rfl ?_
    refine R_ps 1 (pc2 := 22) (L2 := [some (vr (some w)), some (vi (J x1)), none]) (st2 := [vi (J 1), vi (J (ai h_7 w 0))]) rfl ?_
    refine R_zif (x := ai h_7 w 0) (z := 1) rfl (ai_in _ _ _) (by decide) (fun c_10 => ?_) (fun c_10 => ?_)
    · have k := k.2 c_10
      refine R_ps 1 (pc2 := 28) (L2 := [some (vr (some w)), some (vi (J x1)), none]) (st2 := [vr (some w)]) rfl ?_
      refine R_cV (as := [vr (some w)]) rfl rfl ⟨Nat.le_of_ble_eq_true rfl, Nat.le_of_ble_eq_true rfl, rfl, (Or.inr ⟨_, rfl, t0⟩)⟩ rfl rfl k (fun h_12 k => ?_)
      refine R_ps 3 (pc2 := 34) (L2 := [some (vr (some w)), some (vi (J x1)), none]) (st2 := [vi (J 5), vi (J x1), vr (some w)]) rfl ?_
      refine R_zcI (as := [vr (some w), vi (J x1), vi (J 5)]) rfl rfl ⟨Nat.le_of_ble_eq_true rfl, Nat.le_of_ble_eq_true rfl, rfl, (Or.inr ⟨_, rfl, t0⟩)⟩ rfl rfl k (fun x_16 h_15 r_17 k => ?_)
      refine R_ps 2 (pc2 := 39) (L2 := [some (vr (some w)), some (vi (J x1)), none]) (st2 := [vi (J x1), vr (some w), vi (J x_16)]) rfl ?_
      refine R_zcI (as := [vr (some w), vi (J x1)]) rfl rfl ⟨Nat.le_of_ble_eq_true rfl, Nat.le_of_ble_eq_true rfl, rfl, (Or.inr ⟨_, rfl, t0⟩)⟩ rfl rfl k (fun x_20 h_19 r_21 k => ?_)
      refine R_ps 7 (pc2 := 49) (L2 := [some (vr (some w)), some (vi (J x1)), some (vi ((J x_16) - (J x_20)))]) (st2 := [vi (J x1), vr (some w), vi (J 5), vi (J x1), vr (some w)]) rfl ?_
      rw [show ((J x_16) - (J x_20)) = J (x_16 - x_20) from J_sub' rfl rfl]
      refine R_zcI (as := [vr (some w), vi (J x1)]) rfl rfl ⟨Nat.le_of_ble_eq_true rfl, Nat.le_of_ble_eq_true rfl, rfl, (Or.inr ⟨_, rfl, t0⟩)⟩ rfl rfl k (fun x_24 h_23 r_25 k => ?_)
      refine R_cV (as := [vr (some w), vi (J x1), vi (J 5), vi (J x_24)]) rfl rfl ⟨Nat.le_of_ble_eq_true rfl, Nat.le_of_ble_eq_true rfl, rfl, (Or.inr ⟨_, rfl, t0⟩)⟩ rfl rfl k (fun h_27 k => ?_)
      refine R_ps 6 (pc2 := 61) (L2 := [some (vr (some w)), some (vi (J x1)), some (vi (J (x_16 - x_20)))]) (st2 := [vi (J 0), vi (J x1), vr (some w), vi (J 4), vi (J x1), vr (some w)]) rfl ?_
      refine R_zcI (as := [vr (some w), vi (J x1), vi (J 0)]) rfl rfl ⟨Nat.le_of_ble_eq_true rfl, Nat.le_of_ble_eq_true rfl, rfl, (Or.inr ⟨_, rfl, t0⟩)⟩ rfl rfl k (fun x_31 h_30 r_32 k => ?_)
      refine R_ps 1 (pc2 := 65) (L2 := [some (vr (some w)), some (vi (J x1)), some (vi (J (x_16 - x_20)))]) (st2 := [vi (J 2), vi (J x_31), vi (J 4), vi (J x1), vr (some w)]) rfl ?_
      refine R_zif (x := x_31) (z := 2) rfl r_32 (by decide) (fun c_33 => ?_) (fun c_33 => ?_)
      · have k := k.2 c_33
        refine R_ps 1 (pc2 := 78) (L2 := [some (vr (some w)), some (vi (J x1)), some (vi (J (x_16 - x_20)))]) (st2 := [vi (J (-1)), vi (J 4), vi (J x1), vr (some w)]) rfl ?_
        refine R_cV (as := [vr (some w), vi (J x1), vi (J 4), vi (J (-1))]) rfl rfl ⟨Nat.le_of_ble_eq_true rfl, Nat.le_of_ble_eq_true rfl, rfl, (Or.inr ⟨_, rfl, t0⟩)⟩ rfl rfl k (fun h_35 k => ?_)
        refine R_ps 1 (pc2 := 82) (L2 := [some (vr (some w)), some (vi (J x1)), some (vi (J (x_16 - x_20)))]) (st2 := [vi (J (x_16 - x_20))]) rfl ?_
        obtain ⟨t_38, k⟩ := k
        exact R_iret rfl rfl (R_zr (x := x_16 - x_20) (K := K) t_38 k)
      · have k := k.1 (Classical.not_not.mp c_33)
        refine R_ps 3 (pc2 := 71) (L2 := [some (vr (some w)), some (vi (J x1)), some (vi (J (x_16 - x_20)))]) (st2 := [vi (J 3), vi (J x1), vr (some w), vi (J 4), vi (J x1), vr (some w)]) rfl ?_
        refine R_zcI (as := [vr (some w), vi (J x1), vi (J 3)]) rfl rfl ⟨Nat.le_of_ble_eq_true rfl, Nat.le_of_ble_eq_true rfl, rfl, (Or.inr ⟨_, rfl, t0⟩)⟩ rfl rfl k (fun x_41 h_40 r_42 k => ?_)
        refine R_ps 1 (pc2 := 78) (L2 := [some (vr (some w)), some (vi (J x1)), some (vi (J (x_16 - x_20)))]) (st2 := [vi (J x_41), vi (J 4), vi (J x1), vr (some w)]) rfl ?_
        refine R_cV (as := [vr (some w), vi (J x1), vi (J 4), vi (J x_41)]) rfl rfl ⟨Nat.le_of_ble_eq_true rfl, Nat.le_of_ble_eq_true rfl, rfl, (Or.inr ⟨_, rfl, t0⟩)⟩ rfl rfl k (fun h_44 k => ?_)
        refine R_ps 1 (pc2 := 82) (L2 := [some (vr (some w)), some (vi (J x1)), some (vi (J (x_16 - x_20)))]) (st2 := [vi (J (x_16 - x_20))]) rfl ?_
        obtain ⟨t_47, k⟩ := k
        exact R_iret rfl rfl (R_zr (x := x_16 - x_20) (K := K) t_47 k)
    · have k := k.1 (Classical.not_not.mp c_10)
      refine R_ps 1 (pc2 := 26) (L2 := [some (vr (some w)), some (vi (J x1)), none]) (st2 := [vi (J 0)]) rfl ?_
      exact R_iret rfl rfl (R_zr (x := 0) (K := K) (by decide) k)
  · have k := k.2 c_5
    refine R_ps 2 (pc2 := 14) (L2 := [some (vr (some w)), some (vi (J x1)), none]) (st2 := [vi (J 0), vr (some w)]) rfl ?_
    refine R_zputI (x := 0) (z := 0) rfl t0 rfl ?_
    show WP T N _ _ _ _ (wi h_2 w 0 0) _
    generalize e_51 : wi h_2 w 0 0 = h_50
    replace k := k h_50 e_51.symm
    refine R_ps 1 (pc2 := 18) (L2 := [some (vr (some w)), some (vi (J x1)), none]) (st2 := [vr (some w)]) rfl ?_
    refine R_zgetI (z := 0) rfl t0 rfl ?_
    refine R_ps 1 (pc2 := 22) (L2 := [some (vr (some w)), some (vi (J x1)), none]) (st2 := [vi (J 1), vi (J (ai h_50 w 0))]) rfl ?_
    refine R_zif (x := ai h_50 w 0) (z := 1) rfl (ai_in _ _ _) (by decide) (fun c_53 => ?_) (fun c_53 => ?_)
    · have k := k.2 c_53
      refine R_ps 1 (pc2 := 28) (L2 := [some (vr (some w)), some (vi (J x1)), none]) (st2 := [vr (some w)]) rfl ?_
      refine R_cV (as := [vr (some w)]) rfl rfl ⟨Nat.le_of_ble_eq_true rfl, Nat.le_of_ble_eq_true rfl, rfl, (Or.inr ⟨_, rfl, t0⟩)⟩ rfl rfl k (fun h_55 k => ?_)
      refine R_ps 3 (pc2 := 34) (L2 := [some (vr (some w)), some (vi (J x1)), none]) (st2 := [vi (J 5), vi (J x1), vr (some w)]) rfl ?_
      refine R_zcI (as := [vr (some w), vi (J x1), vi (J 5)]) rfl rfl ⟨Nat.le_of_ble_eq_true rfl, Nat.le_of_ble_eq_true rfl, rfl, (Or.inr ⟨_, rfl, t0⟩)⟩ rfl rfl k (fun x_59 h_58 r_60 k => ?_)
      refine R_ps 2 (pc2 := 39) (L2 := [some (vr (some w)), some (vi (J x1)), none]) (st2 := [vi (J x1), vr (some w), vi (J x_59)]) rfl ?_
      refine R_zcI (as := [vr (some w), vi (J x1)]) rfl rfl ⟨Nat.le_of_ble_eq_true rfl, Nat.le_of_ble_eq_true rfl, rfl, (Or.inr ⟨_, rfl, t0⟩)⟩ rfl rfl k (fun x_63 h_62 r_64 k => ?_)
      refine R_ps 7 (pc2 := 49) (L2 := [some (vr (some w)), some (vi (J x1)), some (vi ((J x_59) - (J x_63)))]) (st2 := [vi (J x1), vr (some w), vi (J 5), vi (J x1), vr (some w)]) rfl ?_
      rw [show ((J x_59) - (J x_63)) = J (x_59 - x_63) from J_sub' rfl rfl]
      refine R_zcI (as := [vr (some w), vi (J x1)]) rfl rfl ⟨Nat.le_of_ble_eq_true rfl, Nat.le_of_ble_eq_true rfl, rfl, (Or.inr ⟨_, rfl, t0⟩)⟩ rfl rfl k (fun x_67 h_66 r_68 k => ?_)
      refine R_cV (as := [vr (some w), vi (J x1), vi (J 5), vi (J x_67)]) rfl rfl ⟨Nat.le_of_ble_eq_true rfl, Nat.le_of_ble_eq_true rfl, rfl, (Or.inr ⟨_, rfl, t0⟩)⟩ rfl rfl k (fun h_70 k => ?_)
      refine R_ps 6 (pc2 := 61) (L2 := [some (vr (some w)), some (vi (J x1)), some (vi (J (x_59 - x_63)))]) (st2 := [vi (J 0), vi (J x1), vr (some w), vi (J 4), vi (J x1), vr (some w)]) rfl ?_
      refine R_zcI (as := [vr (some w), vi (J x1), vi (J 0)]) rfl rfl ⟨Nat.le_of_ble_eq_true rfl, Nat.le_of_ble_eq_true rfl, rfl, (Or.inr ⟨_, rfl, t0⟩)⟩ rfl rfl k (fun x_74 h_73 r_75 k => ?_)
      refine R_ps 1 (pc2 := 65) (L2 := [some (vr (some w)), some (vi (J x1)), some (vi (J (x_59 - x_63)))]) (st2 := [vi (J 2), vi (J x_74), vi (J 4), vi (J x1), vr (some w)]) rfl ?_
      refine R_zif (x := x_74) (z := 2) rfl r_75 (by decide) (fun c_76 => ?_) (fun c_76 => ?_)
      · have k := k.2 c_76
        refine R_ps 1 (pc2 := 78) (L2 := [some (vr (some w)), some (vi (J x1)), some (vi (J (x_59 - x_63)))]) (st2 := [vi (J (-1)), vi (J 4), vi (J x1), vr (some w)]) rfl ?_
        refine R_cV (as := [vr (some w), vi (J x1), vi (J 4), vi (J (-1))]) rfl rfl ⟨Nat.le_of_ble_eq_true rfl, Nat.le_of_ble_eq_true rfl, rfl, (Or.inr ⟨_, rfl, t0⟩)⟩ rfl rfl k (fun h_78 k => ?_)
        refine R_ps 1 (pc2 := 82) (L2 := [some (vr (some w)), some (vi (J x1)), some (vi (J (x_59 - x_63)))]) (st2 := [vi (J (x_59 - x_63))]) rfl ?_
        obtain ⟨t_81, k⟩ := k
        exact R_iret rfl rfl (R_zr (x := x_59 - x_63) (K := K) t_81 k)
      · have k := k.1 (Classical.not_not.mp c_76)
        refine R_ps 3 (pc2 := 71) (L2 := [some (vr (some w)), some (vi (J x1)), some (vi (J (x_59 - x_63)))]) (st2 := [vi (J 3), vi (J x1), vr (some w), vi (J 4), vi (J x1), vr (some w)]) rfl ?_
        refine R_zcI (as := [vr (some w), vi (J x1), vi (J 3)]) rfl rfl ⟨Nat.le_of_ble_eq_true rfl, Nat.le_of_ble_eq_true rfl, rfl, (Or.inr ⟨_, rfl, t0⟩)⟩ rfl rfl k (fun x_84 h_83 r_85 k => ?_)
        refine R_ps 1 (pc2 := 78) (L2 := [some (vr (some w)), some (vi (J x1)), some (vi (J (x_59 - x_63)))]) (st2 := [vi (J x_84), vi (J 4), vi (J x1), vr (some w)]) rfl ?_
        refine R_cV (as := [vr (some w), vi (J x1), vi (J 4), vi (J x_84)]) rfl rfl ⟨Nat.le_of_ble_eq_true rfl, Nat.le_of_ble_eq_true rfl, rfl, (Or.inr ⟨_, rfl, t0⟩)⟩ rfl rfl k (fun h_87 k => ?_)
        refine R_ps 1 (pc2 := 82) (L2 := [some (vr (some w)), some (vi (J x1)), some (vi (J (x_59 - x_63)))]) (st2 := [vi (J (x_59 - x_63))]) rfl ?_
        obtain ⟨t_90, k⟩ := k
        exact R_iret rfl rfl (R_zr (x := x_59 - x_63) (K := K) t_90 k)
    · have k := k.1 (Classical.not_not.mp c_53)
      refine R_ps 1 (pc2 := 26) (L2 := [some (vr (some w)), some (vi (J x1)), none]) (st2 := [vi (J 0)]) rfl ?_
      exact R_iret rfl rfl (R_zr (x := 0) (K := K) (by decide) k)
/-- DroneCorridorsModel.loses -/
theorem z220 {T N : Nat → Nat} {h : PH} {w : Nat} {x1 : Int} {K : PH → Prop} (t0 : T w = 12) (r1 : In x1) (k : (CV T N 169 [vr (some w), vi (J x1), vi (J 0), vi (J 3)] h (fun h_2 => (CV T N 169 [vr (some w), vi (J x1), vi (J 5), vi (J 0)] h_2 (fun h_5 => (K h_5)))))) : CV T N 220 [vr (some w), vi (J x1)] h K := by
  show WP T N 220 0 [some (vr (some w)), some (vi (J x1))] [] h _
  refine R_ps 4 (pc2 := 4) (L2 := [some (vr (some w)), some (vi (J x1))]) (st2 := [vi (J 3), vi (J 0), vi (J x1), vr (some w)]) rfl ?_
  refine R_cV (as := [vr (some w), vi (J x1), vi (J 0), vi (J 3)]) rfl rfl ⟨Nat.le_of_ble_eq_true rfl, Nat.le_of_ble_eq_true rfl, rfl, (Or.inr ⟨_, rfl, t0⟩)⟩ rfl rfl k (fun h_2 k => ?_)
  refine R_ps 4 (pc2 := 11) (L2 := [some (vr (some w)), some (vi (J x1))]) (st2 := [vi (J 0), vi (J 5), vi (J x1), vr (some w)]) rfl ?_
  refine R_cV (as := [vr (some w), vi (J x1), vi (J 5), vi (J 0)]) rfl rfl ⟨Nat.le_of_ble_eq_true rfl, Nat.le_of_ble_eq_true rfl, rfl, (Or.inr ⟨_, rfl, t0⟩)⟩ rfl rfl k (fun h_5 k => ?_)
  exact R_ret rfl rfl ⟨rfl, k⟩
/-- DroneCorridorsModel.drain -/
theorem z221 {T N : Nat → Nat} {h : PH} {w : Nat} {x1 : Int} {x2 : Int} {K : Int → PH → Prop} (t0 : T w = 12) (r1 : In x1) (r2 : In x2) (k : (ZI T N 164 [vr (some w), vi (J x1)] h (fun x_3 h_2 => (((x_3 = 0 → (∀ h_185, h_185 = wi h_2 w 0 1 → ((0 < (ai h_185 w 0) → (K 0 h_185)) ∧ (¬ (0 < (ai h_185 w 0)) → (CV T N 160 [vr (some w)] h_185 (fun h_190 => (ZI T N 168 [vr (some w), vi (J x1), vi (J 1)] h_190 (fun x_194 h_193 => (ZI T N 168 [vr (some w), vi (J x1), vi (J 0)] h_193 (fun x_198 h_197 => (((x_198 = 2 → (((0 < x_194 → (In (x_194 - x2) ∧ (((x_194 - x2) < 1 → (CV T N 169 [vr (some w), vi (J x1), vi (J 1), vi (J 1)] h_197 (fun h_224 => (ZI T N 168 [vr (some w), vi (J x1), vi (J 12)] h_224 (fun x_228 h_227 => (CV T N 169 [vr (some w), vi (J x1), vi (J 12), vi (J ((x_228 + x_194) - 1))] h_227 (fun h_231 => (ZI T N 168 [vr (some w), vi (J x1), vi (J 0)] h_231 (fun x_235 h_234 => (((x_235 = 1 → (ZW T N 221 152 [none, none, none, none, none, some (vi (J 1))] [] h_234 K)) ∧ (¬ (x_235 = 1) → (ZW T N 221 152 [none, none, none, none, none, some (vi (J 1))] [] h_234 K))))))))))))) ∧ (¬ ((x_194 - x2) < 1) → (CV T N 169 [vr (some w), vi (J x1), vi (J 1), vi (J (x_194 - x2))] h_197 (fun h_205 => (ZI T N 168 [vr (some w), vi (J x1), vi (J 12)] h_205 (fun x_209 h_208 => (CV T N 169 [vr (some w), vi (J x1), vi (J 12), vi (J ((x_209 + x_194) - (x_194 - x2)))] h_208 (fun h_212 => (ZI T N 168 [vr (some w), vi (J x1), vi (J 0)] h_212 (fun x_216 h_215 => (((x_216 = 1 → ((((x_194 - x2) = 0 → (CV T N 220 [vr (some w), vi (J x1)] h_215 (fun h_221 => (ZW T N 221 152 [none, none, none, none, none, some (vi (J (x_194 - x2)))] [] h_221 K)))) ∧ (¬ ((x_194 - x2) = 0) → (ZW T N 221 152 [none, none, none, none, none, some (vi (J (x_194 - x2)))] [] h_215 K))))) ∧ (¬ (x_216 = 1) → (ZW T N 221 152 [none, none, none, none, none, some (vi (J (x_194 - x2)))] [] h_215 K)))))))))))))))) ∧ (¬ (0 < x_194) → (ZW T N 221 84 [some (vr (some w)), some (vi (J x1)), some (vi (J x2)), some (vi (J x_194)), none, none] [] h_197 K))))) ∧ (¬ (x_198 = 2) → (ZW T N 221 84 [some (vr (some w)), some (vi (J x1)), some (vi (J x2)), some (vi (J x_194)), none, none] [] h_197 K)))))))))))))) ∧ (¬ (x_3 = 0) → (ZI T N 158 [vi (J x2), vi (J 1), vi (J 200)] h_2 (fun x_8 h_7 => (((x_8 = 0 → (∀ h_129, h_129 = wi h_7 w 0 2 → ((0 < (ai h_129 w 0) → (K 0 h_129)) ∧ (¬ (0 < (ai h_129 w 0)) → (CV T N 160 [vr (some w)] h_129 (fun h_134 => (ZI T N 168 [vr (some w), vi (J x1), vi (J 1)] h_134 (fun x_138 h_137 => (ZI T N 168 [vr (some w), vi (J x1), vi (J 0)] h_137 (fun x_142 h_141 => (((x_142 = 2 → (((0 < x_138 → (In (x_138 - x2) ∧ (((x_138 - x2) < 1 → (CV T N 169 [vr (some w), vi (J x1), vi (J 1), vi (J 1)] h_141 (fun h_168 => (ZI T N 168 [vr (some w), vi (J x1), vi (J 12)] h_168 (fun x_172 h_171 => (CV T N 169 [vr (some w), vi (J x1), vi (J 12), vi (J ((x_172 + x_138) - 1))] h_171 (fun h_175 => (ZI T N 168 [vr (some w), vi (J x1), vi (J 0)] h_175 (fun x_179 h_178 => (((x_179 = 1 → (ZW T N 221 152 [none, none, none, none, none, some (vi (J 1))] [] h_178 K)) ∧ (¬ (x_179 = 1) → (ZW T N 221 152 [none, none, none, none, none, some (vi (J 1))] [] h_178 K))))))))))))) ∧ (¬ ((x_138 - x2) < 1) → (CV T N 169 [vr (some w), vi (J x1), vi (J 1), vi (J (x_138 - x2))] h_141 (fun h_149 => (ZI T N 168 [vr (some w), vi (J x1), vi (J 12)] h_149 (fun x_153 h_152 => (CV T N 169 [vr (some w), vi (J x1), vi (J 12), vi (J ((x_153 + x_138) - (x_138 - x2)))] h_152 (fun h_156 => (ZI T N 168 [vr (some w), vi (J x1), vi (J 0)] h_156 (fun x_160 h_159 => (((x_160 = 1 → ((((x_138 - x2) = 0 → (CV T N 220 [vr (some w), vi (J x1)] h_159 (fun h_165 => (ZW T N 221 152 [none, none, none, none, none, some (vi (J (x_138 - x2)))] [] h_165 K)))) ∧ (¬ ((x_138 - x2) = 0) → (ZW T N 221 152 [none, none, none, none, none, some (vi (J (x_138 - x2)))] [] h_159 K))))) ∧ (¬ (x_160 = 1) → (ZW T N 221 152 [none, none, none, none, none, some (vi (J (x_138 - x2)))] [] h_159 K)))))))))))))))) ∧ (¬ (0 < x_138) → (ZW T N 221 84 [some (vr (some w)), some (vi (J x1)), some (vi (J x2)), some (vi (J x_138)), none, none] [] h_141 K))))) ∧ (¬ (x_142 = 2) → (ZW T N 221 84 [some (vr (some w)), some (vi (J x1)), some (vi (J x2)), some (vi (J x_138)), none, none] [] h_141 K)))))))))))))) ∧ (¬ (x_8 = 0) → (ZI T N 168 [vr (some w), vi (J x1), vi (J 0)] h_7 (fun x_13 h_12 => (((x_13 = 3 → (∀ h_73, h_73 = wi h_12 w 0 3 → ((0 < (ai h_73 w 0) → (K 0 h_73)) ∧ (¬ (0 < (ai h_73 w 0)) → (CV T N 160 [vr (some w)] h_73 (fun h_78 => (ZI T N 168 [vr (some w), vi (J x1), vi (J 1)] h_78 (fun x_82 h_81 => (ZI T N 168 [vr (some w), vi (J x1), vi (J 0)] h_81 (fun x_86 h_85 => (((x_86 = 2 → (((0 < x_82 → (In (x_82 - x2) ∧ (((x_82 - x2) < 1 → (CV T N 169 [vr (some w), vi (J x1), vi (J 1), vi (J 1)] h_85 (fun h_112 => (ZI T N 168 [vr (some w), vi (J x1), vi (J 12)] h_112 (fun x_116 h_115 => (CV T N 169 [vr (some w), vi (J x1), vi (J 12), vi (J ((x_116 + x_82) - 1))] h_115 (fun h_119 => (ZI T N 168 [vr (some w), vi (J x1), vi (J 0)] h_119 (fun x_123 h_122 => (((x_123 = 1 → (ZW T N 221 152 [none, none, none, none, none, some (vi (J 1))] [] h_122 K)) ∧ (¬ (x_123 = 1) → (ZW T N 221 152 [none, none, none, none, none, some (vi (J 1))] [] h_122 K))))))))))))) ∧ (¬ ((x_82 - x2) < 1) → (CV T N 169 [vr (some w), vi (J x1), vi (J 1), vi (J (x_82 - x2))] h_85 (fun h_93 => (ZI T N 168 [vr (some w), vi (J x1), vi (J 12)] h_93 (fun x_97 h_96 => (CV T N 169 [vr (some w), vi (J x1), vi (J 12), vi (J ((x_97 + x_82) - (x_82 - x2)))] h_96 (fun h_100 => (ZI T N 168 [vr (some w), vi (J x1), vi (J 0)] h_100 (fun x_104 h_103 => (((x_104 = 1 → ((((x_82 - x2) = 0 → (CV T N 220 [vr (some w), vi (J x1)] h_103 (fun h_109 => (ZW T N 221 152 [none, none, none, none, none, some (vi (J (x_82 - x2)))] [] h_109 K)))) ∧ (¬ ((x_82 - x2) = 0) → (ZW T N 221 152 [none, none, none, none, none, some (vi (J (x_82 - x2)))] [] h_103 K))))) ∧ (¬ (x_104 = 1) → (ZW T N 221 152 [none, none, none, none, none, some (vi (J (x_82 - x2)))] [] h_103 K)))))))))))))))) ∧ (¬ (0 < x_82) → (ZW T N 221 84 [some (vr (some w)), some (vi (J x1)), some (vi (J x2)), some (vi (J x_82)), none, none] [] h_85 K))))) ∧ (¬ (x_86 = 2) → (ZW T N 221 84 [some (vr (some w)), some (vi (J x1)), some (vi (J x2)), some (vi (J x_82)), none, none] [] h_85 K)))))))))))))) ∧ (¬ (x_13 = 3) → (∀ h_17, h_17 = wi h_12 w 0 0 → ((0 < (ai h_17 w 0) → (K 0 h_17)) ∧ (¬ (0 < (ai h_17 w 0)) → (CV T N 160 [vr (some w)] h_17 (fun h_22 => (ZI T N 168 [vr (some w), vi (J x1), vi (J 1)] h_22 (fun x_26 h_25 => (ZI T N 168 [vr (some w), vi (J x1), vi (J 0)] h_25 (fun x_30 h_29 => (((x_30 = 2 → (((0 < x_26 → (In (x_26 - x2) ∧ (((x_26 - x2) < 1 → (CV T N 169 [vr (some w), vi (J x1), vi (J 1), vi (J 1)] h_29 (fun h_56 => (ZI T N 168 [vr (some w), vi (J x1), vi (J 12)] h_56 (fun x_60 h_59 => (CV T N 169 [vr (some w), vi (J x1), vi (J 12), vi (J ((x_60 + x_26) - 1))] h_59 (fun h_63 => (ZI T N 168 [vr (some w), vi (J x1), vi (J 0)] h_63 (fun x_67 h_66 => (((x_67 = 1 → (ZW T N 221 152 [none, none, none, none, none, some (vi (J 1))] [] h_66 K)) ∧ (¬ (x_67 = 1) → (ZW T N 221 152 [none, none, none, none, none, some (vi (J 1))] [] h_66 K))))))))))))) ∧ (¬ ((x_26 - x2) < 1) → (CV T N 169 [vr (some w), vi (J x1), vi (J 1), vi (J (x_26 - x2))] h_29 (fun h_37 => (ZI T N 168 [vr (some w), vi (J x1), vi (J 12)] h_37 (fun x_41 h_40 => (CV T N 169 [vr (some w), vi (J x1), vi (J 12), vi (J ((x_41 + x_26) - (x_26 - x2)))] h_40 (fun h_44 => (ZI T N 168 [vr (some w), vi (J x1), vi (J 0)] h_44 (fun x_48 h_47 => (((x_48 = 1 → ((((x_26 - x2) = 0 → (CV T N 220 [vr (some w), vi (J x1)] h_47 (fun h_53 => (ZW T N 221 152 [none, none, none, none, none, some (vi (J (x_26 - x2)))] [] h_53 K)))) ∧ (¬ ((x_26 - x2) = 0) → (ZW T N 221 152 [none, none, none, none, none, some (vi (J (x_26 - x2)))] [] h_47 K))))) ∧ (¬ (x_48 = 1) → (ZW T N 221 152 [none, none, none, none, none, some (vi (J (x_26 - x2)))] [] h_47 K)))))))))))))))) ∧ (¬ (0 < x_26) → (ZW T N 221 84 [some (vr (some w)), some (vi (J x1)), some (vi (J x2)), some (vi (J x_26)), none, none] [] h_29 K))))) ∧ (¬ (x_30 = 2) → (ZW T N 221 84 [some (vr (some w)), some (vi (J x1)), some (vi (J x2)), some (vi (J x_26)), none, none] [] h_29 K))))))))))))))))))))))))))))) : ZI T N 221 [vr (some w), vi (J x1), vi (J x2)] h K := by
  show WP T N 221 0 [some (vr (some w)), some (vi (J x1)), some (vi (J x2)), none, none, none] [] h _
  refine R_ps 3 (pc2 := 3) (L2 := [some (vr (some w)), some (vi (J x1)), some (vi (J x2)), none, none, none]) (st2 := [vi (J x1), vr (some w), vr (some w)]) rfl ?_
  refine R_zcI (as := [vr (some w), vi (J x1)]) rfl rfl ⟨Nat.le_of_ble_eq_true rfl, Nat.le_of_ble_eq_true rfl, rfl, (Or.inr ⟨_, rfl, t0⟩)⟩ rfl rfl k (fun x_3 h_2 r_4 k => ?_)
  refine R_zif0 (x := x_3) rfl r_4 (fun c_5 => ?_) (fun c_5 => ?_)
  · have k := k.2 c_5
    refine R_ps 3 (pc2 := 18) (L2 := [some (vr (some w)), some (vi (J x1)), some (vi (J x2)), none, none, none]) (st2 := [vi (J 200), vi (J 1), vi (J x2), vr (some w)]) rfl ?_
    refine R_zcI (as := [vi (J x2), vi (J 1), vi (J 200)]) rfl rfl ⟨Nat.le_of_ble_eq_true rfl, Nat.le_of_ble_eq_true rfl, rfl, (Or.inl rfl)⟩ rfl rfl k (fun x_8 h_7 r_9 k => ?_)
    refine R_zif0 (x := x_8) rfl r_9 (fun c_10 => ?_) (fun c_10 => ?_)
    · have k := k.2 c_10
      refine R_ps 3 (pc2 := 31) (L2 := [some (vr (some w)), some (vi (J x1)), some (vi (J x2)), none, none, none]) (st2 := [vi (J 0), vi (J x1), vr (some w), vr (some w)]) rfl ?_
      refine R_zcI (as := [vr (some w), vi (J x1), vi (J 0)]) rfl rfl ⟨Nat.le_of_ble_eq_true rfl, Nat.le_of_ble_eq_true rfl, rfl, (Or.inr ⟨_, rfl, t0⟩)⟩ rfl rfl k (fun x_13 h_12 r_14 k => ?_)
      refine R_ps 1 (pc2 := 35) (L2 := [some (vr (some w)), some (vi (J x1)), some (vi (J x2)), none, none, none]) (st2 := [vi (J 3), vi (J x_13), vr (some w)]) rfl ?_
      refine R_zif (x := x_13) (z := 3) rfl r_14 (by decide) (fun c_15 => ?_) (fun c_15 => ?_)
      · have k := k.2 c_15
        refine R_ps 1 (pc2 := 43) (L2 := [some (vr (some w)), some (vi (J x1)), some (vi (J x2)), none, none, none]) (st2 := [vi (J 0), vr (some w)]) rfl ?_
        refine R_zputI (x := 0) (z := 0) rfl t0 rfl ?_
        show WP T N _ _ _ _ (wi h_12 w 0 0) _
        generalize e_18 : wi h_12 w 0 0 = h_17
        replace k := k h_17 e_18.symm
        refine R_ps 1 (pc2 := 47) (L2 := [some (vr (some w)), some (vi (J x1)), some (vi (J x2)), none, none, none]) (st2 := [vr (some w)]) rfl ?_
        refine R_zgetI (z := 0) rfl t0 rfl ?_
        refine R_zif0 (x := ai h_17 w 0) rfl (ai_in _ _ _) (fun c_20 => ?_) (fun c_20 => ?_)
        · have k := k.2 c_20
          refine R_ps 1 (pc2 := 56) (L2 := [some (vr (some w)), some (vi (J x1)), some (vi (J x2)), none, none, none]) (st2 := [vr (some w)]) rfl ?_
          refine R_cV (as := [vr (some w)]) rfl rfl ⟨Nat.le_of_ble_eq_true rfl, Nat.le_of_ble_eq_true rfl, rfl, (Or.inr ⟨_, rfl, t0⟩)⟩ rfl rfl k (fun h_22 k => ?_)
          refine R_ps 3 (pc2 := 62) (L2 := [some (vr (some w)), some (vi (J x1)), some (vi (J x2)), none, none, none]) (st2 := [vi (J 1), vi (J x1), vr (some w)]) rfl ?_
          refine R_zcI (as := [vr (some w), vi (J x1), vi (J 1)]) rfl rfl ⟨Nat.le_of_ble_eq_true rfl, Nat.le_of_ble_eq_true rfl, rfl, (Or.inr ⟨_, rfl, t0⟩)⟩ rfl rfl k (fun x_26 h_25 r_27 k => ?_)
          refine R_ps 4 (pc2 := 69) (L2 := [some (vr (some w)), some (vi (J x1)), some (vi (J x2)), some (vi (J x_26)), none, none]) (st2 := [vi (J 0), vi (J x1), vr (some w)]) rfl ?_
          refine R_zcI (as := [vr (some w), vi (J x1), vi (J 0)]) rfl rfl ⟨Nat.le_of_ble_eq_true rfl, Nat.le_of_ble_eq_true rfl, rfl, (Or.inr ⟨_, rfl, t0⟩)⟩ rfl rfl k (fun x_30 h_29 r_31 k => ?_)
          refine R_ps 1 (pc2 := 73) (L2 := [some (vr (some w)), some (vi (J x1)), some (vi (J x2)), some (vi (J x_26)), none, none]) (st2 := [vi (J 2), vi (J x_30)]) rfl ?_
          refine R_zif (x := x_30) (z := 2) rfl r_31 (by decide) (fun c_32 => ?_) (fun c_32 => ?_)
          · have k := k.2 c_32
            exact k
          · have k := k.1 (Classical.not_not.mp c_32)
            refine R_ps 1 (pc2 := 77) (L2 := [some (vr (some w)), some (vi (J x1)), some (vi (J x2)), some (vi (J x_26)), none, none]) (st2 := [vi (J x_26)]) rfl ?_
            refine R_zif0 (x := x_26) rfl r_27 (fun c_33 => ?_) (fun c_33 => ?_)
            · have k := k.2 c_33
              exact k
            · have k := k.1 (Classical.not_not.mp c_33)
              refine R_ps 7 (pc2 := 92) (L2 := [some (vr (some w)), some (vi (J x1)), some (vi (J x2)), some (vi (J x_26)), some (vi (J 1)), none]) (st2 := [vi (J 1), vi ((J x_26) - (J x2))]) rfl ?_
              rw [show ((J x_26) - (J x2)) = J (x_26 - x2) from J_sub' rfl rfl]
              obtain ⟨t_35, k⟩ := k
              refine R_zif (x := x_26 - x2) (z := 1) rfl t_35 (by decide) (fun c_34 => ?_) (fun c_34 => ?_)
              · have k := k.2 c_34
                refine R_ps 8 (pc2 := 110) (L2 := [some (vr (some w)), some (vi (J x1)), some (vi (J x2)), some (vi (J x_26)), some (vi (J 1)), some (vi ((J x_26) - (J x2)))]) (st2 := [vi ((J x_26) - (J x2)), vi (J 1), vi (J x1), vr (some w)]) rfl ?_
                rw [show ((J x_26) - (J x2)) = J (x_26 - x2) from J_sub' rfl rfl]
                refine R_cV (as := [vr (some w), vi (J x1), vi (J 1), vi (J (x_26 - x2))]) rfl rfl ⟨Nat.le_of_ble_eq_true rfl, Nat.le_of_ble_eq_true rfl, rfl, (Or.inr ⟨_, rfl, t0⟩)⟩ rfl rfl k (fun h_37 k => ?_)
                refine R_ps 6 (pc2 := 121) (L2 := [some (vr (some w)), some (vi (J x1)), some (vi (J x2)), some (vi (J x_26)), some (vi (J 1)), some (vi (J (x_26 - x2)))]) (st2 := [vi (J 12), vi (J x1), vr (some w), vi (J 12), vi (J x1), vr (some w)]) rfl ?_
                refine R_zcI (as := [vr (some w), vi (J x1), vi (J 12)]) rfl rfl ⟨Nat.le_of_ble_eq_true rfl, Nat.le_of_ble_eq_true rfl, rfl, (Or.inr ⟨_, rfl, t0⟩)⟩ rfl rfl k (fun x_41 h_40 r_42 k => ?_)
                refine R_ps 4 (pc2 := 129) (L2 := [some (vr (some w)), some (vi (J x1)), some (vi (J x2)), some (vi (J x_26)), some (vi (J 1)), some (vi (J (x_26 - x2)))]) (st2 := [vi (((J x_41) + (J x_26)) - (J (x_26 - x2))), vi (J 12), vi (J x1), vr (some w)]) rfl ?_
                rw [show (((J x_41) + (J x_26)) - (J (x_26 - x2))) = J ((x_41 + x_26) - (x_26 - x2)) from J_sub' (J_add' rfl rfl) rfl]
                refine R_cV (as := [vr (some w), vi (J x1), vi (J 12), vi (J ((x_41 + x_26) - (x_26 - x2)))]) rfl rfl ⟨Nat.le_of_ble_eq_true rfl, Nat.le_of_ble_eq_true rfl, rfl, (Or.inr ⟨_, rfl, t0⟩)⟩ rfl rfl k (fun h_44 k => ?_)
                refine R_ps 3 (pc2 := 135) (L2 := [some (vr (some w)), some (vi (J x1)), some (vi (J x2)), some (vi (J x_26)), some (vi (J 1)), some (vi (J (x_26 - x2)))]) (st2 := [vi (J 0), vi (J x1), vr (some w)]) rfl ?_
                refine R_zcI (as := [vr (some w), vi (J x1), vi (J 0)]) rfl rfl ⟨Nat.le_of_ble_eq_true rfl, Nat.le_of_ble_eq_true rfl, rfl, (Or.inr ⟨_, rfl, t0⟩)⟩ rfl rfl k (fun x_48 h_47 r_49 k => ?_)
                refine R_ps 1 (pc2 := 139) (L2 := [some (vr (some w)), some (vi (J x1)), some (vi (J x2)), some (vi (J x_26)), some (vi (J 1)), some (vi (J (x_26 - x2)))]) (st2 := [vi (J 1), vi (J x_48)]) rfl ?_
                refine R_zif (x := x_48) (z := 1) rfl r_49 (by decide) (fun c_50 => ?_) (fun c_50 => ?_)
                · have k := k.2 c_50
                  exact R_drop k (LE_of (L := [none, none, none, none, none, some (vi (J (x_26 - x2)))]) (L2 := [some (vr (some w)), some (vi (J x1)), some (vi (J x2)), some (vi (J x_26)), some (vi (J 1)), some (vi (J (x_26 - x2)))]) ⟨rfl, trivial⟩)
                · have k := k.1 (Classical.not_not.mp c_50)
                  refine R_ps 1 (pc2 := 144) (L2 := [some (vr (some w)), some (vi (J x1)), some (vi (J x2)), some (vi (J x_26)), some (vi (J 1)), some (vi (J (x_26 - x2)))]) (st2 := [vi (J (x_26 - x2))]) rfl ?_
                  refine R_zif0 (x := x_26 - x2) rfl t_35 (fun c_51 => ?_) (fun c_51 => ?_)
                  · have k := k.2 c_51
                    exact R_drop k (LE_of (L := [none, none, none, none, none, some (vi (J (x_26 - x2)))]) (L2 := [some (vr (some w)), some (vi (J x1)), some (vi (J x2)), some (vi (J x_26)), some (vi (J 1)), some (vi (J (x_26 - x2)))]) ⟨rfl, trivial⟩)
                  · have k := k.1 (Classical.not_not.mp c_51)
                    refine R_ps 2 (pc2 := 149) (L2 := [some (vr (some w)), some (vi (J x1)), some (vi (J x2)), some (vi (J x_26)), some (vi (J 1)), some (vi (J (x_26 - x2)))]) (st2 := [vi (J x1), vr (some w)]) rfl ?_
                    refine R_cV (as := [vr (some w), vi (J x1)]) rfl rfl ⟨Nat.le_of_ble_eq_true rfl, Nat.le_of_ble_eq_true rfl, rfl, (Or.inr ⟨_, rfl, t0⟩)⟩ rfl rfl k (fun h_53 k => ?_)
                    exact R_drop k (LE_of (L := [none, none, none, none, none, some (vi (J (x_26 - x2)))]) (L2 := [some (vr (some w)), some (vi (J x1)), some (vi (J x2)), some (vi (J x_26)), some (vi (J 1)), some (vi (J (x_26 - x2)))]) ⟨rfl, trivial⟩)
              · have k := k.1 (Classical.not_not.mp c_34)
                refine R_ps 7 (pc2 := 110) (L2 := [some (vr (some w)), some (vi (J x1)), some (vi (J x2)), some (vi (J x_26)), some (vi (J 1)), some (vi (J 1))]) (st2 := [vi (J 1), vi (J 1), vi (J x1), vr (some w)]) rfl ?_
                refine R_cV (as := [vr (some w), vi (J x1), vi (J 1), vi (J 1)]) rfl rfl ⟨Nat.le_of_ble_eq_true rfl, Nat.le_of_ble_eq_true rfl, rfl, (Or.inr ⟨_, rfl, t0⟩)⟩ rfl rfl k (fun h_56 k => ?_)
                refine R_ps 6 (pc2 := 121) (L2 := [some (vr (some w)), some (vi (J x1)), some (vi (J x2)), some (vi (J x_26)), some (vi (J 1)), some (vi (J 1))]) (st2 := [vi (J 12), vi (J x1), vr (some w), vi (J 12), vi (J x1), vr (some w)]) rfl ?_
                refine R_zcI (as := [vr (some w), vi (J x1), vi (J 12)]) rfl rfl ⟨Nat.le_of_ble_eq_true rfl, Nat.le_of_ble_eq_true rfl, rfl, (Or.inr ⟨_, rfl, t0⟩)⟩ rfl rfl k (fun x_60 h_59 r_61 k => ?_)
                refine R_ps 4 (pc2 := 129) (L2 := [some (vr (some w)), some (vi (J x1)), some (vi (J x2)), some (vi (J x_26)), some (vi (J 1)), some (vi (J 1))]) (st2 := [vi (((J x_60) + (J x_26)) - (J 1)), vi (J 12), vi (J x1), vr (some w)]) rfl ?_
                rw [show (((J x_60) + (J x_26)) - (J 1)) = J ((x_60 + x_26) - 1) from J_sub' (J_add' rfl rfl) rfl]
                refine R_cV (as := [vr (some w), vi (J x1), vi (J 12), vi (J ((x_60 + x_26) - 1))]) rfl rfl ⟨Nat.le_of_ble_eq_true rfl, Nat.le_of_ble_eq_true rfl, rfl, (Or.inr ⟨_, rfl, t0⟩)⟩ rfl rfl k (fun h_63 k => ?_)
                refine R_ps 3 (pc2 := 135) (L2 := [some (vr (some w)), some (vi (J x1)), some (vi (J x2)), some (vi (J x_26)), some (vi (J 1)), some (vi (J 1))]) (st2 := [vi (J 0), vi (J x1), vr (some w)]) rfl ?_
                refine R_zcI (as := [vr (some w), vi (J x1), vi (J 0)]) rfl rfl ⟨Nat.le_of_ble_eq_true rfl, Nat.le_of_ble_eq_true rfl, rfl, (Or.inr ⟨_, rfl, t0⟩)⟩ rfl rfl k (fun x_67 h_66 r_68 k => ?_)
                refine R_ps 1 (pc2 := 139) (L2 := [some (vr (some w)), some (vi (J x1)), some (vi (J x2)), some (vi (J x_26)), some (vi (J 1)), some (vi (J 1))]) (st2 := [vi (J 1), vi (J x_67)]) rfl ?_
                refine R_zif (x := x_67) (z := 1) rfl r_68 (by decide) (fun c_69 => ?_) (fun c_69 => ?_)
                · have k := k.2 c_69
                  exact R_drop k (LE_of (L := [none, none, none, none, none, some (vi (J 1))]) (L2 := [some (vr (some w)), some (vi (J x1)), some (vi (J x2)), some (vi (J x_26)), some (vi (J 1)), some (vi (J 1))]) ⟨rfl, trivial⟩)
                · have k := k.1 (Classical.not_not.mp c_69)
                  refine R_ps 1 (pc2 := 144) (L2 := [some (vr (some w)), some (vi (J x1)), some (vi (J x2)), some (vi (J x_26)), some (vi (J 1)), some (vi (J 1))]) (st2 := [vi (J 1)]) rfl ?_
                  refine R_zif0 (x := 1) rfl (by decide) (fun _ => ?_) (fun c_70 => absurd (show ¬ (1 : Int) = (0 : Int) by decide) c_70)
                  exact R_drop k (LE_of (L := [none, none, none, none, none, some (vi (J 1))]) (L2 := [some (vr (some w)), some (vi (J x1)), some (vi (J x2)), some (vi (J x_26)), some (vi (J 1)), some (vi (J 1))]) ⟨rfl, trivial⟩)
        · have k := k.1 (Classical.not_not.mp c_20)
          refine R_ps 1 (pc2 := 54) (L2 := [some (vr (some w)), some (vi (J x1)), some (vi (J x2)), none, none, none]) (st2 := [vi (J 0)]) rfl ?_
          exact R_iret rfl rfl (R_zr (x := 0) (K := K) (by decide) k)
      · have k := k.1 (Classical.not_not.mp c_15)
        refine R_ps 2 (pc2 := 43) (L2 := [some (vr (some w)), some (vi (J x1)), some (vi (J x2)), none, none, none]) (st2 := [vi (J 3), vr (some w)]) rfl ?_
        refine R_zputI (x := 3) (z := 0) rfl t0 rfl ?_
        show WP T N _ _ _ _ (wi h_12 w 0 3) _
        generalize e_74 : wi h_12 w 0 3 = h_73
        replace k := k h_73 e_74.symm
        refine R_ps 1 (pc2 := 47) (L2 := [some (vr (some w)), some (vi (J x1)), some (vi (J x2)), none, none, none]) (st2 := [vr (some w)]) rfl ?_
        refine R_zgetI (z := 0) rfl t0 rfl ?_
        refine R_zif0 (x := ai h_73 w 0) rfl (ai_in _ _ _) (fun c_76 => ?_) (fun c_76 => ?_)
        · have k := k.2 c_76
          refine R_ps 1 (pc2 := 56) (L2 := [some (vr (some w)), some (vi (J x1)), some (vi (J x2)), none, none, none]) (st2 := [vr (some w)]) rfl ?_
          refine R_cV (as := [vr (some w)]) rfl rfl ⟨Nat.le_of_ble_eq_true rfl, Nat.le_of_ble_eq_true rfl, rfl, (Or.inr ⟨_, rfl, t0⟩)⟩ rfl rfl k (fun h_78 k => ?_)
          refine R_ps 3 (pc2 := 62) (L2 := [some (vr (some w)), some (vi (J x1)), some (vi (J x2)), none, none, none]) (st2 := [vi (J 1), vi (J x1), vr (some w)]) rfl ?_
          refine R_zcI (as := [vr (some w), vi (J x1), vi (J 1)]) rfl rfl ⟨Nat.le_of_ble_eq_true rfl, Nat.le_of_ble_eq_true rfl, rfl, (Or.inr ⟨_, rfl, t0⟩)⟩ rfl rfl k (fun x_82 h_81 r_83 k => ?_)
          refine R_ps 4 (pc2 := 69) (L2 := [some (vr (some w)), some (vi (J x1)), some (vi (J x2)), some (vi (J x_82)), none, none]) (st2 := [vi (J 0), vi (J x1), vr (some w)]) rfl ?_
          refine R_zcI (as := [vr (some w), vi (J x1), vi (J 0)]) rfl rfl ⟨Nat.le_of_ble_eq_true rfl, Nat.le_of_ble_eq_true rfl, rfl, (Or.inr ⟨_, rfl, t0⟩)⟩ rfl rfl k (fun x_86 h_85 r_87 k => ?_)
          refine R_ps 1 (pc2 := 73) (L2 := [some (vr (some w)), some (vi (J x1)), some (vi (J x2)), some (vi (J x_82)), none, none]) (st2 := [vi (J 2), vi (J x_86)]) rfl ?_
          refine R_zif (x := x_86) (z := 2) rfl r_87 (by decide) (fun c_88 => ?_) (fun c_88 => ?_)
          · have k := k.2 c_88
            exact k
          · have k := k.1 (Classical.not_not.mp c_88)
            refine R_ps 1 (pc2 := 77) (L2 := [some (vr (some w)), some (vi (J x1)), some (vi (J x2)), some (vi (J x_82)), none, none]) (st2 := [vi (J x_82)]) rfl ?_
            refine R_zif0 (x := x_82) rfl r_83 (fun c_89 => ?_) (fun c_89 => ?_)
            · have k := k.2 c_89
              exact k
            · have k := k.1 (Classical.not_not.mp c_89)
              refine R_ps 7 (pc2 := 92) (L2 := [some (vr (some w)), some (vi (J x1)), some (vi (J x2)), some (vi (J x_82)), some (vi (J 1)), none]) (st2 := [vi (J 1), vi ((J x_82) - (J x2))]) rfl ?_
              rw [show ((J x_82) - (J x2)) = J (x_82 - x2) from J_sub' rfl rfl]
              obtain ⟨t_91, k⟩ := k
              refine R_zif (x := x_82 - x2) (z := 1) rfl t_91 (by decide) (fun c_90 => ?_) (fun c_90 => ?_)
              · have k := k.2 c_90
                refine R_ps 8 (pc2 := 110) (L2 := [some (vr (some w)), some (vi (J x1)), some (vi (J x2)), some (vi (J x_82)), some (vi (J 1)), some (vi ((J x_82) - (J x2)))]) (st2 := [vi ((J x_82) - (J x2)), vi (J 1), vi (J x1), vr (some w)]) rfl ?_
                rw [show ((J x_82) - (J x2)) = J (x_82 - x2) from J_sub' rfl rfl]
                refine R_cV (as := [vr (some w), vi (J x1), vi (J 1), vi (J (x_82 - x2))]) rfl rfl ⟨Nat.le_of_ble_eq_true rfl, Nat.le_of_ble_eq_true rfl, rfl, (Or.inr ⟨_, rfl, t0⟩)⟩ rfl rfl k (fun h_93 k => ?_)
                refine R_ps 6 (pc2 := 121) (L2 := [some (vr (some w)), some (vi (J x1)), some (vi (J x2)), some (vi (J x_82)), some (vi (J 1)), some (vi (J (x_82 - x2)))]) (st2 := [vi (J 12), vi (J x1), vr (some w), vi (J 12), vi (J x1), vr (some w)]) rfl ?_
                refine R_zcI (as := [vr (some w), vi (J x1), vi (J 12)]) rfl rfl ⟨Nat.le_of_ble_eq_true rfl, Nat.le_of_ble_eq_true rfl, rfl, (Or.inr ⟨_, rfl, t0⟩)⟩ rfl rfl k (fun x_97 h_96 r_98 k => ?_)
                refine R_ps 4 (pc2 := 129) (L2 := [some (vr (some w)), some (vi (J x1)), some (vi (J x2)), some (vi (J x_82)), some (vi (J 1)), some (vi (J (x_82 - x2)))]) (st2 := [vi (((J x_97) + (J x_82)) - (J (x_82 - x2))), vi (J 12), vi (J x1), vr (some w)]) rfl ?_
                rw [show (((J x_97) + (J x_82)) - (J (x_82 - x2))) = J ((x_97 + x_82) - (x_82 - x2)) from J_sub' (J_add' rfl rfl) rfl]
                refine R_cV (as := [vr (some w), vi (J x1), vi (J 12), vi (J ((x_97 + x_82) - (x_82 - x2)))]) rfl rfl ⟨Nat.le_of_ble_eq_true rfl, Nat.le_of_ble_eq_true rfl, rfl, (Or.inr ⟨_, rfl, t0⟩)⟩ rfl rfl k (fun h_100 k => ?_)
                refine R_ps 3 (pc2 := 135) (L2 := [some (vr (some w)), some (vi (J x1)), some (vi (J x2)), some (vi (J x_82)), some (vi (J 1)), some (vi (J (x_82 - x2)))]) (st2 := [vi (J 0), vi (J x1), vr (some w)]) rfl ?_
                refine R_zcI (as := [vr (some w), vi (J x1), vi (J 0)]) rfl rfl ⟨Nat.le_of_ble_eq_true rfl, Nat.le_of_ble_eq_true rfl, rfl, (Or.inr ⟨_, rfl, t0⟩)⟩ rfl rfl k (fun x_104 h_103 r_105 k => ?_)
                refine R_ps 1 (pc2 := 139) (L2 := [some (vr (some w)), some (vi (J x1)), some (vi (J x2)), some (vi (J x_82)), some (vi (J 1)), some (vi (J (x_82 - x2)))]) (st2 := [vi (J 1), vi (J x_104)]) rfl ?_
                refine R_zif (x := x_104) (z := 1) rfl r_105 (by decide) (fun c_106 => ?_) (fun c_106 => ?_)
                · have k := k.2 c_106
                  exact R_drop k (LE_of (L := [none, none, none, none, none, some (vi (J (x_82 - x2)))]) (L2 := [some (vr (some w)), some (vi (J x1)), some (vi (J x2)), some (vi (J x_82)), some (vi (J 1)), some (vi (J (x_82 - x2)))]) ⟨rfl, trivial⟩)
                · have k := k.1 (Classical.not_not.mp c_106)
                  refine R_ps 1 (pc2 := 144) (L2 := [some (vr (some w)), some (vi (J x1)), some (vi (J x2)), some (vi (J x_82)), some (vi (J 1)), some (vi (J (x_82 - x2)))]) (st2 := [vi (J (x_82 - x2))]) rfl ?_
                  refine R_zif0 (x := x_82 - x2) rfl t_91 (fun c_107 => ?_) (fun c_107 => ?_)
                  · have k := k.2 c_107
                    exact R_drop k (LE_of (L := [none, none, none, none, none, some (vi (J (x_82 - x2)))]) (L2 := [some (vr (some w)), some (vi (J x1)), some (vi (J x2)), some (vi (J x_82)), some (vi (J 1)), some (vi (J (x_82 - x2)))]) ⟨rfl, trivial⟩)
                  · have k := k.1 (Classical.not_not.mp c_107)
                    refine R_ps 2 (pc2 := 149) (L2 := [some (vr (some w)), some (vi (J x1)), some (vi (J x2)), some (vi (J x_82)), some (vi (J 1)), some (vi (J (x_82 - x2)))]) (st2 := [vi (J x1), vr (some w)]) rfl ?_
                    refine R_cV (as := [vr (some w), vi (J x1)]) rfl rfl ⟨Nat.le_of_ble_eq_true rfl, Nat.le_of_ble_eq_true rfl, rfl, (Or.inr ⟨_, rfl, t0⟩)⟩ rfl rfl k (fun h_109 k => ?_)
                    exact R_drop k (LE_of (L := [none, none, none, none, none, some (vi (J (x_82 - x2)))]) (L2 := [some (vr (some w)), some (vi (J x1)), some (vi (J x2)), some (vi (J x_82)), some (vi (J 1)), some (vi (J (x_82 - x2)))]) ⟨rfl, trivial⟩)
              · have k := k.1 (Classical.not_not.mp c_90)
                refine R_ps 7 (pc2 := 110) (L2 := [some (vr (some w)), some (vi (J x1)), some (vi (J x2)), some (vi (J x_82)), some (vi (J 1)), some (vi (J 1))]) (st2 := [vi (J 1), vi (J 1), vi (J x1), vr (some w)]) rfl ?_
                refine R_cV (as := [vr (some w), vi (J x1), vi (J 1), vi (J 1)]) rfl rfl ⟨Nat.le_of_ble_eq_true rfl, Nat.le_of_ble_eq_true rfl, rfl, (Or.inr ⟨_, rfl, t0⟩)⟩ rfl rfl k (fun h_112 k => ?_)
                refine R_ps 6 (pc2 := 121) (L2 := [some (vr (some w)), some (vi (J x1)), some (vi (J x2)), some (vi (J x_82)), some (vi (J 1)), some (vi (J 1))]) (st2 := [vi (J 12), vi (J x1), vr (some w), vi (J 12), vi (J x1), vr (some w)]) rfl ?_
                refine R_zcI (as := [vr (some w), vi (J x1), vi (J 12)]) rfl rfl ⟨Nat.le_of_ble_eq_true rfl, Nat.le_of_ble_eq_true rfl, rfl, (Or.inr ⟨_, rfl, t0⟩)⟩ rfl rfl k (fun x_116 h_115 r_117 k => ?_)
                refine R_ps 4 (pc2 := 129) (L2 := [some (vr (some w)), some (vi (J x1)), some (vi (J x2)), some (vi (J x_82)), some (vi (J 1)), some (vi (J 1))]) (st2 := [vi (((J x_116) + (J x_82)) - (J 1)), vi (J 12), vi (J x1), vr (some w)]) rfl ?_
                rw [show (((J x_116) + (J x_82)) - (J 1)) = J ((x_116 + x_82) - 1) from J_sub' (J_add' rfl rfl) rfl]
                refine R_cV (as := [vr (some w), vi (J x1), vi (J 12), vi (J ((x_116 + x_82) - 1))]) rfl rfl ⟨Nat.le_of_ble_eq_true rfl, Nat.le_of_ble_eq_true rfl, rfl, (Or.inr ⟨_, rfl, t0⟩)⟩ rfl rfl k (fun h_119 k => ?_)
                refine R_ps 3 (pc2 := 135) (L2 := [some (vr (some w)), some (vi (J x1)), some (vi (J x2)), some (vi (J x_82)), some (vi (J 1)), some (vi (J 1))]) (st2 := [vi (J 0), vi (J x1), vr (some w)]) rfl ?_
                refine R_zcI (as := [vr (some w), vi (J x1), vi (J 0)]) rfl rfl ⟨Nat.le_of_ble_eq_true rfl, Nat.le_of_ble_eq_true rfl, rfl, (Or.inr ⟨_, rfl, t0⟩)⟩ rfl rfl k (fun x_123 h_122 r_124 k => ?_)
                refine R_ps 1 (pc2 := 139) (L2 := [some (vr (some w)), some (vi (J x1)), some (vi (J x2)), some (vi (J x_82)), some (vi (J 1)), some (vi (J 1))]) (st2 := [vi (J 1), vi (J x_123)]) rfl ?_
                refine R_zif (x := x_123) (z := 1) rfl r_124 (by decide) (fun c_125 => ?_) (fun c_125 => ?_)
                · have k := k.2 c_125
                  exact R_drop k (LE_of (L := [none, none, none, none, none, some (vi (J 1))]) (L2 := [some (vr (some w)), some (vi (J x1)), some (vi (J x2)), some (vi (J x_82)), some (vi (J 1)), some (vi (J 1))]) ⟨rfl, trivial⟩)
                · have k := k.1 (Classical.not_not.mp c_125)
                  refine R_ps 1 (pc2 := 144) (L2 := [some (vr (some w)), some (vi (J x1)), some (vi (J x2)), some (vi (J x_82)), some (vi (J 1)), some (vi (J 1))]) (st2 := [vi (J 1)]) rfl ?_
                  refine R_zif0 (x := 1) rfl (by decide) (fun _ => ?_) (fun c_126 => absurd (show ¬ (1 : Int) = (0 : Int) by decide) c_126)
                  exact R_drop k (LE_of (L := [none, none, none, none, none, some (vi (J 1))]) (L2 := [some (vr (some w)), some (vi (J x1)), some (vi (J x2)), some (vi (J x_82)), some (vi (J 1)), some (vi (J 1))]) ⟨rfl, trivial⟩)
        · have k := k.1 (Classical.not_not.mp c_76)
          refine R_ps 1 (pc2 := 54) (L2 := [some (vr (some w)), some (vi (J x1)), some (vi (J x2)), none, none, none]) (st2 := [vi (J 0)]) rfl ?_
          exact R_iret rfl rfl (R_zr (x := 0) (K := K) (by decide) k)
    · have k := k.1 (Classical.not_not.mp c_10)
      refine R_ps 2 (pc2 := 43) (L2 := [some (vr (some w)), some (vi (J x1)), some (vi (J x2)), none, none, none]) (st2 := [vi (J 2), vr (some w)]) rfl ?_
      refine R_zputI (x := 2) (z := 0) rfl t0 rfl ?_
      show WP T N _ _ _ _ (wi h_7 w 0 2) _
      generalize e_130 : wi h_7 w 0 2 = h_129
      replace k := k h_129 e_130.symm
      refine R_ps 1 (pc2 := 47) (L2 := [some (vr (some w)), some (vi (J x1)), some (vi (J x2)), none, none, none]) (st2 := [vr (some w)]) rfl ?_
      refine R_zgetI (z := 0) rfl t0 rfl ?_
      refine R_zif0 (x := ai h_129 w 0) rfl (ai_in _ _ _) (fun c_132 => ?_) (fun c_132 => ?_)
      · have k := k.2 c_132
        refine R_ps 1 (pc2 := 56) (L2 := [some (vr (some w)), some (vi (J x1)), some (vi (J x2)), none, none, none]) (st2 := [vr (some w)]) rfl ?_
        refine R_cV (as := [vr (some w)]) rfl rfl ⟨Nat.le_of_ble_eq_true rfl, Nat.le_of_ble_eq_true rfl, rfl, (Or.inr ⟨_, rfl, t0⟩)⟩ rfl rfl k (fun h_134 k => ?_)
        refine R_ps 3 (pc2 := 62) (L2 := [some (vr (some w)), some (vi (J x1)), some (vi (J x2)), none, none, none]) (st2 := [vi (J 1), vi (J x1), vr (some w)]) rfl ?_
        refine R_zcI (as := [vr (some w), vi (J x1), vi (J 1)]) rfl rfl ⟨Nat.le_of_ble_eq_true rfl, Nat.le_of_ble_eq_true rfl, rfl, (Or.inr ⟨_, rfl, t0⟩)⟩ rfl rfl k (fun x_138 h_137 r_139 k => ?_)
        refine R_ps 4 (pc2 := 69) (L2 := [some (vr (some w)), some (vi (J x1)), some (vi (J x2)), some (vi (J x_138)), none, none]) (st2 := [vi (J 0), vi (J x1), vr (some w)]) rfl ?_
        refine R_zcI (as := [vr (some w), vi (J x1), vi (J 0)]) rfl rfl ⟨Nat.le_of_ble_eq_true rfl, Nat.le_of_ble_eq_true rfl, rfl, (Or.inr ⟨_, rfl, t0⟩)⟩ rfl rfl k (fun x_142 h_141 r_143 k => ?_)
        refine R_ps 1 (pc2 := 73) (L2 := [some (vr (some w)), some (vi (J x1)), some (vi (J x2)), some (vi (J x_138)), none, none]) (st2 := [vi (J 2), vi (J x_142)]) rfl ?_
        refine R_zif (x := x_142) (z := 2) rfl r_143 (by decide) (fun c_144 => ?_) (fun c_144 => ?_)
        · have k := k.2 c_144
          exact k
        · have k := k.1 (Classical.not_not.mp c_144)
          refine R_ps 1 (pc2 := 77) (L2 := [some (vr (some w)), some (vi (J x1)), some (vi (J x2)), some (vi (J x_138)), none, none]) (st2 := [vi (J x_138)]) rfl ?_
          refine R_zif0 (x := x_138) rfl r_139 (fun c_145 => ?_) (fun c_145 => ?_)
          · have k := k.2 c_145
            exact k
          · have k := k.1 (Classical.not_not.mp c_145)
            refine R_ps 7 (pc2 := 92) (L2 := [some (vr (some w)), some (vi (J x1)), some (vi (J x2)), some (vi (J x_138)), some (vi (J 1)), none]) (st2 := [vi (J 1), vi ((J x_138) - (J x2))]) rfl ?_
            rw [show ((J x_138) - (J x2)) = J (x_138 - x2) from J_sub' rfl rfl]
            obtain ⟨t_147, k⟩ := k
            refine R_zif (x := x_138 - x2) (z := 1) rfl t_147 (by decide) (fun c_146 => ?_) (fun c_146 => ?_)
            · have k := k.2 c_146
              refine R_ps 8 (pc2 := 110) (L2 := [some (vr (some w)), some (vi (J x1)), some (vi (J x2)), some (vi (J x_138)), some (vi (J 1)), some (vi ((J x_138) - (J x2)))]) (st2 := [vi ((J x_138) - (J x2)), vi (J 1), vi (J x1), vr (some w)]) rfl ?_
              rw [show ((J x_138) - (J x2)) = J (x_138 - x2) from J_sub' rfl rfl]
              refine R_cV (as := [vr (some w), vi (J x1), vi (J 1), vi (J (x_138 - x2))]) rfl rfl ⟨Nat.le_of_ble_eq_true rfl, Nat.le_of_ble_eq_true rfl, rfl, (Or.inr ⟨_, rfl, t0⟩)⟩ rfl rfl k (fun h_149 k => ?_)
              refine R_ps 6 (pc2 := 121) (L2 := [some (vr (some w)), some (vi (J x1)), some (vi (J x2)), some (vi (J x_138)), some (vi (J 1)), some (vi (J (x_138 - x2)))]) (st2 := [vi (J 12), vi (J x1), vr (some w), vi (J 12), vi (J x1), vr (some w)]) rfl ?_
              refine R_zcI (as := [vr (some w), vi (J x1), vi (J 12)]) rfl rfl ⟨Nat.le_of_ble_eq_true rfl, Nat.le_of_ble_eq_true rfl, rfl, (Or.inr ⟨_, rfl, t0⟩)⟩ rfl rfl k (fun x_153 h_152 r_154 k => ?_)
              refine R_ps 4 (pc2 := 129) (L2 := [some (vr (some w)), some (vi (J x1)), some (vi (J x2)), some (vi (J x_138)), some (vi (J 1)), some (vi (J (x_138 - x2)))]) (st2 := [vi (((J x_153) + (J x_138)) - (J (x_138 - x2))), vi (J 12), vi (J x1), vr (some w)]) rfl ?_
              rw [show (((J x_153) + (J x_138)) - (J (x_138 - x2))) = J ((x_153 + x_138) - (x_138 - x2)) from J_sub' (J_add' rfl rfl) rfl]
              refine R_cV (as := [vr (some w), vi (J x1), vi (J 12), vi (J ((x_153 + x_138) - (x_138 - x2)))]) rfl rfl ⟨Nat.le_of_ble_eq_true rfl, Nat.le_of_ble_eq_true rfl, rfl, (Or.inr ⟨_, rfl, t0⟩)⟩ rfl rfl k (fun h_156 k => ?_)
              refine R_ps 3 (pc2 := 135) (L2 := [some (vr (some w)), some (vi (J x1)), some (vi (J x2)), some (vi (J x_138)), some (vi (J 1)), some (vi (J (x_138 - x2)))]) (st2 := [vi (J 0), vi (J x1), vr (some w)]) rfl ?_
              refine R_zcI (as := [vr (some w), vi (J x1), vi (J 0)]) rfl rfl ⟨Nat.le_of_ble_eq_true rfl, Nat.le_of_ble_eq_true rfl, rfl, (Or.inr ⟨_, rfl, t0⟩)⟩ rfl rfl k (fun x_160 h_159 r_161 k => ?_)
              refine R_ps 1 (pc2 := 139) (L2 := [some (vr (some w)), some (vi (J x1)), some (vi (J x2)), some (vi (J x_138)), some (vi (J 1)), some (vi (J (x_138 - x2)))]) (st2 := [vi (J 1), vi (J x_160)]) rfl ?_
              refine R_zif (x := x_160) (z := 1) rfl r_161 (by decide) (fun c_162 => ?_) (fun c_162 => ?_)
              · have k := k.2 c_162
                exact R_drop k (LE_of (L := [none, none, none, none, none, some (vi (J (x_138 - x2)))]) (L2 := [some (vr (some w)), some (vi (J x1)), some (vi (J x2)), some (vi (J x_138)), some (vi (J 1)), some (vi (J (x_138 - x2)))]) ⟨rfl, trivial⟩)
              · have k := k.1 (Classical.not_not.mp c_162)
                refine R_ps 1 (pc2 := 144) (L2 := [some (vr (some w)), some (vi (J x1)), some (vi (J x2)), some (vi (J x_138)), some (vi (J 1)), some (vi (J (x_138 - x2)))]) (st2 := [vi (J (x_138 - x2))]) rfl ?_
                refine R_zif0 (x := x_138 - x2) rfl t_147 (fun c_163 => ?_) (fun c_163 => ?_)
                · have k := k.2 c_163
                  exact R_drop k (LE_of (L := [none, none, none, none, none, some (vi (J (x_138 - x2)))]) (L2 := [some (vr (some w)), some (vi (J x1)), some (vi (J x2)), some (vi (J x_138)), some (vi (J 1)), some (vi (J (x_138 - x2)))]) ⟨rfl, trivial⟩)
                · have k := k.1 (Classical.not_not.mp c_163)
                  refine R_ps 2 (pc2 := 149) (L2 := [some (vr (some w)), some (vi (J x1)), some (vi (J x2)), some (vi (J x_138)), some (vi (J 1)), some (vi (J (x_138 - x2)))]) (st2 := [vi (J x1), vr (some w)]) rfl ?_
                  refine R_cV (as := [vr (some w), vi (J x1)]) rfl rfl ⟨Nat.le_of_ble_eq_true rfl, Nat.le_of_ble_eq_true rfl, rfl, (Or.inr ⟨_, rfl, t0⟩)⟩ rfl rfl k (fun h_165 k => ?_)
                  exact R_drop k (LE_of (L := [none, none, none, none, none, some (vi (J (x_138 - x2)))]) (L2 := [some (vr (some w)), some (vi (J x1)), some (vi (J x2)), some (vi (J x_138)), some (vi (J 1)), some (vi (J (x_138 - x2)))]) ⟨rfl, trivial⟩)
            · have k := k.1 (Classical.not_not.mp c_146)
              refine R_ps 7 (pc2 := 110) (L2 := [some (vr (some w)), some (vi (J x1)), some (vi (J x2)), some (vi (J x_138)), some (vi (J 1)), some (vi (J 1))]) (st2 := [vi (J 1), vi (J 1), vi (J x1), vr (some w)]) rfl ?_
              refine R_cV (as := [vr (some w), vi (J x1), vi (J 1), vi (J 1)]) rfl rfl ⟨Nat.le_of_ble_eq_true rfl, Nat.le_of_ble_eq_true rfl, rfl, (Or.inr ⟨_, rfl, t0⟩)⟩ rfl rfl k (fun h_168 k => ?_)
              refine R_ps 6 (pc2 := 121) (L2 := [some (vr (some w)), some (vi (J x1)), some (vi (J x2)), some (vi (J x_138)), some (vi (J 1)), some (vi (J 1))]) (st2 := [vi (J 12), vi (J x1), vr (some w), vi (J 12), vi (J x1), vr (some w)]) rfl ?_
              refine R_zcI (as := [vr (some w), vi (J x1), vi (J 12)]) rfl rfl ⟨Nat.le_of_ble_eq_true rfl, Nat.le_of_ble_eq_true rfl, rfl, (Or.inr ⟨_, rfl, t0⟩)⟩ rfl rfl k (fun x_172 h_171 r_173 k => ?_)
              refine R_ps 4 (pc2 := 129) (L2 := [some (vr (some w)), some (vi (J x1)), some (vi (J x2)), some (vi (J x_138)), some (vi (J 1)), some (vi (J 1))]) (st2 := [vi (((J x_172) + (J x_138)) - (J 1)), vi (J 12), vi (J x1), vr (some w)]) rfl ?_
              rw [show (((J x_172) + (J x_138)) - (J 1)) = J ((x_172 + x_138) - 1) from J_sub' (J_add' rfl rfl) rfl]
              refine R_cV (as := [vr (some w), vi (J x1), vi (J 12), vi (J ((x_172 + x_138) - 1))]) rfl rfl ⟨Nat.le_of_ble_eq_true rfl, Nat.le_of_ble_eq_true rfl, rfl, (Or.inr ⟨_, rfl, t0⟩)⟩ rfl rfl k (fun h_175 k => ?_)
              refine R_ps 3 (pc2 := 135) (L2 := [some (vr (some w)), some (vi (J x1)), some (vi (J x2)), some (vi (J x_138)), some (vi (J 1)), some (vi (J 1))]) (st2 := [vi (J 0), vi (J x1), vr (some w)]) rfl ?_
              refine R_zcI (as := [vr (some w), vi (J x1), vi (J 0)]) rfl rfl ⟨Nat.le_of_ble_eq_true rfl, Nat.le_of_ble_eq_true rfl, rfl, (Or.inr ⟨_, rfl, t0⟩)⟩ rfl rfl k (fun x_179 h_178 r_180 k => ?_)
              refine R_ps 1 (pc2 := 139) (L2 := [some (vr (some w)), some (vi (J x1)), some (vi (J x2)), some (vi (J x_138)), some (vi (J 1)), some (vi (J 1))]) (st2 := [vi (J 1), vi (J x_179)]) rfl ?_
              refine R_zif (x := x_179) (z := 1) rfl r_180 (by decide) (fun c_181 => ?_) (fun c_181 => ?_)
              · have k := k.2 c_181
                exact R_drop k (LE_of (L := [none, none, none, none, none, some (vi (J 1))]) (L2 := [some (vr (some w)), some (vi (J x1)), some (vi (J x2)), some (vi (J x_138)), some (vi (J 1)), some (vi (J 1))]) ⟨rfl, trivial⟩)
              · have k := k.1 (Classical.not_not.mp c_181)
                refine R_ps 1 (pc2 := 144) (L2 := [some (vr (some w)), some (vi (J x1)), some (vi (J x2)), some (vi (J x_138)), some (vi (J 1)), some (vi (J 1))]) (st2 := [vi (J 1)]) rfl ?_
                refine R_zif0 (x := 1) rfl (by decide) (fun _ => ?_) (fun c_182 => absurd (show ¬ (1 : Int) = (0 : Int) by decide) c_182)
                exact R_drop k (LE_of (L := [none, none, none, none, none, some (vi (J 1))]) (L2 := [some (vr (some w)), some (vi (J x1)), some (vi (J x2)), some (vi (J x_138)), some (vi (J 1)), some (vi (J 1))]) ⟨rfl, trivial⟩)
      · have k := k.1 (Classical.not_not.mp c_132)
        refine R_ps 1 (pc2 := 54) (L2 := [some (vr (some w)), some (vi (J x1)), some (vi (J x2)), none, none, none]) (st2 := [vi (J 0)]) rfl ?_
        exact R_iret rfl rfl (R_zr (x := 0) (K := K) (by decide) k)
  · have k := k.1 (Classical.not_not.mp c_5)
    refine R_ps 2 (pc2 := 43) (L2 := [some (vr (some w)), some (vi (J x1)), some (vi (J x2)), none, none, none]) (st2 := [vi (J 1), vr (some w)]) rfl ?_
    refine R_zputI (x := 1) (z := 0) rfl t0 rfl ?_
    show WP T N _ _ _ _ (wi h_2 w 0 1) _
    generalize e_186 : wi h_2 w 0 1 = h_185
    replace k := k h_185 e_186.symm
    refine R_ps 1 (pc2 := 47) (L2 := [some (vr (some w)), some (vi (J x1)), some (vi (J x2)), none, none, none]) (st2 := [vr (some w)]) rfl ?_
    refine R_zgetI (z := 0) rfl t0 rfl ?_
    refine R_zif0 (x := ai h_185 w 0) rfl (ai_in _ _ _) (fun c_188 => ?_) (fun c_188 => ?_)
    · have k := k.2 c_188
      refine R_ps 1 (pc2 := 56) (L2 := [some (vr (some w)), some (vi (J x1)), some (vi (J x2)), none, none, none]) (st2 := [vr (some w)]) rfl ?_
      refine R_cV (as := [vr (some w)]) rfl rfl ⟨Nat.le_of_ble_eq_true rfl, Nat.le_of_ble_eq_true rfl, rfl, (Or.inr ⟨_, rfl, t0⟩)⟩ rfl rfl k (fun h_190 k => ?_)
      refine R_ps 3 (pc2 := 62) (L2 := [some (vr (some w)), some (vi (J x1)), some (vi (J x2)), none, none, none]) (st2 := [vi (J 1), vi (J x1), vr (some w)]) rfl ?_
      refine R_zcI (as := [vr (some w), vi (J x1), vi (J 1)]) rfl rfl ⟨Nat.le_of_ble_eq_true rfl, Nat.le_of_ble_eq_true rfl, rfl, (Or.inr ⟨_, rfl, t0⟩)⟩ rfl rfl k (fun x_194 h_193 r_195 k => ?_)
      refine R_ps 4 (pc2 := 69) (L2 := [some (vr (some w)), some (vi (J x1)), some (vi (J x2)), some (vi (J x_194)), none, none]) (st2 := [vi (J 0), vi (J x1), vr (some w)]) rfl ?_
      refine R_zcI (as := [vr (some w), vi (J x1), vi (J 0)]) rfl rfl ⟨Nat.le_of_ble_eq_true rfl, Nat.le_of_ble_eq_true rfl, rfl, (Or.inr ⟨_, rfl, t0⟩)⟩ rfl rfl k (fun x_198 h_197 r_199 k => ?_)
      refine R_ps 1 (pc2 := 73) (L2 := [some (vr (some w)), some (vi (J x1)), some (vi (J x2)), some (vi (J x_194)), none, none]) (st2 := [vi (J 2), vi (J x_198)]) rfl ?_
      refine R_zif (x := x_198) (z := 2) rfl r_199 (by decide) (fun c_200 => ?_) (fun c_200 => ?_)
      · have k := k.2 c_200
        exact k
      · have k := k.1 (Classical.not_not.mp c_200)
        refine R_ps 1 (pc2 := 77) (L2 := [some (vr (some w)), some (vi (J x1)), some (vi (J x2)), some (vi (J x_194)), none, none]) (st2 := [vi (J x_194)]) rfl ?_
        refine R_zif0 (x := x_194) rfl r_195 (fun c_201 => ?_) (fun c_201 => ?_)
        · have k := k.2 c_201
          exact k
        · have k := k.1 (Classical.not_not.mp c_201)
          refine R_ps 7 (pc2 := 92) (L2 := [some (vr (some w)), some (vi (J x1)), some (vi (J x2)), some (vi (J x_194)), some (vi (J 1)), none]) (st2 := [vi (J 1), vi ((J x_194) - (J x2))]) rfl ?_
          rw [show ((J x_194) - (J x2)) = J (x_194 - x2) from J_sub' rfl rfl]
          obtain ⟨t_203, k⟩ := k
          refine R_zif (x := x_194 - x2) (z := 1) rfl t_203 (by decide) (fun c_202 => ?_) (fun c_202 => ?_)
          · have k := k.2 c_202
            refine R_ps 8 (pc2 := 110) (L2 := [some (vr (some w)), some (vi (J x1)), some (vi (J x2)), some (vi (J x_194)), some (vi (J 1)), some (vi ((J x_194) - (J x2)))]) (st2 := [vi ((J x_194) - (J x2)), vi (J 1), vi (J x1), vr (some w)]) rfl ?_
            rw [show ((J x_194) - (J x2)) = J (x_194 - x2) from J_sub' rfl rfl]
            refine R_cV (as := [vr (some w), vi (J x1), vi (J 1), vi (J (x_194 - x2))]) rfl rfl ⟨Nat.le_of_ble_eq_true rfl, Nat.le_of_ble_eq_true rfl, rfl, (Or.inr ⟨_, rfl, t0⟩)⟩ rfl rfl k (fun h_205 k => ?_)
            refine R_ps 6 (pc2 := 121) (L2 := [some (vr (some w)), some (vi (J x1)), some (vi (J x2)), some (vi (J x_194)), some (vi (J 1)), some (vi (J (x_194 - x2)))]) (st2 := [vi (J 12), vi (J x1), vr (some w), vi (J 12), vi (J x1), vr (some w)]) rfl ?_
            refine R_zcI (as := [vr (some w), vi (J x1), vi (J 12)]) rfl rfl ⟨Nat.le_of_ble_eq_true rfl, Nat.le_of_ble_eq_true rfl, rfl, (Or.inr ⟨_, rfl, t0⟩)⟩ rfl rfl k (fun x_209 h_208 r_210 k => ?_)
            refine R_ps 4 (pc2 := 129) (L2 := [some (vr (some w)), some (vi (J x1)), some (vi (J x2)), some (vi (J x_194)), some (vi (J 1)), some (vi (J (x_194 - x2)))]) (st2 := [vi (((J x_209) + (J x_194)) - (J (x_194 - x2))), vi (J 12), vi (J x1), vr (some w)]) rfl ?_
            rw [show (((J x_209) + (J x_194)) - (J (x_194 - x2))) = J ((x_209 + x_194) - (x_194 - x2)) from J_sub' (J_add' rfl rfl) rfl]
            refine R_cV (as := [vr (some w), vi (J x1), vi (J 12), vi (J ((x_209 + x_194) - (x_194 - x2)))]) rfl rfl ⟨Nat.le_of_ble_eq_true rfl, Nat.le_of_ble_eq_true rfl, rfl, (Or.inr ⟨_, rfl, t0⟩)⟩ rfl rfl k (fun h_212 k => ?_)
            refine R_ps 3 (pc2 := 135) (L2 := [some (vr (some w)), some (vi (J x1)), some (vi (J x2)), some (vi (J x_194)), some (vi (J 1)), some (vi (J (x_194 - x2)))]) (st2 := [vi (J 0), vi (J x1), vr (some w)]) rfl ?_
            refine R_zcI (as := [vr (some w), vi (J x1), vi (J 0)]) rfl rfl ⟨Nat.le_of_ble_eq_true rfl, Nat.le_of_ble_eq_true rfl, rfl, (Or.inr ⟨_, rfl, t0⟩)⟩ rfl rfl k (fun x_216 h_215 r_217 k => ?_)
            refine R_ps 1 (pc2 := 139) (L2 := [some (vr (some w)), some (vi (J x1)), some (vi (J x2)), some (vi (J x_194)), some (vi (J 1)), some (vi (J (x_194 - x2)))]) (st2 := [vi (J 1), vi (J x_216)]) rfl ?_
            refine R_zif (x := x_216) (z := 1) rfl r_217 (by decide) (fun c_218 => ?_) (fun c_218 => ?_)
            · have k := k.2 c_218
              exact R_drop k (LE_of (L := [none, none, none, none, none, some (vi (J (x_194 - x2)))]) (L2 := [some (vr (some w)), some (vi (J x1)), some (vi (J x2)), some (vi (J x_194)), some (vi (J 1)), some (vi (J (x_194 - x2)))]) ⟨rfl, trivial⟩)
            · have k := k.1 (Classical.not_not.mp c_218)
              refine R_ps 1 (pc2 := 144) (L2 := [some (vr (some w)), some (vi (J x1)), some (vi (J x2)), some (vi (J x_194)), some (vi (J 1)), some (vi (J (x_194 - x2)))]) (st2 := [vi (J (x_194 - x2))]) rfl ?_
              refine R_zif0 (x := x_194 - x2) rfl t_203 (fun c_219 => ?_) (fun c_219 => ?_)
              · have k := k.2 c_219
                exact R_drop k (LE_of (L := [none, none, none, none, none, some (vi (J (x_194 - x2)))]) (L2 := [some (vr (some w)), some (vi (J x1)), some (vi (J x2)), some (vi (J x_194)), some (vi (J 1)), some (vi (J (x_194 - x2)))]) ⟨rfl, trivial⟩)
              · have k := k.1 (Classical.not_not.mp c_219)
                refine R_ps 2 (pc2 := 149) (L2 := [some (vr (some w)), some (vi (J x1)), some (vi (J x2)), some (vi (J x_194)), some (vi (J 1)), some (vi (J (x_194 - x2)))]) (st2 := [vi (J x1), vr (some w)]) rfl ?_
                refine R_cV (as := [vr (some w), vi (J x1)]) rfl rfl ⟨Nat.le_of_ble_eq_true rfl, Nat.le_of_ble_eq_true rfl, rfl, (Or.inr ⟨_, rfl, t0⟩)⟩ rfl rfl k (fun h_221 k => ?_)
                exact R_drop k (LE_of (L := [none, none, none, none, none, some (vi (J (x_194 - x2)))]) (L2 := [some (vr (some w)), some (vi (J x1)), some (vi (J x2)), some (vi (J x_194)), some (vi (J 1)), some (vi (J (x_194 - x2)))]) ⟨rfl, trivial⟩)
          · have k := k.1 (Classical.not_not.mp c_202)
            refine R_ps 7 (pc2 := 110) (L2 := [some (vr (some w)), some (vi (J x1)), some (vi (J x2)), some (vi (J x_194)), some (vi (J 1)), some (vi (J 1))]) (st2 := [vi (J 1), vi (J 1), vi (J x1), vr (some w)]) rfl ?_
            refine R_cV (as := [vr (some w), vi (J x1), vi (J 1), vi (J 1)]) rfl rfl ⟨Nat.le_of_ble_eq_true rfl, Nat.le_of_ble_eq_true rfl, rfl, (Or.inr ⟨_, rfl, t0⟩)⟩ rfl rfl k (fun h_224 k => ?_)
            refine R_ps 6 (pc2 := 121) (L2 := [some (vr (some w)), some (vi (J x1)), some (vi (J x2)), some (vi (J x_194)), some (vi (J 1)), some (vi (J 1))]) (st2 := [vi (J 12), vi (J x1), vr (some w), vi (J 12), vi (J x1), vr (some w)]) rfl ?_
            refine R_zcI (as := [vr (some w), vi (J x1), vi (J 12)]) rfl rfl ⟨Nat.le_of_ble_eq_true rfl, Nat.le_of_ble_eq_true rfl, rfl, (Or.inr ⟨_, rfl, t0⟩)⟩ rfl rfl k (fun x_228 h_227 r_229 k => ?_)
            refine R_ps 4 (pc2 := 129) (L2 := [some (vr (some w)), some (vi (J x1)), some (vi (J x2)), some (vi (J x_194)), some (vi (J 1)), some (vi (J 1))]) (st2 := [vi (((J x_228) + (J x_194)) - (J 1)), vi (J 12), vi (J x1), vr (some w)]) rfl ?_
            rw [show (((J x_228) + (J x_194)) - (J 1)) = J ((x_228 + x_194) - 1) from J_sub' (J_add' rfl rfl) rfl]
            refine R_cV (as := [vr (some w), vi (J x1), vi (J 12), vi (J ((x_228 + x_194) - 1))]) rfl rfl ⟨Nat.le_of_ble_eq_true rfl, Nat.le_of_ble_eq_true rfl, rfl, (Or.inr ⟨_, rfl, t0⟩)⟩ rfl rfl k (fun h_231 k => ?_)
            refine R_ps 3 (pc2 := 135) (L2 := [some (vr (some w)), some (vi (J x1)), some (vi (J x2)), some (vi (J x_194)), some (vi (J 1)), some (vi (J 1))]) (st2 := [vi (J 0), vi (J x1), vr (some w)]) rfl ?_
            refine R_zcI (as := [vr (some w), vi (J x1), vi (J 0)]) rfl rfl ⟨Nat.le_of_ble_eq_true rfl, Nat.le_of_ble_eq_true rfl, rfl, (Or.inr ⟨_, rfl, t0⟩)⟩ rfl rfl k (fun x_235 h_234 r_236 k => ?_)
            refine R_ps 1 (pc2 := 139) (L2 := [some (vr (some w)), some (vi (J x1)), some (vi (J x2)), some (vi (J x_194)), some (vi (J 1)), some (vi (J 1))]) (st2 := [vi (J 1), vi (J x_235)]) rfl ?_
            refine R_zif (x := x_235) (z := 1) rfl r_236 (by decide) (fun c_237 => ?_) (fun c_237 => ?_)
            · have k := k.2 c_237
              exact R_drop k (LE_of (L := [none, none, none, none, none, some (vi (J 1))]) (L2 := [some (vr (some w)), some (vi (J x1)), some (vi (J x2)), some (vi (J x_194)), some (vi (J 1)), some (vi (J 1))]) ⟨rfl, trivial⟩)
            · have k := k.1 (Classical.not_not.mp c_237)
              refine R_ps 1 (pc2 := 144) (L2 := [some (vr (some w)), some (vi (J x1)), some (vi (J x2)), some (vi (J x_194)), some (vi (J 1)), some (vi (J 1))]) (st2 := [vi (J 1)]) rfl ?_
              refine R_zif0 (x := 1) rfl (by decide) (fun _ => ?_) (fun c_238 => absurd (show ¬ (1 : Int) = (0 : Int) by decide) c_238)
              exact R_drop k (LE_of (L := [none, none, none, none, none, some (vi (J 1))]) (L2 := [some (vr (some w)), some (vi (J x1)), some (vi (J x2)), some (vi (J x_194)), some (vi (J 1)), some (vi (J 1))]) ⟨rfl, trivial⟩)
    · have k := k.1 (Classical.not_not.mp c_188)
      refine R_ps 1 (pc2 := 54) (L2 := [some (vr (some w)), some (vi (J x1)), some (vi (J x2)), none, none, none]) (st2 := [vi (J 0)]) rfl ?_
      exact R_iret rfl rfl (R_zr (x := 0) (K := K) (by decide) k)
theorem z221_84 {T N : Nat → Nat} {h : PH} {w : Nat} {x1 : Int} {x2 : Int} {x3 : Int} {K : Int → PH → Prop} (t0 : T w = 12) (r1 : In x1) (r2 : In x2) (r3 : In x3) (k : (In (x3 - x2) ∧ (((x3 - x2) < 0 → (CV T N 169 [vr (some w), vi (J x1), vi (J 1), vi (J 0)] h (fun h_23 => (ZI T N 168 [vr (some w), vi (J x1), vi (J 12)] h_23 (fun x_27 h_26 => (CV T N 169 [vr (some w), vi (J x1), vi (J 12), vi (J ((x_27 + x3) - 0))] h_26 (fun h_30 => (ZI T N 168 [vr (some w), vi (J x1), vi (J 0)] h_30 (fun x_34 h_33 => (((x_34 = 1 → (CV T N 220 [vr (some w), vi (J x1)] h_33 (fun h_39 => (ZW T N 221 152 [none, none, none, none, none, some (vi (J 0))] [] h_39 K)))) ∧ (¬ (x_34 = 1) → (ZW T N 221 152 [none, none, none, none, none, some (vi (J 0))] [] h_33 K))))))))))))) ∧ (¬ ((x3 - x2) < 0) → (CV T N 169 [vr (some w), vi (J x1), vi (J 1), vi (J (x3 - x2))] h (fun h_4 => (ZI T N 168 [vr (some w), vi (J x1), vi (J 12)] h_4 (fun x_8 h_7 => (CV T N 169 [vr (some w), vi (J x1), vi (J 12), vi (J ((x_8 + x3) - (x3 - x2)))] h_7 (fun h_11 => (ZI T N 168 [vr (some w), vi (J x1), vi (J 0)] h_11 (fun x_15 h_14 => (((x_15 = 1 → ((((x3 - x2) = 0 → (CV T N 220 [vr (some w), vi (J x1)] h_14 (fun h_20 => (ZW T N 221 152 [none, none, none, none, none, some (vi (J (x3 - x2)))] [] h_20 K)))) ∧ (¬ ((x3 - x2) = 0) → (ZW T N 221 152 [none, none, none, none, none, some (vi (J (x3 - x2)))] [] h_14 K))))) ∧ (¬ (x_15 = 1) → (ZW T N 221 152 [none, none, none, none, none, some (vi (J (x3 - x2)))] [] h_14 K)))))))))))))))) : ZW T N 221 84 [some (vr (some w)), some (vi (J x1)), some (vi (J x2)), some (vi (J x3)), none, none] [] h K := by
  show WP T N 221 84 [some (vr (some w)), some (vi (J x1)), some (vi (J x2)), some (vi (J x3)), none, none] [] h _
  refine R_ps 6 (pc2 := 92) (L2 := [some (vr (some w)), some (vi (J x1)), some (vi (J x2)), some (vi (J x3)), some (vi (J 0)), none]) (st2 := [vi (J 0), vi ((J x3) - (J x2))]) rfl ?_
  rw [show ((J x3) - (J x2)) = J (x3 - x2) from J_sub' rfl rfl]
  obtain ⟨t_2, k⟩ := k
  refine R_zif (x := x3 - x2) (z := 0) rfl t_2 (by decide) (fun c_1 => ?_) (fun c_1 => ?_)
  · have k := k.2 c_1
    refine R_ps 8 (pc2 := 110) (L2 := [some (vr (some w)), some (vi (J x1)), some (vi (J x2)), some (vi (J x3)), some (vi (J 0)), some (vi ((J x3) - (J x2)))]) (st2 := [vi ((J x3) - (J x2)), vi (J 1), vi (J x1), vr (some w)]) rfl ?_
    rw [show ((J x3) - (J x2)) = J (x3 - x2) from J_sub' rfl rfl]
    refine R_cV (as := [vr (some w), vi (J x1), vi (J 1), vi (J (x3 - x2))]) rfl rfl ⟨Nat.le_of_ble_eq_true rfl, Nat.le_of_ble_eq_true rfl, rfl, (Or.inr ⟨_, rfl, t0⟩)⟩ rfl rfl k (fun h_4 k => ?_)
    refine R_ps 6 (pc2 := 121) (L2 := [some (vr (some w)), some (vi (J x1)), some (vi (J x2)), some (vi (J x3)), some (vi (J 0)), some (vi (J (x3 - x2)))]) (st2 := [vi (J 12), vi (J x1), vr (some w), vi (J 12), vi (J x1), vr (some w)]) rfl ?_
    refine R_zcI (as := [vr (some w), vi (J x1), vi (J 12)]) rfl rfl ⟨Nat.le_of_ble_eq_true rfl, Nat.le_of_ble_eq_true rfl, rfl, (Or.inr ⟨_, rfl, t0⟩)⟩ rfl rfl k (fun x_8 h_7 r_9 k => ?_)
    refine R_ps 4 (pc2 := 129) (L2 := [some (vr (some w)), some (vi (J x1)), some (vi (J x2)), some (vi (J x3)), some (vi (J 0)), some (vi (J (x3 - x2)))]) (st2 := [vi (((J x_8) + (J x3)) - (J (x3 - x2))), vi (J 12), vi (J x1), vr (some w)]) rfl ?_
    rw [show (((J x_8) + (J x3)) - (J (x3 - x2))) = J ((x_8 + x3) - (x3 - x2)) from J_sub' (J_add' rfl rfl) rfl]
    refine R_cV (as := [vr (some w), vi (J x1), vi (J 12), vi (J ((x_8 + x3) - (x3 - x2)))]) rfl rfl ⟨Nat.le_of_ble_eq_true rfl, Nat.le_of_ble_eq_true rfl, rfl, (Or.inr ⟨_, rfl, t0⟩)⟩ rfl rfl k (fun h_11 k => ?_)
    refine R_ps 3 (pc2 := 135) (L2 := [some (vr (some w)), some (vi (J x1)), some (vi (J x2)), some (vi (J x3)), some (vi (J 0)), some (vi (J (x3 - x2)))]) (st2 := [vi (J 0), vi (J x1), vr (some w)]) rfl ?_
    refine R_zcI (as := [vr (some w), vi (J x1), vi (J 0)]) rfl rfl ⟨Nat.le_of_ble_eq_true rfl, Nat.le_of_ble_eq_true rfl, rfl, (Or.inr ⟨_, rfl, t0⟩)⟩ rfl rfl k (fun x_15 h_14 r_16 k => ?_)
    refine R_ps 1 (pc2 := 139) (L2 := [some (vr (some w)), some (vi (J x1)), some (vi (J x2)), some (vi (J x3)), some (vi (J 0)), some (vi (J (x3 - x2)))]) (st2 := [vi (J 1), vi (J x_15)]) rfl ?_
    refine R_zif (x := x_15) (z := 1) rfl r_16 (by decide) (fun c_17 => ?_) (fun c_17 => ?_)
    · have k := k.2 c_17
      exact R_drop k (LE_of (L := [none, none, none, none, none, some (vi (J (x3 - x2)))]) (L2 := [some (vr (some w)), some (vi (J x1)), some (vi (J x2)), some (vi (J x3)), some (vi (J 0)), some (vi (J (x3 - x2)))]) ⟨rfl, trivial⟩)
    · have k := k.1 (Classical.not_not.mp c_17)
      refine R_ps 1 (pc2 := 144) (L2 := [some (vr (some w)), some (vi (J x1)), some (vi (J x2)), some (vi (J x3)), some (vi (J 0)), some (vi (J (x3 - x2)))]) (st2 := [vi (J (x3 - x2))]) rfl ?_
      refine R_zif0 (x := x3 - x2) rfl t_2 (fun c_18 => ?_) (fun c_18 => ?_)
      · have k := k.2 c_18
        exact R_drop k (LE_of (L := [none, none, none, none, none, some (vi (J (x3 - x2)))]) (L2 := [some (vr (some w)), some (vi (J x1)), some (vi (J x2)), some (vi (J x3)), some (vi (J 0)), some (vi (J (x3 - x2)))]) ⟨rfl, trivial⟩)
      · have k := k.1 (Classical.not_not.mp c_18)
        refine R_ps 2 (pc2 := 149) (L2 := [some (vr (some w)), some (vi (J x1)), some (vi (J x2)), some (vi (J x3)), some (vi (J 0)), some (vi (J (x3 - x2)))]) (st2 := [vi (J x1), vr (some w)]) rfl ?_
        refine R_cV (as := [vr (some w), vi (J x1)]) rfl rfl ⟨Nat.le_of_ble_eq_true rfl, Nat.le_of_ble_eq_true rfl, rfl, (Or.inr ⟨_, rfl, t0⟩)⟩ rfl rfl k (fun h_20 k => ?_)
        exact R_drop k (LE_of (L := [none, none, none, none, none, some (vi (J (x3 - x2)))]) (L2 := [some (vr (some w)), some (vi (J x1)), some (vi (J x2)), some (vi (J x3)), some (vi (J 0)), some (vi (J (x3 - x2)))]) ⟨rfl, trivial⟩)
  · have k := k.1 (Classical.not_not.mp c_1)
    refine R_ps 7 (pc2 := 110) (L2 := [some (vr (some w)), some (vi (J x1)), some (vi (J x2)), some (vi (J x3)), some (vi (J 0)), some (vi (J 0))]) (st2 := [vi (J 0), vi (J 1), vi (J x1), vr (some w)]) rfl ?_
    refine R_cV (as := [vr (some w), vi (J x1), vi (J 1), vi (J 0)]) rfl rfl ⟨Nat.le_of_ble_eq_true rfl, Nat.le_of_ble_eq_true rfl, rfl, (Or.inr ⟨_, rfl, t0⟩)⟩ rfl rfl k (fun h_23 k => ?_)
    refine R_ps 6 (pc2 := 121) (L2 := [some (vr (some w)), some (vi (J x1)), some (vi (J x2)), some (vi (J x3)), some (vi (J 0)), some (vi (J 0))]) (st2 := [vi (J 12), vi (J x1), vr (some w), vi (J 12), vi (J x1), vr (some w)]) rfl ?_
    refine R_zcI (as := [vr (some w), vi (J x1), vi (J 12)]) rfl rfl ⟨Nat.le_of_ble_eq_true rfl, Nat.le_of_ble_eq_true rfl, rfl, (Or.inr ⟨_, rfl, t0⟩)⟩ rfl rfl k (fun x_27 h_26 r_28 k => ?_)
    refine R_ps 4 (pc2 := 129) (L2 := [some (vr (some w)), some (vi (J x1)), some (vi (J x2)), some (vi (J x3)), some (vi (J 0)), some (vi (J 0))]) (st2 := [vi (((J x_27) + (J x3)) - (J 0)), vi (J 12), vi (J x1), vr (some w)]) rfl ?_
    rw [show (((J x_27) + (J x3)) - (J 0)) = J ((x_27 + x3) - 0) from J_sub' (J_add' rfl rfl) rfl]
    refine R_cV (as := [vr (some w), vi (J x1), vi (J 12), vi (J ((x_27 + x3) - 0))]) rfl rfl ⟨Nat.le_of_ble_eq_true rfl, Nat.le_of_ble_eq_true rfl, rfl, (Or.inr ⟨_, rfl, t0⟩)⟩ rfl rfl k (fun h_30 k => ?_)
    refine R_ps 3 (pc2 := 135) (L2 := [some (vr (some w)), some (vi (J x1)), some (vi (J x2)), some (vi (J x3)), some (vi (J 0)), some (vi (J 0))]) (st2 := [vi (J 0), vi (J x1), vr (some w)]) rfl ?_
    refine R_zcI (as := [vr (some w), vi (J x1), vi (J 0)]) rfl rfl ⟨Nat.le_of_ble_eq_true rfl, Nat.le_of_ble_eq_true rfl, rfl, (Or.inr ⟨_, rfl, t0⟩)⟩ rfl rfl k (fun x_34 h_33 r_35 k => ?_)
    refine R_ps 1 (pc2 := 139) (L2 := [some (vr (some w)), some (vi (J x1)), some (vi (J x2)), some (vi (J x3)), some (vi (J 0)), some (vi (J 0))]) (st2 := [vi (J 1), vi (J x_34)]) rfl ?_
    refine R_zif (x := x_34) (z := 1) rfl r_35 (by decide) (fun c_36 => ?_) (fun c_36 => ?_)
    · have k := k.2 c_36
      exact R_drop k (LE_of (L := [none, none, none, none, none, some (vi (J 0))]) (L2 := [some (vr (some w)), some (vi (J x1)), some (vi (J x2)), some (vi (J x3)), some (vi (J 0)), some (vi (J 0))]) ⟨rfl, trivial⟩)
    · have k := k.1 (Classical.not_not.mp c_36)
      refine R_ps 1 (pc2 := 144) (L2 := [some (vr (some w)), some (vi (J x1)), some (vi (J x2)), some (vi (J x3)), some (vi (J 0)), some (vi (J 0))]) (st2 := [vi (J 0)]) rfl ?_
      refine R_zif0 (x := 0) rfl (by decide) (fun c_37 => absurd (show ¬ (0 : Int) = (0 : Int) from c_37) (by decide)) (fun _ => ?_)
      refine R_ps 2 (pc2 := 149) (L2 := [some (vr (some w)), some (vi (J x1)), some (vi (J x2)), some (vi (J x3)), some (vi (J 0)), some (vi (J 0))]) (st2 := [vi (J x1), vr (some w)]) rfl ?_
      refine R_cV (as := [vr (some w), vi (J x1)]) rfl rfl ⟨Nat.le_of_ble_eq_true rfl, Nat.le_of_ble_eq_true rfl, rfl, (Or.inr ⟨_, rfl, t0⟩)⟩ rfl rfl k (fun h_39 k => ?_)
      exact R_drop k (LE_of (L := [none, none, none, none, none, some (vi (J 0))]) (L2 := [some (vr (some w)), some (vi (J x1)), some (vi (J x2)), some (vi (J x3)), some (vi (J 0)), some (vi (J 0))]) ⟨rfl, trivial⟩)
theorem z221_152 {T N : Nat → Nat} {h : PH} {x5 : Int} {K : Int → PH → Prop} (r5 : In x5) (k : (K x5 h)) : ZW T N 221 152 [none, none, none, none, none, some (vi (J x5))] [] h K := by
  show WP T N 221 152 [none, none, none, none, none, some (vi (J x5))] [] h _
  refine R_ps 1 (pc2 := 154) (L2 := [none, none, none, none, none, some (vi (J x5))]) (st2 := [vi (J x5)]) rfl ?_
  exact R_iret rfl rfl (R_zr (x := x5) (K := K) r5 k)
/-- DroneCorridorsModel.firstPad -/
theorem z222 {T N : Nat → Nat} {h : PH} {w : Nat} {K : Int → PH → Prop} (k : (ZW T N 222 6 [some (vr (some w)), some (vi (J (-1))), some (vi (J 0)), some (vi (J 0))] [] h K)) : ZI T N 222 [vr (some w)] h K := by
  show WP T N 222 0 [some (vr (some w)), none, none, none] [] h _
  refine R_ps 6 (pc2 := 6) (L2 := [some (vr (some w)), some (vi (J (-1))), some (vi (J 0)), some (vi (J 0))]) (st2 := []) rfl ?_
  exact k
theorem z222_6 {T N : Nat → Nat} {h : PH} {w : Nat} {x1 : Int} {x2 : Int} {x3 : Int} {K : Int → PH → Prop} (t0 : T w = 12) (r1 : In x1) (r2 : In x2) (r3 : In x3) (k : (∃ a_3, (gr h w 1) = some a_3 ∧ T a_3 = 22 ∧ (0 ≤ (0 : Int) ∧ (0 : Int) < (N a_3 : Int) ∧ (0 : Int) < 2147483648) ∧ ((x3 < (ai h a_3 0) → (∃ a_11, (gr h w 1) = some a_11 ∧ T a_11 = 22 ∧ (0 ≤ (1 + x3) ∧ (1 + x3) < (N a_11 : Int) ∧ (1 + x3) < 2147483648) ∧ (((ai h a_11 (1 + x3)) = 0 → (ZW T N 222 6 [some (vr (some w)), some (vi (J x1)), some (vi (J x2)), some (vi (J (x3 + 1)))] [] h K)) ∧ (¬ ((ai h a_11 (1 + x3)) = 0) → (ZI T N 210 [vr (some w), vi (J x3)] h (fun x_18 h_17 => (((x_18 = (-1) → (ZW T N 222 6 [some (vr (some w)), some (vi (J x1)), some (vi (J x2)), some (vi (J (x3 + 1)))] [] h_17 K)) ∧ (¬ (x_18 = (-1)) → (((x1 < 0 → (ZW T N 222 6 [some (vr (some w)), some (vi (J x3)), some (vi (J (ai h_17 w 21))), some (vi (J (x3 + 1)))] [] h_17 K)) ∧ (¬ (x1 < 0) → ((((ai h_17 w 21) < x2 → (ZW T N 222 6 [some (vr (some w)), some (vi (J x3)), some (vi (J (ai h_17 w 21))), some (vi (J (x3 + 1)))] [] h_17 K)) ∧ (¬ ((ai h_17 w 21) < x2) → (ZW T N 222 6 [some (vr (some w)), some (vi (J x1)), some (vi (J x2)), some (vi (J (x3 + 1)))] [] h_17 K)))))))))))))))) ∧ (¬ (x3 < (ai h a_3 0)) → (K x1 h))))) : ZW T N 222 6 [some (vr (some w)), some (vi (J x1)), some (vi (J x2)), some (vi (J x3))] [] h K := by
  show WP T N 222 6 [some (vr (some w)), some (vi (J x1)), some (vi (J x2)), some (vi (J x3))] [] h _
  refine R_ps 2 (pc2 := 8) (L2 := [some (vr (some w)), some (vi (J x1)), some (vi (J x2)), some (vi (J x3))]) (st2 := [vr (some w), vi (J x3)]) rfl ?_
  refine R_getR rfl t0 ?_
  refine R_ps 1 (pc2 := 12) (L2 := [some (vr (some w)), some (vi (J x1)), some (vi (J x2)), some (vi (J x3))]) (st2 := [vi (J 0), vr (gr h w 1), vi (J x3)]) rfl ?_
  obtain ⟨a_3, e_4, k⟩ := k
  rw [e_4]
  obtain ⟨t_5, k⟩ := k
  obtain ⟨t_6, k⟩ := k
  refine R_ziald (i := 0) rfl (Or.inl t_5) t_6 ?_
  refine R_zif (x := x3) (z := ai h a_3 0) rfl r3 (ai_in _ _ _) (fun c_7 => ?_) (fun c_7 => ?_)
  · have k := k.2 c_7
    refine R_ps 1 (pc2 := 65) (L2 := [some (vr (some w)), some (vi (J x1)), some (vi (J x2)), some (vi (J x3))]) (st2 := [vi (J x1)]) rfl ?_
    exact R_iret rfl rfl (R_zr (x := x1) (K := K) r1 k)
  · have k := k.1 (Classical.not_not.mp c_7)
    refine R_ps 1 (pc2 := 17) (L2 := [some (vr (some w)), some (vi (J x1)), some (vi (J x2)), some (vi (J x3))]) (st2 := [vr (some w)]) rfl ?_
    refine R_getR rfl t0 ?_
    refine R_ps 3 (pc2 := 23) (L2 := [some (vr (some w)), some (vi (J x1)), some (vi (J x2)), some (vi (J x3))]) (st2 := [vi ((J 1) + (J x3)), vr (gr h w 1)]) rfl ?_
    rw [show ((J 1) + (J x3)) = J (1 + x3) from J_add' rfl rfl]
    obtain ⟨a_11, e_12, k⟩ := k
    rw [e_12]
    obtain ⟨t_13, k⟩ := k
    obtain ⟨t_14, k⟩ := k
    refine R_ziald (i := 1 + x3) rfl (Or.inl t_13) t_14 ?_
    refine R_zif0 (x := ai h a_11 (1 + x3)) rfl (ai_in _ _ _) (fun c_15 => ?_) (fun c_15 => ?_)
    · have k := k.1 c_15
      refine R_ps 2 (pc2 := 6) (L2 := [some (vr (some w)), some (vi (J x1)), some (vi (J x2)), some (vi ((J x3) + J 1))]) (st2 := []) rfl ?_
      rw [show ((J x3) + J 1) = J (x3 + 1) from J_add' rfl rfl]
      exact k
    · have k := k.2 c_15
      refine R_ps 2 (pc2 := 29) (L2 := [some (vr (some w)), some (vi (J x1)), some (vi (J x2)), some (vi (J x3))]) (st2 := [vi (J x3), vr (some w)]) rfl ?_
      refine R_zcI (as := [vr (some w), vi (J x3)]) rfl rfl ⟨Nat.le_of_ble_eq_true rfl, Nat.le_of_ble_eq_true rfl, rfl, (Or.inr ⟨_, rfl, t0⟩)⟩ rfl rfl k (fun x_18 h_17 r_19 k => ?_)
      refine R_ps 1 (pc2 := 33) (L2 := [some (vr (some w)), some (vi (J x1)), some (vi (J x2)), some (vi (J x3))]) (st2 := [vi (J (-1)), vi (J x_18)]) rfl ?_
      refine R_zif (x := x_18) (z := (-1)) rfl r_19 (by decide) (fun c_20 => ?_) (fun c_20 => ?_)
      · have k := k.1 c_20
        refine R_ps 2 (pc2 := 6) (L2 := [some (vr (some w)), some (vi (J x1)), some (vi (J x2)), some (vi ((J x3) + J 1))]) (st2 := []) rfl ?_
        rw [show ((J x3) + J 1) = J (x3 + 1) from J_add' rfl rfl]
        exact k
      · have k := k.2 c_20
        refine R_ps 1 (pc2 := 37) (L2 := [some (vr (some w)), some (vi (J x1)), some (vi (J x2)), some (vi (J x3))]) (st2 := [vi (J x1)]) rfl ?_
        refine R_zif0 (x := x1) rfl r1 (fun c_21 => ?_) (fun c_21 => ?_)
        · have k := k.1 c_21
          refine R_ps 3 (pc2 := 54) (L2 := [some (vr (some w)), some (vi (J x3)), some (vi (J x2)), some (vi (J x3))]) (st2 := [vr (some w)]) rfl ?_
          refine R_zgetI (z := 21) rfl t0 rfl ?_
          refine R_ps 3 (pc2 := 6) (L2 := [some (vr (some w)), some (vi (J x3)), some (vi (J (ai h_17 w 21))), some (vi ((J x3) + J 1))]) (st2 := []) rfl ?_
          rw [show ((J x3) + J 1) = J (x3 + 1) from J_add' rfl rfl]
          exact k
        · have k := k.2 c_21
          refine R_ps 1 (pc2 := 41) (L2 := [some (vr (some w)), some (vi (J x1)), some (vi (J x2)), some (vi (J x3))]) (st2 := [vr (some w)]) rfl ?_
          refine R_zgetI (z := 21) rfl t0 rfl ?_
          refine R_ps 1 (pc2 := 45) (L2 := [some (vr (some w)), some (vi (J x1)), some (vi (J x2)), some (vi (J x3))]) (st2 := [vi (J x2), vi (J (ai h_17 w 21))]) rfl ?_
          refine R_zif (x := ai h_17 w 21) (z := x2) rfl (ai_in _ _ _) r2 (fun c_24 => ?_) (fun c_24 => ?_)
          · have k := k.1 c_24
            refine R_ps 3 (pc2 := 54) (L2 := [some (vr (some w)), some (vi (J x3)), some (vi (J x2)), some (vi (J x3))]) (st2 := [vr (some w)]) rfl ?_
            refine R_zgetI (z := 21) rfl t0 rfl ?_
            refine R_ps 3 (pc2 := 6) (L2 := [some (vr (some w)), some (vi (J x3)), some (vi (J (ai h_17 w 21))), some (vi ((J x3) + J 1))]) (st2 := []) rfl ?_
            rw [show ((J x3) + J 1) = J (x3 + 1) from J_add' rfl rfl]
            exact k
          · have k := k.2 c_24
            refine R_ps 3 (pc2 := 6) (L2 := [some (vr (some w)), some (vi (J x1)), some (vi (J x2)), some (vi ((J x3) + J 1))]) (st2 := []) rfl ?_
            rw [show ((J x3) + J 1) = J (x3 + 1) from J_add' rfl rfl]
            exact k
/-- DroneCorridorsModel.reroute -/
theorem z223 {T N : Nat → Nat} {h : PH} {w : Nat} {K : Int → PH → Prop} (t0 : T w = 12) (k : (∀ h_2, h_2 = wi h w 0 0 → CV T N 160 [vr (some w)] h_2 (fun h_5 => (ZI T N 200 [vr (some w)] h_5 (fun x_9 h_8 => (ZW T N 223 18 [some (vr (some w)), some (vi (J x_9)), some (vi (J 0)), some (vi (J 0)), none, none, none, none] [] h_8 K)))))) : ZI T N 223 [vr (some w)] h K := by
  show WP T N 223 0 [some (vr (some w)), none, none, none, none, none, none, none] [] h _
  refine R_ps 2 (pc2 := 2) (L2 := [some (vr (some w)), none, none, none, none, none, none, none]) (st2 := [vi (J 0), vr (some w)]) rfl ?_
  refine R_zputI (x := 0) (z := 0) rfl t0 rfl ?_
  show WP T N _ _ _ _ (wi h w 0 0) _
  generalize e_3 : wi h w 0 0 = h_2
  replace k := k h_2 e_3.symm
  refine R_ps 1 (pc2 := 6) (L2 := [some (vr (some w)), none, none, none, none, none, none, none]) (st2 := [vr (some w)]) rfl ?_
  refine R_cV (as := [vr (some w)]) rfl rfl ⟨Nat.le_of_ble_eq_true rfl, Nat.le_of_ble_eq_true rfl, rfl, (Or.inr ⟨_, rfl, t0⟩)⟩ rfl rfl k (fun h_5 k => ?_)
  refine R_ps 1 (pc2 := 10) (L2 := [some (vr (some w)), none, none, none, none, none, none, none]) (st2 := [vr (some w)]) rfl ?_
  refine R_zcI (as := [vr (some w)]) rfl rfl ⟨Nat.le_of_ble_eq_true rfl, Nat.le_of_ble_eq_true rfl, rfl, (Or.inr ⟨_, rfl, t0⟩)⟩ rfl rfl k (fun x_9 h_8 r_10 k => ?_)
  refine R_ps 5 (pc2 := 18) (L2 := [some (vr (some w)), some (vi (J x_9)), some (vi (J 0)), some (vi (J 0)), none, none, none, none]) (st2 := []) rfl ?_
  exact k
theorem z223_18 {T N : Nat → Nat} {h : PH} {w : Nat} {x1 : Int} {x2 : Int} {x3 : Int} {K : Int → PH → Prop} (t0 : T w = 12) (r1 : In x1) (r2 : In x2) (r3 : In x3) (k : (∃ a_3, (gr h w 1) = some a_3 ∧ T a_3 = 22 ∧ (0 ≤ (117 : Int) ∧ (117 : Int) < (N a_3 : Int) ∧ (117 : Int) < 2147483648) ∧ ((x3 < (ai h a_3 117) → ((((zand (zshr x1 x3) 1) = 0 → (ZW T N 223 18 [some (vr (some w)), some (vi (J x1)), some (vi (J x2)), some (vi (J (x3 + 1))), none, none, none, none] [] h K)) ∧ (¬ ((zand (zshr x1 x3) 1) = 0) → (ZI T N 206 [vr (some w), vi (J x3)] h (fun x_12 h_11 => (CV T N 208 [vr (some w), vi (J x3), vi (J 1), vi (J 1)] h_11 (fun h_15 => (ZI T N 168 [vr (some w), vi (J x3), vi (J 4)] h_15 (fun x_19 h_18 => (((x_12 = 0 → (((x_12 = 0 → (ZI T N 193 [vr (some w), vi (J x3)] h_18 (fun x_26 h_25 => (CV T N 169 [vr (some w), vi (J x3), vi (J 5), vi (J x_26)] h_25 (fun h_29 => (CV T N 169 [vr (some w), vi (J x3), vi (J 4), vi (J (-1))] h_29 (fun h_32 => (ZW T N 223 18 [some (vr (some w)), some (vi (J x1)), some (vi (J x2)), some (vi (J (x3 + 1))), none, none, none, none] [] h_32 K)))))))) ∧ (¬ (x_12 = 0) → (ZI T N 222 [vr (some w)] h_18 (fun x_36 h_35 => (((x_36 < 0 → (ZI T N 193 [vr (some w), vi (J x3)] h_35 (fun x_41 h_40 => (CV T N 169 [vr (some w), vi (J x3), vi (J 5), vi (J x_41)] h_40 (fun h_44 => (CV T N 169 [vr (some w), vi (J x3), vi (J 4), vi (J (-1))] h_44 (fun h_47 => (ZW T N 223 18 [some (vr (some w)), some (vi (J x1)), some (vi (J x2)), some (vi (J (x3 + 1))), none, none, none, none] [] h_47 K)))))))) ∧ (¬ (x_36 < 0) → (ZI T N 210 [vr (some w), vi (J x_36)] h_35 (fun x_51 h_50 => (CV T N 213 [vr (some w), vi (J x3), vi (J x_51), vi (J x_36)] h_50 (fun h_54 => (ZW T N 223 18 [some (vr (some w)), some (vi (J x1)), some (vi (J x2)), some (vi (J (x3 + 1))), none, none, none, none] [] h_54 K)))))))))))))) ∧ (¬ (x_12 = 0) → (ZI T N 210 [vr (some w), vi (J x_19)] h_18 (fun x_58 h_57 => (((x_58 = (-1) → (((x_12 = 0 → (ZI T N 193 [vr (some w), vi (J x3)] h_57 (fun x_65 h_64 => (CV T N 169 [vr (some w), vi (J x3), vi (J 5), vi (J x_65)] h_64 (fun h_68 => (CV T N 169 [vr (some w), vi (J x3), vi (J 4), vi (J (-1))] h_68 (fun h_71 => (ZW T N 223 18 [some (vr (some w)), some (vi (J x1)), some (vi (J x2)), some (vi (J (x3 + 1))), none, none, none, none] [] h_71 K)))))))) ∧ (¬ (x_12 = 0) → (ZI T N 222 [vr (some w)] h_57 (fun x_75 h_74 => (((x_75 < 0 → (ZI T N 193 [vr (some w), vi (J x3)] h_74 (fun x_80 h_79 => (CV T N 169 [vr (some w), vi (J x3), vi (J 5), vi (J x_80)] h_79 (fun h_83 => (CV T N 169 [vr (some w), vi (J x3), vi (J 4), vi (J (-1))] h_83 (fun h_86 => (ZW T N 223 18 [some (vr (some w)), some (vi (J x1)), some (vi (J x2)), some (vi (J (x3 + 1))), none, none, none, none] [] h_86 K)))))))) ∧ (¬ (x_75 < 0) → (ZI T N 210 [vr (some w), vi (J x_75)] h_74 (fun x_90 h_89 => (CV T N 213 [vr (some w), vi (J x3), vi (J x_90), vi (J x_75)] h_89 (fun h_93 => (ZW T N 223 18 [some (vr (some w)), some (vi (J x1)), some (vi (J x2)), some (vi (J (x3 + 1))), none, none, none, none] [] h_93 K)))))))))))))) ∧ (¬ (x_58 = (-1)) → (ZI T N 210 [vr (some w), vi (J x_19)] h_57 (fun x_97 h_96 => (CV T N 213 [vr (some w), vi (J x3), vi (J x_97), vi (J x_19)] h_96 (fun h_100 => (ZW T N 223 18 [some (vr (some w)), some (vi (J x1)), some (vi (J (x2 + 1))), some (vi (J (x3 + 1))), none, none, none, none] [] h_100 K))))))))))))))))))))))) ∧ (¬ (x3 < (ai h a_3 117)) → (K x2 h))))) : ZW T N 223 18 [some (vr (some w)), some (vi (J x1)), some (vi (J x2)), some (vi (J x3)), none, none, none, none] [] h K := by
  show WP T N 223 18 [some (vr (some w)), some (vi (J x1)), some (vi (J x2)), some (vi (J x3)), none, none, none, none] [] h _
  refine R_ps 2 (pc2 := 20) (L2 := [some (vr (some w)), some (vi (J x1)), some (vi (J x2)), some (vi (J x3)), none, none, none, none]) (st2 := [vr (some w), vi (J x3)]) rfl ?_
  refine R_getR rfl t0 ?_
  refine R_ps 1 (pc2 := 25) (L2 := [some (vr (some w)), some (vi (J x1)), some (vi (J x2)), some (vi (J x3)), none, none, none, none]) (st2 := [vi (J 117), vr (gr h w 1), vi (J x3)]) rfl ?_
  obtain ⟨a_3, e_4, k⟩ := k
  rw [e_4]
  obtain ⟨t_5, k⟩ := k
  obtain ⟨t_6, k⟩ := k
  refine R_ziald (i := 117) rfl (Or.inl t_5) t_6 ?_
  refine R_zif (x := x3) (z := ai h a_3 117) rfl r3 (ai_in _ _ _) (fun c_7 => ?_) (fun c_7 => ?_)
  · have k := k.2 c_7
    refine R_ps 1 (pc2 := 165) (L2 := [some (vr (some w)), some (vi (J x1)), some (vi (J x2)), some (vi (J x3)), none, none, none, none]) (st2 := [vi (J x2)]) rfl ?_
    exact R_iret rfl rfl (R_zr (x := x2) (K := K) r2 k)
  · have k := k.1 (Classical.not_not.mp c_7)
    refine R_ps 5 (pc2 := 34) (L2 := [some (vr (some w)), some (vi (J x1)), some (vi (J x2)), some (vi (J x3)), none, none, none, none]) (st2 := [vi (((J x1) >>> ((J x3) &&& 31)) &&& (J 1))]) rfl ?_
    rw [show (((J x1) >>> ((J x3) &&& 31)) &&& (J 1)) = J (zand (zshr x1 x3) 1) from J_and' (J_shr' rfl rfl) rfl]
    refine R_zif0 (x := zand (zshr x1 x3) 1) rfl (zand_in _ _) (fun c_9 => ?_) (fun c_9 => ?_)
    · have k := k.2 c_9
      refine R_ps 2 (pc2 := 42) (L2 := [some (vr (some w)), some (vi (J x1)), some (vi (J x2)), some (vi (J x3)), none, none, none, none]) (st2 := [vi (J x3), vr (some w)]) rfl ?_
      refine R_zcI (as := [vr (some w), vi (J x3)]) rfl rfl ⟨Nat.le_of_ble_eq_true rfl, Nat.le_of_ble_eq_true rfl, rfl, (Or.inr ⟨_, rfl, t0⟩)⟩ rfl rfl k (fun x_12 h_11 r_13 k => ?_)
      refine R_ps 5 (pc2 := 51) (L2 := [some (vr (some w)), some (vi (J x1)), some (vi (J x2)), some (vi (J x3)), some (vi (J x_12)), none, none, none]) (st2 := [vi (J 1), vi (J 1), vi (J x3), vr (some w)]) rfl ?_
      refine R_cV (as := [vr (some w), vi (J x3), vi (J 1), vi (J 1)]) rfl rfl ⟨Nat.le_of_ble_eq_true rfl, Nat.le_of_ble_eq_true rfl, rfl, (Or.inr ⟨_, rfl, t0⟩)⟩ rfl rfl k (fun h_15 k => ?_)
      refine R_ps 3 (pc2 := 57) (L2 := [some (vr (some w)), some (vi (J x1)), some (vi (J x2)), some (vi (J x3)), some (vi (J x_12)), none, none, none]) (st2 := [vi (J 4), vi (J x3), vr (some w)]) rfl ?_
      refine R_zcI (as := [vr (some w), vi (J x3), vi (J 4)]) rfl rfl ⟨Nat.le_of_ble_eq_true rfl, Nat.le_of_ble_eq_true rfl, rfl, (Or.inr ⟨_, rfl, t0⟩)⟩ rfl rfl k (fun x_19 h_18 r_20 k => ?_)
      refine R_ps 2 (pc2 := 64) (L2 := [some (vr (some w)), some (vi (J x1)), some (vi (J x2)), some (vi (J x3)), some (vi (J x_12)), some (vi (J x_19)), none, none]) (st2 := [vi (J x_12)]) rfl ?_
      refine R_zif0 (x := x_12) rfl r_13 (fun c_21 => ?_) (fun c_21 => ?_)
      · have k := k.1 c_21
        refine R_ps 1 (pc2 := 102) (L2 := [some (vr (some w)), some (vi (J x1)), some (vi (J x2)), some (vi (J x3)), some (vi (J x_12)), some (vi (J x_19)), none, none]) (st2 := [vi (J x_12)]) rfl ?_
        refine R_zif0 (x := x_12) rfl r_13 (fun c_22 => ?_) (fun c_22 => ?_)
        · have k := k.1 c_22
          refine R_ps 3 (pc2 := 117) (L2 := [some (vr (some w)), some (vi (J x1)), some (vi (J x2)), some (vi (J x3)), some (vi (J x_12)), some (vi (J x_19)), some (vi (J (-1))), none]) (st2 := [vi (J (-1))]) rfl ?_
          refine R_zif0 (x := (-1)) rfl (by decide) (fun _ => ?_) (fun c_23 => absurd (show ((-1) : Int) < (0 : Int) by decide) c_23)
          refine R_ps 5 (pc2 := 145) (L2 := [some (vr (some w)), some (vi (J x1)), some (vi (J x2)), some (vi (J x3)), some (vi (J x_12)), some (vi (J x_19)), some (vi (J (-1))), none]) (st2 := [vi (J x3), vr (some w), vi (J 5), vi (J x3), vr (some w)]) rfl ?_
          refine R_zcI (as := [vr (some w), vi (J x3)]) rfl rfl ⟨Nat.le_of_ble_eq_true rfl, Nat.le_of_ble_eq_true rfl, rfl, (Or.inr ⟨_, rfl, t0⟩)⟩ rfl rfl k (fun x_26 h_25 r_27 k => ?_)
          refine R_cV (as := [vr (some w), vi (J x3), vi (J 5), vi (J x_26)]) rfl rfl ⟨Nat.le_of_ble_eq_true rfl, Nat.le_of_ble_eq_true rfl, rfl, (Or.inr ⟨_, rfl, t0⟩)⟩ rfl rfl k (fun h_29 k => ?_)
          refine R_ps 4 (pc2 := 155) (L2 := [some (vr (some w)), some (vi (J x1)), some (vi (J x2)), some (vi (J x3)), some (vi (J x_12)), some (vi (J x_19)), some (vi (J (-1))), none]) (st2 := [vi (J (-1)), vi (J 4), vi (J x3), vr (some w)]) rfl ?_
          refine R_cV (as := [vr (some w), vi (J x3), vi (J 4), vi (J (-1))]) rfl rfl ⟨Nat.le_of_ble_eq_true rfl, Nat.le_of_ble_eq_true rfl, rfl, (Or.inr ⟨_, rfl, t0⟩)⟩ rfl rfl k (fun h_32 k => ?_)
          refine R_ps 2 (pc2 := 18) (L2 := [some (vr (some w)), some (vi (J x1)), some (vi (J x2)), some (vi ((J x3) + J 1)), some (vi (J x_12)), some (vi (J x_19)), some (vi (J (-1))), none]) (st2 := []) rfl ?_
          rw [show ((J x3) + J 1) = J (x3 + 1) from J_add' rfl rfl]
          exact R_drop k (LE_of (L := [some (vr (some w)), some (vi (J x1)), some (vi (J x2)), some (vi (J (x3 + 1))), none, none, none, none]) (L2 := [some (vr (some w)), some (vi (J x1)), some (vi (J x2)), some (vi (J (x3 + 1))), some (vi (J x_12)), some (vi (J x_19)), some (vi (J (-1))), none]) ⟨rfl, rfl, rfl, rfl, trivial⟩)
        · have k := k.2 c_22
          refine R_ps 1 (pc2 := 106) (L2 := [some (vr (some w)), some (vi (J x1)), some (vi (J x2)), some (vi (J x3)), some (vi (J x_12)), some (vi (J x_19)), none, none]) (st2 := [vr (some w)]) rfl ?_
          refine R_zcI (as := [vr (some w)]) rfl rfl ⟨Nat.le_of_ble_eq_true rfl, Nat.le_of_ble_eq_true rfl, rfl, (Or.inr ⟨_, rfl, t0⟩)⟩ rfl rfl k (fun x_36 h_35 r_37 k => ?_)
          refine R_ps 3 (pc2 := 117) (L2 := [some (vr (some w)), some (vi (J x1)), some (vi (J x2)), some (vi (J x3)), some (vi (J x_12)), some (vi (J x_19)), some (vi (J x_36)), none]) (st2 := [vi (J x_36)]) rfl ?_
          refine R_zif0 (x := x_36) rfl r_37 (fun c_38 => ?_) (fun c_38 => ?_)
          · have k := k.1 c_38
            refine R_ps 5 (pc2 := 145) (L2 := [some (vr (some w)), some (vi (J x1)), some (vi (J x2)), some (vi (J x3)), some (vi (J x_12)), some (vi (J x_19)), some (vi (J x_36)), none]) (st2 := [vi (J x3), vr (some w), vi (J 5), vi (J x3), vr (some w)]) rfl ?_
            refine R_zcI (as := [vr (some w), vi (J x3)]) rfl rfl ⟨Nat.le_of_ble_eq_true rfl, Nat.le_of_ble_eq_true rfl, rfl, (Or.inr ⟨_, rfl, t0⟩)⟩ rfl rfl k (fun x_41 h_40 r_42 k => ?_)
            refine R_cV (as := [vr (some w), vi (J x3), vi (J 5), vi (J x_41)]) rfl rfl ⟨Nat.le_of_ble_eq_true rfl, Nat.le_of_ble_eq_true rfl, rfl, (Or.inr ⟨_, rfl, t0⟩)⟩ rfl rfl k (fun h_44 k => ?_)
            refine R_ps 4 (pc2 := 155) (L2 := [some (vr (some w)), some (vi (J x1)), some (vi (J x2)), some (vi (J x3)), some (vi (J x_12)), some (vi (J x_19)), some (vi (J x_36)), none]) (st2 := [vi (J (-1)), vi (J 4), vi (J x3), vr (some w)]) rfl ?_
            refine R_cV (as := [vr (some w), vi (J x3), vi (J 4), vi (J (-1))]) rfl rfl ⟨Nat.le_of_ble_eq_true rfl, Nat.le_of_ble_eq_true rfl, rfl, (Or.inr ⟨_, rfl, t0⟩)⟩ rfl rfl k (fun h_47 k => ?_)
            refine R_ps 2 (pc2 := 18) (L2 := [some (vr (some w)), some (vi (J x1)), some (vi (J x2)), some (vi ((J x3) + J 1)), some (vi (J x_12)), some (vi (J x_19)), some (vi (J x_36)), none]) (st2 := []) rfl ?_
            rw [show ((J x3) + J 1) = J (x3 + 1) from J_add' rfl rfl]
            exact R_drop k (LE_of (L := [some (vr (some w)), some (vi (J x1)), some (vi (J x2)), some (vi (J (x3 + 1))), none, none, none, none]) (L2 := [some (vr (some w)), some (vi (J x1)), some (vi (J x2)), some (vi (J (x3 + 1))), some (vi (J x_12)), some (vi (J x_19)), some (vi (J x_36)), none]) ⟨rfl, rfl, rfl, rfl, trivial⟩)
          · have k := k.2 c_38
            refine R_ps 2 (pc2 := 123) (L2 := [some (vr (some w)), some (vi (J x1)), some (vi (J x2)), some (vi (J x3)), some (vi (J x_12)), some (vi (J x_19)), some (vi (J x_36)), none]) (st2 := [vi (J x_36), vr (some w)]) rfl ?_
            refine R_zcI (as := [vr (some w), vi (J x_36)]) rfl rfl ⟨Nat.le_of_ble_eq_true rfl, Nat.le_of_ble_eq_true rfl, rfl, (Or.inr ⟨_, rfl, t0⟩)⟩ rfl rfl k (fun x_51 h_50 r_52 k => ?_)
            refine R_ps 5 (pc2 := 134) (L2 := [some (vr (some w)), some (vi (J x1)), some (vi (J x2)), some (vi (J x3)), some (vi (J x_12)), some (vi (J x_19)), some (vi (J x_36)), some (vi (J x_51))]) (st2 := [vi (J x_36), vi (J x_51), vi (J x3), vr (some w)]) rfl ?_
            refine R_cV (as := [vr (some w), vi (J x3), vi (J x_51), vi (J x_36)]) rfl rfl ⟨Nat.le_of_ble_eq_true rfl, Nat.le_of_ble_eq_true rfl, rfl, (Or.inr ⟨_, rfl, t0⟩)⟩ rfl rfl k (fun h_54 k => ?_)
            refine R_ps 3 (pc2 := 18) (L2 := [some (vr (some w)), some (vi (J x1)), some (vi (J x2)), some (vi ((J x3) + J 1)), some (vi (J x_12)), some (vi (J x_19)), some (vi (J x_36)), some (vi (J x_51))]) (st2 := []) rfl ?_
            rw [show ((J x3) + J 1) = J (x3 + 1) from J_add' rfl rfl]
            exact R_drop k (LE_of (L := [some (vr (some w)), some (vi (J x1)), some (vi (J x2)), some (vi (J (x3 + 1))), none, none, none, none]) (L2 := [some (vr (some w)), some (vi (J x1)), some (vi (J x2)), some (vi (J (x3 + 1))), some (vi (J x_12)), some (vi (J x_19)), some (vi (J x_36)), some (vi (J x_51))]) ⟨rfl, rfl, rfl, rfl, trivial⟩)
      · have k := k.2 c_21
        refine R_ps 2 (pc2 := 70) (L2 := [some (vr (some w)), some (vi (J x1)), some (vi (J x2)), some (vi (J x3)), some (vi (J x_12)), some (vi (J x_19)), none, none]) (st2 := [vi (J x_19), vr (some w)]) rfl ?_
        refine R_zcI (as := [vr (some w), vi (J x_19)]) rfl rfl ⟨Nat.le_of_ble_eq_true rfl, Nat.le_of_ble_eq_true rfl, rfl, (Or.inr ⟨_, rfl, t0⟩)⟩ rfl rfl k (fun x_58 h_57 r_59 k => ?_)
        refine R_ps 1 (pc2 := 74) (L2 := [some (vr (some w)), some (vi (J x1)), some (vi (J x2)), some (vi (J x3)), some (vi (J x_12)), some (vi (J x_19)), none, none]) (st2 := [vi (J (-1)), vi (J x_58)]) rfl ?_
        refine R_zif (x := x_58) (z := (-1)) rfl r_59 (by decide) (fun c_60 => ?_) (fun c_60 => ?_)
        · have k := k.1 c_60
          refine R_ps 1 (pc2 := 102) (L2 := [some (vr (some w)), some (vi (J x1)), some (vi (J x2)), some (vi (J x3)), some (vi (J x_12)), some (vi (J x_19)), none, none]) (st2 := [vi (J x_12)]) rfl ?_
          refine R_zif0 (x := x_12) rfl r_13 (fun c_61 => ?_) (fun c_61 => ?_)
          · have k := k.1 c_61
            refine R_ps 3 (pc2 := 117) (L2 := [some (vr (some w)), some (vi (J x1)), some (vi (J x2)), some (vi (J x3)), some (vi (J x_12)), some (vi (J x_19)), some (vi (J (-1))), none]) (st2 := [vi (J (-1))]) rfl ?_
            refine R_zif0 (x := (-1)) rfl (by decide) (fun _ => ?_) (fun c_62 => absurd (show ((-1) : Int) < (0 : Int) by decide) c_62)
            refine R_ps 5 (pc2 := 145) (L2 := [some (vr (some w)), some (vi (J x1)), some (vi (J x2)), some (vi (J x3)), some (vi (J x_12)), some (vi (J x_19)), some (vi (J (-1))), none]) (st2 := [vi (J x3), vr (some w), vi (J 5), vi (J x3), vr (some w)]) rfl ?_
            refine R_zcI (as := [vr (some w), vi (J x3)]) rfl rfl ⟨Nat.le_of_ble_eq_true rfl, Nat.le_of_ble_eq_true rfl, rfl, (Or.inr ⟨_, rfl, t0⟩)⟩ rfl rfl k (fun x_65 h_64 r_66 k => ?_)
            refine R_cV (as := [vr (some w), vi (J x3), vi (J 5), vi (J x_65)]) rfl rfl ⟨Nat.le_of_ble_eq_true rfl, Nat.le_of_ble_eq_true rfl, rfl, (Or.inr ⟨_, rfl, t0⟩)⟩ rfl rfl k (fun h_68 k => ?_)
            refine R_ps 4 (pc2 := 155) (L2 := [some (vr (some w)), some (vi (J x1)), some (vi (J x2)), some (vi (J x3)), some (vi (J x_12)), some (vi (J x_19)), some (vi (J (-1))), none]) (st2 := [vi (J (-1)), vi (J 4), vi (J x3), vr (some w)]) rfl ?_
            refine R_cV (as := [vr (some w), vi (J x3), vi (J 4), vi (J (-1))]) rfl rfl ⟨Nat.le_of_ble_eq_true rfl, Nat.le_of_ble_eq_true rfl, rfl, (Or.inr ⟨_, rfl, t0⟩)⟩ rfl rfl k (fun h_71 k => ?_)
            refine R_ps 2 (pc2 := 18) (L2 := [some (vr (some w)), some (vi (J x1)), some (vi (J x2)), some (vi ((J x3) + J 1)), some (vi (J x_12)), some (vi (J x_19)), some (vi (J (-1))), none]) (st2 := []) rfl ?_
            rw [show ((J x3) + J 1) = J (x3 + 1) from J_add' rfl rfl]
            exact R_drop k (LE_of (L := [some (vr (some w)), some (vi (J x1)), some (vi (J x2)), some (vi (J (x3 + 1))), none, none, none, none]) (L2 := [some (vr (some w)), some (vi (J x1)), some (vi (J x2)), some (vi (J (x3 + 1))), some (vi (J x_12)), some (vi (J x_19)), some (vi (J (-1))), none]) ⟨rfl, rfl, rfl, rfl, trivial⟩)
          · have k := k.2 c_61
            refine R_ps 1 (pc2 := 106) (L2 := [some (vr (some w)), some (vi (J x1)), some (vi (J x2)), some (vi (J x3)), some (vi (J x_12)), some (vi (J x_19)), none, none]) (st2 := [vr (some w)]) rfl ?_
            refine R_zcI (as := [vr (some w)]) rfl rfl ⟨Nat.le_of_ble_eq_true rfl, Nat.le_of_ble_eq_true rfl, rfl, (Or.inr ⟨_, rfl, t0⟩)⟩ rfl rfl k (fun x_75 h_74 r_76 k => ?_)
            refine R_ps 3 (pc2 := 117) (L2 := [some (vr (some w)), some (vi (J x1)), some (vi (J x2)), some (vi (J x3)), some (vi (J x_12)), some (vi (J x_19)), some (vi (J x_75)), none]) (st2 := [vi (J x_75)]) rfl ?_
            refine R_zif0 (x := x_75) rfl r_76 (fun c_77 => ?_) (fun c_77 => ?_)
            · have k := k.1 c_77
              refine R_ps 5 (pc2 := 145) (L2 := [some (vr (some w)), some (vi (J x1)), some (vi (J x2)), some (vi (J x3)), some (vi (J x_12)), some (vi (J x_19)), some (vi (J x_75)), none]) (st2 := [vi (J x3), vr (some w), vi (J 5), vi (J x3), vr (some w)]) rfl ?_
              refine R_zcI (as := [vr (some w), vi (J x3)]) rfl rfl ⟨Nat.le_of_ble_eq_true rfl, Nat.le_of_ble_eq_true rfl, rfl, (Or.inr ⟨_, rfl, t0⟩)⟩ rfl rfl k (fun x_80 h_79 r_81 k => ?_)
              refine R_cV (as := [vr (some w), vi (J x3), vi (J 5), vi (J x_80)]) rfl rfl ⟨Nat.le_of_ble_eq_true rfl, Nat.le_of_ble_eq_true rfl, rfl, (Or.inr ⟨_, rfl, t0⟩)⟩ rfl rfl k (fun h_83 k => ?_)
              refine R_ps 4 (pc2 := 155) (L2 := [some (vr (some w)), some (vi (J x1)), some (vi (J x2)), some (vi (J x3)), some (vi (J x_12)), some (vi (J x_19)), some (vi (J x_75)), none]) (st2 := [vi (J (-1)), vi (J 4), vi (J x3), vr (some w)]) rfl ?_
              refine R_cV (as := [vr (some w), vi (J x3), vi (J 4), vi (J (-1))]) rfl rfl ⟨Nat.le_of_ble_eq_true rfl, Nat.le_of_ble_eq_true rfl, rfl, (Or.inr ⟨_, rfl, t0⟩)⟩ rfl rfl k (fun h_86 k => ?_)
              refine R_ps 2 (pc2 := 18) (L2 := [some (vr (some w)), some (vi (J x1)), some (vi (J x2)), some (vi ((J x3) + J 1)), some (vi (J x_12)), some (vi (J x_19)), some (vi (J x_75)), none]) (st2 := []) rfl ?_
              rw [show ((J x3) + J 1) = J (x3 + 1) from J_add' rfl rfl]
              exact R_drop k (LE_of (L := [some (vr (some w)), some (vi (J x1)), some (vi (J x2)), some (vi (J (x3 + 1))), none, none, none, none]) (L2 := [some (vr (some w)), some (vi (J x1)), some (vi (J x2)), some (vi (J (x3 + 1))), some (vi (J x_12)), some (vi (J x_19)), some (vi (J x_75)), none]) ⟨rfl, rfl, rfl, rfl, trivial⟩)
            · have k := k.2 c_77
              refine R_ps 2 (pc2 := 123) (L2 := [some (vr (some w)), some (vi (J x1)), some (vi (J x2)), some (vi (J x3)), some (vi (J x_12)), some (vi (J x_19)), some (vi (J x_75)), none]) (st2 := [vi (J x_75), vr (some w)]) rfl ?_
              refine R_zcI (as := [vr (some w), vi (J x_75)]) rfl rfl ⟨Nat.le_of_ble_eq_true rfl, Nat.le_of_ble_eq_true rfl, rfl, (Or.inr ⟨_, rfl, t0⟩)⟩ rfl rfl k (fun x_90 h_89 r_91 k => ?_)
              refine R_ps 5 (pc2 := 134) (L2 := [some (vr (some w)), some (vi (J x1)), some (vi (J x2)), some (vi (J x3)), some (vi (J x_12)), some (vi (J x_19)), some (vi (J x_75)), some (vi (J x_90))]) (st2 := [vi (J x_75), vi (J x_90), vi (J x3), vr (some w)]) rfl ?_
              refine R_cV (as := [vr (some w), vi (J x3), vi (J x_90), vi (J x_75)]) rfl rfl ⟨Nat.le_of_ble_eq_true rfl, Nat.le_of_ble_eq_true rfl, rfl, (Or.inr ⟨_, rfl, t0⟩)⟩ rfl rfl k (fun h_93 k => ?_)
              refine R_ps 3 (pc2 := 18) (L2 := [some (vr (some w)), some (vi (J x1)), some (vi (J x2)), some (vi ((J x3) + J 1)), some (vi (J x_12)), some (vi (J x_19)), some (vi (J x_75)), some (vi (J x_90))]) (st2 := []) rfl ?_
              rw [show ((J x3) + J 1) = J (x3 + 1) from J_add' rfl rfl]
              exact R_drop k (LE_of (L := [some (vr (some w)), some (vi (J x1)), some (vi (J x2)), some (vi (J (x3 + 1))), none, none, none, none]) (L2 := [some (vr (some w)), some (vi (J x1)), some (vi (J x2)), some (vi (J (x3 + 1))), some (vi (J x_12)), some (vi (J x_19)), some (vi (J x_75)), some (vi (J x_90))]) ⟨rfl, rfl, rfl, rfl, trivial⟩)
        · have k := k.2 c_60
          refine R_ps 2 (pc2 := 80) (L2 := [some (vr (some w)), some (vi (J x1)), some (vi (J x2)), some (vi (J x3)), some (vi (J x_12)), some (vi (J x_19)), none, none]) (st2 := [vi (J x_19), vr (some w)]) rfl ?_
          refine R_zcI (as := [vr (some w), vi (J x_19)]) rfl rfl ⟨Nat.le_of_ble_eq_true rfl, Nat.le_of_ble_eq_true rfl, rfl, (Or.inr ⟨_, rfl, t0⟩)⟩ rfl rfl k (fun x_97 h_96 r_98 k => ?_)
          refine R_ps 5 (pc2 := 91) (L2 := [some (vr (some w)), some (vi (J x1)), some (vi (J x2)), some (vi (J x3)), some (vi (J x_12)), some (vi (J x_19)), some (vi (J x_97)), none]) (st2 := [vi (J x_19), vi (J x_97), vi (J x3), vr (some w)]) rfl ?_
          refine R_cV (as := [vr (some w), vi (J x3), vi (J x_97), vi (J x_19)]) rfl rfl ⟨Nat.le_of_ble_eq_true rfl, Nat.le_of_ble_eq_true rfl, rfl, (Or.inr ⟨_, rfl, t0⟩)⟩ rfl rfl k (fun h_100 k => ?_)
          refine R_ps 4 (pc2 := 18) (L2 := [some (vr (some w)), some (vi (J x1)), some (vi ((J x2) + J 1)), some (vi ((J x3) + J 1)), some (vi (J x_12)), some (vi (J x_19)), some (vi (J x_97)), none]) (st2 := []) rfl ?_
          rw [show ((J x2) + J 1) = J (x2 + 1) from J_add' rfl rfl]
          rw [show ((J x3) + J 1) = J (x3 + 1) from J_add' rfl rfl]
          exact R_drop k (LE_of (L := [some (vr (some w)), some (vi (J x1)), some (vi (J (x2 + 1))), some (vi (J (x3 + 1))), none, none, none, none]) (L2 := [some (vr (some w)), some (vi (J x1)), some (vi (J (x2 + 1))), some (vi (J (x3 + 1))), some (vi (J x_12)), some (vi (J x_19)), some (vi (J x_97)), none]) ⟨rfl, rfl, rfl, rfl, trivial⟩)
    · have k := k.1 (Classical.not_not.mp c_9)
      refine R_ps 3 (pc2 := 18) (L2 := [some (vr (some w)), some (vi (J x1)), some (vi (J x2)), some (vi ((J x3) + J 1)), none, none, none, none]) (st2 := []) rfl ?_
      rw [show ((J x3) + J 1) = J (x3 + 1) from J_add' rfl rfl]
      exact k
/-- DroneCorridorsModel.nearestPad -/
theorem z224 {T N : Nat → Nat} {h : PH} {w : Nat} {x1 : Int} {K : Int → PH → Prop} (t0 : T w = 12) (r1 : In x1) (k : (ZI T N 164 [vr (some w), vi (J x1)] h (fun x_3 h_2 => (((x_3 = 0 → (∀ h_7, h_7 = wi h_2 w 0 1 → (((ai h_7 w 0) = 1 → (K 0 h_7)) ∧ (¬ ((ai h_7 w 0) = 1) → (ZI T N 206 [vr (some w), vi (J x1)] h_7 (fun x_13 h_12 => (((x_13 = 0 → (ZI T N 157 [vr (some w), vi (J 2)] h_12 (fun x_32 h_31 => (K x_32 h_31)))) ∧ (¬ (x_13 = 0) → (CV T N 208 [vr (some w), vi (J x1), vi (J 1), vi (J 1)] h_12 (fun h_17 => (ZI T N 222 [vr (some w)] h_17 (fun x_21 h_20 => (((x_21 < 0 → (ZI T N 157 [vr (some w), vi (J 2)] h_20 (fun x_26 h_25 => (K x_26 h_25)))) ∧ (¬ (x_21 < 0) → (K x_21 h_20))))))))))))))))) ∧ (¬ (x_3 = 0) → (∀ h_37, h_37 = wi h_2 w 0 0 → (((ai h_37 w 0) = 1 → (K 0 h_37)) ∧ (¬ ((ai h_37 w 0) = 1) → (ZI T N 206 [vr (some w), vi (J x1)] h_37 (fun x_43 h_42 => (((x_43 = 0 → (ZI T N 157 [vr (some w), vi (J 2)] h_42 (fun x_62 h_61 => (K x_62 h_61)))) ∧ (¬ (x_43 = 0) → (CV T N 208 [vr (some w), vi (J x1), vi (J 1), vi (J 1)] h_42 (fun h_47 => (ZI T N 222 [vr (some w)] h_47 (fun x_51 h_50 => (((x_51 < 0 → (ZI T N 157 [vr (some w), vi (J 2)] h_50 (fun x_56 h_55 => (K x_56 h_55)))) ∧ (¬ (x_51 < 0) → (K x_51 h_50)))))))))))))))))))))) : ZI T N 224 [vr (some w), vi (J x1)] h K := by
  show WP T N 224 0 [some (vr (some w)), some (vi (J x1)), none] [] h _
  refine R_ps 3 (pc2 := 3) (L2 := [some (vr (some w)), some (vi (J x1)), none]) (st2 := [vi (J x1), vr (some w), vr (some w)]) rfl ?_
  refine R_zcI (as := [vr (some w), vi (J x1)]) rfl rfl ⟨Nat.le_of_ble_eq_true rfl, Nat.le_of_ble_eq_true rfl, rfl, (Or.inr ⟨_, rfl, t0⟩)⟩ rfl rfl k (fun x_3 h_2 r_4 k => ?_)
  refine R_zif0 (x := x_3) rfl r_4 (fun c_5 => ?_) (fun c_5 => ?_)
  · have k := k.1 c_5
    refine R_ps 1 (pc2 := 14) (L2 := [some (vr (some w)), some (vi (J x1)), none]) (st2 := [vi (J 1), vr (some w)]) rfl ?_
    refine R_zputI (x := 1) (z := 0) rfl t0 rfl ?_
    show WP T N _ _ _ _ (wi h_2 w 0 1) _
    generalize e_8 : wi h_2 w 0 1 = h_7
    replace k := k h_7 e_8.symm
    refine R_ps 1 (pc2 := 18) (L2 := [some (vr (some w)), some (vi (J x1)), none]) (st2 := [vr (some w)]) rfl ?_
    refine R_zgetI (z := 0) rfl t0 rfl ?_
    refine R_ps 1 (pc2 := 22) (L2 := [some (vr (some w)), some (vi (J x1)), none]) (st2 := [vi (J 1), vi (J (ai h_7 w 0))]) rfl ?_
    refine R_zif (x := ai h_7 w 0) (z := 1) rfl (ai_in _ _ _) (by decide) (fun c_10 => ?_) (fun c_10 => ?_)
    · have k := k.2 c_10
      refine R_ps 2 (pc2 := 29) (L2 := [some (vr (some w)), some (vi (J x1)), none]) (st2 := [vi (J x1), vr (some w)]) rfl ?_
      refine R_zcI (as := [vr (some w), vi (J x1)]) rfl rfl ⟨Nat.le_of_ble_eq_true rfl, Nat.le_of_ble_eq_true rfl, rfl, (Or.inr ⟨_, rfl, t0⟩)⟩ rfl rfl k (fun x_13 h_12 r_14 k => ?_)
      refine R_zif0 (x := x_13) rfl r_14 (fun c_15 => ?_) (fun c_15 => ?_)
      · have k := k.2 c_15
        refine R_ps 4 (pc2 := 45) (L2 := [some (vr (some w)), some (vi (J x1)), none]) (st2 := [vi (J 1), vi (J 1), vi (J x1), vr (some w)]) rfl ?_
        refine R_cV (as := [vr (some w), vi (J x1), vi (J 1), vi (J 1)]) rfl rfl ⟨Nat.le_of_ble_eq_true rfl, Nat.le_of_ble_eq_true rfl, rfl, (Or.inr ⟨_, rfl, t0⟩)⟩ rfl rfl k (fun h_17 k => ?_)
        refine R_ps 1 (pc2 := 49) (L2 := [some (vr (some w)), some (vi (J x1)), none]) (st2 := [vr (some w)]) rfl ?_
        refine R_zcI (as := [vr (some w)]) rfl rfl ⟨Nat.le_of_ble_eq_true rfl, Nat.le_of_ble_eq_true rfl, rfl, (Or.inr ⟨_, rfl, t0⟩)⟩ rfl rfl k (fun x_21 h_20 r_22 k => ?_)
        refine R_ps 2 (pc2 := 54) (L2 := [some (vr (some w)), some (vi (J x1)), some (vi (J x_21))]) (st2 := [vi (J x_21)]) rfl ?_
        refine R_zif0 (x := x_21) rfl r_22 (fun c_23 => ?_) (fun c_23 => ?_)
        · have k := k.1 c_23
          refine R_ps 2 (pc2 := 63) (L2 := [some (vr (some w)), some (vi (J x1)), some (vi (J x_21))]) (st2 := [vi (J 2), vr (some w)]) rfl ?_
          refine R_zcI (as := [vr (some w), vi (J 2)]) rfl rfl ⟨Nat.le_of_ble_eq_true rfl, Nat.le_of_ble_eq_true rfl, rfl, (Or.inr ⟨_, rfl, t0⟩)⟩ rfl rfl k (fun x_26 h_25 r_27 k => ?_)
          exact R_iret rfl rfl (R_zr (x := x_26) (K := K) r_27 k)
        · have k := k.2 c_23
          refine R_ps 2 (pc2 := 66) (L2 := [some (vr (some w)), some (vi (J x1)), some (vi (J x_21))]) (st2 := [vi (J x_21)]) rfl ?_
          exact R_iret rfl rfl (R_zr (x := x_21) (K := K) r_22 k)
      · have k := k.1 (Classical.not_not.mp c_15)
        refine R_ps 2 (pc2 := 37) (L2 := [some (vr (some w)), some (vi (J x1)), none]) (st2 := [vi (J 2), vr (some w)]) rfl ?_
        refine R_zcI (as := [vr (some w), vi (J 2)]) rfl rfl ⟨Nat.le_of_ble_eq_true rfl, Nat.le_of_ble_eq_true rfl, rfl, (Or.inr ⟨_, rfl, t0⟩)⟩ rfl rfl k (fun x_32 h_31 r_33 k => ?_)
        exact R_iret rfl rfl (R_zr (x := x_32) (K := K) r_33 k)
    · have k := k.1 (Classical.not_not.mp c_10)
      refine R_ps 1 (pc2 := 26) (L2 := [some (vr (some w)), some (vi (J x1)), none]) (st2 := [vi (J 0)]) rfl ?_
      exact R_iret rfl rfl (R_zr (x := 0) (K := K) (by decide) k)
  · have k := k.2 c_5
    refine R_ps 2 (pc2 := 14) (L2 := [some (vr (some w)), some (vi (J x1)), none]) (st2 := [vi (J 0), vr (some w)]) rfl ?_
    refine R_zputI (x := 0) (z := 0) rfl t0 rfl ?_
    show WP T N _ _ _ _ (wi h_2 w 0 0) _
    generalize e_38 : wi h_2 w 0 0 = h_37
    replace k := k h_37 e_38.symm
    refine R_ps 1 (pc2 := 18) (L2 := [some (vr (some w)), some (vi (J x1)), none]) (st2 := [vr (some w)]) rfl ?_
    refine R_zgetI (z := 0) rfl t0 rfl ?_
    refine R_ps 1 (pc2 := 22) (L2 := [some (vr (some w)), some (vi (J x1)), none]) (st2 := [vi (J 1), vi (J (ai h_37 w 0))]) rfl ?_
    refine R_zif (x := ai h_37 w 0) (z := 1) rfl (ai_in _ _ _) (by decide) (fun c_40 => ?_) (fun c_40 => ?_)
    · have k := k.2 c_40
      refine R_ps 2 (pc2 := 29) (L2 := [some (vr (some w)), some (vi (J x1)), none]) (st2 := [vi (J x1), vr (some w)]) rfl ?_
      refine R_zcI (as := [vr (some w), vi (J x1)]) rfl rfl ⟨Nat.le_of_ble_eq_true rfl, Nat.le_of_ble_eq_true rfl, rfl, (Or.inr ⟨_, rfl, t0⟩)⟩ rfl rfl k (fun x_43 h_42 r_44 k => ?_)
      refine R_zif0 (x := x_43) rfl r_44 (fun c_45 => ?_) (fun c_45 => ?_)
      · have k := k.2 c_45
        refine R_ps 4 (pc2 := 45) (L2 := [some (vr (some w)), some (vi (J x1)), none]) (st2 := [vi (J 1), vi (J 1), vi (J x1), vr (some w)]) rfl ?_
        refine R_cV (as := [vr (some w), vi (J x1), vi (J 1), vi (J 1)]) rfl rfl ⟨Nat.le_of_ble_eq_true rfl, Nat.le_of_ble_eq_true rfl, rfl, (Or.inr ⟨_, rfl, t0⟩)⟩ rfl rfl k (fun h_47 k => ?_)
        refine R_ps 1 (pc2 := 49) (L2 := [some (vr (some w)), some (vi (J x1)), none]) (st2 := [vr (some w)]) rfl ?_
        refine R_zcI (as := [vr (some w)]) rfl rfl ⟨Nat.le_of_ble_eq_true rfl, Nat.le_of_ble_eq_true rfl, rfl, (Or.inr ⟨_, rfl, t0⟩)⟩ rfl rfl k (fun x_51 h_50 r_52 k => ?_)
        refine R_ps 2 (pc2 := 54) (L2 := [some (vr (some w)), some (vi (J x1)), some (vi (J x_51))]) (st2 := [vi (J x_51)]) rfl ?_
        refine R_zif0 (x := x_51) rfl r_52 (fun c_53 => ?_) (fun c_53 => ?_)
        · have k := k.1 c_53
          refine R_ps 2 (pc2 := 63) (L2 := [some (vr (some w)), some (vi (J x1)), some (vi (J x_51))]) (st2 := [vi (J 2), vr (some w)]) rfl ?_
          refine R_zcI (as := [vr (some w), vi (J 2)]) rfl rfl ⟨Nat.le_of_ble_eq_true rfl, Nat.le_of_ble_eq_true rfl, rfl, (Or.inr ⟨_, rfl, t0⟩)⟩ rfl rfl k (fun x_56 h_55 r_57 k => ?_)
          exact R_iret rfl rfl (R_zr (x := x_56) (K := K) r_57 k)
        · have k := k.2 c_53
          refine R_ps 2 (pc2 := 66) (L2 := [some (vr (some w)), some (vi (J x1)), some (vi (J x_51))]) (st2 := [vi (J x_51)]) rfl ?_
          exact R_iret rfl rfl (R_zr (x := x_51) (K := K) r_52 k)
      · have k := k.1 (Classical.not_not.mp c_45)
        refine R_ps 2 (pc2 := 37) (L2 := [some (vr (some w)), some (vi (J x1)), none]) (st2 := [vi (J 2), vr (some w)]) rfl ?_
        refine R_zcI (as := [vr (some w), vi (J 2)]) rfl rfl ⟨Nat.le_of_ble_eq_true rfl, Nat.le_of_ble_eq_true rfl, rfl, (Or.inr ⟨_, rfl, t0⟩)⟩ rfl rfl k (fun x_62 h_61 r_63 k => ?_)
        exact R_iret rfl rfl (R_zr (x := x_62) (K := K) r_63 k)
    · have k := k.1 (Classical.not_not.mp c_40)
      refine R_ps 1 (pc2 := 26) (L2 := [some (vr (some w)), some (vi (J x1)), none]) (st2 := [vi (J 0)]) rfl ?_
      exact R_iret rfl rfl (R_zr (x := 0) (K := K) (by decide) k)
/-- DroneCorridorsModel.low -/
theorem z225 {T N : Nat → Nat} {h : PH} {w : Nat} {K : Int → PH → Prop} (t0 : T w = 12) (k : (∀ h_2, h_2 = wi h w 0 0 → CV T N 182 [vr (some w)] h_2 (fun h_5 => (ZW T N 225 13 [some (vr (some w)), some (vi (J 0)), some (vi (J 0))] [] h_5 K)))) : ZI T N 225 [vr (some w)] h K := by
  show WP T N 225 0 [some (vr (some w)), none, none] [] h _
  refine R_ps 2 (pc2 := 2) (L2 := [some (vr (some w)), none, none]) (st2 := [vi (J 0), vr (some w)]) rfl ?_
  refine R_zputI (x := 0) (z := 0) rfl t0 rfl ?_
  show WP T N _ _ _ _ (wi h w 0 0) _
  generalize e_3 : wi h w 0 0 = h_2
  replace k := k h_2 e_3.symm
  refine R_ps 1 (pc2 := 6) (L2 := [some (vr (some w)), none, none]) (st2 := [vr (some w)]) rfl ?_
  refine R_cV (as := [vr (some w)]) rfl rfl ⟨Nat.le_of_ble_eq_true rfl, Nat.le_of_ble_eq_true rfl, rfl, (Or.inr ⟨_, rfl, t0⟩)⟩ rfl rfl k (fun h_5 k => ?_)
  refine R_ps 4 (pc2 := 13) (L2 := [some (vr (some w)), some (vi (J 0)), some (vi (J 0))]) (st2 := []) rfl ?_
  exact k
theorem z225_13 {T N : Nat → Nat} {h : PH} {w : Nat} {x1 : Int} {x2 : Int} {K : Int → PH → Prop} (t0 : T w = 12) (r1 : In x1) (r2 : In x2) (k : (∃ a_3, (gr h w 1) = some a_3 ∧ T a_3 = 22 ∧ (0 ≤ (117 : Int) ∧ (117 : Int) < (N a_3 : Int) ∧ (117 : Int) < 2147483648) ∧ ((x2 < (ai h a_3 117) → (ZI T N 168 [vr (some w), vi (J x2), vi (J 0)] h (fun x_11 h_10 => (((x_11 = 1 → (ZI T N 168 [vr (some w), vi (J x2), vi (J 1)] h_10 (fun x_16 h_15 => (ZI T N 168 [vr (some w), vi (J x2), vi (J 3)] h_15 (fun x_21 h_20 => (∃ a_24, (gr h_15 w 12) = some a_24 ∧ T a_24 = 22 ∧ (0 ≤ x_21 ∧ x_21 < (N a_24 : Int) ∧ x_21 < 2147483648) ∧ ((x_16 < (ai h_20 a_24 x_21) → (ZW T N 225 13 [some (vr (some w)), some (vi (J (zor x1 (zshl 1 x2)))), some (vi (J (x2 + 1)))] [] h_20 K)) ∧ (¬ (x_16 < (ai h_20 a_24 x_21)) → (ZW T N 225 13 [some (vr (some w)), some (vi (J (zor x1 0))), some (vi (J (x2 + 1)))] [] h_20 K))))))))) ∧ (¬ (x_11 = 1) → (ZW T N 225 13 [some (vr (some w)), some (vi (J (zor x1 0))), some (vi (J (x2 + 1)))] [] h_10 K))))))) ∧ (¬ (x2 < (ai h a_3 117)) → (K x1 h))))) : ZW T N 225 13 [some (vr (some w)), some (vi (J x1)), some (vi (J x2))] [] h K := by
  show WP T N 225 13 [some (vr (some w)), some (vi (J x1)), some (vi (J x2))] [] h _
  refine R_ps 2 (pc2 := 15) (L2 := [some (vr (some w)), some (vi (J x1)), some (vi (J x2))]) (st2 := [vr (some w), vi (J x2)]) rfl ?_
  refine R_getR rfl t0 ?_
  refine R_ps 1 (pc2 := 20) (L2 := [some (vr (some w)), some (vi (J x1)), some (vi (J x2))]) (st2 := [vi (J 117), vr (gr h w 1), vi (J x2)]) rfl ?_
  obtain ⟨a_3, e_4, k⟩ := k
  rw [e_4]
  obtain ⟨t_5, k⟩ := k
  obtain ⟨t_6, k⟩ := k
  refine R_ziald (i := 117) rfl (Or.inl t_5) t_6 ?_
  refine R_zif (x := x2) (z := ai h a_3 117) rfl r2 (ai_in _ _ _) (fun c_7 => ?_) (fun c_7 => ?_)
  · have k := k.2 c_7
    refine R_ps 1 (pc2 := 71) (L2 := [some (vr (some w)), some (vi (J x1)), some (vi (J x2))]) (st2 := [vi (J x1)]) rfl ?_
    exact R_iret rfl rfl (R_zr (x := x1) (K := K) r1 k)
  · have k := k.1 (Classical.not_not.mp c_7)
    refine R_ps 4 (pc2 := 28) (L2 := [some (vr (some w)), some (vi (J x1)), some (vi (J x2))]) (st2 := [vi (J 0), vi (J x2), vr (some w), vi (J x1)]) rfl ?_
    refine R_zcI (as := [vr (some w), vi (J x2), vi (J 0)]) rfl rfl ⟨Nat.le_of_ble_eq_true rfl, Nat.le_of_ble_eq_true rfl, rfl, (Or.inr ⟨_, rfl, t0⟩)⟩ rfl rfl k (fun x_11 h_10 r_12 k => ?_)
    refine R_ps 1 (pc2 := 32) (L2 := [some (vr (some w)), some (vi (J x1)), some (vi (J x2))]) (st2 := [vi (J 1), vi (J x_11), vi (J x1)]) rfl ?_
    refine R_zif (x := x_11) (z := 1) rfl r_12 (by decide) (fun c_13 => ?_) (fun c_13 => ?_)
    · have k := k.2 c_13
      refine R_ps 5 (pc2 := 13) (L2 := [some (vr (some w)), some (vi ((J x1) ||| (J 0))), some (vi ((J x2) + J 1))]) (st2 := []) rfl ?_
      rw [show ((J x1) ||| (J 0)) = J (zor x1 0) from J_or' rfl rfl]
      rw [show ((J x2) + J 1) = J (x2 + 1) from J_add' rfl rfl]
      exact k
    · have k := k.1 (Classical.not_not.mp c_13)
      refine R_ps 3 (pc2 := 38) (L2 := [some (vr (some w)), some (vi (J x1)), some (vi (J x2))]) (st2 := [vi (J 1), vi (J x2), vr (some w), vi (J x1)]) rfl ?_
      refine R_zcI (as := [vr (some w), vi (J x2), vi (J 1)]) rfl rfl ⟨Nat.le_of_ble_eq_true rfl, Nat.le_of_ble_eq_true rfl, rfl, (Or.inr ⟨_, rfl, t0⟩)⟩ rfl rfl k (fun x_16 h_15 r_17 k => ?_)
      refine R_ps 1 (pc2 := 42) (L2 := [some (vr (some w)), some (vi (J x1)), some (vi (J x2))]) (st2 := [vr (some w), vi (J x_16), vi (J x1)]) rfl ?_
      refine R_getR rfl t0 ?_
      refine R_ps 3 (pc2 := 48) (L2 := [some (vr (some w)), some (vi (J x1)), some (vi (J x2))]) (st2 := [vi (J 3), vi (J x2), vr (some w), vr (gr h_15 w 12), vi (J x_16), vi (J x1)]) rfl ?_
      refine R_zcI (as := [vr (some w), vi (J x2), vi (J 3)]) rfl rfl ⟨Nat.le_of_ble_eq_true rfl, Nat.le_of_ble_eq_true rfl, rfl, (Or.inr ⟨_, rfl, t0⟩)⟩ rfl rfl k (fun x_21 h_20 r_22 k => ?_)
      obtain ⟨a_24, e_25, k⟩ := k
      rw [e_25]
      obtain ⟨t_26, k⟩ := k
      obtain ⟨t_27, k⟩ := k
      refine R_ziald (i := x_21) rfl (Or.inl t_26) t_27 ?_
      refine R_zif (x := x_16) (z := ai h_20 a_24 x_21) rfl r_17 (ai_in _ _ _) (fun c_28 => ?_) (fun c_28 => ?_)
      · have k := k.2 c_28
        refine R_ps 5 (pc2 := 13) (L2 := [some (vr (some w)), some (vi ((J x1) ||| (J 0))), some (vi ((J x2) + J 1))]) (st2 := []) rfl ?_
        rw [show ((J x1) ||| (J 0)) = J (zor x1 0) from J_or' rfl rfl]
        rw [show ((J x2) + J 1) = J (x2 + 1) from J_add' rfl rfl]
        exact k
      · have k := k.1 (Classical.not_not.mp c_28)
        refine R_ps 8 (pc2 := 13) (L2 := [some (vr (some w)), some (vi ((J x1) ||| ((J 1) <<< ((J x2) &&& 31)))), some (vi ((J x2) + J 1))]) (st2 := []) rfl ?_
        rw [show ((J x1) ||| ((J 1) <<< ((J x2) &&& 31))) = J (zor x1 (zshl 1 x2)) from J_or' rfl (J_shl' rfl rfl)]
        rw [show ((J x2) + J 1) = J (x2 + 1) from J_add' rfl rfl]
        exact k
