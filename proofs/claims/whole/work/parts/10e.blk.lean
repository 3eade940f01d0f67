/-! WHAT IS TO BE SHOWN OF EACH METHOD, by program (gen_blk.py): 206 to 226 -/
/-- DroneCorridorsModel.begins -/
theorem m206 {T N : Nat → Nat} {h : PH} {w : Nat} {x1 : Int32} {K : Int32 → PH → Prop} (t0 : T w = 12) (k : (CI T N 168 [vr (some w), vi x1, vi 3] h (fun x_3 h_2 => (∀ h_5, h_5 = si h_2 w 20 x_3 → CI T N 168 [vr (some w), vi x1, vi 0] h_5 (fun x_9 h_8 => (((x_9 = 0 → (∀ h_52, h_52 = si h_8 w 19 0 → CI T N 168 [vr (some w), vi x1, vi 0] h_52 (fun x_56 h_55 => (((x_56 = 2 → (CI T N 186 [vr (some w), vi x1, vi 0] h_55 (fun x_75 h_74 => (CI T N 191 [vr (some w), vi x_75] h_74 (fun x_78 h_77 => (∀ h_80, h_80 = si h_77 w 18 x_78 → CI T N 168 [vr (some w), vi x1, vi 0] h_80 (fun x_84 h_83 => (((x_84 = 3 → (K 0 h_83)) ∧ (¬ (x_84 = 3) → (K 1 h_83))))))))))) ∧ (¬ (x_56 = 2) → (∃ a_60, (gr h_55 w 1) = some a_60 ∧ T a_60 = 22 ∧ inb 448 (N a_60) ∧ ∀ h_65, h_65 = si h_55 w 18 (gi h_55 a_60 448) → CI T N 168 [vr (some w), vi x1, vi 0] h_65 (fun x_69 h_68 => (((x_69 = 3 → (K 0 h_68)) ∧ (¬ (x_69 = 3) → (K 1 h_68)))))))))))) ∧ (¬ (x_9 = 0) → (CI T N 168 [vr (some w), vi x1, vi 2] h_8 (fun x_13 h_12 => (∀ h_15, h_15 = si h_12 w 19 x_13 → CI T N 168 [vr (some w), vi x1, vi 0] h_15 (fun x_19 h_18 => (((x_19 = 2 → (CI T N 186 [vr (some w), vi x1, vi 0] h_18 (fun x_38 h_37 => (CI T N 191 [vr (some w), vi x_38] h_37 (fun x_41 h_40 => (∀ h_43, h_43 = si h_40 w 18 x_41 → CI T N 168 [vr (some w), vi x1, vi 0] h_43 (fun x_47 h_46 => (((x_47 = 3 → (K 0 h_46)) ∧ (¬ (x_47 = 3) → (K 1 h_46))))))))))) ∧ (¬ (x_19 = 2) → (∃ a_23, (gr h_18 w 1) = some a_23 ∧ T a_23 = 22 ∧ inb 448 (N a_23) ∧ ∀ h_28, h_28 = si h_18 w 18 (gi h_18 a_23 448) → CI T N 168 [vr (some w), vi x1, vi 0] h_28 (fun x_32 h_31 => (((x_32 = 3 → (K 0 h_31)) ∧ (¬ (x_32 = 3) → (K 1 h_31))))))))))))))))))))) : CI T N 206 [vr (some w), vi x1] h K := by
  show WP T N 206 0 [some (vr (some w)), some (vi x1)] [] h _
  refine R_ps 4 (pc2 := 4) (L2 := [some (vr (some w)), some (vi x1)]) (st2 := [vi 3, vi x1, vr (some w), vr (some w)]) rfl ?_
  refine R_cI (as := [vr (some w), vi x1, vi 3]) rfl rfl ⟨Nat.le_of_ble_eq_true rfl, Nat.le_of_ble_eq_true rfl, rfl, (Or.inr ⟨_, rfl, t0⟩)⟩ rfl rfl k (fun x_3 h_2 k => ?_)
  refine R_putI rfl t0 ?_
  show WP T N _ _ _ _ (si h_2 w 20 x_3) _
  generalize e_6 : si h_2 w 20 x_3 = h_5
  replace k := k h_5 e_6.symm
  refine R_ps 4 (pc2 := 14) (L2 := [some (vr (some w)), some (vi x1)]) (st2 := [vi 0, vi x1, vr (some w), vr (some w)]) rfl ?_
  refine R_cI (as := [vr (some w), vi x1, vi 0]) rfl rfl ⟨Nat.le_of_ble_eq_true rfl, Nat.le_of_ble_eq_true rfl, rfl, (Or.inr ⟨_, rfl, t0⟩)⟩ rfl rfl k (fun x_9 h_8 k => ?_)
  refine R_if0 rfl (fun c_10 => ?_) (fun c_10 => ?_)
  · have k := k.2 c_10
    refine R_ps 3 (pc2 := 27) (L2 := [some (vr (some w)), some (vi x1)]) (st2 := [vi 2, vi x1, vr (some w), vr (some w)]) rfl ?_
    refine R_cI (as := [vr (some w), vi x1, vi 2]) rfl rfl ⟨Nat.le_of_ble_eq_true rfl, Nat.le_of_ble_eq_true rfl, rfl, (Or.inr ⟨_, rfl, t0⟩)⟩ rfl rfl k (fun x_13 h_12 k => ?_)
    refine R_putI rfl t0 ?_
    show WP T N _ _ _ _ (si h_12 w 19 x_13) _
    generalize e_16 : si h_12 w 19 x_13 = h_15
    replace k := k h_15 e_16.symm
    refine R_ps 4 (pc2 := 37) (L2 := [some (vr (some w)), some (vi x1)]) (st2 := [vi 0, vi x1, vr (some w), vr (some w)]) rfl ?_
    refine R_cI (as := [vr (some w), vi x1, vi 0]) rfl rfl ⟨Nat.le_of_ble_eq_true rfl, Nat.le_of_ble_eq_true rfl, rfl, (Or.inr ⟨_, rfl, t0⟩)⟩ rfl rfl k (fun x_19 h_18 k => ?_)
    refine R_ps 1 (pc2 := 41) (L2 := [some (vr (some w)), some (vi x1)]) (st2 := [vi 2, vi x_19, vr (some w)]) rfl ?_
    refine R_if rfl (fun c_20 => ?_) (fun c_20 => ?_)
    · have k := k.2 c_20
      refine R_ps 1 (pc2 := 58) (L2 := [some (vr (some w)), some (vi x1)]) (st2 := [vr (some w), vr (some w)]) rfl ?_
      refine R_getR rfl t0 ?_
      refine R_ps 1 (pc2 := 64) (L2 := [some (vr (some w)), some (vi x1)]) (st2 := [vi 448, vr (gr h_18 w 1), vr (some w)]) rfl ?_
      obtain ⟨a_23, e_24, k⟩ := k
      rw [e_24]
      obtain ⟨t_25, k⟩ := k
      obtain ⟨t_26, k⟩ := k
      refine R_iald rfl (Or.inl t_25) t_26 ?_
      refine R_putI rfl t0 ?_
      show WP T N _ _ _ _ (si h_18 w 18 (gi h_18 a_23 448)) _
      generalize e_29 : si h_18 w 18 (gi h_18 a_23 448) = h_28
      replace k := k h_28 e_29.symm
      refine R_ps 3 (pc2 := 71) (L2 := [some (vr (some w)), some (vi x1)]) (st2 := [vi 0, vi x1, vr (some w)]) rfl ?_
      refine R_cI (as := [vr (some w), vi x1, vi 0]) rfl rfl ⟨Nat.le_of_ble_eq_true rfl, Nat.le_of_ble_eq_true rfl, rfl, (Or.inr ⟨_, rfl, t0⟩)⟩ rfl rfl k (fun x_32 h_31 k => ?_)
      refine R_ps 1 (pc2 := 75) (L2 := [some (vr (some w)), some (vi x1)]) (st2 := [vi 3, vi x_32]) rfl ?_
      refine R_if rfl (fun c_33 => ?_) (fun c_33 => ?_)
      · have k := k.1 c_33
        refine R_ps 1 (pc2 := 83) (L2 := [some (vr (some w)), some (vi x1)]) (st2 := [vi 0]) rfl ?_
        exact R_zret rfl rfl (Or.inl rfl) ⟨_, rfl, k⟩
      · have k := k.2 c_33
        refine R_ps 2 (pc2 := 83) (L2 := [some (vr (some w)), some (vi x1)]) (st2 := [vi 1]) rfl ?_
        exact R_zret rfl rfl (Or.inr rfl) ⟨_, rfl, k⟩
    · have k := k.1 (Classical.not_not.mp c_20)
      refine R_ps 4 (pc2 := 48) (L2 := [some (vr (some w)), some (vi x1)]) (st2 := [vi 0, vi x1, vr (some w), vr (some w), vr (some w)]) rfl ?_
      refine R_cI (as := [vr (some w), vi x1, vi 0]) rfl rfl ⟨Nat.le_of_ble_eq_true rfl, Nat.le_of_ble_eq_true rfl, rfl, (Or.inr ⟨_, rfl, t0⟩)⟩ rfl rfl k (fun x_38 h_37 k => ?_)
      refine R_cI (as := [vr (some w), vi x_38]) rfl rfl ⟨Nat.le_of_ble_eq_true rfl, Nat.le_of_ble_eq_true rfl, rfl, (Or.inr ⟨_, rfl, t0⟩)⟩ rfl rfl k (fun x_41 h_40 k => ?_)
      refine R_ps 1 (pc2 := 65) (L2 := [some (vr (some w)), some (vi x1)]) (st2 := [vi x_41, vr (some w)]) rfl ?_
      refine R_putI rfl t0 ?_
      show WP T N _ _ _ _ (si h_40 w 18 x_41) _
      generalize e_44 : si h_40 w 18 x_41 = h_43
      replace k := k h_43 e_44.symm
      refine R_ps 3 (pc2 := 71) (L2 := [some (vr (some w)), some (vi x1)]) (st2 := [vi 0, vi x1, vr (some w)]) rfl ?_
      refine R_cI (as := [vr (some w), vi x1, vi 0]) rfl rfl ⟨Nat.le_of_ble_eq_true rfl, Nat.le_of_ble_eq_true rfl, rfl, (Or.inr ⟨_, rfl, t0⟩)⟩ rfl rfl k (fun x_47 h_46 k => ?_)
      refine R_ps 1 (pc2 := 75) (L2 := [some (vr (some w)), some (vi x1)]) (st2 := [vi 3, vi x_47]) rfl ?_
      refine R_if rfl (fun c_48 => ?_) (fun c_48 => ?_)
      · have k := k.1 c_48
        refine R_ps 1 (pc2 := 83) (L2 := [some (vr (some w)), some (vi x1)]) (st2 := [vi 0]) rfl ?_
        exact R_zret rfl rfl (Or.inl rfl) ⟨_, rfl, k⟩
      · have k := k.2 c_48
        refine R_ps 2 (pc2 := 83) (L2 := [some (vr (some w)), some (vi x1)]) (st2 := [vi 1]) rfl ?_
        exact R_zret rfl rfl (Or.inr rfl) ⟨_, rfl, k⟩
  · have k := k.1 (Classical.not_not.mp c_10)
    refine R_ps 2 (pc2 := 30) (L2 := [some (vr (some w)), some (vi x1)]) (st2 := [vi 0, vr (some w)]) rfl ?_
    refine R_putI rfl t0 ?_
    show WP T N _ _ _ _ (si h_8 w 19 0) _
    generalize e_53 : si h_8 w 19 0 = h_52
    replace k := k h_52 e_53.symm
    refine R_ps 4 (pc2 := 37) (L2 := [some (vr (some w)), some (vi x1)]) (st2 := [vi 0, vi x1, vr (some w), vr (some w)]) rfl ?_
    refine R_cI (as := [vr (some w), vi x1, vi 0]) rfl rfl ⟨Nat.le_of_ble_eq_true rfl, Nat.le_of_ble_eq_true rfl, rfl, (Or.inr ⟨_, rfl, t0⟩)⟩ rfl rfl k (fun x_56 h_55 k => ?_)
    refine R_ps 1 (pc2 := 41) (L2 := [some (vr (some w)), some (vi x1)]) (st2 := [vi 2, vi x_56, vr (some w)]) rfl ?_
    refine R_if rfl (fun c_57 => ?_) (fun c_57 => ?_)
    · have k := k.2 c_57
      refine R_ps 1 (pc2 := 58) (L2 := [some (vr (some w)), some (vi x1)]) (st2 := [vr (some w), vr (some w)]) rfl ?_
      refine R_getR rfl t0 ?_
      refine R_ps 1 (pc2 := 64) (L2 := [some (vr (some w)), some (vi x1)]) (st2 := [vi 448, vr (gr h_55 w 1), vr (some w)]) rfl ?_
      obtain ⟨a_60, e_61, k⟩ := k
      rw [e_61]
      obtain ⟨t_62, k⟩ := k
      obtain ⟨t_63, k⟩ := k
      refine R_iald rfl (Or.inl t_62) t_63 ?_
      refine R_putI rfl t0 ?_
      show WP T N _ _ _ _ (si h_55 w 18 (gi h_55 a_60 448)) _
      generalize e_66 : si h_55 w 18 (gi h_55 a_60 448) = h_65
      replace k := k h_65 e_66.symm
      refine R_ps 3 (pc2 := 71) (L2 := [some (vr (some w)), some (vi x1)]) (st2 := [vi 0, vi x1, vr (some w)]) rfl ?_
      refine R_cI (as := [vr (some w), vi x1, vi 0]) rfl rfl ⟨Nat.le_of_ble_eq_true rfl, Nat.le_of_ble_eq_true rfl, rfl, (Or.inr ⟨_, rfl, t0⟩)⟩ rfl rfl k (fun x_69 h_68 k => ?_)
      refine R_ps 1 (pc2 := 75) (L2 := [some (vr (some w)), some (vi x1)]) (st2 := [vi 3, vi x_69]) rfl ?_
      refine R_if rfl (fun c_70 => ?_) (fun c_70 => ?_)
      · have k := k.1 c_70
        refine R_ps 1 (pc2 := 83) (L2 := [some (vr (some w)), some (vi x1)]) (st2 := [vi 0]) rfl ?_
        exact R_zret rfl rfl (Or.inl rfl) ⟨_, rfl, k⟩
      · have k := k.2 c_70
        refine R_ps 2 (pc2 := 83) (L2 := [some (vr (some w)), some (vi x1)]) (st2 := [vi 1]) rfl ?_
        exact R_zret rfl rfl (Or.inr rfl) ⟨_, rfl, k⟩
    · have k := k.1 (Classical.not_not.mp c_57)
      refine R_ps 4 (pc2 := 48) (L2 := [some (vr (some w)), some (vi x1)]) (st2 := [vi 0, vi x1, vr (some w), vr (some w), vr (some w)]) rfl ?_
      refine R_cI (as := [vr (some w), vi x1, vi 0]) rfl rfl ⟨Nat.le_of_ble_eq_true rfl, Nat.le_of_ble_eq_true rfl, rfl, (Or.inr ⟨_, rfl, t0⟩)⟩ rfl rfl k (fun x_75 h_74 k => ?_)
      refine R_cI (as := [vr (some w), vi x_75]) rfl rfl ⟨Nat.le_of_ble_eq_true rfl, Nat.le_of_ble_eq_true rfl, rfl, (Or.inr ⟨_, rfl, t0⟩)⟩ rfl rfl k (fun x_78 h_77 k => ?_)
      refine R_ps 1 (pc2 := 65) (L2 := [some (vr (some w)), some (vi x1)]) (st2 := [vi x_78, vr (some w)]) rfl ?_
      refine R_putI rfl t0 ?_
      show WP T N _ _ _ _ (si h_77 w 18 x_78) _
      generalize e_81 : si h_77 w 18 x_78 = h_80
      replace k := k h_80 e_81.symm
      refine R_ps 3 (pc2 := 71) (L2 := [some (vr (some w)), some (vi x1)]) (st2 := [vi 0, vi x1, vr (some w)]) rfl ?_
      refine R_cI (as := [vr (some w), vi x1, vi 0]) rfl rfl ⟨Nat.le_of_ble_eq_true rfl, Nat.le_of_ble_eq_true rfl, rfl, (Or.inr ⟨_, rfl, t0⟩)⟩ rfl rfl k (fun x_84 h_83 k => ?_)
      refine R_ps 1 (pc2 := 75) (L2 := [some (vr (some w)), some (vi x1)]) (st2 := [vi 3, vi x_84]) rfl ?_
      refine R_if rfl (fun c_85 => ?_) (fun c_85 => ?_)
      · have k := k.1 c_85
        refine R_ps 1 (pc2 := 83) (L2 := [some (vr (some w)), some (vi x1)]) (st2 := [vi 0]) rfl ?_
        exact R_zret rfl rfl (Or.inl rfl) ⟨_, rfl, k⟩
      · have k := k.2 c_85
        refine R_ps 2 (pc2 := 83) (L2 := [some (vr (some w)), some (vi x1)]) (st2 := [vi 1]) rfl ?_
        exact R_zret rfl rfl (Or.inr rfl) ⟨_, rfl, k⟩
/-- DroneCorridorsModel.arrives -/
theorem m207 {T N : Nat → Nat} {h : PH} {w : Nat} {x1 : Int32} {x2 : Int32} {x3 : Int32} {K : PH → Prop} (t0 : T w = 12) (k : (CI T N 205 [vr (some w), vi x1] h (fun x_3 h_2 => (∃ a_6, (gr h_2 w 14) = some a_6 ∧ T a_6 = 22 ∧ inb x1 (N a_6) ∧ CI T N 191 [vr (some w), vi x_3] h_2 (fun x_12 h_11 => (∃ a_15, (gr h_11 w 17) = some a_15 ∧ T a_15 = 22 ∧ inb ((3 * x2) + x3) (N a_15) ∧ (((gi h_11 a_15 (Int32.toNatClampNeg ((3 * x2) + x3))) < 0 → (∃ a_67, (gr h_11 w 17) = some a_67 ∧ T a_67 = 22 ∧ inb ((3 * x2) + x3) (N a_67) ∧ (((gi h_11 a_67 (Int32.toNatClampNeg ((3 * x2) + x3))) < 0 → (WV T N 207 82 [some (vr (some w)), some (vi x1), none, none, some (vi x_3), some (vi ((3 * x2) + x3)), some (vi ((gi h_2 a_6 (Int32.toNatClampNeg x1)) - x_12)), some (vi 0), none, none] [] h_11 K)) ∧ (¬ ((gi h_11 a_67 (Int32.toNatClampNeg ((3 * x2) + x3))) < 0) → (∃ a_74, (gr h_11 w 16) = some a_74 ∧ T a_74 = 22 ∧ inb ((3 * x2) + x3) (N a_74) ∧ ((((gi h_2 a_6 (Int32.toNatClampNeg x1)) - x_12) = (gi h_11 a_74 (Int32.toNatClampNeg ((3 * x2) + x3))) → (CI T N 187 [vi x_3] h_11 (fun x_82 h_81 => (CI T N 187 [vi 0] h_81 (fun x_85 h_84 => (((x_82 < x_85 → (WV T N 207 129 [some (vr (some w)), some (vi x1), none, none, none, some (vi ((3 * x2) + x3)), some (vi ((gi h_2 a_6 (Int32.toNatClampNeg x1)) - x_12)), none, none, none] [] h_84 K)) ∧ (¬ (x_82 < x_85) → (CI T N 187 [vi x_3] h_84 (fun x_89 h_88 => (CI T N 187 [vi 0] h_88 (fun x_92 h_91 => (((x_89 = x_92 → (CI T N 190 [vi x_3] h_91 (fun x_96 h_95 => (CI T N 190 [vi 0] h_95 (fun x_99 h_98 => (((x_99 < x_96 → (WV T N 207 129 [some (vr (some w)), some (vi x1), none, none, none, some (vi ((3 * x2) + x3)), some (vi ((gi h_2 a_6 (Int32.toNatClampNeg x1)) - x_12)), none, none, none] [] h_98 K)) ∧ (¬ (x_99 < x_96) → (WV T N 207 133 [some (vr (some w)), some (vi x1), none, none, none, some (vi ((3 * x2) + x3)), some (vi ((gi h_2 a_6 (Int32.toNatClampNeg x1)) - x_12)), none, none, none] [] h_98 K))))))))) ∧ (¬ (x_89 = x_92) → (WV T N 207 133 [some (vr (some w)), some (vi x1), none, none, none, some (vi ((3 * x2) + x3)), some (vi ((gi h_2 a_6 (Int32.toNatClampNeg x1)) - x_12)), none, none, none] [] h_91 K)))))))))))))))) ∧ (¬ (((gi h_2 a_6 (Int32.toNatClampNeg x1)) - x_12) = (gi h_11 a_74 (Int32.toNatClampNeg ((3 * x2) + x3)))) → (WV T N 207 82 [some (vr (some w)), some (vi x1), none, none, some (vi x_3), some (vi ((3 * x2) + x3)), some (vi ((gi h_2 a_6 (Int32.toNatClampNeg x1)) - x_12)), some (vi 0), none, none] [] h_11 K)))))))) ∧ (¬ ((gi h_11 a_15 (Int32.toNatClampNeg ((3 * x2) + x3))) < 0) → (∃ a_22, (gr h_11 w 17) = some a_22 ∧ T a_22 = 22 ∧ inb ((3 * x2) + x3) (N a_22) ∧ CI T N 205 [vr (some w), vi (gi h_11 a_22 (Int32.toNatClampNeg ((3 * x2) + x3)))] h_11 (fun x_28 h_27 => (∃ a_31, (gr h_27 w 17) = some a_31 ∧ T a_31 = 22 ∧ inb ((3 * x2) + x3) (N a_31) ∧ (((gi h_27 a_31 (Int32.toNatClampNeg ((3 * x2) + x3))) < 0 → (WV T N 207 82 [some (vr (some w)), some (vi x1), none, none, some (vi x_3), some (vi ((3 * x2) + x3)), some (vi ((gi h_2 a_6 (Int32.toNatClampNeg x1)) - x_12)), some (vi x_28), none, none] [] h_27 K)) ∧ (¬ ((gi h_27 a_31 (Int32.toNatClampNeg ((3 * x2) + x3))) < 0) → (∃ a_38, (gr h_27 w 16) = some a_38 ∧ T a_38 = 22 ∧ inb ((3 * x2) + x3) (N a_38) ∧ ((((gi h_2 a_6 (Int32.toNatClampNeg x1)) - x_12) = (gi h_27 a_38 (Int32.toNatClampNeg ((3 * x2) + x3))) → (CI T N 187 [vi x_3] h_27 (fun x_46 h_45 => (CI T N 187 [vi x_28] h_45 (fun x_49 h_48 => (((x_46 < x_49 → (WV T N 207 129 [some (vr (some w)), some (vi x1), none, none, none, some (vi ((3 * x2) + x3)), some (vi ((gi h_2 a_6 (Int32.toNatClampNeg x1)) - x_12)), none, none, none] [] h_48 K)) ∧ (¬ (x_46 < x_49) → (CI T N 187 [vi x_3] h_48 (fun x_53 h_52 => (CI T N 187 [vi x_28] h_52 (fun x_56 h_55 => (((x_53 = x_56 → (CI T N 190 [vi x_3] h_55 (fun x_60 h_59 => (CI T N 190 [vi x_28] h_59 (fun x_63 h_62 => (((x_63 < x_60 → (WV T N 207 129 [some (vr (some w)), some (vi x1), none, none, none, some (vi ((3 * x2) + x3)), some (vi ((gi h_2 a_6 (Int32.toNatClampNeg x1)) - x_12)), none, none, none] [] h_62 K)) ∧ (¬ (x_63 < x_60) → (WV T N 207 133 [some (vr (some w)), some (vi x1), none, none, none, some (vi ((3 * x2) + x3)), some (vi ((gi h_2 a_6 (Int32.toNatClampNeg x1)) - x_12)), none, none, none] [] h_62 K))))))))) ∧ (¬ (x_53 = x_56) → (WV T N 207 133 [some (vr (some w)), some (vi x1), none, none, none, some (vi ((3 * x2) + x3)), some (vi ((gi h_2 a_6 (Int32.toNatClampNeg x1)) - x_12)), none, none, none] [] h_55 K)))))))))))))))) ∧ (¬ (((gi h_2 a_6 (Int32.toNatClampNeg x1)) - x_12) = (gi h_27 a_38 (Int32.toNatClampNeg ((3 * x2) + x3)))) → (WV T N 207 82 [some (vr (some w)), some (vi x1), none, none, some (vi x_3), some (vi ((3 * x2) + x3)), some (vi ((gi h_2 a_6 (Int32.toNatClampNeg x1)) - x_12)), some (vi x_28), none, none] [] h_27 K))))))))))))))))) : CV T N 207 [vr (some w), vi x1, vi x2, vi x3] h K := by
  show WP T N 207 0 [some (vr (some w)), some (vi x1), some (vi x2), some (vi x3), none, none, none, none, none, none] [] h _
  refine R_ps 2 (pc2 := 2) (L2 := [some (vr (some w)), some (vi x1), some (vi x2), some (vi x3), none, none, none, none, none, none]) (st2 := [vi x1, vr (some w)]) rfl ?_
  refine R_cI (as := [vr (some w), vi x1]) rfl rfl ⟨Nat.le_of_ble_eq_true rfl, Nat.le_of_ble_eq_true rfl, rfl, (Or.inr ⟨_, rfl, t0⟩)⟩ rfl rfl k (fun x_3 h_2 k => ?_)
  refine R_ps 8 (pc2 := 15) (L2 := [some (vr (some w)), some (vi x1), some (vi x2), some (vi x3), some (vi x_3), some (vi ((3 * x2) + x3)), none, none, none, none]) (st2 := [vr (some w)]) rfl ?_
  refine R_getR rfl t0 ?_
  refine R_ps 1 (pc2 := 19) (L2 := [some (vr (some w)), some (vi x1), some (vi x2), some (vi x3), some (vi x_3), some (vi ((3 * x2) + x3)), none, none, none, none]) (st2 := [vi x1, vr (gr h_2 w 14)]) rfl ?_
  obtain ⟨a_6, e_7, k⟩ := k
  rw [e_7]
  obtain ⟨t_8, k⟩ := k
  obtain ⟨t_9, k⟩ := k
  refine R_iald rfl (Or.inl t_8) t_9 ?_
  refine R_ps 2 (pc2 := 23) (L2 := [some (vr (some w)), some (vi x1), some (vi x2), some (vi x3), some (vi x_3), some (vi ((3 * x2) + x3)), none, none, none, none]) (st2 := [vi x_3, vr (some w), vi (gi h_2 a_6 (Int32.toNatClampNeg x1))]) rfl ?_
  refine R_cI (as := [vr (some w), vi x_3]) rfl rfl ⟨Nat.le_of_ble_eq_true rfl, Nat.le_of_ble_eq_true rfl, rfl, (Or.inr ⟨_, rfl, t0⟩)⟩ rfl rfl k (fun x_12 h_11 k => ?_)
  refine R_ps 3 (pc2 := 30) (L2 := [some (vr (some w)), some (vi x1), some (vi x2), some (vi x3), some (vi x_3), some (vi ((3 * x2) + x3)), some (vi ((gi h_2 a_6 (Int32.toNatClampNeg x1)) - x_12)), none, none, none]) (st2 := [vr (some w)]) rfl ?_
  refine R_getR rfl t0 ?_
  refine R_ps 1 (pc2 := 35) (L2 := [some (vr (some w)), some (vi x1), some (vi x2), some (vi x3), some (vi x_3), some (vi ((3 * x2) + x3)), some (vi ((gi h_2 a_6 (Int32.toNatClampNeg x1)) - x_12)), none, none, none]) (st2 := [vi ((3 * x2) + x3), vr (gr h_11 w 17)]) rfl ?_
  obtain ⟨a_15, e_16, k⟩ := k
  rw [e_16]
  obtain ⟨t_17, k⟩ := k
  obtain ⟨t_18, k⟩ := k
  refine R_iald rfl (Or.inl t_17) t_18 ?_
  refine R_if0 rfl (fun c_19 => ?_) (fun c_19 => ?_)
  · have k := k.2 (i32_nlt c_19)
    refine R_ps 2 (pc2 := 45) (L2 := [some (vr (some w)), some (vi x1), some (vi x2), some (vi x3), some (vi x_3), some (vi ((3 * x2) + x3)), some (vi ((gi h_2 a_6 (Int32.toNatClampNeg x1)) - x_12)), none, none, none]) (st2 := [vr (some w), vr (some w)]) rfl ?_
    refine R_getR rfl t0 ?_
    refine R_ps 1 (pc2 := 50) (L2 := [some (vr (some w)), some (vi x1), some (vi x2), some (vi x3), some (vi x_3), some (vi ((3 * x2) + x3)), some (vi ((gi h_2 a_6 (Int32.toNatClampNeg x1)) - x_12)), none, none, none]) (st2 := [vi ((3 * x2) + x3), vr (gr h_11 w 17), vr (some w)]) rfl ?_
    obtain ⟨a_22, e_23, k⟩ := k
    rw [e_23]
    obtain ⟨t_24, k⟩ := k
    obtain ⟨t_25, k⟩ := k
    refine R_iald rfl (Or.inl t_24) t_25 ?_
    refine R_cI (as := [vr (some w), vi (gi h_11 a_22 (Int32.toNatClampNeg ((3 * x2) + x3)))]) rfl rfl ⟨Nat.le_of_ble_eq_true rfl, Nat.le_of_ble_eq_true rfl, rfl, (Or.inr ⟨_, rfl, t0⟩)⟩ rfl rfl k (fun x_28 h_27 k => ?_)
    refine R_ps 2 (pc2 := 57) (L2 := [some (vr (some w)), some (vi x1), some (vi x2), some (vi x3), some (vi x_3), some (vi ((3 * x2) + x3)), some (vi ((gi h_2 a_6 (Int32.toNatClampNeg x1)) - x_12)), some (vi x_28), none, none]) (st2 := [vr (some w)]) rfl ?_
    refine R_getR rfl t0 ?_
    refine R_ps 1 (pc2 := 62) (L2 := [some (vr (some w)), some (vi x1), some (vi x2), some (vi x3), some (vi x_3), some (vi ((3 * x2) + x3)), some (vi ((gi h_2 a_6 (Int32.toNatClampNeg x1)) - x_12)), some (vi x_28), none, none]) (st2 := [vi ((3 * x2) + x3), vr (gr h_27 w 17)]) rfl ?_
    obtain ⟨a_31, e_32, k⟩ := k
    rw [e_32]
    obtain ⟨t_33, k⟩ := k
    obtain ⟨t_34, k⟩ := k
    refine R_iald rfl (Or.inl t_33) t_34 ?_
    refine R_if0 rfl (fun c_35 => ?_) (fun c_35 => ?_)
    · have k := k.1 c_35
      exact R_drop k (LE_of (L := [some (vr (some w)), some (vi x1), none, none, some (vi x_3), some (vi ((3 * x2) + x3)), some (vi ((gi h_2 a_6 (Int32.toNatClampNeg x1)) - x_12)), some (vi x_28), none, none]) (L2 := [some (vr (some w)), some (vi x1), some (vi x2), some (vi x3), some (vi x_3), some (vi ((3 * x2) + x3)), some (vi ((gi h_2 a_6 (Int32.toNatClampNeg x1)) - x_12)), some (vi x_28), none, none]) ⟨rfl, rfl, rfl, rfl, rfl, rfl, trivial⟩)
    · have k := k.2 c_35
      refine R_ps 2 (pc2 := 69) (L2 := [some (vr (some w)), some (vi x1), some (vi x2), some (vi x3), some (vi x_3), some (vi ((3 * x2) + x3)), some (vi ((gi h_2 a_6 (Int32.toNatClampNeg x1)) - x_12)), some (vi x_28), none, none]) (st2 := [vr (some w), vi ((gi h_2 a_6 (Int32.toNatClampNeg x1)) - x_12)]) rfl ?_
      refine R_getR rfl t0 ?_
      refine R_ps 1 (pc2 := 74) (L2 := [some (vr (some w)), some (vi x1), some (vi x2), some (vi x3), some (vi x_3), some (vi ((3 * x2) + x3)), some (vi ((gi h_2 a_6 (Int32.toNatClampNeg x1)) - x_12)), some (vi x_28), none, none]) (st2 := [vi ((3 * x2) + x3), vr (gr h_27 w 16), vi ((gi h_2 a_6 (Int32.toNatClampNeg x1)) - x_12)]) rfl ?_
      obtain ⟨a_38, e_39, k⟩ := k
      rw [e_39]
      obtain ⟨t_40, k⟩ := k
      obtain ⟨t_41, k⟩ := k
      refine R_iald rfl (Or.inl t_40) t_41 ?_
      refine R_if rfl (fun c_42 => ?_) (fun c_42 => ?_)
      · have k := k.2 c_42
        exact R_drop k (LE_of (L := [some (vr (some w)), some (vi x1), none, none, some (vi x_3), some (vi ((3 * x2) + x3)), some (vi ((gi h_2 a_6 (Int32.toNatClampNeg x1)) - x_12)), some (vi x_28), none, none]) (L2 := [some (vr (some w)), some (vi x1), some (vi x2), some (vi x3), some (vi x_3), some (vi ((3 * x2) + x3)), some (vi ((gi h_2 a_6 (Int32.toNatClampNeg x1)) - x_12)), some (vi x_28), none, none]) ⟨rfl, rfl, rfl, rfl, rfl, rfl, trivial⟩)
      · have k := k.1 (Classical.not_not.mp c_42)
        refine R_ps 4 (pc2 := 87) (L2 := [some (vr (some w)), some (vi x1), some (vi x2), some (vi x3), some (vi x_3), some (vi ((3 * x2) + x3)), some (vi ((gi h_2 a_6 (Int32.toNatClampNeg x1)) - x_12)), some (vi x_28), some (vi 1), none]) (st2 := [vi 1]) rfl ?_
        refine R_if0 rfl (fun c_43 => absurd (show (1 : Int32) = (0 : Int32) from c_43) (by decide)) (fun _ => ?_)
        refine R_ps 1 (pc2 := 92) (L2 := [some (vr (some w)), some (vi x1), some (vi x2), some (vi x3), some (vi x_3), some (vi ((3 * x2) + x3)), some (vi ((gi h_2 a_6 (Int32.toNatClampNeg x1)) - x_12)), some (vi x_28), some (vi 1), none]) (st2 := [vi x_3]) rfl ?_
        refine R_cI (as := [vi x_3]) rfl rfl ⟨Nat.le_of_ble_eq_true rfl, Nat.le_of_ble_eq_true rfl, rfl, (Or.inl rfl)⟩ rfl rfl k (fun x_46 h_45 k => ?_)
        refine R_ps 1 (pc2 := 97) (L2 := [some (vr (some w)), some (vi x1), some (vi x2), some (vi x3), some (vi x_3), some (vi ((3 * x2) + x3)), some (vi ((gi h_2 a_6 (Int32.toNatClampNeg x1)) - x_12)), some (vi x_28), some (vi 1), none]) (st2 := [vi x_28, vi x_46]) rfl ?_
        refine R_cI (as := [vi x_28]) rfl rfl ⟨Nat.le_of_ble_eq_true rfl, Nat.le_of_ble_eq_true rfl, rfl, (Or.inl rfl)⟩ rfl rfl k (fun x_49 h_48 k => ?_)
        refine R_if rfl (fun c_50 => ?_) (fun c_50 => ?_)
        · have k := k.1 c_50
          exact R_drop k (LE_of (L := [some (vr (some w)), some (vi x1), none, none, none, some (vi ((3 * x2) + x3)), some (vi ((gi h_2 a_6 (Int32.toNatClampNeg x1)) - x_12)), none, none, none]) (L2 := [some (vr (some w)), some (vi x1), some (vi x2), some (vi x3), some (vi x_3), some (vi ((3 * x2) + x3)), some (vi ((gi h_2 a_6 (Int32.toNatClampNeg x1)) - x_12)), some (vi x_28), some (vi 1), none]) ⟨rfl, rfl, rfl, rfl, trivial⟩)
        · have k := k.2 c_50
          refine R_ps 1 (pc2 := 105) (L2 := [some (vr (some w)), some (vi x1), some (vi x2), some (vi x3), some (vi x_3), some (vi ((3 * x2) + x3)), some (vi ((gi h_2 a_6 (Int32.toNatClampNeg x1)) - x_12)), some (vi x_28), some (vi 1), none]) (st2 := [vi x_3]) rfl ?_
          refine R_cI (as := [vi x_3]) rfl rfl ⟨Nat.le_of_ble_eq_true rfl, Nat.le_of_ble_eq_true rfl, rfl, (Or.inl rfl)⟩ rfl rfl k (fun x_53 h_52 k => ?_)
          refine R_ps 1 (pc2 := 110) (L2 := [some (vr (some w)), some (vi x1), some (vi x2), some (vi x3), some (vi x_3), some (vi ((3 * x2) + x3)), some (vi ((gi h_2 a_6 (Int32.toNatClampNeg x1)) - x_12)), some (vi x_28), some (vi 1), none]) (st2 := [vi x_28, vi x_53]) rfl ?_
          refine R_cI (as := [vi x_28]) rfl rfl ⟨Nat.le_of_ble_eq_true rfl, Nat.le_of_ble_eq_true rfl, rfl, (Or.inl rfl)⟩ rfl rfl k (fun x_56 h_55 k => ?_)
          refine R_if rfl (fun c_57 => ?_) (fun c_57 => ?_)
          · have k := k.2 c_57
            exact R_drop k (LE_of (L := [some (vr (some w)), some (vi x1), none, none, none, some (vi ((3 * x2) + x3)), some (vi ((gi h_2 a_6 (Int32.toNatClampNeg x1)) - x_12)), none, none, none]) (L2 := [some (vr (some w)), some (vi x1), some (vi x2), some (vi x3), some (vi x_3), some (vi ((3 * x2) + x3)), some (vi ((gi h_2 a_6 (Int32.toNatClampNeg x1)) - x_12)), some (vi x_28), some (vi 1), none]) ⟨rfl, rfl, rfl, rfl, trivial⟩)
          · have k := k.1 (Classical.not_not.mp c_57)
            refine R_ps 1 (pc2 := 118) (L2 := [some (vr (some w)), some (vi x1), some (vi x2), some (vi x3), some (vi x_3), some (vi ((3 * x2) + x3)), some (vi ((gi h_2 a_6 (Int32.toNatClampNeg x1)) - x_12)), some (vi x_28), some (vi 1), none]) (st2 := [vi x_3]) rfl ?_
            refine R_cI (as := [vi x_3]) rfl rfl ⟨Nat.le_of_ble_eq_true rfl, Nat.le_of_ble_eq_true rfl, rfl, (Or.inl rfl)⟩ rfl rfl k (fun x_60 h_59 k => ?_)
            refine R_ps 1 (pc2 := 123) (L2 := [some (vr (some w)), some (vi x1), some (vi x2), some (vi x3), some (vi x_3), some (vi ((3 * x2) + x3)), some (vi ((gi h_2 a_6 (Int32.toNatClampNeg x1)) - x_12)), some (vi x_28), some (vi 1), none]) (st2 := [vi x_28, vi x_60]) rfl ?_
            refine R_cI (as := [vi x_28]) rfl rfl ⟨Nat.le_of_ble_eq_true rfl, Nat.le_of_ble_eq_true rfl, rfl, (Or.inl rfl)⟩ rfl rfl k (fun x_63 h_62 k => ?_)
            refine R_if rfl (fun c_64 => ?_) (fun c_64 => ?_)
            · have k := k.2 (i32_nlt c_64)
              exact R_drop k (LE_of (L := [some (vr (some w)), some (vi x1), none, none, none, some (vi ((3 * x2) + x3)), some (vi ((gi h_2 a_6 (Int32.toNatClampNeg x1)) - x_12)), none, none, none]) (L2 := [some (vr (some w)), some (vi x1), some (vi x2), some (vi x3), some (vi x_3), some (vi ((3 * x2) + x3)), some (vi ((gi h_2 a_6 (Int32.toNatClampNeg x1)) - x_12)), some (vi x_28), some (vi 1), none]) ⟨rfl, rfl, rfl, rfl, trivial⟩)
            · have k := k.1 (i32_lt c_64)
              exact R_drop k (LE_of (L := [some (vr (some w)), some (vi x1), none, none, none, some (vi ((3 * x2) + x3)), some (vi ((gi h_2 a_6 (Int32.toNatClampNeg x1)) - x_12)), none, none, none]) (L2 := [some (vr (some w)), some (vi x1), some (vi x2), some (vi x3), some (vi x_3), some (vi ((3 * x2) + x3)), some (vi ((gi h_2 a_6 (Int32.toNatClampNeg x1)) - x_12)), some (vi x_28), some (vi 1), none]) ⟨rfl, rfl, rfl, rfl, trivial⟩)
  · have k := k.1 (i32_lt c_19)
    refine R_ps 4 (pc2 := 57) (L2 := [some (vr (some w)), some (vi x1), some (vi x2), some (vi x3), some (vi x_3), some (vi ((3 * x2) + x3)), some (vi ((gi h_2 a_6 (Int32.toNatClampNeg x1)) - x_12)), some (vi 0), none, none]) (st2 := [vr (some w)]) rfl ?_
    refine R_getR rfl t0 ?_
    refine R_ps 1 (pc2 := 62) (L2 := [some (vr (some w)), some (vi x1), some (vi x2), some (vi x3), some (vi x_3), some (vi ((3 * x2) + x3)), some (vi ((gi h_2 a_6 (Int32.toNatClampNeg x1)) - x_12)), some (vi 0), none, none]) (st2 := [vi ((3 * x2) + x3), vr (gr h_11 w 17)]) rfl ?_
    obtain ⟨a_67, e_68, k⟩ := k
    rw [e_68]
    obtain ⟨t_69, k⟩ := k
    obtain ⟨t_70, k⟩ := k
    refine R_iald rfl (Or.inl t_69) t_70 ?_
    refine R_if0 rfl (fun c_71 => ?_) (fun c_71 => ?_)
    · have k := k.1 c_71
      exact R_drop k (LE_of (L := [some (vr (some w)), some (vi x1), none, none, some (vi x_3), some (vi ((3 * x2) + x3)), some (vi ((gi h_2 a_6 (Int32.toNatClampNeg x1)) - x_12)), some (vi 0), none, none]) (L2 := [some (vr (some w)), some (vi x1), some (vi x2), some (vi x3), some (vi x_3), some (vi ((3 * x2) + x3)), some (vi ((gi h_2 a_6 (Int32.toNatClampNeg x1)) - x_12)), some (vi 0), none, none]) ⟨rfl, rfl, rfl, rfl, rfl, rfl, trivial⟩)
    · have k := k.2 c_71
      refine R_ps 2 (pc2 := 69) (L2 := [some (vr (some w)), some (vi x1), some (vi x2), some (vi x3), some (vi x_3), some (vi ((3 * x2) + x3)), some (vi ((gi h_2 a_6 (Int32.toNatClampNeg x1)) - x_12)), some (vi 0), none, none]) (st2 := [vr (some w), vi ((gi h_2 a_6 (Int32.toNatClampNeg x1)) - x_12)]) rfl ?_
      refine R_getR rfl t0 ?_
      refine R_ps 1 (pc2 := 74) (L2 := [some (vr (some w)), some (vi x1), some (vi x2), some (vi x3), some (vi x_3), some (vi ((3 * x2) + x3)), some (vi ((gi h_2 a_6 (Int32.toNatClampNeg x1)) - x_12)), some (vi 0), none, none]) (st2 := [vi ((3 * x2) + x3), vr (gr h_11 w 16), vi ((gi h_2 a_6 (Int32.toNatClampNeg x1)) - x_12)]) rfl ?_
      obtain ⟨a_74, e_75, k⟩ := k
      rw [e_75]
      obtain ⟨t_76, k⟩ := k
      obtain ⟨t_77, k⟩ := k
      refine R_iald rfl (Or.inl t_76) t_77 ?_
      refine R_if rfl (fun c_78 => ?_) (fun c_78 => ?_)
      · have k := k.2 c_78
        exact R_drop k (LE_of (L := [some (vr (some w)), some (vi x1), none, none, some (vi x_3), some (vi ((3 * x2) + x3)), some (vi ((gi h_2 a_6 (Int32.toNatClampNeg x1)) - x_12)), some (vi 0), none, none]) (L2 := [some (vr (some w)), some (vi x1), some (vi x2), some (vi x3), some (vi x_3), some (vi ((3 * x2) + x3)), some (vi ((gi h_2 a_6 (Int32.toNatClampNeg x1)) - x_12)), some (vi 0), none, none]) ⟨rfl, rfl, rfl, rfl, rfl, rfl, trivial⟩)
      · have k := k.1 (Classical.not_not.mp c_78)
        refine R_ps 4 (pc2 := 87) (L2 := [some (vr (some w)), some (vi x1), some (vi x2), some (vi x3), some (vi x_3), some (vi ((3 * x2) + x3)), some (vi ((gi h_2 a_6 (Int32.toNatClampNeg x1)) - x_12)), some (vi 0), some (vi 1), none]) (st2 := [vi 1]) rfl ?_
        refine R_if0 rfl (fun c_79 => absurd (show (1 : Int32) = (0 : Int32) from c_79) (by decide)) (fun _ => ?_)
        refine R_ps 1 (pc2 := 92) (L2 := [some (vr (some w)), some (vi x1), some (vi x2), some (vi x3), some (vi x_3), some (vi ((3 * x2) + x3)), some (vi ((gi h_2 a_6 (Int32.toNatClampNeg x1)) - x_12)), some (vi 0), some (vi 1), none]) (st2 := [vi x_3]) rfl ?_
        refine R_cI (as := [vi x_3]) rfl rfl ⟨Nat.le_of_ble_eq_true rfl, Nat.le_of_ble_eq_true rfl, rfl, (Or.inl rfl)⟩ rfl rfl k (fun x_82 h_81 k => ?_)
        refine R_ps 1 (pc2 := 97) (L2 := [some (vr (some w)), some (vi x1), some (vi x2), some (vi x3), some (vi x_3), some (vi ((3 * x2) + x3)), some (vi ((gi h_2 a_6 (Int32.toNatClampNeg x1)) - x_12)), some (vi 0), some (vi 1), none]) (st2 := [vi 0, vi x_82]) rfl ?_
        refine R_cI (as := [vi 0]) rfl rfl ⟨Nat.le_of_ble_eq_true rfl, Nat.le_of_ble_eq_true rfl, rfl, (Or.inl rfl)⟩ rfl rfl k (fun x_85 h_84 k => ?_)
        refine R_if rfl (fun c_86 => ?_) (fun c_86 => ?_)
        · have k := k.1 c_86
          exact R_drop k (LE_of (L := [some (vr (some w)), some (vi x1), none, none, none, some (vi ((3 * x2) + x3)), some (vi ((gi h_2 a_6 (Int32.toNatClampNeg x1)) - x_12)), none, none, none]) (L2 := [some (vr (some w)), some (vi x1), some (vi x2), some (vi x3), some (vi x_3), some (vi ((3 * x2) + x3)), some (vi ((gi h_2 a_6 (Int32.toNatClampNeg x1)) - x_12)), some (vi 0), some (vi 1), none]) ⟨rfl, rfl, rfl, rfl, trivial⟩)
        · have k := k.2 c_86
          refine R_ps 1 (pc2 := 105) (L2 := [some (vr (some w)), some (vi x1), some (vi x2), some (vi x3), some (vi x_3), some (vi ((3 * x2) + x3)), some (vi ((gi h_2 a_6 (Int32.toNatClampNeg x1)) - x_12)), some (vi 0), some (vi 1), none]) (st2 := [vi x_3]) rfl ?_
          refine R_cI (as := [vi x_3]) rfl rfl ⟨Nat.le_of_ble_eq_true rfl, Nat.le_of_ble_eq_true rfl, rfl, (Or.inl rfl)⟩ rfl rfl k (fun x_89 h_88 k => ?_)
          refine R_ps 1 (pc2 := 110) (L2 := [some (vr (some w)), some (vi x1), some (vi x2), some (vi x3), some (vi x_3), some (vi ((3 * x2) + x3)), some (vi ((gi h_2 a_6 (Int32.toNatClampNeg x1)) - x_12)), some (vi 0), some (vi 1), none]) (st2 := [vi 0, vi x_89]) rfl ?_
          refine R_cI (as := [vi 0]) rfl rfl ⟨Nat.le_of_ble_eq_true rfl, Nat.le_of_ble_eq_true rfl, rfl, (Or.inl rfl)⟩ rfl rfl k (fun x_92 h_91 k => ?_)
          refine R_if rfl (fun c_93 => ?_) (fun c_93 => ?_)
          · have k := k.2 c_93
            exact R_drop k (LE_of (L := [some (vr (some w)), some (vi x1), none, none, none, some (vi ((3 * x2) + x3)), some (vi ((gi h_2 a_6 (Int32.toNatClampNeg x1)) - x_12)), none, none, none]) (L2 := [some (vr (some w)), some (vi x1), some (vi x2), some (vi x3), some (vi x_3), some (vi ((3 * x2) + x3)), some (vi ((gi h_2 a_6 (Int32.toNatClampNeg x1)) - x_12)), some (vi 0), some (vi 1), none]) ⟨rfl, rfl, rfl, rfl, trivial⟩)
          · have k := k.1 (Classical.not_not.mp c_93)
            refine R_ps 1 (pc2 := 118) (L2 := [some (vr (some w)), some (vi x1), some (vi x2), some (vi x3), some (vi x_3), some (vi ((3 * x2) + x3)), some (vi ((gi h_2 a_6 (Int32.toNatClampNeg x1)) - x_12)), some (vi 0), some (vi 1), none]) (st2 := [vi x_3]) rfl ?_
            refine R_cI (as := [vi x_3]) rfl rfl ⟨Nat.le_of_ble_eq_true rfl, Nat.le_of_ble_eq_true rfl, rfl, (Or.inl rfl)⟩ rfl rfl k (fun x_96 h_95 k => ?_)
            refine R_ps 1 (pc2 := 123) (L2 := [some (vr (some w)), some (vi x1), some (vi x2), some (vi x3), some (vi x_3), some (vi ((3 * x2) + x3)), some (vi ((gi h_2 a_6 (Int32.toNatClampNeg x1)) - x_12)), some (vi 0), some (vi 1), none]) (st2 := [vi 0, vi x_96]) rfl ?_
            refine R_cI (as := [vi 0]) rfl rfl ⟨Nat.le_of_ble_eq_true rfl, Nat.le_of_ble_eq_true rfl, rfl, (Or.inl rfl)⟩ rfl rfl k (fun x_99 h_98 k => ?_)
            refine R_if rfl (fun c_100 => ?_) (fun c_100 => ?_)
            · have k := k.2 (i32_nlt c_100)
              exact R_drop k (LE_of (L := [some (vr (some w)), some (vi x1), none, none, none, some (vi ((3 * x2) + x3)), some (vi ((gi h_2 a_6 (Int32.toNatClampNeg x1)) - x_12)), none, none, none]) (L2 := [some (vr (some w)), some (vi x1), some (vi x2), some (vi x3), some (vi x_3), some (vi ((3 * x2) + x3)), some (vi ((gi h_2 a_6 (Int32.toNatClampNeg x1)) - x_12)), some (vi 0), some (vi 1), none]) ⟨rfl, rfl, rfl, rfl, trivial⟩)
            · have k := k.1 (i32_lt c_100)
              exact R_drop k (LE_of (L := [some (vr (some w)), some (vi x1), none, none, none, some (vi ((3 * x2) + x3)), some (vi ((gi h_2 a_6 (Int32.toNatClampNeg x1)) - x_12)), none, none, none]) (L2 := [some (vr (some w)), some (vi x1), some (vi x2), some (vi x3), some (vi x_3), some (vi ((3 * x2) + x3)), some (vi ((gi h_2 a_6 (Int32.toNatClampNeg x1)) - x_12)), some (vi 0), some (vi 1), none]) ⟨rfl, rfl, rfl, rfl, trivial⟩)
theorem m207_82 {T N : Nat → Nat} {h : PH} {w : Nat} {x1 : Int32} {x4 : Int32} {x5 : Int32} {x6 : Int32} {x7 : Int32} {K : PH → Prop} (k : (WV T N 207 133 [some (vr (some w)), some (vi x1), none, none, none, some (vi x5), some (vi x6), none, none, none] [] h K)) : WV T N 207 82 [some (vr (some w)), some (vi x1), none, none, some (vi x4), some (vi x5), some (vi x6), some (vi x7), none, none] [] h K := by
  show WP T N 207 82 [some (vr (some w)), some (vi x1), none, none, some (vi x4), some (vi x5), some (vi x6), some (vi x7), none, none] [] h _
  refine R_ps 3 (pc2 := 87) (L2 := [some (vr (some w)), some (vi x1), none, none, some (vi x4), some (vi x5), some (vi x6), some (vi x7), some (vi 0), none]) (st2 := [vi 0]) rfl ?_
  refine R_if0 rfl (fun _ => ?_) (fun c_1 => absurd (show (0 : Int32) = (0 : Int32) by decide) c_1)
  exact R_drop k (LE_of (L := [some (vr (some w)), some (vi x1), none, none, none, some (vi x5), some (vi x6), none, none, none]) (L2 := [some (vr (some w)), some (vi x1), none, none, some (vi x4), some (vi x5), some (vi x6), some (vi x7), some (vi 0), none]) ⟨rfl, rfl, rfl, rfl, trivial⟩)
theorem m207_129 {T N : Nat → Nat} {h : PH} {w : Nat} {x1 : Int32} {x5 : Int32} {x6 : Int32} {K : PH → Prop} (t0 : T w = 12) (k : (∃ a_3, (gr h w 17) = some a_3 ∧ T a_3 = 22 ∧ inb x5 (N a_3) ∧ (((gi h a_3 (Int32.toNatClampNeg x5)) < 0 → (WV T N 207 164 [some (vr (some w)), some (vi x1), none, none, none, some (vi x5), some (vi x6), none, none, none] [] h K)) ∧ (¬ ((gi h a_3 (Int32.toNatClampNeg x5)) < 0) → (∃ a_10, (gr h w 16) = some a_10 ∧ T a_10 = 22 ∧ inb x5 (N a_10) ∧ ((x6 < (gi h a_10 (Int32.toNatClampNeg x5)) → (WV T N 207 164 [some (vr (some w)), some (vi x1), none, none, none, some (vi x5), some (vi x6), none, none, none] [] h K)) ∧ (¬ (x6 < (gi h a_10 (Int32.toNatClampNeg x5))) → (WV T N 207 164 [some (vr (some w)), some (vi x1), none, none, none, some (vi x5), some (vi x6), none, none, none] [] h K)))))))) : WV T N 207 129 [some (vr (some w)), some (vi x1), none, none, none, some (vi x5), some (vi x6), none, none, none] [] h K := by
  show WP T N 207 129 [some (vr (some w)), some (vi x1), none, none, none, some (vi x5), some (vi x6), none, none, none] [] h _
  refine R_ps 4 (pc2 := 137) (L2 := [some (vr (some w)), some (vi x1), none, none, none, some (vi x5), some (vi x6), none, none, some (vi 1)]) (st2 := [vr (some w)]) rfl ?_
  refine R_getR rfl t0 ?_
  refine R_ps 1 (pc2 := 142) (L2 := [some (vr (some w)), some (vi x1), none, none, none, some (vi x5), some (vi x6), none, none, some (vi 1)]) (st2 := [vi x5, vr (gr h w 17)]) rfl ?_
  obtain ⟨a_3, e_4, k⟩ := k
  rw [e_4]
  obtain ⟨t_5, k⟩ := k
  obtain ⟨t_6, k⟩ := k
  refine R_iald rfl (Or.inl t_5) t_6 ?_
  refine R_if0 rfl (fun c_7 => ?_) (fun c_7 => ?_)
  · have k := k.1 c_7
    exact R_drop k (LE_of (L := [some (vr (some w)), some (vi x1), none, none, none, some (vi x5), some (vi x6), none, none, none]) (L2 := [some (vr (some w)), some (vi x1), none, none, none, some (vi x5), some (vi x6), none, none, some (vi 1)]) ⟨rfl, rfl, rfl, rfl, trivial⟩)
  · have k := k.2 c_7
    refine R_ps 2 (pc2 := 149) (L2 := [some (vr (some w)), some (vi x1), none, none, none, some (vi x5), some (vi x6), none, none, some (vi 1)]) (st2 := [vr (some w), vi x6]) rfl ?_
    refine R_getR rfl t0 ?_
    refine R_ps 1 (pc2 := 154) (L2 := [some (vr (some w)), some (vi x1), none, none, none, some (vi x5), some (vi x6), none, none, some (vi 1)]) (st2 := [vi x5, vr (gr h w 16), vi x6]) rfl ?_
    obtain ⟨a_10, e_11, k⟩ := k
    rw [e_11]
    obtain ⟨t_12, k⟩ := k
    obtain ⟨t_13, k⟩ := k
    refine R_iald rfl (Or.inl t_12) t_13 ?_
    refine R_if rfl (fun c_14 => ?_) (fun c_14 => ?_)
    · have k := k.1 c_14
      exact R_drop k (LE_of (L := [some (vr (some w)), some (vi x1), none, none, none, some (vi x5), some (vi x6), none, none, none]) (L2 := [some (vr (some w)), some (vi x1), none, none, none, some (vi x5), some (vi x6), none, none, some (vi 1)]) ⟨rfl, rfl, rfl, rfl, trivial⟩)
    · have k := k.2 c_14
      refine R_ps 1 (pc2 := 160) (L2 := [some (vr (some w)), some (vi x1), none, none, none, some (vi x5), some (vi x6), none, none, some (vi 1)]) (st2 := [vi 1]) rfl ?_
      refine R_if0 rfl (fun _ => ?_) (fun c_15 => absurd (show ¬ (1 : Int32) = (0 : Int32) by decide) c_15)
      exact R_drop k (LE_of (L := [some (vr (some w)), some (vi x1), none, none, none, some (vi x5), some (vi x6), none, none, none]) (L2 := [some (vr (some w)), some (vi x1), none, none, none, some (vi x5), some (vi x6), none, none, some (vi 1)]) ⟨rfl, rfl, rfl, rfl, trivial⟩)
theorem m207_133 {T N : Nat → Nat} {h : PH} {w : Nat} {x1 : Int32} {x5 : Int32} {x6 : Int32} {K : PH → Prop} (t0 : T w = 12) (k : (∃ a_3, (gr h w 17) = some a_3 ∧ T a_3 = 22 ∧ inb x5 (N a_3) ∧ (((gi h a_3 (Int32.toNatClampNeg x5)) < 0 → (WV T N 207 164 [some (vr (some w)), some (vi x1), none, none, none, some (vi x5), some (vi x6), none, none, none] [] h K)) ∧ (¬ ((gi h a_3 (Int32.toNatClampNeg x5)) < 0) → (∃ a_10, (gr h w 16) = some a_10 ∧ T a_10 = 22 ∧ inb x5 (N a_10) ∧ ((x6 < (gi h a_10 (Int32.toNatClampNeg x5)) → (WV T N 207 164 [some (vr (some w)), some (vi x1), none, none, none, some (vi x5), some (vi x6), none, none, none] [] h K)) ∧ (¬ (x6 < (gi h a_10 (Int32.toNatClampNeg x5))) → (K h)))))))) : WV T N 207 133 [some (vr (some w)), some (vi x1), none, none, none, some (vi x5), some (vi x6), none, none, none] [] h K := by
  show WP T N 207 133 [some (vr (some w)), some (vi x1), none, none, none, some (vi x5), some (vi x6), none, none, none] [] h _
  refine R_ps 3 (pc2 := 137) (L2 := [some (vr (some w)), some (vi x1), none, none, none, some (vi x5), some (vi x6), none, none, some (vi 0)]) (st2 := [vr (some w)]) rfl ?_
  refine R_getR rfl t0 ?_
  refine R_ps 1 (pc2 := 142) (L2 := [some (vr (some w)), some (vi x1), none, none, none, some (vi x5), some (vi x6), none, none, some (vi 0)]) (st2 := [vi x5, vr (gr h w 17)]) rfl ?_
  obtain ⟨a_3, e_4, k⟩ := k
  rw [e_4]
  obtain ⟨t_5, k⟩ := k
  obtain ⟨t_6, k⟩ := k
  refine R_iald rfl (Or.inl t_5) t_6 ?_
  refine R_if0 rfl (fun c_7 => ?_) (fun c_7 => ?_)
  · have k := k.1 c_7
    exact R_drop k (LE_of (L := [some (vr (some w)), some (vi x1), none, none, none, some (vi x5), some (vi x6), none, none, none]) (L2 := [some (vr (some w)), some (vi x1), none, none, none, some (vi x5), some (vi x6), none, none, some (vi 0)]) ⟨rfl, rfl, rfl, rfl, trivial⟩)
  · have k := k.2 c_7
    refine R_ps 2 (pc2 := 149) (L2 := [some (vr (some w)), some (vi x1), none, none, none, some (vi x5), some (vi x6), none, none, some (vi 0)]) (st2 := [vr (some w), vi x6]) rfl ?_
    refine R_getR rfl t0 ?_
    refine R_ps 1 (pc2 := 154) (L2 := [some (vr (some w)), some (vi x1), none, none, none, some (vi x5), some (vi x6), none, none, some (vi 0)]) (st2 := [vi x5, vr (gr h w 16), vi x6]) rfl ?_
    obtain ⟨a_10, e_11, k⟩ := k
    rw [e_11]
    obtain ⟨t_12, k⟩ := k
    obtain ⟨t_13, k⟩ := k
    refine R_iald rfl (Or.inl t_12) t_13 ?_
    refine R_if rfl (fun c_14 => ?_) (fun c_14 => ?_)
    · have k := k.1 c_14
      exact R_drop k (LE_of (L := [some (vr (some w)), some (vi x1), none, none, none, some (vi x5), some (vi x6), none, none, none]) (L2 := [some (vr (some w)), some (vi x1), none, none, none, some (vi x5), some (vi x6), none, none, some (vi 0)]) ⟨rfl, rfl, rfl, rfl, trivial⟩)
    · have k := k.2 c_14
      refine R_ps 1 (pc2 := 160) (L2 := [some (vr (some w)), some (vi x1), none, none, none, some (vi x5), some (vi x6), none, none, some (vi 0)]) (st2 := [vi 0]) rfl ?_
      refine R_if0 rfl (fun c_15 => absurd (show ¬ (0 : Int32) = (0 : Int32) from c_15) (by decide)) (fun _ => ?_)
      exact R_ret rfl rfl ⟨rfl, k⟩
theorem m207_164 {T N : Nat → Nat} {h : PH} {w : Nat} {x1 : Int32} {x5 : Int32} {x6 : Int32} {K : PH → Prop} (t0 : T w = 12) (k : (∃ a_3, (gr h w 16) = some a_3 ∧ T a_3 = 22 ∧ inb x5 (N a_3) ∧ ∀ h_5, h_5 = si h a_3 (Int32.toNatClampNeg x5) x6 → ∃ a_11, (gr h_5 w 17) = some a_11 ∧ T a_11 = 22 ∧ inb x5 (N a_11) ∧ ∀ h_13, h_13 = si h_5 a_11 (Int32.toNatClampNeg x5) x1 → K h_13)) : WV T N 207 164 [some (vr (some w)), some (vi x1), none, none, none, some (vi x5), some (vi x6), none, none, none] [] h K := by
  show WP T N 207 164 [some (vr (some w)), some (vi x1), none, none, none, some (vi x5), some (vi x6), none, none, none] [] h _
  refine R_ps 1 (pc2 := 165) (L2 := [some (vr (some w)), some (vi x1), none, none, none, some (vi x5), some (vi x6), none, none, none]) (st2 := [vr (some w)]) rfl ?_
  refine R_getR rfl t0 ?_
  refine R_ps 2 (pc2 := 172) (L2 := [some (vr (some w)), some (vi x1), none, none, none, some (vi x5), some (vi x6), none, none, none]) (st2 := [vi x6, vi x5, vr (gr h w 16)]) rfl ?_
  obtain ⟨a_3, e_4, k⟩ := k
  rw [e_4]
  obtain ⟨t_7, k⟩ := k
  obtain ⟨t_8, k⟩ := k
  refine R_iast rfl t_7 t_8  ?_
  show WP T N _ _ _ _ (si h a_3 (Int32.toNatClampNeg x5) x6) _
  generalize e_6 : si h a_3 (Int32.toNatClampNeg x5) x6 = h_5
  replace k := k h_5 e_6.symm
  refine R_ps 1 (pc2 := 174) (L2 := [some (vr (some w)), some (vi x1), none, none, none, some (vi x5), some (vi x6), none, none, none]) (st2 := [vr (some w)]) rfl ?_
  refine R_getR rfl t0 ?_
  refine R_ps 2 (pc2 := 180) (L2 := [some (vr (some w)), some (vi x1), none, none, none, some (vi x5), some (vi x6), none, none, none]) (st2 := [vi x1, vi x5, vr (gr h_5 w 17)]) rfl ?_
  obtain ⟨a_11, e_12, k⟩ := k
  rw [e_12]
  obtain ⟨t_15, k⟩ := k
  obtain ⟨t_16, k⟩ := k
  refine R_iast rfl t_15 t_16  ?_
  show WP T N _ _ _ _ (si h_5 a_11 (Int32.toNatClampNeg x5) x1) _
  generalize e_14 : si h_5 a_11 (Int32.toNatClampNeg x5) x1 = h_13
  replace k := k h_13 e_14.symm
  exact R_ret rfl rfl ⟨rfl, k⟩
/-- DroneCorridorsModel.looks -/
theorem m208 {T N : Nat → Nat} {h : PH} {w : Nat} {x1 : Int32} {x2 : Int32} {x3 : Int32} {K : PH → Prop} (t0 : T w = 12) (k : (CV T N 182 [vr (some w)] h (fun h_2 => (WV T N 208 7 [some (vr (some w)), some (vi x1), some (vi x2), some (vi x3), some (vi 0), none, none, none, none, none] [] h_2 K)))) : CV T N 208 [vr (some w), vi x1, vi x2, vi x3] h K := by
  show WP T N 208 0 [some (vr (some w)), some (vi x1), some (vi x2), some (vi x3), none, none, none, none, none, none] [] h _
  refine R_ps 1 (pc2 := 1) (L2 := [some (vr (some w)), some (vi x1), some (vi x2), some (vi x3), none, none, none, none, none, none]) (st2 := [vr (some w)]) rfl ?_
  refine R_cV (as := [vr (some w)]) rfl rfl ⟨Nat.le_of_ble_eq_true rfl, Nat.le_of_ble_eq_true rfl, rfl, (Or.inr ⟨_, rfl, t0⟩)⟩ rfl rfl k (fun h_2 k => ?_)
  refine R_ps 2 (pc2 := 7) (L2 := [some (vr (some w)), some (vi x1), some (vi x2), some (vi x3), some (vi 0), none, none, none, none, none]) (st2 := []) rfl ?_
  exact k
theorem m208_7 {T N : Nat → Nat} {h : PH} {w : Nat} {x1 : Int32} {x2 : Int32} {x3 : Int32} {x4 : Int32} {K : PH → Prop} (t0 : T w = 12) (k : (((x4 < 3936 → (∃ a_4, (gr h w 14) = some a_4 ∧ T a_4 = 22 ∧ inb x4 (N a_4) ∧ ∀ h_6, h_6 = si h a_4 (Int32.toNatClampNeg x4) (-1) → WV T N 208 7 [some (vr (some w)), some (vi x1), some (vi x2), some (vi x3), some (vi (x4 + 1)), none, none, none, none, none] [] h_6 K)) ∧ (¬ (x4 < 3936) → (WV T N 208 32 [some (vr (some w)), some (vi x1), some (vi x2), some (vi x3), some (vi 0), none, none, none, none, none] [] h K))))) : WV T N 208 7 [some (vr (some w)), some (vi x1), some (vi x2), some (vi x3), some (vi x4), none, none, none, none, none] [] h K := by
  show WP T N 208 7 [some (vr (some w)), some (vi x1), some (vi x2), some (vi x3), some (vi x4), none, none, none, none, none] [] h _
  refine R_ps 2 (pc2 := 12) (L2 := [some (vr (some w)), some (vi x1), some (vi x2), some (vi x3), some (vi x4), none, none, none, none, none]) (st2 := [vi 3936, vi x4]) rfl ?_
  refine R_if rfl (fun c_1 => ?_) (fun c_1 => ?_)
  · have k := k.2 (i32_nlt c_1)
    refine R_ps 2 (pc2 := 32) (L2 := [some (vr (some w)), some (vi x1), some (vi x2), some (vi x3), some (vi 0), none, none, none, none, none]) (st2 := []) rfl ?_
    exact k
  · have k := k.1 (i32_lt c_1)
    refine R_ps 1 (pc2 := 16) (L2 := [some (vr (some w)), some (vi x1), some (vi x2), some (vi x3), some (vi x4), none, none, none, none, none]) (st2 := [vr (some w)]) rfl ?_
    refine R_getR rfl t0 ?_
    refine R_ps 2 (pc2 := 22) (L2 := [some (vr (some w)), some (vi x1), some (vi x2), some (vi x3), some (vi x4), none, none, none, none, none]) (st2 := [vi (-1), vi x4, vr (gr h w 14)]) rfl ?_
    obtain ⟨a_4, e_5, k⟩ := k
    rw [e_5]
    obtain ⟨t_8, k⟩ := k
    obtain ⟨t_9, k⟩ := k
    refine R_iast rfl t_8 t_9  ?_
    show WP T N _ _ _ _ (si h a_4 (Int32.toNatClampNeg x4) (-1)) _
    generalize e_7 : si h a_4 (Int32.toNatClampNeg x4) (-1) = h_6
    replace k := k h_6 e_7.symm
    refine R_ps 2 (pc2 := 7) (L2 := [some (vr (some w)), some (vi x1), some (vi x2), some (vi x3), some (vi (x4 + 1)), none, none, none, none, none]) (st2 := []) rfl ?_
    exact k
theorem m208_32 {T N : Nat → Nat} {h : PH} {w : Nat} {x1 : Int32} {x2 : Int32} {x3 : Int32} {x4 : Int32} {K : PH → Prop} (t0 : T w = 12) (k : (((x4 < 30 → (∃ a_11, (gr h w 17) = some a_11 ∧ T a_11 = 22 ∧ inb x4 (N a_11) ∧ ∀ h_13, h_13 = si h a_11 (Int32.toNatClampNeg x4) (-1) → WV T N 208 32 [some (vr (some w)), some (vi x1), some (vi x2), some (vi x3), some (vi (x4 + 1)), none, none, none, none, none] [] h_13 K)) ∧ (¬ (x4 < 30) → (∃ a_4, (gr h w 1) = some a_4 ∧ T a_4 = 22 ∧ inb 448 (N a_4) ∧ WV T N 208 72 [some (vr (some w)), some (vi x1), some (vi x2), some (vi x3), some (vi ((gi h a_4 448) + 40)), some (vi (gi h w 18)), none, none, none, none] [] h K))))) : WV T N 208 32 [some (vr (some w)), some (vi x1), some (vi x2), some (vi x3), some (vi x4), none, none, none, none, none] [] h K := by
  show WP T N 208 32 [some (vr (some w)), some (vi x1), some (vi x2), some (vi x3), some (vi x4), none, none, none, none, none] [] h _
  refine R_ps 2 (pc2 := 36) (L2 := [some (vr (some w)), some (vi x1), some (vi x2), some (vi x3), some (vi x4), none, none, none, none, none]) (st2 := [vi 30, vi x4]) rfl ?_
  refine R_if rfl (fun c_1 => ?_) (fun c_1 => ?_)
  · have k := k.2 (i32_nlt c_1)
    refine R_ps 1 (pc2 := 54) (L2 := [some (vr (some w)), some (vi x1), some (vi x2), some (vi x3), some (vi x4), none, none, none, none, none]) (st2 := [vr (some w)]) rfl ?_
    refine R_getR rfl t0 ?_
    refine R_ps 1 (pc2 := 60) (L2 := [some (vr (some w)), some (vi x1), some (vi x2), some (vi x3), some (vi x4), none, none, none, none, none]) (st2 := [vi 448, vr (gr h w 1)]) rfl ?_
    obtain ⟨a_4, e_5, k⟩ := k
    rw [e_5]
    obtain ⟨t_6, k⟩ := k
    obtain ⟨t_7, k⟩ := k
    refine R_iald rfl (Or.inl t_6) t_7 ?_
    refine R_ps 4 (pc2 := 67) (L2 := [some (vr (some w)), some (vi x1), some (vi x2), some (vi x3), some (vi ((gi h a_4 448) + 40)), none, none, none, none, none]) (st2 := [vr (some w)]) rfl ?_
    refine R_getI rfl t0 ?_
    refine R_ps 1 (pc2 := 72) (L2 := [some (vr (some w)), some (vi x1), some (vi x2), some (vi x3), some (vi ((gi h a_4 448) + 40)), some (vi (gi h w 18)), none, none, none, none]) (st2 := []) rfl ?_
    exact k
  · have k := k.1 (i32_lt c_1)
    refine R_ps 1 (pc2 := 40) (L2 := [some (vr (some w)), some (vi x1), some (vi x2), some (vi x3), some (vi x4), none, none, none, none, none]) (st2 := [vr (some w)]) rfl ?_
    refine R_getR rfl t0 ?_
    refine R_ps 2 (pc2 := 46) (L2 := [some (vr (some w)), some (vi x1), some (vi x2), some (vi x3), some (vi x4), none, none, none, none, none]) (st2 := [vi (-1), vi x4, vr (gr h w 17)]) rfl ?_
    obtain ⟨a_11, e_12, k⟩ := k
    rw [e_12]
    obtain ⟨t_15, k⟩ := k
    obtain ⟨t_16, k⟩ := k
    refine R_iast rfl t_15 t_16  ?_
    show WP T N _ _ _ _ (si h a_11 (Int32.toNatClampNeg x4) (-1)) _
    generalize e_14 : si h a_11 (Int32.toNatClampNeg x4) (-1) = h_13
    replace k := k h_13 e_14.symm
    refine R_ps 2 (pc2 := 32) (L2 := [some (vr (some w)), some (vi x1), some (vi x2), some (vi x3), some (vi (x4 + 1)), none, none, none, none, none]) (st2 := []) rfl ?_
    exact k
theorem m208_72 {T N : Nat → Nat} {h : PH} {w : Nat} {x1 : Int32} {x2 : Int32} {x3 : Int32} {x4 : Int32} {x5 : Int32} {K : PH → Prop} (k : (((x5 < x4 → (WV T N 208 82 [some (vr (some w)), some (vi x1), some (vi x2), some (vi x3), some (vi x4), some (vi x5), some (vi 0), none, none, none] [] h K)) ∧ (¬ (x5 < x4) → (K h))))) : WV T N 208 72 [some (vr (some w)), some (vi x1), some (vi x2), some (vi x3), some (vi x4), some (vi x5), none, none, none, none] [] h K := by
  show WP T N 208 72 [some (vr (some w)), some (vi x1), some (vi x2), some (vi x3), some (vi x4), some (vi x5), none, none, none, none] [] h _
  refine R_ps 2 (pc2 := 76) (L2 := [some (vr (some w)), some (vi x1), some (vi x2), some (vi x3), some (vi x4), some (vi x5), none, none, none, none]) (st2 := [vi x4, vi x5]) rfl ?_
  refine R_if rfl (fun c_1 => ?_) (fun c_1 => ?_)
  · have k := k.2 (i32_nlt c_1)
    exact R_ret rfl rfl ⟨rfl, k⟩
  · have k := k.1 (i32_lt c_1)
    refine R_ps 2 (pc2 := 82) (L2 := [some (vr (some w)), some (vi x1), some (vi x2), some (vi x3), some (vi x4), some (vi x5), some (vi 0), none, none, none]) (st2 := []) rfl ?_
    exact k
theorem m208_82 {T N : Nat → Nat} {h : PH} {w : Nat} {x1 : Int32} {x2 : Int32} {x3 : Int32} {x4 : Int32} {x5 : Int32} {x6 : Int32} {K : PH → Prop} (t0 : T w = 12) (k : (∃ a_3, (gr h w 1) = some a_3 ∧ T a_3 = 22 ∧ inb 11 (N a_3) ∧ ((x6 < (gi h a_3 11) → (CI T N 166 [vr (some w), vi x6] h (fun x_10 h_9 => (WV T N 208 113 [some (vr (some w)), some (vi x1), some (vi x2), some (vi x3), some (vi x4), some (vi x5), some (vi x6), some (vi ((x5 - x_10) - (gi h_9 w 18))), some (vi 0), none] [] h_9 K)))) ∧ (¬ (x6 < (gi h a_3 11)) → (WV T N 208 188 [some (vr (some w)), some (vi x1), some (vi x2), some (vi x3), some (vi x4), some (vi x5), some (vi 0), none, none, none] [] h K))))) : WV T N 208 82 [some (vr (some w)), some (vi x1), some (vi x2), some (vi x3), some (vi x4), some (vi x5), some (vi x6), none, none, none] [] h K := by
  show WP T N 208 82 [some (vr (some w)), some (vi x1), some (vi x2), some (vi x3), some (vi x4), some (vi x5), some (vi x6), none, none, none] [] h _
  refine R_ps 2 (pc2 := 85) (L2 := [some (vr (some w)), some (vi x1), some (vi x2), some (vi x3), some (vi x4), some (vi x5), some (vi x6), none, none, none]) (st2 := [vr (some w), vi x6]) rfl ?_
  refine R_getR rfl t0 ?_
  refine R_ps 1 (pc2 := 90) (L2 := [some (vr (some w)), some (vi x1), some (vi x2), some (vi x3), some (vi x4), some (vi x5), some (vi x6), none, none, none]) (st2 := [vi 11, vr (gr h w 1), vi x6]) rfl ?_
  obtain ⟨a_3, e_4, k⟩ := k
  rw [e_4]
  obtain ⟨t_5, k⟩ := k
  obtain ⟨t_6, k⟩ := k
  refine R_iald rfl (Or.inl t_5) t_6 ?_
  refine R_if rfl (fun c_7 => ?_) (fun c_7 => ?_)
  · have k := k.2 (i32_nlt c_7)
    refine R_ps 2 (pc2 := 188) (L2 := [some (vr (some w)), some (vi x1), some (vi x2), some (vi x3), some (vi x4), some (vi x5), some (vi 0), none, none, none]) (st2 := []) rfl ?_
    exact k
  · have k := k.1 (i32_lt c_7)
    refine R_ps 3 (pc2 := 99) (L2 := [some (vr (some w)), some (vi x1), some (vi x2), some (vi x3), some (vi x4), some (vi x5), some (vi x6), none, none, none]) (st2 := [vi x6, vr (some w), vi x5]) rfl ?_
    refine R_cI (as := [vr (some w), vi x6]) rfl rfl ⟨Nat.le_of_ble_eq_true rfl, Nat.le_of_ble_eq_true rfl, rfl, (Or.inr ⟨_, rfl, t0⟩)⟩ rfl rfl k (fun x_10 h_9 k => ?_)
    refine R_ps 2 (pc2 := 104) (L2 := [some (vr (some w)), some (vi x1), some (vi x2), some (vi x3), some (vi x4), some (vi x5), some (vi x6), none, none, none]) (st2 := [vr (some w), vi (x5 - x_10)]) rfl ?_
    refine R_getI rfl t0 ?_
    refine R_ps 4 (pc2 := 113) (L2 := [some (vr (some w)), some (vi x1), some (vi x2), some (vi x3), some (vi x4), some (vi x5), some (vi x6), some (vi ((x5 - x_10) - (gi h_9 w 18))), some (vi 0), none]) (st2 := []) rfl ?_
    exact k
theorem m208_113 {T N : Nat → Nat} {h : PH} {w : Nat} {x1 : Int32} {x2 : Int32} {x3 : Int32} {x4 : Int32} {x5 : Int32} {x6 : Int32} {x7 : Int32} {x8 : Int32} {K : PH → Prop} (t0 : T w = 12) (k : (((x8 < 6 → (((x7 < 0 → (WV T N 208 82 [some (vr (some w)), some (vi x1), some (vi x2), some (vi x3), some (vi x4), some (vi x5), some (vi (x6 + 1)), none, none, none] [] h K)) ∧ (¬ (x7 < 0) → (∃ a_5, (gr h w 14) = some a_5 ∧ T a_5 = 22 ∧ inb (((96 * x7) + (6 * x6)) + x8) (N a_5) ∧ (((gi h a_5 (Int32.toNatClampNeg (((96 * x7) + (6 * x6)) + x8))) < 0 → (WV T N 208 113 [some (vr (some w)), some (vi x1), some (vi x2), some (vi x3), some (vi x4), some (vi x5), some (vi x6), some (vi x7), some (vi (x8 + 1)), none] [] h K)) ∧ (¬ ((gi h a_5 (Int32.toNatClampNeg (((96 * x7) + (6 * x6)) + x8))) < 0) → (CI T N 165 [vr (some w), vi x6, vi (1 - (x8 / 3))] h (fun x_13 h_12 => (CV T N 207 [vr (some w), vi (((96 * x7) + (6 * x6)) + x8), vi x_13, vi (x8 - x8 / 3 * 3)] h_12 (fun h_16 => (WV T N 208 113 [some (vr (some w)), some (vi x1), some (vi x2), some (vi x3), some (vi x4), some (vi x5), some (vi x6), some (vi x7), some (vi (x8 + 1)), none] [] h_16 K)))))))))))) ∧ (¬ (x8 < 6) → (WV T N 208 82 [some (vr (some w)), some (vi x1), some (vi x2), some (vi x3), some (vi x4), some (vi x5), some (vi (x6 + 1)), none, none, none] [] h K))))) : WV T N 208 113 [some (vr (some w)), some (vi x1), some (vi x2), some (vi x3), some (vi x4), some (vi x5), some (vi x6), some (vi x7), some (vi x8), none] [] h K := by
  show WP T N 208 113 [some (vr (some w)), some (vi x1), some (vi x2), some (vi x3), some (vi x4), some (vi x5), some (vi x6), some (vi x7), some (vi x8), none] [] h _
  refine R_ps 2 (pc2 := 117) (L2 := [some (vr (some w)), some (vi x1), some (vi x2), some (vi x3), some (vi x4), some (vi x5), some (vi x6), some (vi x7), some (vi x8), none]) (st2 := [vi 6, vi x8]) rfl ?_
  refine R_if rfl (fun c_1 => ?_) (fun c_1 => ?_)
  · have k := k.2 (i32_nlt c_1)
    refine R_ps 2 (pc2 := 82) (L2 := [some (vr (some w)), some (vi x1), some (vi x2), some (vi x3), some (vi x4), some (vi x5), some (vi (x6 + 1)), some (vi x7), some (vi x8), none]) (st2 := []) rfl ?_
    exact R_drop k (LE_of (L := [some (vr (some w)), some (vi x1), some (vi x2), some (vi x3), some (vi x4), some (vi x5), some (vi (x6 + 1)), none, none, none]) (L2 := [some (vr (some w)), some (vi x1), some (vi x2), some (vi x3), some (vi x4), some (vi x5), some (vi (x6 + 1)), some (vi x7), some (vi x8), none]) ⟨rfl, rfl, rfl, rfl, rfl, rfl, rfl, trivial⟩)
  · have k := k.1 (i32_lt c_1)
    refine R_ps 1 (pc2 := 122) (L2 := [some (vr (some w)), some (vi x1), some (vi x2), some (vi x3), some (vi x4), some (vi x5), some (vi x6), some (vi x7), some (vi x8), none]) (st2 := [vi x7]) rfl ?_
    refine R_if0 rfl (fun c_2 => ?_) (fun c_2 => ?_)
    · have k := k.1 c_2
      refine R_ps 2 (pc2 := 82) (L2 := [some (vr (some w)), some (vi x1), some (vi x2), some (vi x3), some (vi x4), some (vi x5), some (vi (x6 + 1)), some (vi x7), some (vi x8), none]) (st2 := []) rfl ?_
      exact R_drop k (LE_of (L := [some (vr (some w)), some (vi x1), some (vi x2), some (vi x3), some (vi x4), some (vi x5), some (vi (x6 + 1)), none, none, none]) (L2 := [some (vr (some w)), some (vi x1), some (vi x2), some (vi x3), some (vi x4), some (vi x5), some (vi (x6 + 1)), some (vi x7), some (vi x8), none]) ⟨rfl, rfl, rfl, rfl, rfl, rfl, rfl, trivial⟩)
    · have k := k.2 c_2
      refine R_ps 11 (pc2 := 142) (L2 := [some (vr (some w)), some (vi x1), some (vi x2), some (vi x3), some (vi x4), some (vi x5), some (vi x6), some (vi x7), some (vi x8), some (vi (((96 * x7) + (6 * x6)) + x8))]) (st2 := [vr (some w)]) rfl ?_
      refine R_getR rfl t0 ?_
      refine R_ps 1 (pc2 := 147) (L2 := [some (vr (some w)), some (vi x1), some (vi x2), some (vi x3), some (vi x4), some (vi x5), some (vi x6), some (vi x7), some (vi x8), some (vi (((96 * x7) + (6 * x6)) + x8))]) (st2 := [vi (((96 * x7) + (6 * x6)) + x8), vr (gr h w 14)]) rfl ?_
      obtain ⟨a_5, e_6, k⟩ := k
      rw [e_6]
      obtain ⟨t_7, k⟩ := k
      obtain ⟨t_8, k⟩ := k
      refine R_iald rfl (Or.inl t_7) t_8 ?_
      refine R_if0 rfl (fun c_9 => ?_) (fun c_9 => ?_)
      · have k := k.1 c_9
        refine R_ps 2 (pc2 := 113) (L2 := [some (vr (some w)), some (vi x1), some (vi x2), some (vi x3), some (vi x4), some (vi x5), some (vi x6), some (vi x7), some (vi (x8 + 1)), some (vi (((96 * x7) + (6 * x6)) + x8))]) (st2 := []) rfl ?_
        exact R_drop k (LE_of (L := [some (vr (some w)), some (vi x1), some (vi x2), some (vi x3), some (vi x4), some (vi x5), some (vi x6), some (vi x7), some (vi (x8 + 1)), none]) (L2 := [some (vr (some w)), some (vi x1), some (vi x2), some (vi x3), some (vi x4), some (vi x5), some (vi x6), some (vi x7), some (vi (x8 + 1)), some (vi (((96 * x7) + (6 * x6)) + x8))]) ⟨rfl, rfl, rfl, rfl, rfl, rfl, rfl, rfl, rfl, trivial⟩)
      · have k := k.2 c_9
        refine R_ps 7 (pc2 := 161) (L2 := [some (vr (some w)), some (vi x1), some (vi x2), some (vi x3), some (vi x4), some (vi x5), some (vi x6), some (vi x7), some (vi x8), some (vi (((96 * x7) + (6 * x6)) + x8))]) (st2 := [vi 3, vi x8, vi 1, vi x6, vr (some w), vi (((96 * x7) + (6 * x6)) + x8), vr (some w)]) rfl ?_
        refine R_div rfl (by decide) ?_
        refine R_ps 1 (pc2 := 163) (L2 := [some (vr (some w)), some (vi x1), some (vi x2), some (vi x3), some (vi x4), some (vi x5), some (vi x6), some (vi x7), some (vi x8), some (vi (((96 * x7) + (6 * x6)) + x8))]) (st2 := [vi (1 - (x8 / 3)), vi x6, vr (some w), vi (((96 * x7) + (6 * x6)) + x8), vr (some w)]) rfl ?_
        refine R_cI (as := [vr (some w), vi x6, vi (1 - (x8 / 3))]) rfl rfl ⟨Nat.le_of_ble_eq_true rfl, Nat.le_of_ble_eq_true rfl, rfl, (Or.inr ⟨_, rfl, t0⟩)⟩ rfl rfl k (fun x_13 h_12 k => ?_)
        refine R_ps 2 (pc2 := 169) (L2 := [some (vr (some w)), some (vi x1), some (vi x2), some (vi x3), some (vi x4), some (vi x5), some (vi x6), some (vi x7), some (vi x8), some (vi (((96 * x7) + (6 * x6)) + x8))]) (st2 := [vi 3, vi x8, vi x_13, vi (((96 * x7) + (6 * x6)) + x8), vr (some w)]) rfl ?_
        refine R_rem rfl (by decide) ?_
        refine R_cV (as := [vr (some w), vi (((96 * x7) + (6 * x6)) + x8), vi x_13, vi (x8 - x8 / 3 * 3)]) rfl rfl ⟨Nat.le_of_ble_eq_true rfl, Nat.le_of_ble_eq_true rfl, rfl, (Or.inr ⟨_, rfl, t0⟩)⟩ rfl rfl k (fun h_16 k => ?_)
        refine R_ps 2 (pc2 := 113) (L2 := [some (vr (some w)), some (vi x1), some (vi x2), some (vi x3), some (vi x4), some (vi x5), some (vi x6), some (vi x7), some (vi (x8 + 1)), some (vi (((96 * x7) + (6 * x6)) + x8))]) (st2 := []) rfl ?_
        exact R_drop k (LE_of (L := [some (vr (some w)), some (vi x1), some (vi x2), some (vi x3), some (vi x4), some (vi x5), some (vi x6), some (vi x7), some (vi (x8 + 1)), none]) (L2 := [some (vr (some w)), some (vi x1), some (vi x2), some (vi x3), some (vi x4), some (vi x5), some (vi x6), some (vi x7), some (vi (x8 + 1)), some (vi (((96 * x7) + (6 * x6)) + x8))]) ⟨rfl, rfl, rfl, rfl, rfl, rfl, rfl, rfl, rfl, trivial⟩)
theorem m208_188 {T N : Nat → Nat} {h : PH} {w : Nat} {x1 : Int32} {x2 : Int32} {x3 : Int32} {x4 : Int32} {x5 : Int32} {x6 : Int32} {K : PH → Prop} (t0 : T w = 12) (k : (∃ a_3, (gr h w 1) = some a_3 ∧ T a_3 = 22 ∧ inb 11 (N a_3) ∧ ((x6 < (gi h a_3 11) → (CI T N 166 [vr (some w), vi x6] h (fun x_10 h_9 => (((x4 < (x5 + x_10) → (WV T N 208 188 [some (vr (some w)), some (vi x1), some (vi x2), some (vi x3), some (vi x4), some (vi x5), some (vi (x6 + 1)), none, none, none] [] h_9 K)) ∧ (¬ (x4 < (x5 + x_10)) → (WV T N 208 220 [some (vr (some w)), some (vi x1), some (vi x2), some (vi x3), some (vi x4), some (vi x5), some (vi x6), some (vi 0), none, none] [] h_9 K))))))) ∧ (¬ (x6 < (gi h a_3 11)) → (WV T N 208 72 [some (vr (some w)), some (vi x1), some (vi x2), some (vi x3), some (vi x4), some (vi (x5 + 1)), none, none, none, none] [] h K))))) : WV T N 208 188 [some (vr (some w)), some (vi x1), some (vi x2), some (vi x3), some (vi x4), some (vi x5), some (vi x6), none, none, none] [] h K := by
  show WP T N 208 188 [some (vr (some w)), some (vi x1), some (vi x2), some (vi x3), some (vi x4), some (vi x5), some (vi x6), none, none, none] [] h _
  refine R_ps 2 (pc2 := 191) (L2 := [some (vr (some w)), some (vi x1), some (vi x2), some (vi x3), some (vi x4), some (vi x5), some (vi x6), none, none, none]) (st2 := [vr (some w), vi x6]) rfl ?_
  refine R_getR rfl t0 ?_
  refine R_ps 1 (pc2 := 196) (L2 := [some (vr (some w)), some (vi x1), some (vi x2), some (vi x3), some (vi x4), some (vi x5), some (vi x6), none, none, none]) (st2 := [vi 11, vr (gr h w 1), vi x6]) rfl ?_
  obtain ⟨a_3, e_4, k⟩ := k
  rw [e_4]
  obtain ⟨t_5, k⟩ := k
  obtain ⟨t_6, k⟩ := k
  refine R_iald rfl (Or.inl t_5) t_6 ?_
  refine R_if rfl (fun c_7 => ?_) (fun c_7 => ?_)
  · have k := k.2 (i32_nlt c_7)
    refine R_ps 2 (pc2 := 72) (L2 := [some (vr (some w)), some (vi x1), some (vi x2), some (vi x3), some (vi x4), some (vi (x5 + 1)), some (vi x6), none, none, none]) (st2 := []) rfl ?_
    exact R_drop k (LE_of (L := [some (vr (some w)), some (vi x1), some (vi x2), some (vi x3), some (vi x4), some (vi (x5 + 1)), none, none, none, none]) (L2 := [some (vr (some w)), some (vi x1), some (vi x2), some (vi x3), some (vi x4), some (vi (x5 + 1)), some (vi x6), none, none, none]) ⟨rfl, rfl, rfl, rfl, rfl, rfl, trivial⟩)
  · have k := k.1 (i32_lt c_7)
    refine R_ps 3 (pc2 := 205) (L2 := [some (vr (some w)), some (vi x1), some (vi x2), some (vi x3), some (vi x4), some (vi x5), some (vi x6), none, none, none]) (st2 := [vi x6, vr (some w), vi x5]) rfl ?_
    refine R_cI (as := [vr (some w), vi x6]) rfl rfl ⟨Nat.le_of_ble_eq_true rfl, Nat.le_of_ble_eq_true rfl, rfl, (Or.inr ⟨_, rfl, t0⟩)⟩ rfl rfl k (fun x_10 h_9 k => ?_)
    refine R_ps 2 (pc2 := 211) (L2 := [some (vr (some w)), some (vi x1), some (vi x2), some (vi x3), some (vi x4), some (vi x5), some (vi x6), none, none, none]) (st2 := [vi x4, vi (x5 + x_10)]) rfl ?_
    refine R_if rfl (fun c_11 => ?_) (fun c_11 => ?_)
    · have k := k.2 (i32_nlt c_11)
      refine R_ps 2 (pc2 := 220) (L2 := [some (vr (some w)), some (vi x1), some (vi x2), some (vi x3), some (vi x4), some (vi x5), some (vi x6), some (vi 0), none, none]) (st2 := []) rfl ?_
      exact k
    · have k := k.1 (i32_lt c_11)
      refine R_ps 3 (pc2 := 188) (L2 := [some (vr (some w)), some (vi x1), some (vi x2), some (vi x3), some (vi x4), some (vi x5), some (vi (x6 + 1)), none, none, none]) (st2 := []) rfl ?_
      exact k
theorem m208_220 {T N : Nat → Nat} {h : PH} {w : Nat} {x1 : Int32} {x2 : Int32} {x3 : Int32} {x4 : Int32} {x5 : Int32} {x6 : Int32} {x7 : Int32} {K : PH → Prop} (t0 : T w = 12) (k : (((x7 < 6 → (CV T N 209 [vr (some w), vi x1, vi (((96 * (x5 - (gi h w 18))) + (6 * x6)) + x7), vi x2, vi x3] h (fun h_4 => (WV T N 208 220 [some (vr (some w)), some (vi x1), some (vi x2), some (vi x3), some (vi x4), some (vi x5), some (vi x6), some (vi (x7 + 1)), none, none] [] h_4 K)))) ∧ (¬ (x7 < 6) → (WV T N 208 188 [some (vr (some w)), some (vi x1), some (vi x2), some (vi x3), some (vi x4), some (vi x5), some (vi (x6 + 1)), none, none, none] [] h K))))) : WV T N 208 220 [some (vr (some w)), some (vi x1), some (vi x2), some (vi x3), some (vi x4), some (vi x5), some (vi x6), some (vi x7), none, none] [] h K := by
  show WP T N 208 220 [some (vr (some w)), some (vi x1), some (vi x2), some (vi x3), some (vi x4), some (vi x5), some (vi x6), some (vi x7), none, none] [] h _
  refine R_ps 2 (pc2 := 224) (L2 := [some (vr (some w)), some (vi x1), some (vi x2), some (vi x3), some (vi x4), some (vi x5), some (vi x6), some (vi x7), none, none]) (st2 := [vi 6, vi x7]) rfl ?_
  refine R_if rfl (fun c_1 => ?_) (fun c_1 => ?_)
  · have k := k.2 (i32_nlt c_1)
    refine R_ps 2 (pc2 := 188) (L2 := [some (vr (some w)), some (vi x1), some (vi x2), some (vi x3), some (vi x4), some (vi x5), some (vi (x6 + 1)), some (vi x7), none, none]) (st2 := []) rfl ?_
    exact R_drop k (LE_of (L := [some (vr (some w)), some (vi x1), some (vi x2), some (vi x3), some (vi x4), some (vi x5), some (vi (x6 + 1)), none, none, none]) (L2 := [some (vr (some w)), some (vi x1), some (vi x2), some (vi x3), some (vi x4), some (vi x5), some (vi (x6 + 1)), some (vi x7), none, none]) ⟨rfl, rfl, rfl, rfl, rfl, rfl, rfl, trivial⟩)
  · have k := k.1 (i32_lt c_1)
    refine R_ps 5 (pc2 := 234) (L2 := [some (vr (some w)), some (vi x1), some (vi x2), some (vi x3), some (vi x4), some (vi x5), some (vi x6), some (vi x7), none, none]) (st2 := [vr (some w), vi x5, vi 96, vi x1, vr (some w)]) rfl ?_
    refine R_getI rfl t0 ?_
    refine R_ps 10 (pc2 := 250) (L2 := [some (vr (some w)), some (vi x1), some (vi x2), some (vi x3), some (vi x4), some (vi x5), some (vi x6), some (vi x7), none, none]) (st2 := [vi x3, vi x2, vi (((96 * (x5 - (gi h w 18))) + (6 * x6)) + x7), vi x1, vr (some w)]) rfl ?_
    refine R_cV (as := [vr (some w), vi x1, vi (((96 * (x5 - (gi h w 18))) + (6 * x6)) + x7), vi x2, vi x3]) rfl rfl ⟨Nat.le_of_ble_eq_true rfl, Nat.le_of_ble_eq_true rfl, rfl, (Or.inr ⟨_, rfl, t0⟩)⟩ rfl rfl k (fun h_4 k => ?_)
    refine R_ps 2 (pc2 := 220) (L2 := [some (vr (some w)), some (vi x1), some (vi x2), some (vi x3), some (vi x4), some (vi x5), some (vi x6), some (vi (x7 + 1)), none, none]) (st2 := []) rfl ?_
    exact k
/-- DroneCorridorsModel.tries -/
theorem m209 {T N : Nat → Nat} {h : PH} {w : Nat} {x1 : Int32} {x2 : Int32} {x3 : Int32} {x4 : Int32} {K : PH → Prop} (t0 : T w = 12) (k : (CI T N 205 [vr (some w), vi x2] h (fun x_3 h_2 => (CI T N 187 [vi x_3] h_2 (fun x_6 h_5 => (CI T N 189 [vi x_3] h_5 (fun x_9 h_8 => (CI T N 188 [vi x_3] h_8 (fun x_12 h_11 => (CI T N 165 [vr (some w), vi x_6, vi x_12] h_11 (fun x_15 h_14 => (CI T N 188 [vi x_3] h_14 (fun x_18 h_17 => (CI T N 165 [vr (some w), vi x_6, vi (1 - x_18)] h_17 (fun x_21 h_20 => (∃ a_24, (gr h_20 w 12) = some a_24 ∧ T a_24 = 22 ∧ inb x_21 (N a_24) ∧ (((gi h_20 a_24 (Int32.toNatClampNeg x_21)) < 1000000 → (((x_15 = (gi h_20 w 20) → (CI T N 168 [vr (some w), vi x1, vi 0] h_20 (fun x_33 h_32 => (((x_33 = 0 → (CI T N 159 [vi (x_9 - (gi h_32 w 19))] h_32 (fun x_46 h_45 => (WV T N 209 113 [some (vr (some w)), some (vi x1), some (vi x2), some (vi x3), some (vi x4), some (vi x_3), some (vi x_6), some (vi x_9), some (vi x_15), some (vi x_21), some (vi (0 + x_46)), some (vi (-1)), none, none] [] h_45 K)))) ∧ (¬ (x_33 = 0) → (CI T N 190 [vi x_3] h_32 (fun x_37 h_36 => (CI T N 159 [vi (x_9 - (gi h_36 w 19))] h_36 (fun x_42 h_41 => (WV T N 209 113 [some (vr (some w)), some (vi x1), some (vi x2), some (vi x3), some (vi x4), some (vi x_3), some (vi x_6), some (vi x_9), some (vi x_15), some (vi x_21), some (vi ((x_37 - (gi h_36 w 18)) + x_42)), some (vi (-1)), none, none] [] h_41 K))))))))))) ∧ (¬ (x_15 = (gi h_20 w 20)) → (WV T N 209 113 [some (vr (some w)), some (vi x1), some (vi x2), some (vi x3), some (vi x4), some (vi x_3), some (vi x_6), some (vi x_9), some (vi x_15), some (vi x_21), some (vi (-1)), some (vi (-1)), none, none] [] h_20 K))))) ∧ (¬ ((gi h_20 a_24 (Int32.toNatClampNeg x_21)) < 1000000) → (K h_20))))))))))))))))))) : CV T N 209 [vr (some w), vi x1, vi x2, vi x3, vi x4] h K := by
  show WP T N 209 0 [some (vr (some w)), some (vi x1), some (vi x2), some (vi x3), some (vi x4), none, none, none, none, none, none, none, none, none] [] h _
  refine R_ps 2 (pc2 := 2) (L2 := [some (vr (some w)), some (vi x1), some (vi x2), some (vi x3), some (vi x4), none, none, none, none, none, none, none, none, none]) (st2 := [vi x2, vr (some w)]) rfl ?_
  refine R_cI (as := [vr (some w), vi x2]) rfl rfl ⟨Nat.le_of_ble_eq_true rfl, Nat.le_of_ble_eq_true rfl, rfl, (Or.inr ⟨_, rfl, t0⟩)⟩ rfl rfl k (fun x_3 h_2 k => ?_)
  refine R_ps 2 (pc2 := 9) (L2 := [some (vr (some w)), some (vi x1), some (vi x2), some (vi x3), some (vi x4), some (vi x_3), none, none, none, none, none, none, none, none]) (st2 := [vi x_3]) rfl ?_
  refine R_cI (as := [vi x_3]) rfl rfl ⟨Nat.le_of_ble_eq_true rfl, Nat.le_of_ble_eq_true rfl, rfl, (Or.inl rfl)⟩ rfl rfl k (fun x_6 h_5 k => ?_)
  refine R_ps 2 (pc2 := 16) (L2 := [some (vr (some w)), some (vi x1), some (vi x2), some (vi x3), some (vi x4), some (vi x_3), some (vi x_6), none, none, none, none, none, none, none]) (st2 := [vi x_3]) rfl ?_
  refine R_cI (as := [vi x_3]) rfl rfl ⟨Nat.le_of_ble_eq_true rfl, Nat.le_of_ble_eq_true rfl, rfl, (Or.inl rfl)⟩ rfl rfl k (fun x_9 h_8 k => ?_)
  refine R_ps 4 (pc2 := 26) (L2 := [some (vr (some w)), some (vi x1), some (vi x2), some (vi x3), some (vi x4), some (vi x_3), some (vi x_6), some (vi x_9), none, none, none, none, none, none]) (st2 := [vi x_3, vi x_6, vr (some w)]) rfl ?_
  refine R_cI (as := [vi x_3]) rfl rfl ⟨Nat.le_of_ble_eq_true rfl, Nat.le_of_ble_eq_true rfl, rfl, (Or.inl rfl)⟩ rfl rfl k (fun x_12 h_11 k => ?_)
  refine R_cI (as := [vr (some w), vi x_6, vi x_12]) rfl rfl ⟨Nat.le_of_ble_eq_true rfl, Nat.le_of_ble_eq_true rfl, rfl, (Or.inr ⟨_, rfl, t0⟩)⟩ rfl rfl k (fun x_15 h_14 k => ?_)
  refine R_ps 5 (pc2 := 40) (L2 := [some (vr (some w)), some (vi x1), some (vi x2), some (vi x3), some (vi x4), some (vi x_3), some (vi x_6), some (vi x_9), some (vi x_15), none, none, none, none, none]) (st2 := [vi x_3, vi 1, vi x_6, vr (some w)]) rfl ?_
  refine R_cI (as := [vi x_3]) rfl rfl ⟨Nat.le_of_ble_eq_true rfl, Nat.le_of_ble_eq_true rfl, rfl, (Or.inl rfl)⟩ rfl rfl k (fun x_18 h_17 k => ?_)
  refine R_ps 1 (pc2 := 44) (L2 := [some (vr (some w)), some (vi x1), some (vi x2), some (vi x3), some (vi x4), some (vi x_3), some (vi x_6), some (vi x_9), some (vi x_15), none, none, none, none, none]) (st2 := [vi (1 - x_18), vi x_6, vr (some w)]) rfl ?_
  refine R_cI (as := [vr (some w), vi x_6, vi (1 - x_18)]) rfl rfl ⟨Nat.le_of_ble_eq_true rfl, Nat.le_of_ble_eq_true rfl, rfl, (Or.inr ⟨_, rfl, t0⟩)⟩ rfl rfl k (fun x_21 h_20 k => ?_)
  refine R_ps 2 (pc2 := 50) (L2 := [some (vr (some w)), some (vi x1), some (vi x2), some (vi x3), some (vi x4), some (vi x_3), some (vi x_6), some (vi x_9), some (vi x_15), some (vi x_21), none, none, none, none]) (st2 := [vr (some w)]) rfl ?_
  refine R_getR rfl t0 ?_
  refine R_ps 1 (pc2 := 55) (L2 := [some (vr (some w)), some (vi x1), some (vi x2), some (vi x3), some (vi x4), some (vi x_3), some (vi x_6), some (vi x_9), some (vi x_15), some (vi x_21), none, none, none, none]) (st2 := [vi x_21, vr (gr h_20 w 12)]) rfl ?_
  obtain ⟨a_24, e_25, k⟩ := k
  rw [e_25]
  obtain ⟨t_26, k⟩ := k
  obtain ⟨t_27, k⟩ := k
  refine R_iald rfl (Or.inl t_26) t_27 ?_
  refine R_ps 1 (pc2 := 58) (L2 := [some (vr (some w)), some (vi x1), some (vi x2), some (vi x3), some (vi x4), some (vi x_3), some (vi x_6), some (vi x_9), some (vi x_15), some (vi x_21), none, none, none, none]) (st2 := [vi 1000000, vi (gi h_20 a_24 (Int32.toNatClampNeg x_21))]) rfl ?_
  refine R_if rfl (fun c_28 => ?_) (fun c_28 => ?_)
  · have k := k.1 c_28
    refine R_ps 6 (pc2 := 71) (L2 := [some (vr (some w)), some (vi x1), some (vi x2), some (vi x3), some (vi x4), some (vi x_3), some (vi x_6), some (vi x_9), some (vi x_15), some (vi x_21), some (vi (-1)), some (vi (-1)), none, none]) (st2 := [vr (some w), vi x_15]) rfl ?_
    refine R_getI rfl t0 ?_
    refine R_if rfl (fun c_30 => ?_) (fun c_30 => ?_)
    · have k := k.2 c_30
      exact k
    · have k := k.1 (Classical.not_not.mp c_30)
      refine R_ps 3 (pc2 := 80) (L2 := [some (vr (some w)), some (vi x1), some (vi x2), some (vi x3), some (vi x4), some (vi x_3), some (vi x_6), some (vi x_9), some (vi x_15), some (vi x_21), some (vi (-1)), some (vi (-1)), none, none]) (st2 := [vi 0, vi x1, vr (some w)]) rfl ?_
      refine R_cI (as := [vr (some w), vi x1, vi 0]) rfl rfl ⟨Nat.le_of_ble_eq_true rfl, Nat.le_of_ble_eq_true rfl, rfl, (Or.inr ⟨_, rfl, t0⟩)⟩ rfl rfl k (fun x_33 h_32 k => ?_)
      refine R_if0 rfl (fun c_34 => ?_) (fun c_34 => ?_)
      · have k := k.2 c_34
        refine R_ps 1 (pc2 := 92) (L2 := [some (vr (some w)), some (vi x1), some (vi x2), some (vi x3), some (vi x4), some (vi x_3), some (vi x_6), some (vi x_9), some (vi x_15), some (vi x_21), some (vi (-1)), some (vi (-1)), none, none]) (st2 := [vi x_3]) rfl ?_
        refine R_cI (as := [vi x_3]) rfl rfl ⟨Nat.le_of_ble_eq_true rfl, Nat.le_of_ble_eq_true rfl, rfl, (Or.inl rfl)⟩ rfl rfl k (fun x_37 h_36 k => ?_)
        refine R_ps 1 (pc2 := 96) (L2 := [some (vr (some w)), some (vi x1), some (vi x2), some (vi x3), some (vi x4), some (vi x_3), some (vi x_6), some (vi x_9), some (vi x_15), some (vi x_21), some (vi (-1)), some (vi (-1)), none, none]) (st2 := [vr (some w), vi x_37]) rfl ?_
        refine R_getI rfl t0 ?_
        refine R_ps 3 (pc2 := 103) (L2 := [some (vr (some w)), some (vi x1), some (vi x2), some (vi x3), some (vi x4), some (vi x_3), some (vi x_6), some (vi x_9), some (vi x_15), some (vi x_21), some (vi (-1)), some (vi (-1)), none, none]) (st2 := [vr (some w), vi x_9, vi (x_37 - (gi h_36 w 18))]) rfl ?_
        refine R_getI rfl t0 ?_
        refine R_ps 1 (pc2 := 107) (L2 := [some (vr (some w)), some (vi x1), some (vi x2), some (vi x3), some (vi x4), some (vi x_3), some (vi x_6), some (vi x_9), some (vi x_15), some (vi x_21), some (vi (-1)), some (vi (-1)), none, none]) (st2 := [vi (x_9 - (gi h_36 w 19)), vi (x_37 - (gi h_36 w 18))]) rfl ?_
        refine R_cI (as := [vi (x_9 - (gi h_36 w 19))]) rfl rfl ⟨Nat.le_of_ble_eq_true rfl, Nat.le_of_ble_eq_true rfl, rfl, (Or.inl rfl)⟩ rfl rfl k (fun x_42 h_41 k => ?_)
        refine R_ps 2 (pc2 := 113) (L2 := [some (vr (some w)), some (vi x1), some (vi x2), some (vi x3), some (vi x4), some (vi x_3), some (vi x_6), some (vi x_9), some (vi x_15), some (vi x_21), some (vi ((x_37 - (gi h_36 w 18)) + x_42)), some (vi (-1)), none, none]) (st2 := []) rfl ?_
        exact k
      · have k := k.1 (Classical.not_not.mp c_34)
        refine R_ps 4 (pc2 := 103) (L2 := [some (vr (some w)), some (vi x1), some (vi x2), some (vi x3), some (vi x4), some (vi x_3), some (vi x_6), some (vi x_9), some (vi x_15), some (vi x_21), some (vi (-1)), some (vi (-1)), none, none]) (st2 := [vr (some w), vi x_9, vi 0]) rfl ?_
        refine R_getI rfl t0 ?_
        refine R_ps 1 (pc2 := 107) (L2 := [some (vr (some w)), some (vi x1), some (vi x2), some (vi x3), some (vi x4), some (vi x_3), some (vi x_6), some (vi x_9), some (vi x_15), some (vi x_21), some (vi (-1)), some (vi (-1)), none, none]) (st2 := [vi (x_9 - (gi h_32 w 19)), vi 0]) rfl ?_
        refine R_cI (as := [vi (x_9 - (gi h_32 w 19))]) rfl rfl ⟨Nat.le_of_ble_eq_true rfl, Nat.le_of_ble_eq_true rfl, rfl, (Or.inl rfl)⟩ rfl rfl k (fun x_46 h_45 k => ?_)
        refine R_ps 2 (pc2 := 113) (L2 := [some (vr (some w)), some (vi x1), some (vi x2), some (vi x3), some (vi x4), some (vi x_3), some (vi x_6), some (vi x_9), some (vi x_15), some (vi x_21), some (vi (0 + x_46)), some (vi (-1)), none, none]) (st2 := []) rfl ?_
        exact k
  · have k := k.2 c_28
    exact R_ret rfl rfl ⟨rfl, k⟩
theorem m209_113 {T N : Nat → Nat} {h : PH} {w : Nat} {x1 : Int32} {x2 : Int32} {x3 : Int32} {x4 : Int32} {x5 : Int32} {x6 : Int32} {x7 : Int32} {x8 : Int32} {x9 : Int32} {x10 : Int32} {x11 : Int32} {K : PH → Prop} (k : (WV T N 209 116 [some (vr (some w)), some (vi x1), some (vi x2), some (vi x3), some (vi x4), some (vi x5), some (vi x6), some (vi x7), some (vi x8), some (vi x9), some (vi x10), some (vi x11), some (vi 0), none] [] h K)) : WV T N 209 113 [some (vr (some w)), some (vi x1), some (vi x2), some (vi x3), some (vi x4), some (vi x5), some (vi x6), some (vi x7), some (vi x8), some (vi x9), some (vi x10), some (vi x11), none, none] [] h K := by
  show WP T N 209 113 [some (vr (some w)), some (vi x1), some (vi x2), some (vi x3), some (vi x4), some (vi x5), some (vi x6), some (vi x7), some (vi x8), some (vi x9), some (vi x10), some (vi x11), none, none] [] h _
  refine R_ps 2 (pc2 := 116) (L2 := [some (vr (some w)), some (vi x1), some (vi x2), some (vi x3), some (vi x4), some (vi x5), some (vi x6), some (vi x7), some (vi x8), some (vi x9), some (vi x10), some (vi x11), some (vi 0), none]) (st2 := []) rfl ?_
  exact k
theorem m209_116 {T N : Nat → Nat} {h : PH} {w : Nat} {x1 : Int32} {x2 : Int32} {x3 : Int32} {x4 : Int32} {x5 : Int32} {x6 : Int32} {x7 : Int32} {x8 : Int32} {x9 : Int32} {x10 : Int32} {x11 : Int32} {x12 : Int32} {K : PH → Prop} (t0 : T w = 12) (k : (((x12 < 3 → (∃ a_27, (gr h w 17) = some a_27 ∧ T a_27 = 22 ∧ inb ((3 * x8) + x12) (N a_27) ∧ (((gi h a_27 (Int32.toNatClampNeg ((3 * x8) + x12))) < 0 → (WV T N 209 202 [some (vr (some w)), some (vi x1), some (vi x2), some (vi x3), some (vi x4), some (vi x5), some (vi x6), some (vi x7), some (vi x8), some (vi x9), some (vi x10), some (vi x11), some (vi x12), none] [] h K)) ∧ (¬ ((gi h a_27 (Int32.toNatClampNeg ((3 * x8) + x12))) < 0) → (∃ a_34, (gr h w 16) = some a_34 ∧ T a_34 = 22 ∧ inb ((3 * x8) + x12) (N a_34) ∧ CI T N 190 [vi x5] h (fun x_40 h_39 => (CI T N 159 [vi (x7 - x12)] h_39 (fun x_43 h_42 => (((x10 < 0 → (WV T N 209 184 [some (vr (some w)), some (vi x1), some (vi x2), some (vi x3), some (vi x4), some (vi x5), some (vi x6), some (vi x7), some (vi x8), some (vi x9), none, none, some (vi x12), some (vi (((gi h a_34 (Int32.toNatClampNeg ((3 * x8) + x12))) + x_40) + x_43))] [] h_42 K)) ∧ (¬ (x10 < 0) → ((((((gi h a_34 (Int32.toNatClampNeg ((3 * x8) + x12))) + x_40) + x_43) < x10 → (WV T N 209 184 [some (vr (some w)), some (vi x1), some (vi x2), some (vi x3), some (vi x4), some (vi x5), some (vi x6), some (vi x7), some (vi x8), some (vi x9), none, none, some (vi x12), some (vi (((gi h a_34 (Int32.toNatClampNeg ((3 * x8) + x12))) + x_40) + x_43))] [] h_42 K)) ∧ (¬ ((((gi h a_34 (Int32.toNatClampNeg ((3 * x8) + x12))) + x_40) + x_43) < x10) → (WV T N 209 202 [some (vr (some w)), some (vi x1), some (vi x2), some (vi x3), some (vi x4), some (vi x5), some (vi x6), some (vi x7), some (vi x8), some (vi x9), some (vi x10), some (vi x11), some (vi x12), none] [] h_42 K))))))))))))))) ∧ (¬ (x12 < 3) → (((x10 < 0 → (WV T N 209 244 [none, none, none, none, none, none, none, none, none, none, none, none, none, none] [] h K)) ∧ (¬ (x10 < 0) → (CI T N 168 [vr (some w), vi x1, vi 1] h (fun x_5 h_4 => (CI T N 188 [vi x5] h_4 (fun x_8 h_7 => (CI T N 167 [vr (some w), vi x6, vi x_8] h_7 (fun x_11 h_10 => (∃ a_14, (gr h_10 w 12) = some a_14 ∧ T a_14 = 22 ∧ inb x9 (N a_14) ∧ ((((x_5 - x10) - x_11) < (gi h_10 a_14 (Int32.toNatClampNeg x9)) → (WV T N 209 244 [none, none, none, none, none, none, none, none, none, none, none, none, none, none] [] h_10 K)) ∧ (¬ (((x_5 - x10) - x_11) < (gi h_10 a_14 (Int32.toNatClampNeg x9))) → (((x3 = 0 → (WV T N 209 258 [some (vr (some w)), some (vi x1), some (vi x2), none, some (vi x4), some (vi x5), some (vi x6), none, none, none, some (vi x10), some (vi x11), none, none] [] h_10 K)) ∧ (¬ (x3 = 0) → (CI T N 199 [vr (some w), vi x5] h_10 (fun x_22 h_21 => (((x_22 = 0 → (WV T N 209 258 [some (vr (some w)), some (vi x1), some (vi x2), none, some (vi x4), some (vi x5), some (vi x6), none, none, none, some (vi x10), some (vi x11), none, none] [] h_21 K)) ∧ (¬ (x_22 = 0) → (K h_21))))))))))))))))))))))))) : WV T N 209 116 [some (vr (some w)), some (vi x1), some (vi x2), some (vi x3), some (vi x4), some (vi x5), some (vi x6), some (vi x7), some (vi x8), some (vi x9), some (vi x10), some (vi x11), some (vi x12), none] [] h K := by
  show WP T N 209 116 [some (vr (some w)), some (vi x1), some (vi x2), some (vi x3), some (vi x4), some (vi x5), some (vi x6), some (vi x7), some (vi x8), some (vi x9), some (vi x10), some (vi x11), some (vi x12), none] [] h _
  refine R_ps 2 (pc2 := 119) (L2 := [some (vr (some w)), some (vi x1), some (vi x2), some (vi x3), some (vi x4), some (vi x5), some (vi x6), some (vi x7), some (vi x8), some (vi x9), some (vi x10), some (vi x11), some (vi x12), none]) (st2 := [vi 3, vi x12]) rfl ?_
  refine R_if rfl (fun c_1 => ?_) (fun c_1 => ?_)
  · have k := k.2 (i32_nlt c_1)
    refine R_ps 1 (pc2 := 210) (L2 := [some (vr (some w)), some (vi x1), some (vi x2), some (vi x3), some (vi x4), some (vi x5), some (vi x6), some (vi x7), some (vi x8), some (vi x9), some (vi x10), some (vi x11), some (vi x12), none]) (st2 := [vi x10]) rfl ?_
    refine R_if0 rfl (fun c_2 => ?_) (fun c_2 => ?_)
    · have k := k.1 c_2
      exact R_drop k (LE_of (L := [none, none, none, none, none, none, none, none, none, none, none, none, none, none]) (L2 := [some (vr (some w)), some (vi x1), some (vi x2), some (vi x3), some (vi x4), some (vi x5), some (vi x6), some (vi x7), some (vi x8), some (vi x9), some (vi x10), some (vi x11), some (vi x12), none]) trivial)
    · have k := k.2 c_2
      refine R_ps 3 (pc2 := 216) (L2 := [some (vr (some w)), some (vi x1), some (vi x2), some (vi x3), some (vi x4), some (vi x5), some (vi x6), some (vi x7), some (vi x8), some (vi x9), some (vi x10), some (vi x11), some (vi x12), none]) (st2 := [vi 1, vi x1, vr (some w)]) rfl ?_
      refine R_cI (as := [vr (some w), vi x1, vi 1]) rfl rfl ⟨Nat.le_of_ble_eq_true rfl, Nat.le_of_ble_eq_true rfl, rfl, (Or.inr ⟨_, rfl, t0⟩)⟩ rfl rfl k (fun x_5 h_4 k => ?_)
      refine R_ps 5 (pc2 := 227) (L2 := [some (vr (some w)), some (vi x1), some (vi x2), some (vi x3), some (vi x4), some (vi x5), some (vi x6), some (vi x7), some (vi x8), some (vi x9), some (vi x10), some (vi x11), some (vi x12), none]) (st2 := [vi x5, vi x6, vr (some w), vi (x_5 - x10)]) rfl ?_
      refine R_cI (as := [vi x5]) rfl rfl ⟨Nat.le_of_ble_eq_true rfl, Nat.le_of_ble_eq_true rfl, rfl, (Or.inl rfl)⟩ rfl rfl k (fun x_8 h_7 k => ?_)
      refine R_cI (as := [vr (some w), vi x6, vi x_8]) rfl rfl ⟨Nat.le_of_ble_eq_true rfl, Nat.le_of_ble_eq_true rfl, rfl, (Or.inr ⟨_, rfl, t0⟩)⟩ rfl rfl k (fun x_11 h_10 k => ?_)
      refine R_ps 2 (pc2 := 235) (L2 := [some (vr (some w)), some (vi x1), some (vi x2), some (vi x3), some (vi x4), some (vi x5), some (vi x6), some (vi x7), some (vi x8), some (vi x9), some (vi x10), some (vi x11), some (vi x12), none]) (st2 := [vr (some w), vi ((x_5 - x10) - x_11)]) rfl ?_
      refine R_getR rfl t0 ?_
      refine R_ps 1 (pc2 := 240) (L2 := [some (vr (some w)), some (vi x1), some (vi x2), some (vi x3), some (vi x4), some (vi x5), some (vi x6), some (vi x7), some (vi x8), some (vi x9), some (vi x10), some (vi x11), some (vi x12), none]) (st2 := [vi x9, vr (gr h_10 w 12), vi ((x_5 - x10) - x_11)]) rfl ?_
      obtain ⟨a_14, e_15, k⟩ := k
      rw [e_15]
      obtain ⟨t_16, k⟩ := k
      obtain ⟨t_17, k⟩ := k
      refine R_iald rfl (Or.inl t_16) t_17 ?_
      refine R_if rfl (fun c_18 => ?_) (fun c_18 => ?_)
      · have k := k.2 (i32_nlt c_18)
        refine R_ps 1 (pc2 := 246) (L2 := [some (vr (some w)), some (vi x1), some (vi x2), some (vi x3), some (vi x4), some (vi x5), some (vi x6), some (vi x7), some (vi x8), some (vi x9), some (vi x10), some (vi x11), some (vi x12), none]) (st2 := [vi x3]) rfl ?_
        refine R_if0 rfl (fun c_19 => ?_) (fun c_19 => ?_)
        · have k := k.1 c_19
          exact R_drop k (LE_of (L := [some (vr (some w)), some (vi x1), some (vi x2), none, some (vi x4), some (vi x5), some (vi x6), none, none, none, some (vi x10), some (vi x11), none, none]) (L2 := [some (vr (some w)), some (vi x1), some (vi x2), some (vi x3), some (vi x4), some (vi x5), some (vi x6), some (vi x7), some (vi x8), some (vi x9), some (vi x10), some (vi x11), some (vi x12), none]) ⟨rfl, rfl, rfl, rfl, rfl, rfl, rfl, rfl, trivial⟩)
        · have k := k.2 c_19
          refine R_ps 2 (pc2 := 252) (L2 := [some (vr (some w)), some (vi x1), some (vi x2), some (vi x3), some (vi x4), some (vi x5), some (vi x6), some (vi x7), some (vi x8), some (vi x9), some (vi x10), some (vi x11), some (vi x12), none]) (st2 := [vi x5, vr (some w)]) rfl ?_
          refine R_cI (as := [vr (some w), vi x5]) rfl rfl ⟨Nat.le_of_ble_eq_true rfl, Nat.le_of_ble_eq_true rfl, rfl, (Or.inr ⟨_, rfl, t0⟩)⟩ rfl rfl k (fun x_22 h_21 k => ?_)
          refine R_if0 rfl (fun c_23 => ?_) (fun c_23 => ?_)
          · have k := k.2 c_23
            exact R_ret rfl rfl ⟨rfl, k⟩
          · have k := k.1 (Classical.not_not.mp c_23)
            exact R_drop k (LE_of (L := [some (vr (some w)), some (vi x1), some (vi x2), none, some (vi x4), some (vi x5), some (vi x6), none, none, none, some (vi x10), some (vi x11), none, none]) (L2 := [some (vr (some w)), some (vi x1), some (vi x2), some (vi x3), some (vi x4), some (vi x5), some (vi x6), some (vi x7), some (vi x8), some (vi x9), some (vi x10), some (vi x11), some (vi x12), none]) ⟨rfl, rfl, rfl, rfl, rfl, rfl, rfl, rfl, trivial⟩)
      · have k := k.1 (i32_lt c_18)
        exact R_drop k (LE_of (L := [none, none, none, none, none, none, none, none, none, none, none, none, none, none]) (L2 := [some (vr (some w)), some (vi x1), some (vi x2), some (vi x3), some (vi x4), some (vi x5), some (vi x6), some (vi x7), some (vi x8), some (vi x9), some (vi x10), some (vi x11), some (vi x12), none]) trivial)
  · have k := k.1 (i32_lt c_1)
    refine R_ps 1 (pc2 := 123) (L2 := [some (vr (some w)), some (vi x1), some (vi x2), some (vi x3), some (vi x4), some (vi x5), some (vi x6), some (vi x7), some (vi x8), some (vi x9), some (vi x10), some (vi x11), some (vi x12), none]) (st2 := [vr (some w)]) rfl ?_
    refine R_getR rfl t0 ?_
    refine R_ps 5 (pc2 := 133) (L2 := [some (vr (some w)), some (vi x1), some (vi x2), some (vi x3), some (vi x4), some (vi x5), some (vi x6), some (vi x7), some (vi x8), some (vi x9), some (vi x10), some (vi x11), some (vi x12), none]) (st2 := [vi ((3 * x8) + x12), vr (gr h w 17)]) rfl ?_
    obtain ⟨a_27, e_28, k⟩ := k
    rw [e_28]
    obtain ⟨t_29, k⟩ := k
    obtain ⟨t_30, k⟩ := k
    refine R_iald rfl (Or.inl t_29) t_30 ?_
    refine R_if0 rfl (fun c_31 => ?_) (fun c_31 => ?_)
    · have k := k.2 (i32_nlt c_31)
      refine R_ps 1 (pc2 := 141) (L2 := [some (vr (some w)), some (vi x1), some (vi x2), some (vi x3), some (vi x4), some (vi x5), some (vi x6), some (vi x7), some (vi x8), some (vi x9), some (vi x10), some (vi x11), some (vi x12), none]) (st2 := [vr (some w)]) rfl ?_
      refine R_getR rfl t0 ?_
      refine R_ps 5 (pc2 := 151) (L2 := [some (vr (some w)), some (vi x1), some (vi x2), some (vi x3), some (vi x4), some (vi x5), some (vi x6), some (vi x7), some (vi x8), some (vi x9), some (vi x10), some (vi x11), some (vi x12), none]) (st2 := [vi ((3 * x8) + x12), vr (gr h w 16)]) rfl ?_
      obtain ⟨a_34, e_35, k⟩ := k
      rw [e_35]
      obtain ⟨t_36, k⟩ := k
      obtain ⟨t_37, k⟩ := k
      refine R_iald rfl (Or.inl t_36) t_37 ?_
      refine R_ps 1 (pc2 := 154) (L2 := [some (vr (some w)), some (vi x1), some (vi x2), some (vi x3), some (vi x4), some (vi x5), some (vi x6), some (vi x7), some (vi x8), some (vi x9), some (vi x10), some (vi x11), some (vi x12), none]) (st2 := [vi x5, vi (gi h a_34 (Int32.toNatClampNeg ((3 * x8) + x12)))]) rfl ?_
      refine R_cI (as := [vi x5]) rfl rfl ⟨Nat.le_of_ble_eq_true rfl, Nat.le_of_ble_eq_true rfl, rfl, (Or.inl rfl)⟩ rfl rfl k (fun x_40 h_39 k => ?_)
      refine R_ps 4 (pc2 := 163) (L2 := [some (vr (some w)), some (vi x1), some (vi x2), some (vi x3), some (vi x4), some (vi x5), some (vi x6), some (vi x7), some (vi x8), some (vi x9), some (vi x10), some (vi x11), some (vi x12), none]) (st2 := [vi (x7 - x12), vi ((gi h a_34 (Int32.toNatClampNeg ((3 * x8) + x12))) + x_40)]) rfl ?_
      refine R_cI (as := [vi (x7 - x12)]) rfl rfl ⟨Nat.le_of_ble_eq_true rfl, Nat.le_of_ble_eq_true rfl, rfl, (Or.inl rfl)⟩ rfl rfl k (fun x_43 h_42 k => ?_)
      refine R_ps 3 (pc2 := 171) (L2 := [some (vr (some w)), some (vi x1), some (vi x2), some (vi x3), some (vi x4), some (vi x5), some (vi x6), some (vi x7), some (vi x8), some (vi x9), some (vi x10), some (vi x11), some (vi x12), some (vi (((gi h a_34 (Int32.toNatClampNeg ((3 * x8) + x12))) + x_40) + x_43))]) (st2 := [vi x10]) rfl ?_
      refine R_if0 rfl (fun c_44 => ?_) (fun c_44 => ?_)
      · have k := k.1 c_44
        exact R_drop k (LE_of (L := [some (vr (some w)), some (vi x1), some (vi x2), some (vi x3), some (vi x4), some (vi x5), some (vi x6), some (vi x7), some (vi x8), some (vi x9), none, none, some (vi x12), some (vi (((gi h a_34 (Int32.toNatClampNeg ((3 * x8) + x12))) + x_40) + x_43))]) (L2 := [some (vr (some w)), some (vi x1), some (vi x2), some (vi x3), some (vi x4), some (vi x5), some (vi x6), some (vi x7), some (vi x8), some (vi x9), some (vi x10), some (vi x11), some (vi x12), some (vi (((gi h a_34 (Int32.toNatClampNeg ((3 * x8) + x12))) + x_40) + x_43))]) ⟨rfl, rfl, rfl, rfl, rfl, rfl, rfl, rfl, rfl, rfl, rfl, rfl, trivial⟩)
      · have k := k.2 c_44
        refine R_ps 2 (pc2 := 178) (L2 := [some (vr (some w)), some (vi x1), some (vi x2), some (vi x3), some (vi x4), some (vi x5), some (vi x6), some (vi x7), some (vi x8), some (vi x9), some (vi x10), some (vi x11), some (vi x12), some (vi (((gi h a_34 (Int32.toNatClampNeg ((3 * x8) + x12))) + x_40) + x_43))]) (st2 := [vi x10, vi (((gi h a_34 (Int32.toNatClampNeg ((3 * x8) + x12))) + x_40) + x_43)]) rfl ?_
        refine R_if rfl (fun c_45 => ?_) (fun c_45 => ?_)
        · have k := k.1 c_45
          exact R_drop k (LE_of (L := [some (vr (some w)), some (vi x1), some (vi x2), some (vi x3), some (vi x4), some (vi x5), some (vi x6), some (vi x7), some (vi x8), some (vi x9), none, none, some (vi x12), some (vi (((gi h a_34 (Int32.toNatClampNeg ((3 * x8) + x12))) + x_40) + x_43))]) (L2 := [some (vr (some w)), some (vi x1), some (vi x2), some (vi x3), some (vi x4), some (vi x5), some (vi x6), some (vi x7), some (vi x8), some (vi x9), some (vi x10), some (vi x11), some (vi x12), some (vi (((gi h a_34 (Int32.toNatClampNeg ((3 * x8) + x12))) + x_40) + x_43))]) ⟨rfl, rfl, rfl, rfl, rfl, rfl, rfl, rfl, rfl, rfl, rfl, rfl, trivial⟩)
        · have k := k.2 c_45
          refine R_ps 1 (pc2 := 202) (L2 := [some (vr (some w)), some (vi x1), some (vi x2), some (vi x3), some (vi x4), some (vi x5), some (vi x6), some (vi x7), some (vi x8), some (vi x9), some (vi x10), some (vi x11), some (vi x12), some (vi (((gi h a_34 (Int32.toNatClampNeg ((3 * x8) + x12))) + x_40) + x_43))]) (st2 := []) rfl ?_
          exact R_drop k (LE_of (L := [some (vr (some w)), some (vi x1), some (vi x2), some (vi x3), some (vi x4), some (vi x5), some (vi x6), some (vi x7), some (vi x8), some (vi x9), some (vi x10), some (vi x11), some (vi x12), none]) (L2 := [some (vr (some w)), some (vi x1), some (vi x2), some (vi x3), some (vi x4), some (vi x5), some (vi x6), some (vi x7), some (vi x8), some (vi x9), some (vi x10), some (vi x11), some (vi x12), some (vi (((gi h a_34 (Int32.toNatClampNeg ((3 * x8) + x12))) + x_40) + x_43))]) ⟨rfl, rfl, rfl, rfl, rfl, rfl, rfl, rfl, rfl, rfl, rfl, rfl, rfl, trivial⟩)
    · have k := k.1 (i32_lt c_31)
      refine R_ps 1 (pc2 := 202) (L2 := [some (vr (some w)), some (vi x1), some (vi x2), some (vi x3), some (vi x4), some (vi x5), some (vi x6), some (vi x7), some (vi x8), some (vi x9), some (vi x10), some (vi x11), some (vi x12), none]) (st2 := []) rfl ?_
      exact k
theorem m209_184 {T N : Nat → Nat} {h : PH} {w : Nat} {x1 : Int32} {x2 : Int32} {x3 : Int32} {x4 : Int32} {x5 : Int32} {x6 : Int32} {x7 : Int32} {x8 : Int32} {x9 : Int32} {x12 : Int32} {x13 : Int32} {K : PH → Prop} (t0 : T w = 12) (k : (∃ a_3, (gr h w 17) = some a_3 ∧ T a_3 = 22 ∧ inb ((3 * x8) + x12) (N a_3) ∧ WV T N 209 202 [some (vr (some w)), some (vi x1), some (vi x2), some (vi x3), some (vi x4), some (vi x5), some (vi x6), some (vi x7), some (vi x8), some (vi x9), some (vi x13), some (vi (gi h a_3 (Int32.toNatClampNeg ((3 * x8) + x12)))), some (vi x12), none] [] h K)) : WV T N 209 184 [some (vr (some w)), some (vi x1), some (vi x2), some (vi x3), some (vi x4), some (vi x5), some (vi x6), some (vi x7), some (vi x8), some (vi x9), none, none, some (vi x12), some (vi x13)] [] h K := by
  show WP T N 209 184 [some (vr (some w)), some (vi x1), some (vi x2), some (vi x3), some (vi x4), some (vi x5), some (vi x6), some (vi x7), some (vi x8), some (vi x9), none, none, some (vi x12), some (vi x13)] [] h _
  refine R_ps 3 (pc2 := 189) (L2 := [some (vr (some w)), some (vi x1), some (vi x2), some (vi x3), some (vi x4), some (vi x5), some (vi x6), some (vi x7), some (vi x8), some (vi x9), some (vi x13), none, some (vi x12), some (vi x13)]) (st2 := [vr (some w)]) rfl ?_
  refine R_getR rfl t0 ?_
  refine R_ps 5 (pc2 := 199) (L2 := [some (vr (some w)), some (vi x1), some (vi x2), some (vi x3), some (vi x4), some (vi x5), some (vi x6), some (vi x7), some (vi x8), some (vi x9), some (vi x13), none, some (vi x12), some (vi x13)]) (st2 := [vi ((3 * x8) + x12), vr (gr h w 17)]) rfl ?_
  obtain ⟨a_3, e_4, k⟩ := k
  rw [e_4]
  obtain ⟨t_5, k⟩ := k
  obtain ⟨t_6, k⟩ := k
  refine R_iald rfl (Or.inl t_5) t_6 ?_
  refine R_ps 1 (pc2 := 202) (L2 := [some (vr (some w)), some (vi x1), some (vi x2), some (vi x3), some (vi x4), some (vi x5), some (vi x6), some (vi x7), some (vi x8), some (vi x9), some (vi x13), some (vi (gi h a_3 (Int32.toNatClampNeg ((3 * x8) + x12)))), some (vi x12), some (vi x13)]) (st2 := []) rfl ?_
  exact R_drop k (LE_of (L := [some (vr (some w)), some (vi x1), some (vi x2), some (vi x3), some (vi x4), some (vi x5), some (vi x6), some (vi x7), some (vi x8), some (vi x9), some (vi x13), some (vi (gi h a_3 (Int32.toNatClampNeg ((3 * x8) + x12)))), some (vi x12), none]) (L2 := [some (vr (some w)), some (vi x1), some (vi x2), some (vi x3), some (vi x4), some (vi x5), some (vi x6), some (vi x7), some (vi x8), some (vi x9), some (vi x13), some (vi (gi h a_3 (Int32.toNatClampNeg ((3 * x8) + x12)))), some (vi x12), some (vi x13)]) ⟨rfl, rfl, rfl, rfl, rfl, rfl, rfl, rfl, rfl, rfl, rfl, rfl, rfl, trivial⟩)
theorem m209_202 {T N : Nat → Nat} {h : PH} {w : Nat} {x1 : Int32} {x2 : Int32} {x3 : Int32} {x4 : Int32} {x5 : Int32} {x6 : Int32} {x7 : Int32} {x8 : Int32} {x9 : Int32} {x10 : Int32} {x11 : Int32} {x12 : Int32} {K : PH → Prop} (k : (WV T N 209 116 [some (vr (some w)), some (vi x1), some (vi x2), some (vi x3), some (vi x4), some (vi x5), some (vi x6), some (vi x7), some (vi x8), some (vi x9), some (vi x10), some (vi x11), some (vi (x12 + 1)), none] [] h K)) : WV T N 209 202 [some (vr (some w)), some (vi x1), some (vi x2), some (vi x3), some (vi x4), some (vi x5), some (vi x6), some (vi x7), some (vi x8), some (vi x9), some (vi x10), some (vi x11), some (vi x12), none] [] h K := by
  show WP T N 209 202 [some (vr (some w)), some (vi x1), some (vi x2), some (vi x3), some (vi x4), some (vi x5), some (vi x6), some (vi x7), some (vi x8), some (vi x9), some (vi x10), some (vi x11), some (vi x12), none] [] h _
  refine R_ps 2 (pc2 := 116) (L2 := [some (vr (some w)), some (vi x1), some (vi x2), some (vi x3), some (vi x4), some (vi x5), some (vi x6), some (vi x7), some (vi x8), some (vi x9), some (vi x10), some (vi x11), some (vi (x12 + 1)), none]) (st2 := []) rfl ?_
  exact k
theorem m209_244 {T N : Nat → Nat} {h : PH} {K : PH → Prop} (k : (K h)) : WV T N 209 244 [none, none, none, none, none, none, none, none, none, none, none, none, none, none] [] h K := by
  show WP T N 209 244 [none, none, none, none, none, none, none, none, none, none, none, none, none, none] [] h _
  exact R_ret rfl rfl ⟨rfl, k⟩
theorem m209_258 {T N : Nat → Nat} {h : PH} {w : Nat} {x1 : Int32} {x2 : Int32} {x4 : Int32} {x5 : Int32} {x6 : Int32} {x10 : Int32} {x11 : Int32} {K : PH → Prop} (t0 : T w = 12) (k : (((x4 = 0 → (CI T N 188 [vi x5] h (fun x_5 h_4 => (CI T N 167 [vr (some w), vi x6, vi x_5] h_4 (fun x_8 h_7 => (∃ a_10, (gr h w 14) = some a_10 ∧ T a_10 = 22 ∧ inb x2 (N a_10) ∧ ∀ h_12, h_12 = si h_7 a_10 (Int32.toNatClampNeg x2) (x10 + x_8) → ∃ a_18, (gr h_12 w 15) = some a_18 ∧ T a_18 = 22 ∧ inb x2 (N a_18) ∧ ∀ h_20, h_20 = si h_12 a_18 (Int32.toNatClampNeg x2) x11 → K h_20)))))) ∧ (¬ (x4 = 0) → (CI T N 204 [vr (some w), vi x1, vi x5] h (fun x_27 h_26 => (((x_27 = 0 → (K h_26)) ∧ (¬ (x_27 = 0) → (CI T N 188 [vi x5] h_26 (fun x_32 h_31 => (CI T N 167 [vr (some w), vi x6, vi x_32] h_31 (fun x_35 h_34 => (∃ a_37, (gr h_26 w 14) = some a_37 ∧ T a_37 = 22 ∧ inb x2 (N a_37) ∧ ∀ h_39, h_39 = si h_34 a_37 (Int32.toNatClampNeg x2) (x10 + x_35) → ∃ a_45, (gr h_39 w 15) = some a_45 ∧ T a_45 = 22 ∧ inb x2 (N a_45) ∧ ∀ h_47, h_47 = si h_39 a_45 (Int32.toNatClampNeg x2) x11 → K h_47)))))))))))))) : WV T N 209 258 [some (vr (some w)), some (vi x1), some (vi x2), none, some (vi x4), some (vi x5), some (vi x6), none, none, none, some (vi x10), some (vi x11), none, none] [] h K := by
  show WP T N 209 258 [some (vr (some w)), some (vi x1), some (vi x2), none, some (vi x4), some (vi x5), some (vi x6), none, none, none, some (vi x10), some (vi x11), none, none] [] h _
  refine R_ps 1 (pc2 := 260) (L2 := [some (vr (some w)), some (vi x1), some (vi x2), none, some (vi x4), some (vi x5), some (vi x6), none, none, none, some (vi x10), some (vi x11), none, none]) (st2 := [vi x4]) rfl ?_
  refine R_if0 rfl (fun c_1 => ?_) (fun c_1 => ?_)
  · have k := k.1 c_1
    refine R_ps 1 (pc2 := 275) (L2 := [some (vr (some w)), some (vi x1), some (vi x2), none, some (vi x4), some (vi x5), some (vi x6), none, none, none, some (vi x10), some (vi x11), none, none]) (st2 := [vr (some w)]) rfl ?_
    refine R_getR rfl t0 ?_
    refine R_ps 5 (pc2 := 286) (L2 := [some (vr (some w)), some (vi x1), some (vi x2), none, some (vi x4), some (vi x5), some (vi x6), none, none, none, some (vi x10), some (vi x11), none, none]) (st2 := [vi x5, vi x6, vr (some w), vi x10, vi x2, vr (gr h w 14)]) rfl ?_
    refine R_cI (as := [vi x5]) rfl rfl ⟨Nat.le_of_ble_eq_true rfl, Nat.le_of_ble_eq_true rfl, rfl, (Or.inl rfl)⟩ rfl rfl k (fun x_5 h_4 k => ?_)
    refine R_cI (as := [vr (some w), vi x6, vi x_5]) rfl rfl ⟨Nat.le_of_ble_eq_true rfl, Nat.le_of_ble_eq_true rfl, rfl, (Or.inr ⟨_, rfl, t0⟩)⟩ rfl rfl k (fun x_8 h_7 k => ?_)
    refine R_ps 1 (pc2 := 293) (L2 := [some (vr (some w)), some (vi x1), some (vi x2), none, some (vi x4), some (vi x5), some (vi x6), none, none, none, some (vi x10), some (vi x11), none, none]) (st2 := [vi (x10 + x_8), vi x2, vr (gr h w 14)]) rfl ?_
    obtain ⟨a_10, e_11, k⟩ := k
    rw [e_11]
    obtain ⟨t_14, k⟩ := k
    obtain ⟨t_15, k⟩ := k
    refine R_iast rfl t_14 t_15  ?_
    show WP T N _ _ _ _ (si h_7 a_10 (Int32.toNatClampNeg x2) (x10 + x_8)) _
    generalize e_13 : si h_7 a_10 (Int32.toNatClampNeg x2) (x10 + x_8) = h_12
    replace k := k h_12 e_13.symm
    refine R_ps 1 (pc2 := 295) (L2 := [some (vr (some w)), some (vi x1), some (vi x2), none, some (vi x4), some (vi x5), some (vi x6), none, none, none, some (vi x10), some (vi x11), none, none]) (st2 := [vr (some w)]) rfl ?_
    refine R_getR rfl t0 ?_
    refine R_ps 2 (pc2 := 301) (L2 := [some (vr (some w)), some (vi x1), some (vi x2), none, some (vi x4), some (vi x5), some (vi x6), none, none, none, some (vi x10), some (vi x11), none, none]) (st2 := [vi x11, vi x2, vr (gr h_12 w 15)]) rfl ?_
    obtain ⟨a_18, e_19, k⟩ := k
    rw [e_19]
    obtain ⟨t_22, k⟩ := k
    obtain ⟨t_23, k⟩ := k
    refine R_iast rfl t_22 t_23  ?_
    show WP T N _ _ _ _ (si h_12 a_18 (Int32.toNatClampNeg x2) x11) _
    generalize e_21 : si h_12 a_18 (Int32.toNatClampNeg x2) x11 = h_20
    replace k := k h_20 e_21.symm
    exact R_ret rfl rfl ⟨rfl, k⟩
  · have k := k.2 c_1
    refine R_ps 3 (pc2 := 267) (L2 := [some (vr (some w)), some (vi x1), some (vi x2), none, some (vi x4), some (vi x5), some (vi x6), none, none, none, some (vi x10), some (vi x11), none, none]) (st2 := [vi x5, vi x1, vr (some w)]) rfl ?_
    refine R_cI (as := [vr (some w), vi x1, vi x5]) rfl rfl ⟨Nat.le_of_ble_eq_true rfl, Nat.le_of_ble_eq_true rfl, rfl, (Or.inr ⟨_, rfl, t0⟩)⟩ rfl rfl k (fun x_27 h_26 k => ?_)
    refine R_if0 rfl (fun c_28 => ?_) (fun c_28 => ?_)
    · have k := k.2 c_28
      refine R_ps 1 (pc2 := 275) (L2 := [some (vr (some w)), some (vi x1), some (vi x2), none, some (vi x4), some (vi x5), some (vi x6), none, none, none, some (vi x10), some (vi x11), none, none]) (st2 := [vr (some w)]) rfl ?_
      refine R_getR rfl t0 ?_
      refine R_ps 5 (pc2 := 286) (L2 := [some (vr (some w)), some (vi x1), some (vi x2), none, some (vi x4), some (vi x5), some (vi x6), none, none, none, some (vi x10), some (vi x11), none, none]) (st2 := [vi x5, vi x6, vr (some w), vi x10, vi x2, vr (gr h_26 w 14)]) rfl ?_
      refine R_cI (as := [vi x5]) rfl rfl ⟨Nat.le_of_ble_eq_true rfl, Nat.le_of_ble_eq_true rfl, rfl, (Or.inl rfl)⟩ rfl rfl k (fun x_32 h_31 k => ?_)
      refine R_cI (as := [vr (some w), vi x6, vi x_32]) rfl rfl ⟨Nat.le_of_ble_eq_true rfl, Nat.le_of_ble_eq_true rfl, rfl, (Or.inr ⟨_, rfl, t0⟩)⟩ rfl rfl k (fun x_35 h_34 k => ?_)
      refine R_ps 1 (pc2 := 293) (L2 := [some (vr (some w)), some (vi x1), some (vi x2), none, some (vi x4), some (vi x5), some (vi x6), none, none, none, some (vi x10), some (vi x11), none, none]) (st2 := [vi (x10 + x_35), vi x2, vr (gr h_26 w 14)]) rfl ?_
      obtain ⟨a_37, e_38, k⟩ := k
      rw [e_38]
      obtain ⟨t_41, k⟩ := k
      obtain ⟨t_42, k⟩ := k
      refine R_iast rfl t_41 t_42  ?_
      show WP T N _ _ _ _ (si h_34 a_37 (Int32.toNatClampNeg x2) (x10 + x_35)) _
      generalize e_40 : si h_34 a_37 (Int32.toNatClampNeg x2) (x10 + x_35) = h_39
      replace k := k h_39 e_40.symm
      refine R_ps 1 (pc2 := 295) (L2 := [some (vr (some w)), some (vi x1), some (vi x2), none, some (vi x4), some (vi x5), some (vi x6), none, none, none, some (vi x10), some (vi x11), none, none]) (st2 := [vr (some w)]) rfl ?_
      refine R_getR rfl t0 ?_
      refine R_ps 2 (pc2 := 301) (L2 := [some (vr (some w)), some (vi x1), some (vi x2), none, some (vi x4), some (vi x5), some (vi x6), none, none, none, some (vi x10), some (vi x11), none, none]) (st2 := [vi x11, vi x2, vr (gr h_39 w 15)]) rfl ?_
      obtain ⟨a_45, e_46, k⟩ := k
      rw [e_46]
      obtain ⟨t_49, k⟩ := k
      obtain ⟨t_50, k⟩ := k
      refine R_iast rfl t_49 t_50  ?_
      show WP T N _ _ _ _ (si h_39 a_45 (Int32.toNatClampNeg x2) x11) _
      generalize e_48 : si h_39 a_45 (Int32.toNatClampNeg x2) x11 = h_47
      replace k := k h_47 e_48.symm
      exact R_ret rfl rfl ⟨rfl, k⟩
    · have k := k.1 (Classical.not_not.mp c_28)
      exact R_ret rfl rfl ⟨rfl, k⟩
/-- DroneCorridorsModel.best -/
theorem m210 {T N : Nat → Nat} {h : PH} {w : Nat} {x1 : Int32} {K : Int32 → PH → Prop} (t0 : T w = 12) (k : (∀ h_3, h_3 = si h w 21 (gi h w 18) → ∀ h_6, h_6 = si h_3 w 22 0 → ((x1 = (gi h_6 w 20) → (K (-2) h_6)) ∧ (¬ (x1 = (gi h_6 w 20)) → (WI T N 210 28 [some (vr (some w)), some (vi x1), some (vi (-1)), some (vi 0), none, none, none, none, none] [] h_6 K))))) : CI T N 210 [vr (some w), vi x1] h K := by
  show WP T N 210 0 [some (vr (some w)), some (vi x1), none, none, none, none, none, none, none] [] h _
  refine R_ps 2 (pc2 := 2) (L2 := [some (vr (some w)), some (vi x1), none, none, none, none, none, none, none]) (st2 := [vr (some w), vr (some w)]) rfl ?_
  refine R_getI rfl t0 ?_
  refine R_putI rfl t0 ?_
  show WP T N _ _ _ _ (si h w 21 (gi h w 18)) _
  generalize e_4 : si h w 21 (gi h w 18) = h_3
  replace k := k h_3 e_4.symm
  refine R_ps 2 (pc2 := 10) (L2 := [some (vr (some w)), some (vi x1), none, none, none, none, none, none, none]) (st2 := [vi 0, vr (some w)]) rfl ?_
  refine R_putI rfl t0 ?_
  show WP T N _ _ _ _ (si h_3 w 22 0) _
  generalize e_7 : si h_3 w 22 0 = h_6
  replace k := k h_6 e_7.symm
  refine R_ps 2 (pc2 := 15) (L2 := [some (vr (some w)), some (vi x1), none, none, none, none, none, none, none]) (st2 := [vr (some w), vi x1]) rfl ?_
  refine R_getI rfl t0 ?_
  refine R_if rfl (fun c_9 => ?_) (fun c_9 => ?_)
  · have k := k.2 c_9
    refine R_ps 4 (pc2 := 28) (L2 := [some (vr (some w)), some (vi x1), some (vi (-1)), some (vi 0), none, none, none, none, none]) (st2 := []) rfl ?_
    exact k
  · have k := k.1 (Classical.not_not.mp c_9)
    refine R_ps 1 (pc2 := 23) (L2 := [some (vr (some w)), some (vi x1), none, none, none, none, none, none, none]) (st2 := [vi (-2)]) rfl ?_
    exact R_iret rfl rfl ⟨_, rfl, k⟩
theorem m210_28 {T N : Nat → Nat} {h : PH} {w : Nat} {x1 : Int32} {x2 : Int32} {x3 : Int32} {K : Int32 → PH → Prop} (t0 : T w = 12) (k : (((x3 < 3936 → (∃ a_5, (gr h w 14) = some a_5 ∧ T a_5 = 22 ∧ inb x3 (N a_5) ∧ (((gi h a_5 (Int32.toNatClampNeg x3)) < 0 → (WI T N 210 223 [some (vr (some w)), some (vi x1), some (vi x2), some (vi x3), none, none, none, none, none] [] h K)) ∧ (¬ ((gi h a_5 (Int32.toNatClampNeg x3)) < 0) → (CI T N 165 [vr (some w), vi ((x3 - x3 / 96 * 96) / 6), vi (1 - ((x3 - x3 / 6 * 6) / 3))] h (fun x_16 h_15 => (((x_16 = x1 → (CI T N 205 [vr (some w), vi x3] h_15 (fun x_20 h_19 => (CI T N 191 [vr (some w), vi x_20] h_19 (fun x_23 h_22 => (((x2 < 0 → (WI T N 210 94 [some (vr (some w)), some (vi x1), some (vi x2), some (vi x3), some (vi x_23), none, none, none, none] [] h_22 K)) ∧ (¬ (x2 < 0) → (((x_23 < (gi h_22 w 21) → (WI T N 210 94 [some (vr (some w)), some (vi x1), some (vi x2), some (vi x3), some (vi x_23), none, none, none, none] [] h_22 K)) ∧ (¬ (x_23 < (gi h_22 w 21)) → (((x2 < 0 → (WI T N 210 118 [some (vr (some w)), some (vi x1), some (vi x2), some (vi x3), some (vi x_23), some (vi 0), none, none, none] [] h_22 K)) ∧ (¬ (x2 < 0) → (((x_23 = (gi h_22 w 21) → (∃ a_33, (gr h_22 w 14) = some a_33 ∧ T a_33 = 22 ∧ inb x3 (N a_33) ∧ (((gi h_22 a_33 (Int32.toNatClampNeg x3)) < (gi h_22 w 22) → (∃ a_42, (gr h_22 w 14) = some a_42 ∧ T a_42 = 22 ∧ inb x3 (N a_42) ∧ (((gi h_22 a_42 (Int32.toNatClampNeg x3)) = (gi h_22 w 22) → (CI T N 205 [vr (some w), vi x3] h_22 (fun x_50 h_49 => (CI T N 205 [vr (some w), vi x2] h_49 (fun x_53 h_52 => (CI T N 211 [vi x_50, vi x_53] h_52 (fun x_56 h_55 => (((x_56 = 0 → (WI T N 210 184 [some (vr (some w)), some (vi x1), some (vi x2), some (vi x3), some (vi x_23), some (vi 0), none, some (vi 1), none] [] h_55 K)) ∧ (¬ (x_56 = 0) → (WI T N 210 205 [some (vr (some w)), some (vi x1), none, some (vi x3), some (vi x_23), none, none, none, none] [] h_55 K))))))))))) ∧ (¬ ((gi h_22 a_42 (Int32.toNatClampNeg x3)) = (gi h_22 w 22)) → (WI T N 210 184 [some (vr (some w)), some (vi x1), some (vi x2), some (vi x3), some (vi x_23), some (vi 0), none, some (vi 1), none] [] h_22 K))))) ∧ (¬ ((gi h_22 a_33 (Int32.toNatClampNeg x3)) < (gi h_22 w 22)) → (WI T N 210 143 [some (vr (some w)), some (vi x1), some (vi x2), some (vi x3), some (vi x_23), some (vi 0), some (vi 1), none, none] [] h_22 K))))) ∧ (¬ (x_23 = (gi h_22 w 21)) → (WI T N 210 118 [some (vr (some w)), some (vi x1), some (vi x2), some (vi x3), some (vi x_23), some (vi 0), none, none, none] [] h_22 K)))))))))))))))))) ∧ (¬ (x_16 = x1) → (WI T N 210 223 [some (vr (some w)), some (vi x1), some (vi x2), some (vi x3), none, none, none, none, none] [] h_15 K)))))))))) ∧ (¬ (x3 < 3936) → (K x2 h))))) : WI T N 210 28 [some (vr (some w)), some (vi x1), some (vi x2), some (vi x3), none, none, none, none, none] [] h K := by
  show WP T N 210 28 [some (vr (some w)), some (vi x1), some (vi x2), some (vi x3), none, none, none, none, none] [] h _
  refine R_ps 2 (pc2 := 32) (L2 := [some (vr (some w)), some (vi x1), some (vi x2), some (vi x3), none, none, none, none, none]) (st2 := [vi 3936, vi x3]) rfl ?_
  refine R_if rfl (fun c_1 => ?_) (fun c_1 => ?_)
  · have k := k.2 (i32_nlt c_1)
    refine R_ps 1 (pc2 := 230) (L2 := [some (vr (some w)), some (vi x1), some (vi x2), some (vi x3), none, none, none, none, none]) (st2 := [vi x2]) rfl ?_
    exact R_iret rfl rfl ⟨_, rfl, k⟩
  · have k := k.1 (i32_lt c_1)
    refine R_ps 1 (pc2 := 36) (L2 := [some (vr (some w)), some (vi x1), some (vi x2), some (vi x3), none, none, none, none, none]) (st2 := [vr (some w)]) rfl ?_
    refine R_getR rfl t0 ?_
    refine R_ps 1 (pc2 := 40) (L2 := [some (vr (some w)), some (vi x1), some (vi x2), some (vi x3), none, none, none, none, none]) (st2 := [vi x3, vr (gr h w 14)]) rfl ?_
    obtain ⟨a_5, e_6, k⟩ := k
    rw [e_6]
    obtain ⟨t_7, k⟩ := k
    obtain ⟨t_8, k⟩ := k
    refine R_iald rfl (Or.inl t_7) t_8 ?_
    refine R_if0 rfl (fun c_9 => ?_) (fun c_9 => ?_)
    · have k := k.1 c_9
      exact k
    · have k := k.2 c_9
      refine R_ps 3 (pc2 := 48) (L2 := [some (vr (some w)), some (vi x1), some (vi x2), some (vi x3), none, none, none, none, none]) (st2 := [vi 96, vi x3, vr (some w)]) rfl ?_
      refine R_rem rfl (by decide) ?_
      refine R_ps 1 (pc2 := 51) (L2 := [some (vr (some w)), some (vi x1), some (vi x2), some (vi x3), none, none, none, none, none]) (st2 := [vi 6, vi (x3 - x3 / 96 * 96), vr (some w)]) rfl ?_
      refine R_div rfl (by decide) ?_
      refine R_ps 3 (pc2 := 56) (L2 := [some (vr (some w)), some (vi x1), some (vi x2), some (vi x3), none, none, none, none, none]) (st2 := [vi 6, vi x3, vi 1, vi ((x3 - x3 / 96 * 96) / 6), vr (some w)]) rfl ?_
      refine R_rem rfl (by decide) ?_
      refine R_ps 1 (pc2 := 58) (L2 := [some (vr (some w)), some (vi x1), some (vi x2), some (vi x3), none, none, none, none, none]) (st2 := [vi 3, vi (x3 - x3 / 6 * 6), vi 1, vi ((x3 - x3 / 96 * 96) / 6), vr (some w)]) rfl ?_
      refine R_div rfl (by decide) ?_
      refine R_ps 1 (pc2 := 60) (L2 := [some (vr (some w)), some (vi x1), some (vi x2), some (vi x3), none, none, none, none, none]) (st2 := [vi (1 - ((x3 - x3 / 6 * 6) / 3)), vi ((x3 - x3 / 96 * 96) / 6), vr (some w)]) rfl ?_
      refine R_cI (as := [vr (some w), vi ((x3 - x3 / 96 * 96) / 6), vi (1 - ((x3 - x3 / 6 * 6) / 3))]) rfl rfl ⟨Nat.le_of_ble_eq_true rfl, Nat.le_of_ble_eq_true rfl, rfl, (Or.inr ⟨_, rfl, t0⟩)⟩ rfl rfl k (fun x_16 h_15 k => ?_)
      refine R_ps 1 (pc2 := 64) (L2 := [some (vr (some w)), some (vi x1), some (vi x2), some (vi x3), none, none, none, none, none]) (st2 := [vi x1, vi x_16]) rfl ?_
      refine R_if rfl (fun c_17 => ?_) (fun c_17 => ?_)
      · have k := k.1 c_17
        refine R_ps 3 (pc2 := 73) (L2 := [some (vr (some w)), some (vi x1), some (vi x2), some (vi x3), none, none, none, none, none]) (st2 := [vi x3, vr (some w), vr (some w)]) rfl ?_
        refine R_cI (as := [vr (some w), vi x3]) rfl rfl ⟨Nat.le_of_ble_eq_true rfl, Nat.le_of_ble_eq_true rfl, rfl, (Or.inr ⟨_, rfl, t0⟩)⟩ rfl rfl k (fun x_20 h_19 k => ?_)
        refine R_cI (as := [vr (some w), vi x_20]) rfl rfl ⟨Nat.le_of_ble_eq_true rfl, Nat.le_of_ble_eq_true rfl, rfl, (Or.inr ⟨_, rfl, t0⟩)⟩ rfl rfl k (fun x_23 h_22 k => ?_)
        refine R_ps 2 (pc2 := 82) (L2 := [some (vr (some w)), some (vi x1), some (vi x2), some (vi x3), some (vi x_23), none, none, none, none]) (st2 := [vi x2]) rfl ?_
        refine R_if0 rfl (fun c_24 => ?_) (fun c_24 => ?_)
        · have k := k.1 c_24
          exact k
        · have k := k.2 c_24
          refine R_ps 2 (pc2 := 88) (L2 := [some (vr (some w)), some (vi x1), some (vi x2), some (vi x3), some (vi x_23), none, none, none, none]) (st2 := [vr (some w), vi x_23]) rfl ?_
          refine R_getI rfl t0 ?_
          refine R_if rfl (fun c_26 => ?_) (fun c_26 => ?_)
          · have k := k.2 (i32_nlt c_26)
            refine R_ps 3 (pc2 := 102) (L2 := [some (vr (some w)), some (vi x1), some (vi x2), some (vi x3), some (vi x_23), some (vi 0), none, none, none]) (st2 := [vi x2]) rfl ?_
            refine R_if0 rfl (fun c_27 => ?_) (fun c_27 => ?_)
            · have k := k.1 c_27
              exact k
            · have k := k.2 c_27
              refine R_ps 2 (pc2 := 108) (L2 := [some (vr (some w)), some (vi x1), some (vi x2), some (vi x3), some (vi x_23), some (vi 0), none, none, none]) (st2 := [vr (some w), vi x_23]) rfl ?_
              refine R_getI rfl t0 ?_
              refine R_if rfl (fun c_29 => ?_) (fun c_29 => ?_)
              · have k := k.2 c_29
                exact k
              · have k := k.1 (Classical.not_not.mp c_29)
                refine R_ps 4 (pc2 := 123) (L2 := [some (vr (some w)), some (vi x1), some (vi x2), some (vi x3), some (vi x_23), some (vi 0), some (vi 1), none, none]) (st2 := [vi 1]) rfl ?_
                refine R_if0 rfl (fun c_30 => absurd (show (1 : Int32) = (0 : Int32) from c_30) (by decide)) (fun _ => ?_)
                refine R_ps 1 (pc2 := 127) (L2 := [some (vr (some w)), some (vi x1), some (vi x2), some (vi x3), some (vi x_23), some (vi 0), some (vi 1), none, none]) (st2 := [vr (some w)]) rfl ?_
                refine R_getR rfl t0 ?_
                refine R_ps 1 (pc2 := 131) (L2 := [some (vr (some w)), some (vi x1), some (vi x2), some (vi x3), some (vi x_23), some (vi 0), some (vi 1), none, none]) (st2 := [vi x3, vr (gr h_22 w 14)]) rfl ?_
                obtain ⟨a_33, e_34, k⟩ := k
                rw [e_34]
                obtain ⟨t_35, k⟩ := k
                obtain ⟨t_36, k⟩ := k
                refine R_iald rfl (Or.inl t_35) t_36 ?_
                refine R_ps 1 (pc2 := 133) (L2 := [some (vr (some w)), some (vi x1), some (vi x2), some (vi x3), some (vi x_23), some (vi 0), some (vi 1), none, none]) (st2 := [vr (some w), vi (gi h_22 a_33 (Int32.toNatClampNeg x3))]) rfl ?_
                refine R_getI rfl t0 ?_
                refine R_if rfl (fun c_38 => ?_) (fun c_38 => ?_)
                · have k := k.2 (i32_nlt c_38)
                  exact k
                · have k := k.1 (i32_lt c_38)
                  refine R_ps 4 (pc2 := 148) (L2 := [some (vr (some w)), some (vi x1), some (vi x2), some (vi x3), some (vi x_23), some (vi 0), some (vi 1), some (vi 1), none]) (st2 := [vi 1]) rfl ?_
                  refine R_if0 rfl (fun c_39 => absurd (show (1 : Int32) = (0 : Int32) from c_39) (by decide)) (fun _ => ?_)
                  refine R_ps 1 (pc2 := 152) (L2 := [some (vr (some w)), some (vi x1), some (vi x2), some (vi x3), some (vi x_23), some (vi 0), some (vi 1), some (vi 1), none]) (st2 := [vr (some w)]) rfl ?_
                  refine R_getR rfl t0 ?_
                  refine R_ps 1 (pc2 := 156) (L2 := [some (vr (some w)), some (vi x1), some (vi x2), some (vi x3), some (vi x_23), some (vi 0), some (vi 1), some (vi 1), none]) (st2 := [vi x3, vr (gr h_22 w 14)]) rfl ?_
                  obtain ⟨a_42, e_43, k⟩ := k
                  rw [e_43]
                  obtain ⟨t_44, k⟩ := k
                  obtain ⟨t_45, k⟩ := k
                  refine R_iald rfl (Or.inl t_44) t_45 ?_
                  refine R_ps 1 (pc2 := 158) (L2 := [some (vr (some w)), some (vi x1), some (vi x2), some (vi x3), some (vi x_23), some (vi 0), some (vi 1), some (vi 1), none]) (st2 := [vr (some w), vi (gi h_22 a_42 (Int32.toNatClampNeg x3))]) rfl ?_
                  refine R_getI rfl t0 ?_
                  refine R_if rfl (fun c_47 => ?_) (fun c_47 => ?_)
                  · have k := k.2 c_47
                    exact R_drop k (LE_of (L := [some (vr (some w)), some (vi x1), some (vi x2), some (vi x3), some (vi x_23), some (vi 0), none, some (vi 1), none]) (L2 := [some (vr (some w)), some (vi x1), some (vi x2), some (vi x3), some (vi x_23), some (vi 0), some (vi 1), some (vi 1), none]) ⟨rfl, rfl, rfl, rfl, rfl, rfl, rfl, trivial⟩)
                  · have k := k.1 (Classical.not_not.mp c_47)
                    refine R_ps 2 (pc2 := 166) (L2 := [some (vr (some w)), some (vi x1), some (vi x2), some (vi x3), some (vi x_23), some (vi 0), some (vi 1), some (vi 1), none]) (st2 := [vi x3, vr (some w)]) rfl ?_
                    refine R_cI (as := [vr (some w), vi x3]) rfl rfl ⟨Nat.le_of_ble_eq_true rfl, Nat.le_of_ble_eq_true rfl, rfl, (Or.inr ⟨_, rfl, t0⟩)⟩ rfl rfl k (fun x_50 h_49 k => ?_)
                    refine R_ps 2 (pc2 := 171) (L2 := [some (vr (some w)), some (vi x1), some (vi x2), some (vi x3), some (vi x_23), some (vi 0), some (vi 1), some (vi 1), none]) (st2 := [vi x2, vr (some w), vi x_50]) rfl ?_
                    refine R_cI (as := [vr (some w), vi x2]) rfl rfl ⟨Nat.le_of_ble_eq_true rfl, Nat.le_of_ble_eq_true rfl, rfl, (Or.inr ⟨_, rfl, t0⟩)⟩ rfl rfl k (fun x_53 h_52 k => ?_)
                    refine R_cI (as := [vi x_50, vi x_53]) rfl rfl ⟨Nat.le_of_ble_eq_true rfl, Nat.le_of_ble_eq_true rfl, rfl, (Or.inl rfl)⟩ rfl rfl k (fun x_56 h_55 k => ?_)
                    refine R_if0 rfl (fun c_57 => ?_) (fun c_57 => ?_)
                    · have k := k.1 c_57
                      exact R_drop k (LE_of (L := [some (vr (some w)), some (vi x1), some (vi x2), some (vi x3), some (vi x_23), some (vi 0), none, some (vi 1), none]) (L2 := [some (vr (some w)), some (vi x1), some (vi x2), some (vi x3), some (vi x_23), some (vi 0), some (vi 1), some (vi 1), none]) ⟨rfl, rfl, rfl, rfl, rfl, rfl, rfl, trivial⟩)
                    · have k := k.2 c_57
                      refine R_ps 4 (pc2 := 189) (L2 := [some (vr (some w)), some (vi x1), some (vi x2), some (vi x3), some (vi x_23), some (vi 0), some (vi 1), some (vi 1), some (vi 1)]) (st2 := [vi 0]) rfl ?_
                      refine R_if0 rfl (fun c_58 => absurd (show ¬ (0 : Int32) = (0 : Int32) from c_58) (by decide)) (fun _ => ?_)
                      refine R_ps 1 (pc2 := 194) (L2 := [some (vr (some w)), some (vi x1), some (vi x2), some (vi x3), some (vi x_23), some (vi 0), some (vi 1), some (vi 1), some (vi 1)]) (st2 := [vi 1]) rfl ?_
                      refine R_if0 rfl (fun _ => ?_) (fun c_59 => absurd (show ¬ (1 : Int32) = (0 : Int32) by decide) c_59)
                      exact R_drop k (LE_of (L := [some (vr (some w)), some (vi x1), none, some (vi x3), some (vi x_23), none, none, none, none]) (L2 := [some (vr (some w)), some (vi x1), some (vi x2), some (vi x3), some (vi x_23), some (vi 0), some (vi 1), some (vi 1), some (vi 1)]) ⟨rfl, rfl, rfl, rfl, trivial⟩)
          · have k := k.1 (i32_lt c_26)
            exact k
      · have k := k.2 c_17
        refine R_ps 1 (pc2 := 223) (L2 := [some (vr (some w)), some (vi x1), some (vi x2), some (vi x3), none, none, none, none, none]) (st2 := []) rfl ?_
        exact k
theorem m210_94 {T N : Nat → Nat} {h : PH} {w : Nat} {x1 : Int32} {x2 : Int32} {x3 : Int32} {x4 : Int32} {K : Int32 → PH → Prop} (t0 : T w = 12) (k : (((x2 < 0 → (WI T N 210 118 [some (vr (some w)), some (vi x1), some (vi x2), some (vi x3), some (vi x4), some (vi 1), none, none, none] [] h K)) ∧ (¬ (x2 < 0) → (((x4 = (gi h w 21) → (∃ a_7, (gr h w 14) = some a_7 ∧ T a_7 = 22 ∧ inb x3 (N a_7) ∧ (((gi h a_7 (Int32.toNatClampNeg x3)) < (gi h w 22) → (∃ a_16, (gr h w 14) = some a_16 ∧ T a_16 = 22 ∧ inb x3 (N a_16) ∧ (((gi h a_16 (Int32.toNatClampNeg x3)) = (gi h w 22) → (CI T N 205 [vr (some w), vi x3] h (fun x_24 h_23 => (CI T N 205 [vr (some w), vi x2] h_23 (fun x_27 h_26 => (CI T N 211 [vi x_24, vi x_27] h_26 (fun x_30 h_29 => (((x_30 = 0 → (WI T N 210 184 [some (vr (some w)), some (vi x1), some (vi x2), some (vi x3), some (vi x4), some (vi 1), none, some (vi 1), none] [] h_29 K)) ∧ (¬ (x_30 = 0) → (WI T N 210 205 [some (vr (some w)), some (vi x1), none, some (vi x3), some (vi x4), none, none, none, none] [] h_29 K))))))))))) ∧ (¬ ((gi h a_16 (Int32.toNatClampNeg x3)) = (gi h w 22)) → (WI T N 210 184 [some (vr (some w)), some (vi x1), some (vi x2), some (vi x3), some (vi x4), some (vi 1), none, some (vi 1), none] [] h K))))) ∧ (¬ ((gi h a_7 (Int32.toNatClampNeg x3)) < (gi h w 22)) → (WI T N 210 143 [some (vr (some w)), some (vi x1), some (vi x2), some (vi x3), some (vi x4), some (vi 1), some (vi 1), none, none] [] h K))))) ∧ (¬ (x4 = (gi h w 21)) → (WI T N 210 118 [some (vr (some w)), some (vi x1), some (vi x2), some (vi x3), some (vi x4), some (vi 1), none, none, none] [] h K)))))))) : WI T N 210 94 [some (vr (some w)), some (vi x1), some (vi x2), some (vi x3), some (vi x4), none, none, none, none] [] h K := by
  show WP T N 210 94 [some (vr (some w)), some (vi x1), some (vi x2), some (vi x3), some (vi x4), none, none, none, none] [] h _
  refine R_ps 4 (pc2 := 102) (L2 := [some (vr (some w)), some (vi x1), some (vi x2), some (vi x3), some (vi x4), some (vi 1), none, none, none]) (st2 := [vi x2]) rfl ?_
  refine R_if0 rfl (fun c_1 => ?_) (fun c_1 => ?_)
  · have k := k.1 c_1
    exact k
  · have k := k.2 c_1
    refine R_ps 2 (pc2 := 108) (L2 := [some (vr (some w)), some (vi x1), some (vi x2), some (vi x3), some (vi x4), some (vi 1), none, none, none]) (st2 := [vr (some w), vi x4]) rfl ?_
    refine R_getI rfl t0 ?_
    refine R_if rfl (fun c_3 => ?_) (fun c_3 => ?_)
    · have k := k.2 c_3
      exact k
    · have k := k.1 (Classical.not_not.mp c_3)
      refine R_ps 4 (pc2 := 123) (L2 := [some (vr (some w)), some (vi x1), some (vi x2), some (vi x3), some (vi x4), some (vi 1), some (vi 1), none, none]) (st2 := [vi 1]) rfl ?_
      refine R_if0 rfl (fun c_4 => absurd (show (1 : Int32) = (0 : Int32) from c_4) (by decide)) (fun _ => ?_)
      refine R_ps 1 (pc2 := 127) (L2 := [some (vr (some w)), some (vi x1), some (vi x2), some (vi x3), some (vi x4), some (vi 1), some (vi 1), none, none]) (st2 := [vr (some w)]) rfl ?_
      refine R_getR rfl t0 ?_
      refine R_ps 1 (pc2 := 131) (L2 := [some (vr (some w)), some (vi x1), some (vi x2), some (vi x3), some (vi x4), some (vi 1), some (vi 1), none, none]) (st2 := [vi x3, vr (gr h w 14)]) rfl ?_
      obtain ⟨a_7, e_8, k⟩ := k
      rw [e_8]
      obtain ⟨t_9, k⟩ := k
      obtain ⟨t_10, k⟩ := k
      refine R_iald rfl (Or.inl t_9) t_10 ?_
      refine R_ps 1 (pc2 := 133) (L2 := [some (vr (some w)), some (vi x1), some (vi x2), some (vi x3), some (vi x4), some (vi 1), some (vi 1), none, none]) (st2 := [vr (some w), vi (gi h a_7 (Int32.toNatClampNeg x3))]) rfl ?_
      refine R_getI rfl t0 ?_
      refine R_if rfl (fun c_12 => ?_) (fun c_12 => ?_)
      · have k := k.2 (i32_nlt c_12)
        exact k
      · have k := k.1 (i32_lt c_12)
        refine R_ps 4 (pc2 := 148) (L2 := [some (vr (some w)), some (vi x1), some (vi x2), some (vi x3), some (vi x4), some (vi 1), some (vi 1), some (vi 1), none]) (st2 := [vi 1]) rfl ?_
        refine R_if0 rfl (fun c_13 => absurd (show (1 : Int32) = (0 : Int32) from c_13) (by decide)) (fun _ => ?_)
        refine R_ps 1 (pc2 := 152) (L2 := [some (vr (some w)), some (vi x1), some (vi x2), some (vi x3), some (vi x4), some (vi 1), some (vi 1), some (vi 1), none]) (st2 := [vr (some w)]) rfl ?_
        refine R_getR rfl t0 ?_
        refine R_ps 1 (pc2 := 156) (L2 := [some (vr (some w)), some (vi x1), some (vi x2), some (vi x3), some (vi x4), some (vi 1), some (vi 1), some (vi 1), none]) (st2 := [vi x3, vr (gr h w 14)]) rfl ?_
        obtain ⟨a_16, e_17, k⟩ := k
        rw [e_17]
        obtain ⟨t_18, k⟩ := k
        obtain ⟨t_19, k⟩ := k
        refine R_iald rfl (Or.inl t_18) t_19 ?_
        refine R_ps 1 (pc2 := 158) (L2 := [some (vr (some w)), some (vi x1), some (vi x2), some (vi x3), some (vi x4), some (vi 1), some (vi 1), some (vi 1), none]) (st2 := [vr (some w), vi (gi h a_16 (Int32.toNatClampNeg x3))]) rfl ?_
        refine R_getI rfl t0 ?_
        refine R_if rfl (fun c_21 => ?_) (fun c_21 => ?_)
        · have k := k.2 c_21
          exact R_drop k (LE_of (L := [some (vr (some w)), some (vi x1), some (vi x2), some (vi x3), some (vi x4), some (vi 1), none, some (vi 1), none]) (L2 := [some (vr (some w)), some (vi x1), some (vi x2), some (vi x3), some (vi x4), some (vi 1), some (vi 1), some (vi 1), none]) ⟨rfl, rfl, rfl, rfl, rfl, rfl, rfl, trivial⟩)
        · have k := k.1 (Classical.not_not.mp c_21)
          refine R_ps 2 (pc2 := 166) (L2 := [some (vr (some w)), some (vi x1), some (vi x2), some (vi x3), some (vi x4), some (vi 1), some (vi 1), some (vi 1), none]) (st2 := [vi x3, vr (some w)]) rfl ?_
          refine R_cI (as := [vr (some w), vi x3]) rfl rfl ⟨Nat.le_of_ble_eq_true rfl, Nat.le_of_ble_eq_true rfl, rfl, (Or.inr ⟨_, rfl, t0⟩)⟩ rfl rfl k (fun x_24 h_23 k => ?_)
          refine R_ps 2 (pc2 := 171) (L2 := [some (vr (some w)), some (vi x1), some (vi x2), some (vi x3), some (vi x4), some (vi 1), some (vi 1), some (vi 1), none]) (st2 := [vi x2, vr (some w), vi x_24]) rfl ?_
          refine R_cI (as := [vr (some w), vi x2]) rfl rfl ⟨Nat.le_of_ble_eq_true rfl, Nat.le_of_ble_eq_true rfl, rfl, (Or.inr ⟨_, rfl, t0⟩)⟩ rfl rfl k (fun x_27 h_26 k => ?_)
          refine R_cI (as := [vi x_24, vi x_27]) rfl rfl ⟨Nat.le_of_ble_eq_true rfl, Nat.le_of_ble_eq_true rfl, rfl, (Or.inl rfl)⟩ rfl rfl k (fun x_30 h_29 k => ?_)
          refine R_if0 rfl (fun c_31 => ?_) (fun c_31 => ?_)
          · have k := k.1 c_31
            exact R_drop k (LE_of (L := [some (vr (some w)), some (vi x1), some (vi x2), some (vi x3), some (vi x4), some (vi 1), none, some (vi 1), none]) (L2 := [some (vr (some w)), some (vi x1), some (vi x2), some (vi x3), some (vi x4), some (vi 1), some (vi 1), some (vi 1), none]) ⟨rfl, rfl, rfl, rfl, rfl, rfl, rfl, trivial⟩)
          · have k := k.2 c_31
            refine R_ps 4 (pc2 := 189) (L2 := [some (vr (some w)), some (vi x1), some (vi x2), some (vi x3), some (vi x4), some (vi 1), some (vi 1), some (vi 1), some (vi 1)]) (st2 := [vi 1]) rfl ?_
            refine R_if0 rfl (fun _ => ?_) (fun c_32 => absurd (show ¬ (1 : Int32) = (0 : Int32) by decide) c_32)
            exact R_drop k (LE_of (L := [some (vr (some w)), some (vi x1), none, some (vi x3), some (vi x4), none, none, none, none]) (L2 := [some (vr (some w)), some (vi x1), some (vi x2), some (vi x3), some (vi x4), some (vi 1), some (vi 1), some (vi 1), some (vi 1)]) ⟨rfl, rfl, rfl, rfl, trivial⟩)
theorem m210_118 {T N : Nat → Nat} {h : PH} {w : Nat} {x1 : Int32} {x2 : Int32} {x3 : Int32} {x4 : Int32} {x5 : Int32} {K : Int32 → PH → Prop} (k : (WI T N 210 143 [some (vr (some w)), some (vi x1), some (vi x2), some (vi x3), some (vi x4), some (vi x5), some (vi 0), none, none] [] h K)) : WI T N 210 118 [some (vr (some w)), some (vi x1), some (vi x2), some (vi x3), some (vi x4), some (vi x5), none, none, none] [] h K := by
  show WP T N 210 118 [some (vr (some w)), some (vi x1), some (vi x2), some (vi x3), some (vi x4), some (vi x5), none, none, none] [] h _
  refine R_ps 3 (pc2 := 123) (L2 := [some (vr (some w)), some (vi x1), some (vi x2), some (vi x3), some (vi x4), some (vi x5), some (vi 0), none, none]) (st2 := [vi 0]) rfl ?_
  refine R_if0 rfl (fun _ => ?_) (fun c_1 => absurd (show (0 : Int32) = (0 : Int32) by decide) c_1)
  exact k
theorem m210_143 {T N : Nat → Nat} {h : PH} {w : Nat} {x1 : Int32} {x2 : Int32} {x3 : Int32} {x4 : Int32} {x5 : Int32} {x6 : Int32} {K : Int32 → PH → Prop} (t0 : T w = 12) (k : (((x6 = 0 → (WI T N 210 184 [some (vr (some w)), some (vi x1), some (vi x2), some (vi x3), some (vi x4), some (vi x5), none, some (vi 0), none] [] h K)) ∧ (¬ (x6 = 0) → (∃ a_4, (gr h w 14) = some a_4 ∧ T a_4 = 22 ∧ inb x3 (N a_4) ∧ (((gi h a_4 (Int32.toNatClampNeg x3)) = (gi h w 22) → (CI T N 205 [vr (some w), vi x3] h (fun x_12 h_11 => (CI T N 205 [vr (some w), vi x2] h_11 (fun x_15 h_14 => (CI T N 211 [vi x_12, vi x_15] h_14 (fun x_18 h_17 => (((x_18 = 0 → (WI T N 210 184 [some (vr (some w)), some (vi x1), some (vi x2), some (vi x3), some (vi x4), some (vi x5), none, some (vi 0), none] [] h_17 K)) ∧ (¬ (x_18 = 0) → (((x5 = 0 → (WI T N 210 205 [some (vr (some w)), some (vi x1), none, some (vi x3), some (vi x4), none, none, none, none] [] h_17 K)) ∧ (¬ (x5 = 0) → (WI T N 210 205 [some (vr (some w)), some (vi x1), none, some (vi x3), some (vi x4), none, none, none, none] [] h_17 K)))))))))))))) ∧ (¬ ((gi h a_4 (Int32.toNatClampNeg x3)) = (gi h w 22)) → (WI T N 210 184 [some (vr (some w)), some (vi x1), some (vi x2), some (vi x3), some (vi x4), some (vi x5), none, some (vi 0), none] [] h K)))))))) : WI T N 210 143 [some (vr (some w)), some (vi x1), some (vi x2), some (vi x3), some (vi x4), some (vi x5), some (vi x6), none, none] [] h K := by
  show WP T N 210 143 [some (vr (some w)), some (vi x1), some (vi x2), some (vi x3), some (vi x4), some (vi x5), some (vi x6), none, none] [] h _
  refine R_ps 3 (pc2 := 148) (L2 := [some (vr (some w)), some (vi x1), some (vi x2), some (vi x3), some (vi x4), some (vi x5), some (vi x6), some (vi 0), none]) (st2 := [vi x6]) rfl ?_
  refine R_if0 rfl (fun c_1 => ?_) (fun c_1 => ?_)
  · have k := k.1 c_1
    exact R_drop k (LE_of (L := [some (vr (some w)), some (vi x1), some (vi x2), some (vi x3), some (vi x4), some (vi x5), none, some (vi 0), none]) (L2 := [some (vr (some w)), some (vi x1), some (vi x2), some (vi x3), some (vi x4), some (vi x5), some (vi x6), some (vi 0), none]) ⟨rfl, rfl, rfl, rfl, rfl, rfl, rfl, trivial⟩)
  · have k := k.2 c_1
    refine R_ps 1 (pc2 := 152) (L2 := [some (vr (some w)), some (vi x1), some (vi x2), some (vi x3), some (vi x4), some (vi x5), some (vi x6), some (vi 0), none]) (st2 := [vr (some w)]) rfl ?_
    refine R_getR rfl t0 ?_
    refine R_ps 1 (pc2 := 156) (L2 := [some (vr (some w)), some (vi x1), some (vi x2), some (vi x3), some (vi x4), some (vi x5), some (vi x6), some (vi 0), none]) (st2 := [vi x3, vr (gr h w 14)]) rfl ?_
    obtain ⟨a_4, e_5, k⟩ := k
    rw [e_5]
    obtain ⟨t_6, k⟩ := k
    obtain ⟨t_7, k⟩ := k
    refine R_iald rfl (Or.inl t_6) t_7 ?_
    refine R_ps 1 (pc2 := 158) (L2 := [some (vr (some w)), some (vi x1), some (vi x2), some (vi x3), some (vi x4), some (vi x5), some (vi x6), some (vi 0), none]) (st2 := [vr (some w), vi (gi h a_4 (Int32.toNatClampNeg x3))]) rfl ?_
    refine R_getI rfl t0 ?_
    refine R_if rfl (fun c_9 => ?_) (fun c_9 => ?_)
    · have k := k.2 c_9
      exact R_drop k (LE_of (L := [some (vr (some w)), some (vi x1), some (vi x2), some (vi x3), some (vi x4), some (vi x5), none, some (vi 0), none]) (L2 := [some (vr (some w)), some (vi x1), some (vi x2), some (vi x3), some (vi x4), some (vi x5), some (vi x6), some (vi 0), none]) ⟨rfl, rfl, rfl, rfl, rfl, rfl, rfl, trivial⟩)
    · have k := k.1 (Classical.not_not.mp c_9)
      refine R_ps 2 (pc2 := 166) (L2 := [some (vr (some w)), some (vi x1), some (vi x2), some (vi x3), some (vi x4), some (vi x5), some (vi x6), some (vi 0), none]) (st2 := [vi x3, vr (some w)]) rfl ?_
      refine R_cI (as := [vr (some w), vi x3]) rfl rfl ⟨Nat.le_of_ble_eq_true rfl, Nat.le_of_ble_eq_true rfl, rfl, (Or.inr ⟨_, rfl, t0⟩)⟩ rfl rfl k (fun x_12 h_11 k => ?_)
      refine R_ps 2 (pc2 := 171) (L2 := [some (vr (some w)), some (vi x1), some (vi x2), some (vi x3), some (vi x4), some (vi x5), some (vi x6), some (vi 0), none]) (st2 := [vi x2, vr (some w), vi x_12]) rfl ?_
      refine R_cI (as := [vr (some w), vi x2]) rfl rfl ⟨Nat.le_of_ble_eq_true rfl, Nat.le_of_ble_eq_true rfl, rfl, (Or.inr ⟨_, rfl, t0⟩)⟩ rfl rfl k (fun x_15 h_14 k => ?_)
      refine R_cI (as := [vi x_12, vi x_15]) rfl rfl ⟨Nat.le_of_ble_eq_true rfl, Nat.le_of_ble_eq_true rfl, rfl, (Or.inl rfl)⟩ rfl rfl k (fun x_18 h_17 k => ?_)
      refine R_if0 rfl (fun c_19 => ?_) (fun c_19 => ?_)
      · have k := k.1 c_19
        exact R_drop k (LE_of (L := [some (vr (some w)), some (vi x1), some (vi x2), some (vi x3), some (vi x4), some (vi x5), none, some (vi 0), none]) (L2 := [some (vr (some w)), some (vi x1), some (vi x2), some (vi x3), some (vi x4), some (vi x5), some (vi x6), some (vi 0), none]) ⟨rfl, rfl, rfl, rfl, rfl, rfl, rfl, trivial⟩)
      · have k := k.2 c_19
        refine R_ps 4 (pc2 := 189) (L2 := [some (vr (some w)), some (vi x1), some (vi x2), some (vi x3), some (vi x4), some (vi x5), some (vi x6), some (vi 0), some (vi 1)]) (st2 := [vi x5]) rfl ?_
        refine R_if0 rfl (fun c_20 => ?_) (fun c_20 => ?_)
        · have k := k.2 c_20
          exact R_drop k (LE_of (L := [some (vr (some w)), some (vi x1), none, some (vi x3), some (vi x4), none, none, none, none]) (L2 := [some (vr (some w)), some (vi x1), some (vi x2), some (vi x3), some (vi x4), some (vi x5), some (vi x6), some (vi 0), some (vi 1)]) ⟨rfl, rfl, rfl, rfl, trivial⟩)
        · have k := k.1 (Classical.not_not.mp c_20)
          refine R_ps 1 (pc2 := 194) (L2 := [some (vr (some w)), some (vi x1), some (vi x2), some (vi x3), some (vi x4), some (vi x5), some (vi x6), some (vi 0), some (vi 1)]) (st2 := [vi 0]) rfl ?_
          refine R_if0 rfl (fun c_21 => absurd (show ¬ (0 : Int32) = (0 : Int32) from c_21) (by decide)) (fun _ => ?_)
          refine R_ps 1 (pc2 := 199) (L2 := [some (vr (some w)), some (vi x1), some (vi x2), some (vi x3), some (vi x4), some (vi x5), some (vi x6), some (vi 0), some (vi 1)]) (st2 := [vi 1]) rfl ?_
          refine R_if0 rfl (fun _ => ?_) (fun c_22 => absurd (show ¬ (1 : Int32) = (0 : Int32) by decide) c_22)
          exact R_drop k (LE_of (L := [some (vr (some w)), some (vi x1), none, some (vi x3), some (vi x4), none, none, none, none]) (L2 := [some (vr (some w)), some (vi x1), some (vi x2), some (vi x3), some (vi x4), some (vi x5), some (vi x6), some (vi 0), some (vi 1)]) ⟨rfl, rfl, rfl, rfl, trivial⟩)
theorem m210_184 {T N : Nat → Nat} {h : PH} {w : Nat} {x1 : Int32} {x2 : Int32} {x3 : Int32} {x4 : Int32} {x5 : Int32} {x7 : Int32} {K : Int32 → PH → Prop} (k : (((x5 = 0 → (((x7 = 0 → (WI T N 210 223 [some (vr (some w)), some (vi x1), some (vi x2), some (vi x3), none, none, none, none, none] [] h K)) ∧ (¬ (x7 = 0) → (WI T N 210 205 [some (vr (some w)), some (vi x1), none, some (vi x3), some (vi x4), none, none, none, none] [] h K))))) ∧ (¬ (x5 = 0) → (WI T N 210 205 [some (vr (some w)), some (vi x1), none, some (vi x3), some (vi x4), none, none, none, none] [] h K))))) : WI T N 210 184 [some (vr (some w)), some (vi x1), some (vi x2), some (vi x3), some (vi x4), some (vi x5), none, some (vi x7), none] [] h K := by
  show WP T N 210 184 [some (vr (some w)), some (vi x1), some (vi x2), some (vi x3), some (vi x4), some (vi x5), none, some (vi x7), none] [] h _
  refine R_ps 3 (pc2 := 189) (L2 := [some (vr (some w)), some (vi x1), some (vi x2), some (vi x3), some (vi x4), some (vi x5), none, some (vi x7), some (vi 0)]) (st2 := [vi x5]) rfl ?_
  refine R_if0 rfl (fun c_1 => ?_) (fun c_1 => ?_)
  · have k := k.2 c_1
    exact R_drop k (LE_of (L := [some (vr (some w)), some (vi x1), none, some (vi x3), some (vi x4), none, none, none, none]) (L2 := [some (vr (some w)), some (vi x1), some (vi x2), some (vi x3), some (vi x4), some (vi x5), none, some (vi x7), some (vi 0)]) ⟨rfl, rfl, rfl, rfl, trivial⟩)
  · have k := k.1 (Classical.not_not.mp c_1)
    refine R_ps 1 (pc2 := 194) (L2 := [some (vr (some w)), some (vi x1), some (vi x2), some (vi x3), some (vi x4), some (vi x5), none, some (vi x7), some (vi 0)]) (st2 := [vi x7]) rfl ?_
    refine R_if0 rfl (fun c_2 => ?_) (fun c_2 => ?_)
    · have k := k.2 c_2
      exact R_drop k (LE_of (L := [some (vr (some w)), some (vi x1), none, some (vi x3), some (vi x4), none, none, none, none]) (L2 := [some (vr (some w)), some (vi x1), some (vi x2), some (vi x3), some (vi x4), some (vi x5), none, some (vi x7), some (vi 0)]) ⟨rfl, rfl, rfl, rfl, trivial⟩)
    · have k := k.1 (Classical.not_not.mp c_2)
      refine R_ps 1 (pc2 := 199) (L2 := [some (vr (some w)), some (vi x1), some (vi x2), some (vi x3), some (vi x4), some (vi x5), none, some (vi x7), some (vi 0)]) (st2 := [vi 0]) rfl ?_
      refine R_if0 rfl (fun c_3 => absurd (show ¬ (0 : Int32) = (0 : Int32) from c_3) (by decide)) (fun _ => ?_)
      refine R_ps 1 (pc2 := 223) (L2 := [some (vr (some w)), some (vi x1), some (vi x2), some (vi x3), some (vi x4), some (vi x5), none, some (vi x7), some (vi 0)]) (st2 := []) rfl ?_
      exact R_drop k (LE_of (L := [some (vr (some w)), some (vi x1), some (vi x2), some (vi x3), none, none, none, none, none]) (L2 := [some (vr (some w)), some (vi x1), some (vi x2), some (vi x3), some (vi x4), some (vi x5), none, some (vi x7), some (vi 0)]) ⟨rfl, rfl, rfl, rfl, trivial⟩)
theorem m210_205 {T N : Nat → Nat} {h : PH} {w : Nat} {x1 : Int32} {x3 : Int32} {x4 : Int32} {K : Int32 → PH → Prop} (t0 : T w = 12) (k : (∀ h_2, h_2 = si h w 21 x4 → ∃ a_6, (gr h_2 w 14) = some a_6 ∧ T a_6 = 22 ∧ inb x3 (N a_6) ∧ ∀ h_11, h_11 = si h_2 w 22 (gi h_2 a_6 (Int32.toNatClampNeg x3)) → WI T N 210 223 [some (vr (some w)), some (vi x1), some (vi x3), some (vi x3), none, none, none, none, none] [] h_11 K)) : WI T N 210 205 [some (vr (some w)), some (vi x1), none, some (vi x3), some (vi x4), none, none, none, none] [] h K := by
  show WP T N 210 205 [some (vr (some w)), some (vi x1), none, some (vi x3), some (vi x4), none, none, none, none] [] h _
  refine R_ps 4 (pc2 := 210) (L2 := [some (vr (some w)), some (vi x1), some (vi x3), some (vi x3), some (vi x4), none, none, none, none]) (st2 := [vi x4, vr (some w)]) rfl ?_
  refine R_putI rfl t0 ?_
  show WP T N _ _ _ _ (si h w 21 x4) _
  generalize e_3 : si h w 21 x4 = h_2
  replace k := k h_2 e_3.symm
  refine R_ps 2 (pc2 := 215) (L2 := [some (vr (some w)), some (vi x1), some (vi x3), some (vi x3), some (vi x4), none, none, none, none]) (st2 := [vr (some w), vr (some w)]) rfl ?_
  refine R_getR rfl t0 ?_
  refine R_ps 1 (pc2 := 219) (L2 := [some (vr (some w)), some (vi x1), some (vi x3), some (vi x3), some (vi x4), none, none, none, none]) (st2 := [vi x3, vr (gr h_2 w 14), vr (some w)]) rfl ?_
  obtain ⟨a_6, e_7, k⟩ := k
  rw [e_7]
  obtain ⟨t_8, k⟩ := k
  obtain ⟨t_9, k⟩ := k
  refine R_iald rfl (Or.inl t_8) t_9 ?_
  refine R_putI rfl t0 ?_
  show WP T N _ _ _ _ (si h_2 w 22 (gi h_2 a_6 (Int32.toNatClampNeg x3))) _
  generalize e_12 : si h_2 w 22 (gi h_2 a_6 (Int32.toNatClampNeg x3)) = h_11
  replace k := k h_11 e_12.symm
  exact R_drop k (LE_of (L := [some (vr (some w)), some (vi x1), some (vi x3), some (vi x3), none, none, none, none, none]) (L2 := [some (vr (some w)), some (vi x1), some (vi x3), some (vi x3), some (vi x4), none, none, none, none]) ⟨rfl, rfl, rfl, rfl, trivial⟩)
theorem m210_223 {T N : Nat → Nat} {h : PH} {w : Nat} {x1 : Int32} {x2 : Int32} {x3 : Int32} {K : Int32 → PH → Prop} (k : (WI T N 210 28 [some (vr (some w)), some (vi x1), some (vi x2), some (vi (x3 + 1)), none, none, none, none, none] [] h K)) : WI T N 210 223 [some (vr (some w)), some (vi x1), some (vi x2), some (vi x3), none, none, none, none, none] [] h K := by
  show WP T N 210 223 [some (vr (some w)), some (vi x1), some (vi x2), some (vi x3), none, none, none, none, none] [] h _
  refine R_ps 2 (pc2 := 28) (L2 := [some (vr (some w)), some (vi x1), some (vi x2), some (vi (x3 + 1)), none, none, none, none, none]) (st2 := []) rfl ?_
  exact k
/-- DroneCorridorsModel.isFirst -/
theorem m211 {T N : Nat → Nat} {h : PH} {x0 : Int32} {x1 : Int32} {K : Int32 → PH → Prop} (k : (CI T N 189 [vi x0] h (fun x_3 h_2 => (CI T N 189 [vi x1] h_2 (fun x_6 h_5 => (((x_3 = x_6 → (CI T N 187 [vi x0] h_5 (fun x_10 h_9 => (CI T N 187 [vi x1] h_9 (fun x_13 h_12 => (((x_10 = x_13 → (CI T N 190 [vi x0] h_12 (fun x_17 h_16 => (CI T N 190 [vi x1] h_16 (fun x_20 h_19 => (((x_20 < x_17 → (K 1 h_19)) ∧ (¬ (x_20 < x_17) → (K 0 h_19))))))))) ∧ (¬ (x_10 = x_13) → (CI T N 187 [vi x0] h_12 (fun x_26 h_25 => (CI T N 187 [vi x1] h_25 (fun x_29 h_28 => (((x_26 < x_29 → (K 1 h_28)) ∧ (¬ (x_26 < x_29) → (K 0 h_28)))))))))))))))) ∧ (¬ (x_3 = x_6) → (CI T N 189 [vi x0] h_5 (fun x_35 h_34 => (CI T N 189 [vi x1] h_34 (fun x_38 h_37 => (((x_35 < x_38 → (K 1 h_37)) ∧ (¬ (x_35 < x_38) → (K 0 h_37)))))))))))))))) : CI T N 211 [vi x0, vi x1] h K := by
  show WP T N 211 0 [some (vi x0), some (vi x1)] [] h _
  refine R_ps 1 (pc2 := 1) (L2 := [some (vi x0), some (vi x1)]) (st2 := [vi x0]) rfl ?_
  refine R_cI (as := [vi x0]) rfl rfl ⟨Nat.le_of_ble_eq_true rfl, Nat.le_of_ble_eq_true rfl, rfl, (Or.inl rfl)⟩ rfl rfl k (fun x_3 h_2 k => ?_)
  refine R_ps 1 (pc2 := 5) (L2 := [some (vi x0), some (vi x1)]) (st2 := [vi x1, vi x_3]) rfl ?_
  refine R_cI (as := [vi x1]) rfl rfl ⟨Nat.le_of_ble_eq_true rfl, Nat.le_of_ble_eq_true rfl, rfl, (Or.inl rfl)⟩ rfl rfl k (fun x_6 h_5 k => ?_)
  refine R_if rfl (fun c_7 => ?_) (fun c_7 => ?_)
  · have k := k.1 c_7
    refine R_ps 1 (pc2 := 29) (L2 := [some (vi x0), some (vi x1)]) (st2 := [vi x0]) rfl ?_
    refine R_cI (as := [vi x0]) rfl rfl ⟨Nat.le_of_ble_eq_true rfl, Nat.le_of_ble_eq_true rfl, rfl, (Or.inl rfl)⟩ rfl rfl k (fun x_10 h_9 k => ?_)
    refine R_ps 1 (pc2 := 33) (L2 := [some (vi x0), some (vi x1)]) (st2 := [vi x1, vi x_10]) rfl ?_
    refine R_cI (as := [vi x1]) rfl rfl ⟨Nat.le_of_ble_eq_true rfl, Nat.le_of_ble_eq_true rfl, rfl, (Or.inl rfl)⟩ rfl rfl k (fun x_13 h_12 k => ?_)
    refine R_if rfl (fun c_14 => ?_) (fun c_14 => ?_)
    · have k := k.1 c_14
      refine R_ps 1 (pc2 := 59) (L2 := [some (vi x0), some (vi x1)]) (st2 := [vi x0]) rfl ?_
      refine R_cI (as := [vi x0]) rfl rfl ⟨Nat.le_of_ble_eq_true rfl, Nat.le_of_ble_eq_true rfl, rfl, (Or.inl rfl)⟩ rfl rfl k (fun x_17 h_16 k => ?_)
      refine R_ps 1 (pc2 := 63) (L2 := [some (vi x0), some (vi x1)]) (st2 := [vi x1, vi x_17]) rfl ?_
      refine R_cI (as := [vi x1]) rfl rfl ⟨Nat.le_of_ble_eq_true rfl, Nat.le_of_ble_eq_true rfl, rfl, (Or.inl rfl)⟩ rfl rfl k (fun x_20 h_19 k => ?_)
      refine R_if rfl (fun c_21 => ?_) (fun c_21 => ?_)
      · have k := k.2 (i32_nlt c_21)
        refine R_ps 1 (pc2 := 74) (L2 := [some (vi x0), some (vi x1)]) (st2 := [vi 0]) rfl ?_
        exact R_zret rfl rfl (Or.inl rfl) ⟨_, rfl, k⟩
      · have k := k.1 (i32_lt c_21)
        refine R_ps 2 (pc2 := 74) (L2 := [some (vi x0), some (vi x1)]) (st2 := [vi 1]) rfl ?_
        exact R_zret rfl rfl (Or.inr rfl) ⟨_, rfl, k⟩
    · have k := k.2 c_14
      refine R_ps 1 (pc2 := 40) (L2 := [some (vi x0), some (vi x1)]) (st2 := [vi x0]) rfl ?_
      refine R_cI (as := [vi x0]) rfl rfl ⟨Nat.le_of_ble_eq_true rfl, Nat.le_of_ble_eq_true rfl, rfl, (Or.inl rfl)⟩ rfl rfl k (fun x_26 h_25 k => ?_)
      refine R_ps 1 (pc2 := 44) (L2 := [some (vi x0), some (vi x1)]) (st2 := [vi x1, vi x_26]) rfl ?_
      refine R_cI (as := [vi x1]) rfl rfl ⟨Nat.le_of_ble_eq_true rfl, Nat.le_of_ble_eq_true rfl, rfl, (Or.inl rfl)⟩ rfl rfl k (fun x_29 h_28 k => ?_)
      refine R_if rfl (fun c_30 => ?_) (fun c_30 => ?_)
      · have k := k.2 (i32_nlt c_30)
        refine R_ps 2 (pc2 := 74) (L2 := [some (vi x0), some (vi x1)]) (st2 := [vi 0]) rfl ?_
        exact R_zret rfl rfl (Or.inl rfl) ⟨_, rfl, k⟩
      · have k := k.1 (i32_lt c_30)
        refine R_ps 2 (pc2 := 74) (L2 := [some (vi x0), some (vi x1)]) (st2 := [vi 1]) rfl ?_
        exact R_zret rfl rfl (Or.inr rfl) ⟨_, rfl, k⟩
  · have k := k.2 c_7
    refine R_ps 1 (pc2 := 12) (L2 := [some (vi x0), some (vi x1)]) (st2 := [vi x0]) rfl ?_
    refine R_cI (as := [vi x0]) rfl rfl ⟨Nat.le_of_ble_eq_true rfl, Nat.le_of_ble_eq_true rfl, rfl, (Or.inl rfl)⟩ rfl rfl k (fun x_35 h_34 k => ?_)
    refine R_ps 1 (pc2 := 16) (L2 := [some (vi x0), some (vi x1)]) (st2 := [vi x1, vi x_35]) rfl ?_
    refine R_cI (as := [vi x1]) rfl rfl ⟨Nat.le_of_ble_eq_true rfl, Nat.le_of_ble_eq_true rfl, rfl, (Or.inl rfl)⟩ rfl rfl k (fun x_38 h_37 k => ?_)
    refine R_if rfl (fun c_39 => ?_) (fun c_39 => ?_)
    · have k := k.2 (i32_nlt c_39)
      refine R_ps 1 (pc2 := 27) (L2 := [some (vi x0), some (vi x1)]) (st2 := [vi 0]) rfl ?_
      exact R_zret rfl rfl (Or.inl rfl) ⟨_, rfl, k⟩
    · have k := k.1 (i32_lt c_39)
      refine R_ps 2 (pc2 := 27) (L2 := [some (vi x0), some (vi x1)]) (st2 := [vi 1]) rfl ?_
      exact R_zret rfl rfl (Or.inr rfl) ⟨_, rfl, k⟩
/-- DroneCorridorsModel.mayGo -/
theorem m212 {T N : Nat → Nat} {h : PH} {w : Nat} {x1 : Int32} {x2 : Int32} {x3 : Int32} {x4 : Int32} {K : Int32 → PH → Prop} (t0 : T w = 12) (k : (CV T N 208 [vr (some w), vi x1, vi x3, vi x4] h (fun h_2 => (CI T N 210 [vr (some w), vi x2] h_2 (fun x_6 h_5 => (((x_6 = (-1) → (K 0 h_5)) ∧ (¬ (x_6 = (-1)) → (K 1 h_5))))))))) : CI T N 212 [vr (some w), vi x1, vi x2, vi x3, vi x4] h K := by
  show WP T N 212 0 [some (vr (some w)), some (vi x1), some (vi x2), some (vi x3), some (vi x4)] [] h _
  refine R_ps 4 (pc2 := 5) (L2 := [some (vr (some w)), some (vi x1), some (vi x2), some (vi x3), some (vi x4)]) (st2 := [vi x4, vi x3, vi x1, vr (some w)]) rfl ?_
  refine R_cV (as := [vr (some w), vi x1, vi x3, vi x4]) rfl rfl ⟨Nat.le_of_ble_eq_true rfl, Nat.le_of_ble_eq_true rfl, rfl, (Or.inr ⟨_, rfl, t0⟩)⟩ rfl rfl k (fun h_2 k => ?_)
  refine R_ps 2 (pc2 := 10) (L2 := [some (vr (some w)), some (vi x1), some (vi x2), some (vi x3), some (vi x4)]) (st2 := [vi x2, vr (some w)]) rfl ?_
  refine R_cI (as := [vr (some w), vi x2]) rfl rfl ⟨Nat.le_of_ble_eq_true rfl, Nat.le_of_ble_eq_true rfl, rfl, (Or.inr ⟨_, rfl, t0⟩)⟩ rfl rfl k (fun x_6 h_5 k => ?_)
  refine R_ps 1 (pc2 := 14) (L2 := [some (vr (some w)), some (vi x1), some (vi x2), some (vi x3), some (vi x4)]) (st2 := [vi (-1), vi x_6]) rfl ?_
  refine R_if rfl (fun c_7 => ?_) (fun c_7 => ?_)
  · have k := k.1 c_7
    refine R_ps 1 (pc2 := 22) (L2 := [some (vr (some w)), some (vi x1), some (vi x2), some (vi x3), some (vi x4)]) (st2 := [vi 0]) rfl ?_
    exact R_zret rfl rfl (Or.inl rfl) ⟨_, rfl, k⟩
  · have k := k.2 c_7
    refine R_ps 2 (pc2 := 22) (L2 := [some (vr (some w)), some (vi x1), some (vi x2), some (vi x3), some (vi x4)]) (st2 := [vi 1]) rfl ?_
    exact R_zret rfl rfl (Or.inr rfl) ⟨_, rfl, k⟩
/-- DroneCorridorsModel.goes -/
theorem m213 {T N : Nat → Nat} {h : PH} {w : Nat} {x1 : Int32} {x2 : Int32} {x3 : Int32} {K : PH → Prop} (k : (WV T N 213 6 [some (vr (some w)), some (vi x1), some (vi x2), some (vi x3), some (vi 0), some (vi x2), none] [] h K)) : CV T N 213 [vr (some w), vi x1, vi x2, vi x3] h K := by
  show WP T N 213 0 [some (vr (some w)), some (vi x1), some (vi x2), some (vi x3), none, none, none] [] h _
  refine R_ps 4 (pc2 := 6) (L2 := [some (vr (some w)), some (vi x1), some (vi x2), some (vi x3), some (vi 0), some (vi x2), none]) (st2 := []) rfl ?_
  exact k
theorem m213_6 {T N : Nat → Nat} {h : PH} {w : Nat} {x1 : Int32} {x2 : Int32} {x3 : Int32} {x4 : Int32} {x5 : Int32} {K : PH → Prop} (t0 : T w = 12) (k : (((x5 < 0 → (CI T N 193 [vr (some w), vi x1] h (fun x_4 h_3 => (CV T N 169 [vr (some w), vi x1, vi 5, vi (x_4 + x4)] h_3 (fun h_6 => (WV T N 213 47 [some (vr (some w)), some (vi x1), none, some (vi x3), some (vi x4), some (vi x_4), some (vi x2)] [] h_6 K)))))) ∧ (¬ (x5 < 0) → (∃ a_10, (gr h w 15) = some a_10 ∧ T a_10 = 22 ∧ inb x5 (N a_10) ∧ WV T N 213 6 [some (vr (some w)), some (vi x1), some (vi x2), some (vi x3), some (vi (x4 + 1)), some (vi (gi h a_10 (Int32.toNatClampNeg x5))), none] [] h K))))) : WV T N 213 6 [some (vr (some w)), some (vi x1), some (vi x2), some (vi x3), some (vi x4), some (vi x5), none] [] h K := by
  show WP T N 213 6 [some (vr (some w)), some (vi x1), some (vi x2), some (vi x3), some (vi x4), some (vi x5), none] [] h _
  refine R_ps 1 (pc2 := 8) (L2 := [some (vr (some w)), some (vi x1), some (vi x2), some (vi x3), some (vi x4), some (vi x5), none]) (st2 := [vi x5]) rfl ?_
  refine R_if0 rfl (fun c_1 => ?_) (fun c_1 => ?_)
  · have k := k.1 c_1
    refine R_ps 2 (pc2 := 28) (L2 := [some (vr (some w)), some (vi x1), some (vi x2), some (vi x3), some (vi x4), some (vi x5), none]) (st2 := [vi x1, vr (some w)]) rfl ?_
    refine R_cI (as := [vr (some w), vi x1]) rfl rfl ⟨Nat.le_of_ble_eq_true rfl, Nat.le_of_ble_eq_true rfl, rfl, (Or.inr ⟨_, rfl, t0⟩)⟩ rfl rfl k (fun x_4 h_3 k => ?_)
    refine R_ps 7 (pc2 := 41) (L2 := [some (vr (some w)), some (vi x1), some (vi x2), some (vi x3), some (vi x4), some (vi x_4), none]) (st2 := [vi (x_4 + x4), vi 5, vi x1, vr (some w)]) rfl ?_
    refine R_cV (as := [vr (some w), vi x1, vi 5, vi (x_4 + x4)]) rfl rfl ⟨Nat.le_of_ble_eq_true rfl, Nat.le_of_ble_eq_true rfl, rfl, (Or.inr ⟨_, rfl, t0⟩)⟩ rfl rfl k (fun h_6 k => ?_)
    refine R_ps 2 (pc2 := 47) (L2 := [some (vr (some w)), some (vi x1), some (vi x2), some (vi x3), some (vi x4), some (vi x_4), some (vi x2)]) (st2 := []) rfl ?_
    exact R_drop k (LE_of (L := [some (vr (some w)), some (vi x1), none, some (vi x3), some (vi x4), some (vi x_4), some (vi x2)]) (L2 := [some (vr (some w)), some (vi x1), some (vi x2), some (vi x3), some (vi x4), some (vi x_4), some (vi x2)]) ⟨rfl, rfl, rfl, rfl, rfl, rfl, trivial⟩)
  · have k := k.2 c_1
    refine R_ps 2 (pc2 := 15) (L2 := [some (vr (some w)), some (vi x1), some (vi x2), some (vi x3), some (vi (x4 + 1)), some (vi x5), none]) (st2 := [vr (some w)]) rfl ?_
    refine R_getR rfl t0 ?_
    refine R_ps 1 (pc2 := 20) (L2 := [some (vr (some w)), some (vi x1), some (vi x2), some (vi x3), some (vi (x4 + 1)), some (vi x5), none]) (st2 := [vi x5, vr (gr h w 15)]) rfl ?_
    obtain ⟨a_10, e_11, k⟩ := k
    rw [e_11]
    obtain ⟨t_12, k⟩ := k
    obtain ⟨t_13, k⟩ := k
    refine R_iald rfl (Or.inl t_12) t_13 ?_
    refine R_ps 2 (pc2 := 6) (L2 := [some (vr (some w)), some (vi x1), some (vi x2), some (vi x3), some (vi (x4 + 1)), some (vi (gi h a_10 (Int32.toNatClampNeg x5))), none]) (st2 := []) rfl ?_
    exact k
theorem m213_47 {T N : Nat → Nat} {h : PH} {w : Nat} {x1 : Int32} {x3 : Int32} {x4 : Int32} {x5 : Int32} {x6 : Int32} {K : PH → Prop} (t0 : T w = 12) (k : (((x6 < 0 → (CV T N 169 [vr (some w), vi x1, vi 4, vi x3] h (fun h_3 => (CI T N 168 [vr (some w), vi x1, vi 5] h_3 (fun x_7 h_6 => (((x_7 = 0 → (CI T N 168 [vr (some w), vi x1, vi 0] h_6 (fun x_12 h_11 => (((x_12 = 1 → (∃ a_17, (gr h_11 w 1) = some a_17 ∧ T a_17 = 22 ∧ inb (1 + x3) (N a_17) ∧ (((gi h_11 a_17 (Int32.toNatClampNeg (1 + x3))) = 1 → (CV T N 214 [vr (some w), vi x1] h_11 (fun h_24 => (K h_24)))) ∧ (¬ ((gi h_11 a_17 (Int32.toNatClampNeg (1 + x3))) = 1) → (K h_11))))) ∧ (¬ (x_12 = 1) → (K h_11))))))) ∧ (¬ (x_7 = 0) → (K h_6))))))))) ∧ (¬ (x6 < 0) → (CI T N 205 [vr (some w), vi x6] h (fun x_29 h_28 => (CV T N 169 [vr (some w), vi x1, vi ((13 + x5) + (x4 + (-1))), vi x_29] h_28 (fun h_31 => (∃ a_35, (gr h_31 w 15) = some a_35 ∧ T a_35 = 22 ∧ inb x6 (N a_35) ∧ WV T N 213 47 [some (vr (some w)), some (vi x1), none, some (vi x3), some (vi (x4 + (-1))), some (vi x5), some (vi (gi h_31 a_35 (Int32.toNatClampNeg x6)))] [] h_31 K))))))))) : WV T N 213 47 [some (vr (some w)), some (vi x1), none, some (vi x3), some (vi x4), some (vi x5), some (vi x6)] [] h K := by
  show WP T N 213 47 [some (vr (some w)), some (vi x1), none, some (vi x3), some (vi x4), some (vi x5), some (vi x6)] [] h _
  refine R_ps 1 (pc2 := 49) (L2 := [some (vr (some w)), some (vi x1), none, some (vi x3), some (vi x4), some (vi x5), some (vi x6)]) (st2 := [vi x6]) rfl ?_
  refine R_if0 rfl (fun c_1 => ?_) (fun c_1 => ?_)
  · have k := k.1 c_1
    refine R_ps 4 (pc2 := 90) (L2 := [some (vr (some w)), some (vi x1), none, some (vi x3), some (vi x4), some (vi x5), some (vi x6)]) (st2 := [vi x3, vi 4, vi x1, vr (some w)]) rfl ?_
    refine R_cV (as := [vr (some w), vi x1, vi 4, vi x3]) rfl rfl ⟨Nat.le_of_ble_eq_true rfl, Nat.le_of_ble_eq_true rfl, rfl, (Or.inr ⟨_, rfl, t0⟩)⟩ rfl rfl k (fun h_3 k => ?_)
    refine R_ps 3 (pc2 := 96) (L2 := [some (vr (some w)), some (vi x1), none, some (vi x3), some (vi x4), some (vi x5), some (vi x6)]) (st2 := [vi 5, vi x1, vr (some w)]) rfl ?_
    refine R_cI (as := [vr (some w), vi x1, vi 5]) rfl rfl ⟨Nat.le_of_ble_eq_true rfl, Nat.le_of_ble_eq_true rfl, rfl, (Or.inr ⟨_, rfl, t0⟩)⟩ rfl rfl k (fun x_7 h_6 k => ?_)
    refine R_if0 rfl (fun c_8 => ?_) (fun c_8 => ?_)
    · have k := k.2 c_8
      exact R_ret rfl rfl ⟨rfl, k⟩
    · have k := k.1 (Classical.not_not.mp c_8)
      refine R_ps 3 (pc2 := 105) (L2 := [some (vr (some w)), some (vi x1), none, some (vi x3), some (vi x4), some (vi x5), some (vi x6)]) (st2 := [vi 0, vi x1, vr (some w)]) rfl ?_
      refine R_cI (as := [vr (some w), vi x1, vi 0]) rfl rfl ⟨Nat.le_of_ble_eq_true rfl, Nat.le_of_ble_eq_true rfl, rfl, (Or.inr ⟨_, rfl, t0⟩)⟩ rfl rfl k (fun x_12 h_11 k => ?_)
      refine R_ps 1 (pc2 := 109) (L2 := [some (vr (some w)), some (vi x1), none, some (vi x3), some (vi x4), some (vi x5), some (vi x6)]) (st2 := [vi 1, vi x_12]) rfl ?_
      refine R_if rfl (fun c_13 => ?_) (fun c_13 => ?_)
      · have k := k.2 c_13
        exact R_ret rfl rfl ⟨rfl, k⟩
      · have k := k.1 (Classical.not_not.mp c_13)
        refine R_ps 1 (pc2 := 113) (L2 := [some (vr (some w)), some (vi x1), none, some (vi x3), some (vi x4), some (vi x5), some (vi x6)]) (st2 := [vr (some w)]) rfl ?_
        refine R_getR rfl t0 ?_
        refine R_ps 3 (pc2 := 119) (L2 := [some (vr (some w)), some (vi x1), none, some (vi x3), some (vi x4), some (vi x5), some (vi x6)]) (st2 := [vi (1 + x3), vr (gr h_11 w 1)]) rfl ?_
        obtain ⟨a_17, e_18, k⟩ := k
        rw [e_18]
        obtain ⟨t_19, k⟩ := k
        obtain ⟨t_20, k⟩ := k
        refine R_iald rfl (Or.inl t_19) t_20 ?_
        refine R_ps 1 (pc2 := 121) (L2 := [some (vr (some w)), some (vi x1), none, some (vi x3), some (vi x4), some (vi x5), some (vi x6)]) (st2 := [vi 1, vi (gi h_11 a_17 (Int32.toNatClampNeg (1 + x3)))]) rfl ?_
        refine R_if rfl (fun c_21 => ?_) (fun c_21 => ?_)
        · have k := k.2 c_21
          exact R_ret rfl rfl ⟨rfl, k⟩
        · have k := k.1 (Classical.not_not.mp c_21)
          refine R_ps 2 (pc2 := 126) (L2 := [some (vr (some w)), some (vi x1), none, some (vi x3), some (vi x4), some (vi x5), some (vi x6)]) (st2 := [vi x1, vr (some w)]) rfl ?_
          refine R_cV (as := [vr (some w), vi x1]) rfl rfl ⟨Nat.le_of_ble_eq_true rfl, Nat.le_of_ble_eq_true rfl, rfl, (Or.inr ⟨_, rfl, t0⟩)⟩ rfl rfl k (fun h_24 k => ?_)
          exact R_ret rfl rfl ⟨rfl, k⟩
  · have k := k.2 c_1
    refine R_ps 10 (pc2 := 68) (L2 := [some (vr (some w)), some (vi x1), none, some (vi x3), some (vi (x4 + (-1))), some (vi x5), some (vi x6)]) (st2 := [vi x6, vr (some w), vi ((13 + x5) + (x4 + (-1))), vi x1, vr (some w)]) rfl ?_
    refine R_cI (as := [vr (some w), vi x6]) rfl rfl ⟨Nat.le_of_ble_eq_true rfl, Nat.le_of_ble_eq_true rfl, rfl, (Or.inr ⟨_, rfl, t0⟩)⟩ rfl rfl k (fun x_29 h_28 k => ?_)
    refine R_cV (as := [vr (some w), vi x1, vi ((13 + x5) + (x4 + (-1))), vi x_29]) rfl rfl ⟨Nat.le_of_ble_eq_true rfl, Nat.le_of_ble_eq_true rfl, rfl, (Or.inr ⟨_, rfl, t0⟩)⟩ rfl rfl k (fun h_31 k => ?_)
    refine R_ps 1 (pc2 := 75) (L2 := [some (vr (some w)), some (vi x1), none, some (vi x3), some (vi (x4 + (-1))), some (vi x5), some (vi x6)]) (st2 := [vr (some w)]) rfl ?_
    refine R_getR rfl t0 ?_
    refine R_ps 1 (pc2 := 80) (L2 := [some (vr (some w)), some (vi x1), none, some (vi x3), some (vi (x4 + (-1))), some (vi x5), some (vi x6)]) (st2 := [vi x6, vr (gr h_31 w 15)]) rfl ?_
    obtain ⟨a_35, e_36, k⟩ := k
    rw [e_36]
    obtain ⟨t_37, k⟩ := k
    obtain ⟨t_38, k⟩ := k
    refine R_iald rfl (Or.inl t_37) t_38 ?_
    refine R_ps 2 (pc2 := 47) (L2 := [some (vr (some w)), some (vi x1), none, some (vi x3), some (vi (x4 + (-1))), some (vi x5), some (vi (gi h_31 a_35 (Int32.toNatClampNeg x6)))]) (st2 := []) rfl ?_
    exact k
/-- DroneCorridorsModel.lands -/
theorem m214 {T N : Nat → Nat} {h : PH} {w : Nat} {x1 : Int32} {K : PH → Prop} (t0 : T w = 12) (k : (CV T N 169 [vr (some w), vi x1, vi 0, vi 0] h (fun h_2 => (CV T N 169 [vr (some w), vi x1, vi 2, vi 0] h_2 (fun h_5 => (K h_5)))))) : CV T N 214 [vr (some w), vi x1] h K := by
  show WP T N 214 0 [some (vr (some w)), some (vi x1)] [] h _
  refine R_ps 4 (pc2 := 4) (L2 := [some (vr (some w)), some (vi x1)]) (st2 := [vi 0, vi 0, vi x1, vr (some w)]) rfl ?_
  refine R_cV (as := [vr (some w), vi x1, vi 0, vi 0]) rfl rfl ⟨Nat.le_of_ble_eq_true rfl, Nat.le_of_ble_eq_true rfl, rfl, (Or.inr ⟨_, rfl, t0⟩)⟩ rfl rfl k (fun h_2 k => ?_)
  refine R_ps 4 (pc2 := 11) (L2 := [some (vr (some w)), some (vi x1)]) (st2 := [vi 0, vi 2, vi x1, vr (some w)]) rfl ?_
  refine R_cV (as := [vr (some w), vi x1, vi 2, vi 0]) rfl rfl ⟨Nat.le_of_ble_eq_true rfl, Nat.le_of_ble_eq_true rfl, rfl, (Or.inr ⟨_, rfl, t0⟩)⟩ rfl rfl k (fun h_5 k => ?_)
  exact R_ret rfl rfl ⟨rfl, k⟩
/-- DroneCorridorsModel.plan -/
theorem m215 {T N : Nat → Nat} {h : PH} {w : Nat} {x1 : Int32} {x2 : Int32} {K : Int32 → PH → Prop} (t0 : T w = 12) (k : (CI T N 164 [vr (some w), vi x1] h (fun x_3 h_2 => (((x_3 = 0 → (∀ h_6, h_6 = si h_2 w 0 1 → (((gi h_6 w 0) = 1 → (K 0 h_6)) ∧ (¬ ((gi h_6 w 0) = 1) → (CI T N 206 [vr (some w), vi x1] h_6 (fun x_12 h_11 => (((x_12 = 0 → (WI T N 215 121 [some (vr (some w)), some (vi x1), some (vi x2), some (vi 1), none] [] h_11 K)) ∧ (¬ (x_12 = 0) → (((x2 = (gi h_11 w 20) → (WI T N 215 121 [some (vr (some w)), some (vi x1), some (vi x2), some (vi 0), none] [] h_11 K)) ∧ (¬ (x2 = (gi h_11 w 20)) → (CV T N 182 [vr (some w)] h_11 (fun h_17 => (∃ a_21, (gr h_17 w 12) = some a_21 ∧ T a_21 = 22 ∧ inb x2 (N a_21) ∧ (((gi h_17 a_21 (Int32.toNatClampNeg x2)) < 1000000 → (CI T N 212 [vr (some w), vi x1, vi x2, vi 1, vi 1] h_17 (fun x_28 h_27 => (((x_28 = 0 → (CI T N 212 [vr (some w), vi x1, vi x2, vi 0, vi 0] h_27 (fun x_32 h_31 => (((x_32 = 0 → (WI T N 215 121 [some (vr (some w)), some (vi x1), some (vi x2), some (vi 3), none] [] h_31 K)) ∧ (¬ (x_32 = 0) → (CI T N 212 [vr (some w), vi x1, vi x2, vi 1, vi 0] h_31 (fun x_36 h_35 => (((x_36 = 0 → (WI T N 215 121 [some (vr (some w)), some (vi x1), some (vi x2), some (vi 4), none] [] h_35 K)) ∧ (¬ (x_36 = 0) → (WI T N 215 121 [some (vr (some w)), some (vi x1), some (vi x2), some (vi 5), none] [] h_35 K)))))))))))) ∧ (¬ (x_28 = 0) → (WI T N 215 121 [some (vr (some w)), some (vi x1), some (vi x2), some (vi 0), none] [] h_27 K))))))) ∧ (¬ ((gi h_17 a_21 (Int32.toNatClampNeg x2)) < 1000000) → (WI T N 215 121 [some (vr (some w)), some (vi x1), some (vi x2), some (vi 2), none] [] h_17 K)))))))))))))))))) ∧ (¬ (x_3 = 0) → (CI T N 162 [vr (some w), vi x2] h_2 (fun x_41 h_40 => (((x_41 = 0 → (∀ h_44, h_44 = si h_40 w 0 1 → (((gi h_44 w 0) = 1 → (K 0 h_44)) ∧ (¬ ((gi h_44 w 0) = 1) → (CI T N 206 [vr (some w), vi x1] h_44 (fun x_50 h_49 => (((x_50 = 0 → (WI T N 215 121 [some (vr (some w)), some (vi x1), some (vi x2), some (vi 1), none] [] h_49 K)) ∧ (¬ (x_50 = 0) → (((x2 = (gi h_49 w 20) → (WI T N 215 121 [some (vr (some w)), some (vi x1), some (vi x2), some (vi 0), none] [] h_49 K)) ∧ (¬ (x2 = (gi h_49 w 20)) → (CV T N 182 [vr (some w)] h_49 (fun h_55 => (∃ a_59, (gr h_55 w 12) = some a_59 ∧ T a_59 = 22 ∧ inb x2 (N a_59) ∧ (((gi h_55 a_59 (Int32.toNatClampNeg x2)) < 1000000 → (CI T N 212 [vr (some w), vi x1, vi x2, vi 1, vi 1] h_55 (fun x_66 h_65 => (((x_66 = 0 → (CI T N 212 [vr (some w), vi x1, vi x2, vi 0, vi 0] h_65 (fun x_70 h_69 => (((x_70 = 0 → (WI T N 215 121 [some (vr (some w)), some (vi x1), some (vi x2), some (vi 3), none] [] h_69 K)) ∧ (¬ (x_70 = 0) → (CI T N 212 [vr (some w), vi x1, vi x2, vi 1, vi 0] h_69 (fun x_74 h_73 => (((x_74 = 0 → (WI T N 215 121 [some (vr (some w)), some (vi x1), some (vi x2), some (vi 4), none] [] h_73 K)) ∧ (¬ (x_74 = 0) → (WI T N 215 121 [some (vr (some w)), some (vi x1), some (vi x2), some (vi 5), none] [] h_73 K)))))))))))) ∧ (¬ (x_66 = 0) → (WI T N 215 121 [some (vr (some w)), some (vi x1), some (vi x2), some (vi 0), none] [] h_65 K))))))) ∧ (¬ ((gi h_55 a_59 (Int32.toNatClampNeg x2)) < 1000000) → (WI T N 215 121 [some (vr (some w)), some (vi x1), some (vi x2), some (vi 2), none] [] h_55 K)))))))))))))))))) ∧ (¬ (x_41 = 0) → (∀ h_78, h_78 = si h_40 w 0 0 → (((gi h_78 w 0) = 1 → (K 0 h_78)) ∧ (¬ ((gi h_78 w 0) = 1) → (CI T N 206 [vr (some w), vi x1] h_78 (fun x_84 h_83 => (((x_84 = 0 → (WI T N 215 121 [some (vr (some w)), some (vi x1), some (vi x2), some (vi 1), none] [] h_83 K)) ∧ (¬ (x_84 = 0) → (((x2 = (gi h_83 w 20) → (WI T N 215 121 [some (vr (some w)), some (vi x1), some (vi x2), some (vi 0), none] [] h_83 K)) ∧ (¬ (x2 = (gi h_83 w 20)) → (CV T N 182 [vr (some w)] h_83 (fun h_89 => (∃ a_93, (gr h_89 w 12) = some a_93 ∧ T a_93 = 22 ∧ inb x2 (N a_93) ∧ (((gi h_89 a_93 (Int32.toNatClampNeg x2)) < 1000000 → (CI T N 212 [vr (some w), vi x1, vi x2, vi 1, vi 1] h_89 (fun x_100 h_99 => (((x_100 = 0 → (CI T N 212 [vr (some w), vi x1, vi x2, vi 0, vi 0] h_99 (fun x_104 h_103 => (((x_104 = 0 → (WI T N 215 121 [some (vr (some w)), some (vi x1), some (vi x2), some (vi 3), none] [] h_103 K)) ∧ (¬ (x_104 = 0) → (CI T N 212 [vr (some w), vi x1, vi x2, vi 1, vi 0] h_103 (fun x_108 h_107 => (((x_108 = 0 → (WI T N 215 121 [some (vr (some w)), some (vi x1), some (vi x2), some (vi 4), none] [] h_107 K)) ∧ (¬ (x_108 = 0) → (WI T N 215 121 [some (vr (some w)), some (vi x1), some (vi x2), some (vi 5), none] [] h_107 K)))))))))))) ∧ (¬ (x_100 = 0) → (WI T N 215 121 [some (vr (some w)), some (vi x1), some (vi x2), some (vi 0), none] [] h_99 K))))))) ∧ (¬ ((gi h_89 a_93 (Int32.toNatClampNeg x2)) < 1000000) → (WI T N 215 121 [some (vr (some w)), some (vi x1), some (vi x2), some (vi 2), none] [] h_89 K)))))))))))))))))))))))))))) : CI T N 215 [vr (some w), vi x1, vi x2] h K := by
  show WP T N 215 0 [some (vr (some w)), some (vi x1), some (vi x2), none, none] [] h _
  refine R_ps 3 (pc2 := 3) (L2 := [some (vr (some w)), some (vi x1), some (vi x2), none, none]) (st2 := [vi x1, vr (some w), vr (some w)]) rfl ?_
  refine R_cI (as := [vr (some w), vi x1]) rfl rfl ⟨Nat.le_of_ble_eq_true rfl, Nat.le_of_ble_eq_true rfl, rfl, (Or.inr ⟨_, rfl, t0⟩)⟩ rfl rfl k (fun x_3 h_2 k => ?_)
  refine R_if0 rfl (fun c_4 => ?_) (fun c_4 => ?_)
  · have k := k.1 c_4
    refine R_ps 1 (pc2 := 22) (L2 := [some (vr (some w)), some (vi x1), some (vi x2), none, none]) (st2 := [vi 1, vr (some w)]) rfl ?_
    refine R_putI rfl t0 ?_
    show WP T N _ _ _ _ (si h_2 w 0 1) _
    generalize e_7 : si h_2 w 0 1 = h_6
    replace k := k h_6 e_7.symm
    refine R_ps 1 (pc2 := 26) (L2 := [some (vr (some w)), some (vi x1), some (vi x2), none, none]) (st2 := [vr (some w)]) rfl ?_
    refine R_getI rfl t0 ?_
    refine R_ps 1 (pc2 := 30) (L2 := [some (vr (some w)), some (vi x1), some (vi x2), none, none]) (st2 := [vi 1, vi (gi h_6 w 0)]) rfl ?_
    refine R_if rfl (fun c_9 => ?_) (fun c_9 => ?_)
    · have k := k.2 c_9
      refine R_ps 4 (pc2 := 39) (L2 := [some (vr (some w)), some (vi x1), some (vi x2), some (vi 0), none]) (st2 := [vi x1, vr (some w)]) rfl ?_
      refine R_cI (as := [vr (some w), vi x1]) rfl rfl ⟨Nat.le_of_ble_eq_true rfl, Nat.le_of_ble_eq_true rfl, rfl, (Or.inr ⟨_, rfl, t0⟩)⟩ rfl rfl k (fun x_12 h_11 k => ?_)
      refine R_if0 rfl (fun c_13 => ?_) (fun c_13 => ?_)
      · have k := k.2 c_13
        refine R_ps 2 (pc2 := 52) (L2 := [some (vr (some w)), some (vi x1), some (vi x2), some (vi 0), none]) (st2 := [vr (some w), vi x2]) rfl ?_
        refine R_getI rfl t0 ?_
        refine R_if rfl (fun c_15 => ?_) (fun c_15 => ?_)
        · have k := k.1 c_15
          exact k
        · have k := k.2 c_15
          refine R_ps 1 (pc2 := 59) (L2 := [some (vr (some w)), some (vi x1), some (vi x2), some (vi 0), none]) (st2 := [vr (some w)]) rfl ?_
          refine R_cV (as := [vr (some w)]) rfl rfl ⟨Nat.le_of_ble_eq_true rfl, Nat.le_of_ble_eq_true rfl, rfl, (Or.inr ⟨_, rfl, t0⟩)⟩ rfl rfl k (fun h_17 k => ?_)
          refine R_ps 1 (pc2 := 63) (L2 := [some (vr (some w)), some (vi x1), some (vi x2), some (vi 0), none]) (st2 := [vr (some w)]) rfl ?_
          refine R_getR rfl t0 ?_
          refine R_ps 1 (pc2 := 67) (L2 := [some (vr (some w)), some (vi x1), some (vi x2), some (vi 0), none]) (st2 := [vi x2, vr (gr h_17 w 12)]) rfl ?_
          obtain ⟨a_21, e_22, k⟩ := k
          rw [e_22]
          obtain ⟨t_23, k⟩ := k
          obtain ⟨t_24, k⟩ := k
          refine R_iald rfl (Or.inl t_23) t_24 ?_
          refine R_ps 1 (pc2 := 70) (L2 := [some (vr (some w)), some (vi x1), some (vi x2), some (vi 0), none]) (st2 := [vi 1000000, vi (gi h_17 a_21 (Int32.toNatClampNeg x2))]) rfl ?_
          refine R_if rfl (fun c_25 => ?_) (fun c_25 => ?_)
          · have k := k.1 c_25
            refine R_ps 5 (pc2 := 83) (L2 := [some (vr (some w)), some (vi x1), some (vi x2), some (vi 0), none]) (st2 := [vi 1, vi 1, vi x2, vi x1, vr (some w)]) rfl ?_
            refine R_cI (as := [vr (some w), vi x1, vi x2, vi 1, vi 1]) rfl rfl ⟨Nat.le_of_ble_eq_true rfl, Nat.le_of_ble_eq_true rfl, rfl, (Or.inr ⟨_, rfl, t0⟩)⟩ rfl rfl k (fun x_28 h_27 k => ?_)
            refine R_if0 rfl (fun c_29 => ?_) (fun c_29 => ?_)
            · have k := k.2 c_29
              exact k
            · have k := k.1 (Classical.not_not.mp c_29)
              refine R_ps 5 (pc2 := 94) (L2 := [some (vr (some w)), some (vi x1), some (vi x2), some (vi 0), none]) (st2 := [vi 0, vi 0, vi x2, vi x1, vr (some w)]) rfl ?_
              refine R_cI (as := [vr (some w), vi x1, vi x2, vi 0, vi 0]) rfl rfl ⟨Nat.le_of_ble_eq_true rfl, Nat.le_of_ble_eq_true rfl, rfl, (Or.inr ⟨_, rfl, t0⟩)⟩ rfl rfl k (fun x_32 h_31 k => ?_)
              refine R_if0 rfl (fun c_33 => ?_) (fun c_33 => ?_)
              · have k := k.2 c_33
                refine R_ps 5 (pc2 := 109) (L2 := [some (vr (some w)), some (vi x1), some (vi x2), some (vi 0), none]) (st2 := [vi 0, vi 1, vi x2, vi x1, vr (some w)]) rfl ?_
                refine R_cI (as := [vr (some w), vi x1, vi x2, vi 1, vi 0]) rfl rfl ⟨Nat.le_of_ble_eq_true rfl, Nat.le_of_ble_eq_true rfl, rfl, (Or.inr ⟨_, rfl, t0⟩)⟩ rfl rfl k (fun x_36 h_35 k => ?_)
                refine R_if0 rfl (fun c_37 => ?_) (fun c_37 => ?_)
                · have k := k.2 c_37
                  refine R_ps 2 (pc2 := 121) (L2 := [some (vr (some w)), some (vi x1), some (vi x2), some (vi 5), none]) (st2 := []) rfl ?_
                  exact k
                · have k := k.1 (Classical.not_not.mp c_37)
                  refine R_ps 3 (pc2 := 121) (L2 := [some (vr (some w)), some (vi x1), some (vi x2), some (vi 4), none]) (st2 := []) rfl ?_
                  exact k
              · have k := k.1 (Classical.not_not.mp c_33)
                refine R_ps 3 (pc2 := 121) (L2 := [some (vr (some w)), some (vi x1), some (vi x2), some (vi 3), none]) (st2 := []) rfl ?_
                exact k
          · have k := k.2 c_25
            refine R_ps 3 (pc2 := 121) (L2 := [some (vr (some w)), some (vi x1), some (vi x2), some (vi 2), none]) (st2 := []) rfl ?_
            exact k
      · have k := k.1 (Classical.not_not.mp c_13)
        refine R_ps 3 (pc2 := 121) (L2 := [some (vr (some w)), some (vi x1), some (vi x2), some (vi 1), none]) (st2 := []) rfl ?_
        exact k
    · have k := k.1 (Classical.not_not.mp c_9)
      refine R_ps 1 (pc2 := 34) (L2 := [some (vr (some w)), some (vi x1), some (vi x2), none, none]) (st2 := [vi 0]) rfl ?_
      exact R_iret rfl rfl ⟨_, rfl, k⟩
  · have k := k.2 c_4
    refine R_ps 2 (pc2 := 11) (L2 := [some (vr (some w)), some (vi x1), some (vi x2), none, none]) (st2 := [vi x2, vr (some w), vr (some w)]) rfl ?_
    refine R_cI (as := [vr (some w), vi x2]) rfl rfl ⟨Nat.le_of_ble_eq_true rfl, Nat.le_of_ble_eq_true rfl, rfl, (Or.inr ⟨_, rfl, t0⟩)⟩ rfl rfl k (fun x_41 h_40 k => ?_)
    refine R_if0 rfl (fun c_42 => ?_) (fun c_42 => ?_)
    · have k := k.1 c_42
      refine R_ps 1 (pc2 := 22) (L2 := [some (vr (some w)), some (vi x1), some (vi x2), none, none]) (st2 := [vi 1, vr (some w)]) rfl ?_
      refine R_putI rfl t0 ?_
      show WP T N _ _ _ _ (si h_40 w 0 1) _
      generalize e_45 : si h_40 w 0 1 = h_44
      replace k := k h_44 e_45.symm
      refine R_ps 1 (pc2 := 26) (L2 := [some (vr (some w)), some (vi x1), some (vi x2), none, none]) (st2 := [vr (some w)]) rfl ?_
      refine R_getI rfl t0 ?_
      refine R_ps 1 (pc2 := 30) (L2 := [some (vr (some w)), some (vi x1), some (vi x2), none, none]) (st2 := [vi 1, vi (gi h_44 w 0)]) rfl ?_
      refine R_if rfl (fun c_47 => ?_) (fun c_47 => ?_)
      · have k := k.2 c_47
        refine R_ps 4 (pc2 := 39) (L2 := [some (vr (some w)), some (vi x1), some (vi x2), some (vi 0), none]) (st2 := [vi x1, vr (some w)]) rfl ?_
        refine R_cI (as := [vr (some w), vi x1]) rfl rfl ⟨Nat.le_of_ble_eq_true rfl, Nat.le_of_ble_eq_true rfl, rfl, (Or.inr ⟨_, rfl, t0⟩)⟩ rfl rfl k (fun x_50 h_49 k => ?_)
        refine R_if0 rfl (fun c_51 => ?_) (fun c_51 => ?_)
        · have k := k.2 c_51
          refine R_ps 2 (pc2 := 52) (L2 := [some (vr (some w)), some (vi x1), some (vi x2), some (vi 0), none]) (st2 := [vr (some w), vi x2]) rfl ?_
          refine R_getI rfl t0 ?_
          refine R_if rfl (fun c_53 => ?_) (fun c_53 => ?_)
          · have k := k.1 c_53
            exact k
          · have k := k.2 c_53
            refine R_ps 1 (pc2 := 59) (L2 := [some (vr (some w)), some (vi x1), some (vi x2), some (vi 0), none]) (st2 := [vr (some w)]) rfl ?_
            refine R_cV (as := [vr (some w)]) rfl rfl ⟨Nat.le_of_ble_eq_true rfl, Nat.le_of_ble_eq_true rfl, rfl, (Or.inr ⟨_, rfl, t0⟩)⟩ rfl rfl k (fun h_55 k => ?_)
            refine R_ps 1 (pc2 := 63) (L2 := [some (vr (some w)), some (vi x1), some (vi x2), some (vi 0), none]) (st2 := [vr (some w)]) rfl ?_
            refine R_getR rfl t0 ?_
            refine R_ps 1 (pc2 := 67) (L2 := [some (vr (some w)), some (vi x1), some (vi x2), some (vi 0), none]) (st2 := [vi x2, vr (gr h_55 w 12)]) rfl ?_
            obtain ⟨a_59, e_60, k⟩ := k
            rw [e_60]
            obtain ⟨t_61, k⟩ := k
            obtain ⟨t_62, k⟩ := k
            refine R_iald rfl (Or.inl t_61) t_62 ?_
            refine R_ps 1 (pc2 := 70) (L2 := [some (vr (some w)), some (vi x1), some (vi x2), some (vi 0), none]) (st2 := [vi 1000000, vi (gi h_55 a_59 (Int32.toNatClampNeg x2))]) rfl ?_
            refine R_if rfl (fun c_63 => ?_) (fun c_63 => ?_)
            · have k := k.1 c_63
              refine R_ps 5 (pc2 := 83) (L2 := [some (vr (some w)), some (vi x1), some (vi x2), some (vi 0), none]) (st2 := [vi 1, vi 1, vi x2, vi x1, vr (some w)]) rfl ?_
              refine R_cI (as := [vr (some w), vi x1, vi x2, vi 1, vi 1]) rfl rfl ⟨Nat.le_of_ble_eq_true rfl, Nat.le_of_ble_eq_true rfl, rfl, (Or.inr ⟨_, rfl, t0⟩)⟩ rfl rfl k (fun x_66 h_65 k => ?_)
              refine R_if0 rfl (fun c_67 => ?_) (fun c_67 => ?_)
              · have k := k.2 c_67
                exact k
              · have k := k.1 (Classical.not_not.mp c_67)
                refine R_ps 5 (pc2 := 94) (L2 := [some (vr (some w)), some (vi x1), some (vi x2), some (vi 0), none]) (st2 := [vi 0, vi 0, vi x2, vi x1, vr (some w)]) rfl ?_
                refine R_cI (as := [vr (some w), vi x1, vi x2, vi 0, vi 0]) rfl rfl ⟨Nat.le_of_ble_eq_true rfl, Nat.le_of_ble_eq_true rfl, rfl, (Or.inr ⟨_, rfl, t0⟩)⟩ rfl rfl k (fun x_70 h_69 k => ?_)
                refine R_if0 rfl (fun c_71 => ?_) (fun c_71 => ?_)
                · have k := k.2 c_71
                  refine R_ps 5 (pc2 := 109) (L2 := [some (vr (some w)), some (vi x1), some (vi x2), some (vi 0), none]) (st2 := [vi 0, vi 1, vi x2, vi x1, vr (some w)]) rfl ?_
                  refine R_cI (as := [vr (some w), vi x1, vi x2, vi 1, vi 0]) rfl rfl ⟨Nat.le_of_ble_eq_true rfl, Nat.le_of_ble_eq_true rfl, rfl, (Or.inr ⟨_, rfl, t0⟩)⟩ rfl rfl k (fun x_74 h_73 k => ?_)
                  refine R_if0 rfl (fun c_75 => ?_) (fun c_75 => ?_)
                  · have k := k.2 c_75
                    refine R_ps 2 (pc2 := 121) (L2 := [some (vr (some w)), some (vi x1), some (vi x2), some (vi 5), none]) (st2 := []) rfl ?_
                    exact k
                  · have k := k.1 (Classical.not_not.mp c_75)
                    refine R_ps 3 (pc2 := 121) (L2 := [some (vr (some w)), some (vi x1), some (vi x2), some (vi 4), none]) (st2 := []) rfl ?_
                    exact k
                · have k := k.1 (Classical.not_not.mp c_71)
                  refine R_ps 3 (pc2 := 121) (L2 := [some (vr (some w)), some (vi x1), some (vi x2), some (vi 3), none]) (st2 := []) rfl ?_
                  exact k
            · have k := k.2 c_63
              refine R_ps 3 (pc2 := 121) (L2 := [some (vr (some w)), some (vi x1), some (vi x2), some (vi 2), none]) (st2 := []) rfl ?_
              exact k
        · have k := k.1 (Classical.not_not.mp c_51)
          refine R_ps 3 (pc2 := 121) (L2 := [some (vr (some w)), some (vi x1), some (vi x2), some (vi 1), none]) (st2 := []) rfl ?_
          exact k
      · have k := k.1 (Classical.not_not.mp c_47)
        refine R_ps 1 (pc2 := 34) (L2 := [some (vr (some w)), some (vi x1), some (vi x2), none, none]) (st2 := [vi 0]) rfl ?_
        exact R_iret rfl rfl ⟨_, rfl, k⟩
    · have k := k.2 c_42
      refine R_ps 2 (pc2 := 22) (L2 := [some (vr (some w)), some (vi x1), some (vi x2), none, none]) (st2 := [vi 0, vr (some w)]) rfl ?_
      refine R_putI rfl t0 ?_
      show WP T N _ _ _ _ (si h_40 w 0 0) _
      generalize e_79 : si h_40 w 0 0 = h_78
      replace k := k h_78 e_79.symm
      refine R_ps 1 (pc2 := 26) (L2 := [some (vr (some w)), some (vi x1), some (vi x2), none, none]) (st2 := [vr (some w)]) rfl ?_
      refine R_getI rfl t0 ?_
      refine R_ps 1 (pc2 := 30) (L2 := [some (vr (some w)), some (vi x1), some (vi x2), none, none]) (st2 := [vi 1, vi (gi h_78 w 0)]) rfl ?_
      refine R_if rfl (fun c_81 => ?_) (fun c_81 => ?_)
      · have k := k.2 c_81
        refine R_ps 4 (pc2 := 39) (L2 := [some (vr (some w)), some (vi x1), some (vi x2), some (vi 0), none]) (st2 := [vi x1, vr (some w)]) rfl ?_
        refine R_cI (as := [vr (some w), vi x1]) rfl rfl ⟨Nat.le_of_ble_eq_true rfl, Nat.le_of_ble_eq_true rfl, rfl, (Or.inr ⟨_, rfl, t0⟩)⟩ rfl rfl k (fun x_84 h_83 k => ?_)
        refine R_if0 rfl (fun c_85 => ?_) (fun c_85 => ?_)
        · have k := k.2 c_85
          refine R_ps 2 (pc2 := 52) (L2 := [some (vr (some w)), some (vi x1), some (vi x2), some (vi 0), none]) (st2 := [vr (some w), vi x2]) rfl ?_
          refine R_getI rfl t0 ?_
          refine R_if rfl (fun c_87 => ?_) (fun c_87 => ?_)
          · have k := k.1 c_87
            exact k
          · have k := k.2 c_87
            refine R_ps 1 (pc2 := 59) (L2 := [some (vr (some w)), some (vi x1), some (vi x2), some (vi 0), none]) (st2 := [vr (some w)]) rfl ?_
            refine R_cV (as := [vr (some w)]) rfl rfl ⟨Nat.le_of_ble_eq_true rfl, Nat.le_of_ble_eq_true rfl, rfl, (Or.inr ⟨_, rfl, t0⟩)⟩ rfl rfl k (fun h_89 k => ?_)
            refine R_ps 1 (pc2 := 63) (L2 := [some (vr (some w)), some (vi x1), some (vi x2), some (vi 0), none]) (st2 := [vr (some w)]) rfl ?_
            refine R_getR rfl t0 ?_
            refine R_ps 1 (pc2 := 67) (L2 := [some (vr (some w)), some (vi x1), some (vi x2), some (vi 0), none]) (st2 := [vi x2, vr (gr h_89 w 12)]) rfl ?_
            obtain ⟨a_93, e_94, k⟩ := k
            rw [e_94]
            obtain ⟨t_95, k⟩ := k
            obtain ⟨t_96, k⟩ := k
            refine R_iald rfl (Or.inl t_95) t_96 ?_
            refine R_ps 1 (pc2 := 70) (L2 := [some (vr (some w)), some (vi x1), some (vi x2), some (vi 0), none]) (st2 := [vi 1000000, vi (gi h_89 a_93 (Int32.toNatClampNeg x2))]) rfl ?_
            refine R_if rfl (fun c_97 => ?_) (fun c_97 => ?_)
            · have k := k.1 c_97
              refine R_ps 5 (pc2 := 83) (L2 := [some (vr (some w)), some (vi x1), some (vi x2), some (vi 0), none]) (st2 := [vi 1, vi 1, vi x2, vi x1, vr (some w)]) rfl ?_
              refine R_cI (as := [vr (some w), vi x1, vi x2, vi 1, vi 1]) rfl rfl ⟨Nat.le_of_ble_eq_true rfl, Nat.le_of_ble_eq_true rfl, rfl, (Or.inr ⟨_, rfl, t0⟩)⟩ rfl rfl k (fun x_100 h_99 k => ?_)
              refine R_if0 rfl (fun c_101 => ?_) (fun c_101 => ?_)
              · have k := k.2 c_101
                exact k
              · have k := k.1 (Classical.not_not.mp c_101)
                refine R_ps 5 (pc2 := 94) (L2 := [some (vr (some w)), some (vi x1), some (vi x2), some (vi 0), none]) (st2 := [vi 0, vi 0, vi x2, vi x1, vr (some w)]) rfl ?_
                refine R_cI (as := [vr (some w), vi x1, vi x2, vi 0, vi 0]) rfl rfl ⟨Nat.le_of_ble_eq_true rfl, Nat.le_of_ble_eq_true rfl, rfl, (Or.inr ⟨_, rfl, t0⟩)⟩ rfl rfl k (fun x_104 h_103 k => ?_)
                refine R_if0 rfl (fun c_105 => ?_) (fun c_105 => ?_)
                · have k := k.2 c_105
                  refine R_ps 5 (pc2 := 109) (L2 := [some (vr (some w)), some (vi x1), some (vi x2), some (vi 0), none]) (st2 := [vi 0, vi 1, vi x2, vi x1, vr (some w)]) rfl ?_
                  refine R_cI (as := [vr (some w), vi x1, vi x2, vi 1, vi 0]) rfl rfl ⟨Nat.le_of_ble_eq_true rfl, Nat.le_of_ble_eq_true rfl, rfl, (Or.inr ⟨_, rfl, t0⟩)⟩ rfl rfl k (fun x_108 h_107 k => ?_)
                  refine R_if0 rfl (fun c_109 => ?_) (fun c_109 => ?_)
                  · have k := k.2 c_109
                    refine R_ps 2 (pc2 := 121) (L2 := [some (vr (some w)), some (vi x1), some (vi x2), some (vi 5), none]) (st2 := []) rfl ?_
                    exact k
                  · have k := k.1 (Classical.not_not.mp c_109)
                    refine R_ps 3 (pc2 := 121) (L2 := [some (vr (some w)), some (vi x1), some (vi x2), some (vi 4), none]) (st2 := []) rfl ?_
                    exact k
                · have k := k.1 (Classical.not_not.mp c_105)
                  refine R_ps 3 (pc2 := 121) (L2 := [some (vr (some w)), some (vi x1), some (vi x2), some (vi 3), none]) (st2 := []) rfl ?_
                  exact k
            · have k := k.2 c_97
              refine R_ps 3 (pc2 := 121) (L2 := [some (vr (some w)), some (vi x1), some (vi x2), some (vi 2), none]) (st2 := []) rfl ?_
              exact k
        · have k := k.1 (Classical.not_not.mp c_85)
          refine R_ps 3 (pc2 := 121) (L2 := [some (vr (some w)), some (vi x1), some (vi x2), some (vi 1), none]) (st2 := []) rfl ?_
          exact k
      · have k := k.1 (Classical.not_not.mp c_81)
        refine R_ps 1 (pc2 := 34) (L2 := [some (vr (some w)), some (vi x1), some (vi x2), none, none]) (st2 := [vi 0]) rfl ?_
        exact R_iret rfl rfl ⟨_, rfl, k⟩
theorem m215_121 {T N : Nat → Nat} {h : PH} {w : Nat} {x1 : Int32} {x2 : Int32} {x3 : Int32} {K : Int32 → PH → Prop} (t0 : T w = 12) (k : (((0 < x3 → (∀ h_17, h_17 = si h w 7 x3 → CI T N 157 [vr (some w), vi 2] h_17 (fun x_21 h_20 => (K x_21 h_20)))) ∧ (¬ (0 < x3) → (CV T N 160 [vr (some w)] h (fun h_3 => (CV T N 208 [vr (some w), vi x1, vi 1, vi 1] h_3 (fun h_6 => (CI T N 210 [vr (some w), vi x2] h_6 (fun x_10 h_9 => (CV T N 213 [vr (some w), vi x1, vi x_10, vi x2] h_9 (fun h_12 => (K (gi h_12 w 21) h_12))))))))))))) : WI T N 215 121 [some (vr (some w)), some (vi x1), some (vi x2), some (vi x3), none] [] h K := by
  show WP T N 215 121 [some (vr (some w)), some (vi x1), some (vi x2), some (vi x3), none] [] h _
  refine R_ps 1 (pc2 := 122) (L2 := [some (vr (some w)), some (vi x1), some (vi x2), some (vi x3), none]) (st2 := [vi x3]) rfl ?_
  refine R_if0 rfl (fun c_1 => ?_) (fun c_1 => ?_)
  · have k := k.2 (i32_nlt c_1)
    refine R_ps 1 (pc2 := 137) (L2 := [some (vr (some w)), some (vi x1), some (vi x2), some (vi x3), none]) (st2 := [vr (some w)]) rfl ?_
    refine R_cV (as := [vr (some w)]) rfl rfl ⟨Nat.le_of_ble_eq_true rfl, Nat.le_of_ble_eq_true rfl, rfl, (Or.inr ⟨_, rfl, t0⟩)⟩ rfl rfl k (fun h_3 k => ?_)
    refine R_ps 4 (pc2 := 144) (L2 := [some (vr (some w)), some (vi x1), some (vi x2), some (vi x3), none]) (st2 := [vi 1, vi 1, vi x1, vr (some w)]) rfl ?_
    refine R_cV (as := [vr (some w), vi x1, vi 1, vi 1]) rfl rfl ⟨Nat.le_of_ble_eq_true rfl, Nat.le_of_ble_eq_true rfl, rfl, (Or.inr ⟨_, rfl, t0⟩)⟩ rfl rfl k (fun h_6 k => ?_)
    refine R_ps 2 (pc2 := 149) (L2 := [some (vr (some w)), some (vi x1), some (vi x2), some (vi x3), none]) (st2 := [vi x2, vr (some w)]) rfl ?_
    refine R_cI (as := [vr (some w), vi x2]) rfl rfl ⟨Nat.le_of_ble_eq_true rfl, Nat.le_of_ble_eq_true rfl, rfl, (Or.inr ⟨_, rfl, t0⟩)⟩ rfl rfl k (fun x_10 h_9 k => ?_)
    refine R_ps 5 (pc2 := 159) (L2 := [some (vr (some w)), some (vi x1), some (vi x2), some (vi x3), some (vi x_10)]) (st2 := [vi x2, vi x_10, vi x1, vr (some w)]) rfl ?_
    refine R_cV (as := [vr (some w), vi x1, vi x_10, vi x2]) rfl rfl ⟨Nat.le_of_ble_eq_true rfl, Nat.le_of_ble_eq_true rfl, rfl, (Or.inr ⟨_, rfl, t0⟩)⟩ rfl rfl k (fun h_12 k => ?_)
    refine R_ps 1 (pc2 := 163) (L2 := [some (vr (some w)), some (vi x1), some (vi x2), some (vi x3), some (vi x_10)]) (st2 := [vr (some w)]) rfl ?_
    refine R_getI rfl t0 ?_
    exact R_iret rfl rfl ⟨_, rfl, k⟩
  · have k := k.1 (i32_lt c_1)
    refine R_ps 2 (pc2 := 127) (L2 := [some (vr (some w)), some (vi x1), some (vi x2), some (vi x3), none]) (st2 := [vi x3, vr (some w)]) rfl ?_
    refine R_putI rfl t0 ?_
    show WP T N _ _ _ _ (si h w 7 x3) _
    generalize e_18 : si h w 7 x3 = h_17
    replace k := k h_17 e_18.symm
    refine R_ps 2 (pc2 := 132) (L2 := [some (vr (some w)), some (vi x1), some (vi x2), some (vi x3), none]) (st2 := [vi 2, vr (some w)]) rfl ?_
    refine R_cI (as := [vr (some w), vi 2]) rfl rfl ⟨Nat.le_of_ble_eq_true rfl, Nat.le_of_ble_eq_true rfl, rfl, (Or.inr ⟨_, rfl, t0⟩)⟩ rfl rfl k (fun x_21 h_20 k => ?_)
    exact R_iret rfl rfl ⟨_, rfl, k⟩
/-- DroneCorridorsModel.isPlanned -/
theorem m216 {T N : Nat → Nat} {h : PH} {w : Nat} {x1 : Int32} {x2 : Int32} {K : Int32 → PH → Prop} (t0 : T w = 12) (k : (CI T N 164 [vr (some w), vi x1] h (fun x_3 h_2 => (((x_3 = 0 → (∀ h_6, h_6 = si h_2 w 0 1 → (((gi h_6 w 0) = 1 → (K 0 h_6)) ∧ (¬ ((gi h_6 w 0) = 1) → (CI T N 206 [vr (some w), vi x1] h_6 (fun x_12 h_11 => (((x_12 = 0 → (WI T N 216 58 [some (vr (some w)), none, none, none] [] h_11 K)) ∧ (¬ (x_12 = 0) → (CI T N 212 [vr (some w), vi x1, vi x2, vi 1, vi 1] h_11 (fun x_16 h_15 => (((x_16 = 0 → (WI T N 216 58 [some (vr (some w)), none, none, none] [] h_15 K)) ∧ (¬ (x_16 = 0) → (∀ h_20, h_20 = si h_15 w 0 0 → K 1 h_20))))))))))))))) ∧ (¬ (x_3 = 0) → (CI T N 162 [vr (some w), vi x2] h_2 (fun x_26 h_25 => (((x_26 = 0 → (∀ h_29, h_29 = si h_25 w 0 1 → (((gi h_29 w 0) = 1 → (K 0 h_29)) ∧ (¬ ((gi h_29 w 0) = 1) → (CI T N 206 [vr (some w), vi x1] h_29 (fun x_35 h_34 => (((x_35 = 0 → (WI T N 216 58 [some (vr (some w)), none, none, none] [] h_34 K)) ∧ (¬ (x_35 = 0) → (CI T N 212 [vr (some w), vi x1, vi x2, vi 1, vi 1] h_34 (fun x_39 h_38 => (((x_39 = 0 → (WI T N 216 58 [some (vr (some w)), none, none, none] [] h_38 K)) ∧ (¬ (x_39 = 0) → (∀ h_43, h_43 = si h_38 w 0 0 → K 1 h_43))))))))))))))) ∧ (¬ (x_26 = 0) → (∀ h_48, h_48 = si h_25 w 0 0 → (((gi h_48 w 0) = 1 → (K 0 h_48)) ∧ (¬ ((gi h_48 w 0) = 1) → (CI T N 206 [vr (some w), vi x1] h_48 (fun x_54 h_53 => (((x_54 = 0 → (WI T N 216 58 [some (vr (some w)), none, none, none] [] h_53 K)) ∧ (¬ (x_54 = 0) → (CI T N 212 [vr (some w), vi x1, vi x2, vi 1, vi 1] h_53 (fun x_58 h_57 => (((x_58 = 0 → (WI T N 216 58 [some (vr (some w)), none, none, none] [] h_57 K)) ∧ (¬ (x_58 = 0) → (∀ h_62, h_62 = si h_57 w 0 0 → K 1 h_62))))))))))))))))))))))))) : CI T N 216 [vr (some w), vi x1, vi x2] h K := by
  show WP T N 216 0 [some (vr (some w)), some (vi x1), some (vi x2), none] [] h _
  refine R_ps 3 (pc2 := 3) (L2 := [some (vr (some w)), some (vi x1), some (vi x2), none]) (st2 := [vi x1, vr (some w), vr (some w)]) rfl ?_
  refine R_cI (as := [vr (some w), vi x1]) rfl rfl ⟨Nat.le_of_ble_eq_true rfl, Nat.le_of_ble_eq_true rfl, rfl, (Or.inr ⟨_, rfl, t0⟩)⟩ rfl rfl k (fun x_3 h_2 k => ?_)
  refine R_if0 rfl (fun c_4 => ?_) (fun c_4 => ?_)
  · have k := k.1 c_4
    refine R_ps 1 (pc2 := 22) (L2 := [some (vr (some w)), some (vi x1), some (vi x2), none]) (st2 := [vi 1, vr (some w)]) rfl ?_
    refine R_putI rfl t0 ?_
    show WP T N _ _ _ _ (si h_2 w 0 1) _
    generalize e_7 : si h_2 w 0 1 = h_6
    replace k := k h_6 e_7.symm
    refine R_ps 1 (pc2 := 26) (L2 := [some (vr (some w)), some (vi x1), some (vi x2), none]) (st2 := [vr (some w)]) rfl ?_
    refine R_getI rfl t0 ?_
    refine R_ps 1 (pc2 := 30) (L2 := [some (vr (some w)), some (vi x1), some (vi x2), none]) (st2 := [vi 1, vi (gi h_6 w 0)]) rfl ?_
    refine R_if rfl (fun c_9 => ?_) (fun c_9 => ?_)
    · have k := k.2 c_9
      refine R_ps 2 (pc2 := 37) (L2 := [some (vr (some w)), some (vi x1), some (vi x2), none]) (st2 := [vi x1, vr (some w)]) rfl ?_
      refine R_cI (as := [vr (some w), vi x1]) rfl rfl ⟨Nat.le_of_ble_eq_true rfl, Nat.le_of_ble_eq_true rfl, rfl, (Or.inr ⟨_, rfl, t0⟩)⟩ rfl rfl k (fun x_12 h_11 k => ?_)
      refine R_if0 rfl (fun c_13 => ?_) (fun c_13 => ?_)
      · have k := k.1 c_13
        exact R_drop k (LE_of (L := [some (vr (some w)), none, none, none]) (L2 := [some (vr (some w)), some (vi x1), some (vi x2), none]) ⟨rfl, trivial⟩)
      · have k := k.2 c_13
        refine R_ps 5 (pc2 := 48) (L2 := [some (vr (some w)), some (vi x1), some (vi x2), none]) (st2 := [vi 1, vi 1, vi x2, vi x1, vr (some w)]) rfl ?_
        refine R_cI (as := [vr (some w), vi x1, vi x2, vi 1, vi 1]) rfl rfl ⟨Nat.le_of_ble_eq_true rfl, Nat.le_of_ble_eq_true rfl, rfl, (Or.inr ⟨_, rfl, t0⟩)⟩ rfl rfl k (fun x_16 h_15 k => ?_)
        refine R_if0 rfl (fun c_17 => ?_) (fun c_17 => ?_)
        · have k := k.1 c_17
          exact R_drop k (LE_of (L := [some (vr (some w)), none, none, none]) (L2 := [some (vr (some w)), some (vi x1), some (vi x2), none]) ⟨rfl, trivial⟩)
        · have k := k.2 c_17
          refine R_ps 5 (pc2 := 62) (L2 := [some (vr (some w)), some (vi x1), some (vi x2), some (vi 1)]) (st2 := [vi 1, vr (some w)]) rfl ?_
          refine R_if0 rfl (fun c_18 => absurd (show (1 : Int32) = (0 : Int32) from c_18) (by decide)) (fun _ => ?_)
          refine R_ps 2 (pc2 := 70) (L2 := [some (vr (some w)), some (vi x1), some (vi x2), some (vi 1)]) (st2 := [vi 0, vr (some w)]) rfl ?_
          refine R_putI rfl t0 ?_
          show WP T N _ _ _ _ (si h_15 w 0 0) _
          generalize e_21 : si h_15 w 0 0 = h_20
          replace k := k h_20 e_21.symm
          refine R_ps 1 (pc2 := 74) (L2 := [some (vr (some w)), some (vi x1), some (vi x2), some (vi 1)]) (st2 := [vi 1]) rfl ?_
          exact R_zret rfl rfl (Or.inr rfl) ⟨_, rfl, k⟩
    · have k := k.1 (Classical.not_not.mp c_9)
      refine R_ps 1 (pc2 := 34) (L2 := [some (vr (some w)), some (vi x1), some (vi x2), none]) (st2 := [vi 0]) rfl ?_
      exact R_zret rfl rfl (Or.inl rfl) ⟨_, rfl, k⟩
  · have k := k.2 c_4
    refine R_ps 2 (pc2 := 11) (L2 := [some (vr (some w)), some (vi x1), some (vi x2), none]) (st2 := [vi x2, vr (some w), vr (some w)]) rfl ?_
    refine R_cI (as := [vr (some w), vi x2]) rfl rfl ⟨Nat.le_of_ble_eq_true rfl, Nat.le_of_ble_eq_true rfl, rfl, (Or.inr ⟨_, rfl, t0⟩)⟩ rfl rfl k (fun x_26 h_25 k => ?_)
    refine R_if0 rfl (fun c_27 => ?_) (fun c_27 => ?_)
    · have k := k.1 c_27
      refine R_ps 1 (pc2 := 22) (L2 := [some (vr (some w)), some (vi x1), some (vi x2), none]) (st2 := [vi 1, vr (some w)]) rfl ?_
      refine R_putI rfl t0 ?_
      show WP T N _ _ _ _ (si h_25 w 0 1) _
      generalize e_30 : si h_25 w 0 1 = h_29
      replace k := k h_29 e_30.symm
      refine R_ps 1 (pc2 := 26) (L2 := [some (vr (some w)), some (vi x1), some (vi x2), none]) (st2 := [vr (some w)]) rfl ?_
      refine R_getI rfl t0 ?_
      refine R_ps 1 (pc2 := 30) (L2 := [some (vr (some w)), some (vi x1), some (vi x2), none]) (st2 := [vi 1, vi (gi h_29 w 0)]) rfl ?_
      refine R_if rfl (fun c_32 => ?_) (fun c_32 => ?_)
      · have k := k.2 c_32
        refine R_ps 2 (pc2 := 37) (L2 := [some (vr (some w)), some (vi x1), some (vi x2), none]) (st2 := [vi x1, vr (some w)]) rfl ?_
        refine R_cI (as := [vr (some w), vi x1]) rfl rfl ⟨Nat.le_of_ble_eq_true rfl, Nat.le_of_ble_eq_true rfl, rfl, (Or.inr ⟨_, rfl, t0⟩)⟩ rfl rfl k (fun x_35 h_34 k => ?_)
        refine R_if0 rfl (fun c_36 => ?_) (fun c_36 => ?_)
        · have k := k.1 c_36
          exact R_drop k (LE_of (L := [some (vr (some w)), none, none, none]) (L2 := [some (vr (some w)), some (vi x1), some (vi x2), none]) ⟨rfl, trivial⟩)
        · have k := k.2 c_36
          refine R_ps 5 (pc2 := 48) (L2 := [some (vr (some w)), some (vi x1), some (vi x2), none]) (st2 := [vi 1, vi 1, vi x2, vi x1, vr (some w)]) rfl ?_
          refine R_cI (as := [vr (some w), vi x1, vi x2, vi 1, vi 1]) rfl rfl ⟨Nat.le_of_ble_eq_true rfl, Nat.le_of_ble_eq_true rfl, rfl, (Or.inr ⟨_, rfl, t0⟩)⟩ rfl rfl k (fun x_39 h_38 k => ?_)
          refine R_if0 rfl (fun c_40 => ?_) (fun c_40 => ?_)
          · have k := k.1 c_40
            exact R_drop k (LE_of (L := [some (vr (some w)), none, none, none]) (L2 := [some (vr (some w)), some (vi x1), some (vi x2), none]) ⟨rfl, trivial⟩)
          · have k := k.2 c_40
            refine R_ps 5 (pc2 := 62) (L2 := [some (vr (some w)), some (vi x1), some (vi x2), some (vi 1)]) (st2 := [vi 1, vr (some w)]) rfl ?_
            refine R_if0 rfl (fun c_41 => absurd (show (1 : Int32) = (0 : Int32) from c_41) (by decide)) (fun _ => ?_)
            refine R_ps 2 (pc2 := 70) (L2 := [some (vr (some w)), some (vi x1), some (vi x2), some (vi 1)]) (st2 := [vi 0, vr (some w)]) rfl ?_
            refine R_putI rfl t0 ?_
            show WP T N _ _ _ _ (si h_38 w 0 0) _
            generalize e_44 : si h_38 w 0 0 = h_43
            replace k := k h_43 e_44.symm
            refine R_ps 1 (pc2 := 74) (L2 := [some (vr (some w)), some (vi x1), some (vi x2), some (vi 1)]) (st2 := [vi 1]) rfl ?_
            exact R_zret rfl rfl (Or.inr rfl) ⟨_, rfl, k⟩
      · have k := k.1 (Classical.not_not.mp c_32)
        refine R_ps 1 (pc2 := 34) (L2 := [some (vr (some w)), some (vi x1), some (vi x2), none]) (st2 := [vi 0]) rfl ?_
        exact R_zret rfl rfl (Or.inl rfl) ⟨_, rfl, k⟩
    · have k := k.2 c_27
      refine R_ps 2 (pc2 := 22) (L2 := [some (vr (some w)), some (vi x1), some (vi x2), none]) (st2 := [vi 0, vr (some w)]) rfl ?_
      refine R_putI rfl t0 ?_
      show WP T N _ _ _ _ (si h_25 w 0 0) _
      generalize e_49 : si h_25 w 0 0 = h_48
      replace k := k h_48 e_49.symm
      refine R_ps 1 (pc2 := 26) (L2 := [some (vr (some w)), some (vi x1), some (vi x2), none]) (st2 := [vr (some w)]) rfl ?_
      refine R_getI rfl t0 ?_
      refine R_ps 1 (pc2 := 30) (L2 := [some (vr (some w)), some (vi x1), some (vi x2), none]) (st2 := [vi 1, vi (gi h_48 w 0)]) rfl ?_
      refine R_if rfl (fun c_51 => ?_) (fun c_51 => ?_)
      · have k := k.2 c_51
        refine R_ps 2 (pc2 := 37) (L2 := [some (vr (some w)), some (vi x1), some (vi x2), none]) (st2 := [vi x1, vr (some w)]) rfl ?_
        refine R_cI (as := [vr (some w), vi x1]) rfl rfl ⟨Nat.le_of_ble_eq_true rfl, Nat.le_of_ble_eq_true rfl, rfl, (Or.inr ⟨_, rfl, t0⟩)⟩ rfl rfl k (fun x_54 h_53 k => ?_)
        refine R_if0 rfl (fun c_55 => ?_) (fun c_55 => ?_)
        · have k := k.1 c_55
          exact R_drop k (LE_of (L := [some (vr (some w)), none, none, none]) (L2 := [some (vr (some w)), some (vi x1), some (vi x2), none]) ⟨rfl, trivial⟩)
        · have k := k.2 c_55
          refine R_ps 5 (pc2 := 48) (L2 := [some (vr (some w)), some (vi x1), some (vi x2), none]) (st2 := [vi 1, vi 1, vi x2, vi x1, vr (some w)]) rfl ?_
          refine R_cI (as := [vr (some w), vi x1, vi x2, vi 1, vi 1]) rfl rfl ⟨Nat.le_of_ble_eq_true rfl, Nat.le_of_ble_eq_true rfl, rfl, (Or.inr ⟨_, rfl, t0⟩)⟩ rfl rfl k (fun x_58 h_57 k => ?_)
          refine R_if0 rfl (fun c_59 => ?_) (fun c_59 => ?_)
          · have k := k.1 c_59
            exact R_drop k (LE_of (L := [some (vr (some w)), none, none, none]) (L2 := [some (vr (some w)), some (vi x1), some (vi x2), none]) ⟨rfl, trivial⟩)
          · have k := k.2 c_59
            refine R_ps 5 (pc2 := 62) (L2 := [some (vr (some w)), some (vi x1), some (vi x2), some (vi 1)]) (st2 := [vi 1, vr (some w)]) rfl ?_
            refine R_if0 rfl (fun c_60 => absurd (show (1 : Int32) = (0 : Int32) from c_60) (by decide)) (fun _ => ?_)
            refine R_ps 2 (pc2 := 70) (L2 := [some (vr (some w)), some (vi x1), some (vi x2), some (vi 1)]) (st2 := [vi 0, vr (some w)]) rfl ?_
            refine R_putI rfl t0 ?_
            show WP T N _ _ _ _ (si h_57 w 0 0) _
            generalize e_63 : si h_57 w 0 0 = h_62
            replace k := k h_62 e_63.symm
            refine R_ps 1 (pc2 := 74) (L2 := [some (vr (some w)), some (vi x1), some (vi x2), some (vi 1)]) (st2 := [vi 1]) rfl ?_
            exact R_zret rfl rfl (Or.inr rfl) ⟨_, rfl, k⟩
      · have k := k.1 (Classical.not_not.mp c_51)
        refine R_ps 1 (pc2 := 34) (L2 := [some (vr (some w)), some (vi x1), some (vi x2), none]) (st2 := [vi 0]) rfl ?_
        exact R_zret rfl rfl (Or.inl rfl) ⟨_, rfl, k⟩
theorem m216_58 {T N : Nat → Nat} {h : PH} {w : Nat} {K : Int32 → PH → Prop} (t0 : T w = 12) (k : (∀ h_3, h_3 = si h w 0 2 → K 0 h_3)) : WI T N 216 58 [some (vr (some w)), none, none, none] [] h K := by
  show WP T N 216 58 [some (vr (some w)), none, none, none] [] h _
  refine R_ps 4 (pc2 := 62) (L2 := [some (vr (some w)), none, none, some (vi 0)]) (st2 := [vi 0, vr (some w)]) rfl ?_
  refine R_if0 rfl (fun _ => ?_) (fun c_1 => absurd (show (0 : Int32) = (0 : Int32) by decide) c_1)
  refine R_ps 1 (pc2 := 70) (L2 := [some (vr (some w)), none, none, some (vi 0)]) (st2 := [vi 2, vr (some w)]) rfl ?_
  refine R_putI rfl t0 ?_
  show WP T N _ _ _ _ (si h w 0 2) _
  generalize e_4 : si h w 0 2 = h_3
  replace k := k h_3 e_4.symm
  refine R_ps 1 (pc2 := 74) (L2 := [some (vr (some w)), none, none, some (vi 0)]) (st2 := [vi 0]) rfl ?_
  exact R_zret rfl rfl (Or.inl rfl) ⟨_, rfl, k⟩
/-- DroneCorridorsModel.arrival -/
theorem m217 {T N : Nat → Nat} {h : PH} {w : Nat} {x1 : Int32} {x2 : Int32} {K : Int32 → PH → Prop} (t0 : T w = 12) (k : (CI T N 216 [vr (some w), vi x1, vi x2] h (fun x_3 h_2 => (((x_3 = 0 → (K 0 h_2)) ∧ (¬ (x_3 = 0) → (K (gi h_2 w 21) h_2))))))) : CI T N 217 [vr (some w), vi x1, vi x2] h K := by
  show WP T N 217 0 [some (vr (some w)), some (vi x1), some (vi x2)] [] h _
  refine R_ps 3 (pc2 := 3) (L2 := [some (vr (some w)), some (vi x1), some (vi x2)]) (st2 := [vi x2, vi x1, vr (some w)]) rfl ?_
  refine R_cI (as := [vr (some w), vi x1, vi x2]) rfl rfl ⟨Nat.le_of_ble_eq_true rfl, Nat.le_of_ble_eq_true rfl, rfl, (Or.inr ⟨_, rfl, t0⟩)⟩ rfl rfl k (fun x_3 h_2 k => ?_)
  refine R_if0 rfl (fun c_4 => ?_) (fun c_4 => ?_)
  · have k := k.1 c_4
    refine R_ps 1 (pc2 := 17) (L2 := [some (vr (some w)), some (vi x1), some (vi x2)]) (st2 := [vi 0]) rfl ?_
    exact R_iret rfl rfl ⟨_, rfl, k⟩
  · have k := k.2 c_4
    refine R_ps 1 (pc2 := 10) (L2 := [some (vr (some w)), some (vi x1), some (vi x2)]) (st2 := [vr (some w)]) rfl ?_
    refine R_getI rfl t0 ?_
    refine R_ps 1 (pc2 := 17) (L2 := [some (vr (some w)), some (vi x1), some (vi x2)]) (st2 := [vi (gi h_2 w 21)]) rfl ?_
    exact R_iret rfl rfl ⟨_, rfl, k⟩
/-- DroneCorridorsModel.planEnergy -/
theorem m218 {T N : Nat → Nat} {h : PH} {w : Nat} {x1 : Int32} {x2 : Int32} {K : Int32 → PH → Prop} (t0 : T w = 12) (k : (CI T N 216 [vr (some w), vi x1, vi x2] h (fun x_3 h_2 => (((x_3 = 0 → (K 0 h_2)) ∧ (¬ (x_3 = 0) → (K (gi h_2 w 22) h_2))))))) : CI T N 218 [vr (some w), vi x1, vi x2] h K := by
  show WP T N 218 0 [some (vr (some w)), some (vi x1), some (vi x2)] [] h _
  refine R_ps 3 (pc2 := 3) (L2 := [some (vr (some w)), some (vi x1), some (vi x2)]) (st2 := [vi x2, vi x1, vr (some w)]) rfl ?_
  refine R_cI (as := [vr (some w), vi x1, vi x2]) rfl rfl ⟨Nat.le_of_ble_eq_true rfl, Nat.le_of_ble_eq_true rfl, rfl, (Or.inr ⟨_, rfl, t0⟩)⟩ rfl rfl k (fun x_3 h_2 k => ?_)
  refine R_if0 rfl (fun c_4 => ?_) (fun c_4 => ?_)
  · have k := k.1 c_4
    refine R_ps 1 (pc2 := 17) (L2 := [some (vr (some w)), some (vi x1), some (vi x2)]) (st2 := [vi 0]) rfl ?_
    exact R_iret rfl rfl ⟨_, rfl, k⟩
  · have k := k.2 c_4
    refine R_ps 1 (pc2 := 10) (L2 := [some (vr (some w)), some (vi x1), some (vi x2)]) (st2 := [vr (some w)]) rfl ?_
    refine R_getI rfl t0 ?_
    refine R_ps 1 (pc2 := 17) (L2 := [some (vr (some w)), some (vi x1), some (vi x2)]) (st2 := [vi (gi h_2 w 22)]) rfl ?_
    exact R_iret rfl rfl ⟨_, rfl, k⟩
/-- DroneCorridorsModel.cancel -/
theorem m219 {T N : Nat → Nat} {h : PH} {w : Nat} {x1 : Int32} {K : Int32 → PH → Prop} (t0 : T w = 12) (k : (CI T N 164 [vr (some w), vi x1] h (fun x_3 h_2 => (((x_3 = 0 → (∀ h_6, h_6 = si h_2 w 0 1 → (((gi h_6 w 0) = 1 → (K 0 h_6)) ∧ (¬ ((gi h_6 w 0) = 1) → (CV T N 160 [vr (some w)] h_6 (fun h_11 => (CI T N 168 [vr (some w), vi x1, vi 5] h_11 (fun x_15 h_14 => (CI T N 193 [vr (some w), vi x1] h_14 (fun x_18 h_17 => (CI T N 193 [vr (some w), vi x1] h_17 (fun x_21 h_20 => (CV T N 169 [vr (some w), vi x1, vi 5, vi x_21] h_20 (fun h_23 => (CI T N 168 [vr (some w), vi x1, vi 0] h_23 (fun x_27 h_26 => (((x_27 = 2 → (CI T N 168 [vr (some w), vi x1, vi 3] h_26 (fun x_35 h_34 => (CV T N 169 [vr (some w), vi x1, vi 4, vi x_35] h_34 (fun h_37 => (K (x_15 - x_18) h_37)))))) ∧ (¬ (x_27 = 2) → (CV T N 169 [vr (some w), vi x1, vi 4, vi (-1)] h_26 (fun h_30 => (K (x_15 - x_18) h_30)))))))))))))))))))))) ∧ (¬ (x_3 = 0) → (∀ h_42, h_42 = si h_2 w 0 0 → (((gi h_42 w 0) = 1 → (K 0 h_42)) ∧ (¬ ((gi h_42 w 0) = 1) → (CV T N 160 [vr (some w)] h_42 (fun h_47 => (CI T N 168 [vr (some w), vi x1, vi 5] h_47 (fun x_51 h_50 => (CI T N 193 [vr (some w), vi x1] h_50 (fun x_54 h_53 => (CI T N 193 [vr (some w), vi x1] h_53 (fun x_57 h_56 => (CV T N 169 [vr (some w), vi x1, vi 5, vi x_57] h_56 (fun h_59 => (CI T N 168 [vr (some w), vi x1, vi 0] h_59 (fun x_63 h_62 => (((x_63 = 2 → (CI T N 168 [vr (some w), vi x1, vi 3] h_62 (fun x_71 h_70 => (CV T N 169 [vr (some w), vi x1, vi 4, vi x_71] h_70 (fun h_73 => (K (x_51 - x_54) h_73)))))) ∧ (¬ (x_63 = 2) → (CV T N 169 [vr (some w), vi x1, vi 4, vi (-1)] h_62 (fun h_66 => (K (x_51 - x_54) h_66))))))))))))))))))))))))))) : CI T N 219 [vr (some w), vi x1] h K := by
  show WP T N 219 0 [some (vr (some w)), some (vi x1), none] [] h _
  refine R_ps 3 (pc2 := 3) (L2 := [some (vr (some w)), some (vi x1), none]) (st2 := [vi x1, vr (some w), vr (some w)]) rfl ?_
  refine R_cI (as := [vr (some w), vi x1]) rfl rfl ⟨Nat.le_of_ble_eq_true rfl, Nat.le_of_ble_eq_true rfl, rfl, (Or.inr ⟨_, rfl, t0⟩)⟩ rfl rfl k (fun x_3 h_2 k => ?_)
  refine R_if0 rfl (fun c_4 => ?_) (fun c_4 => ?_)
  · have k := k.1 c_4
    refine R_ps 1 (pc2 := 14) (L2 := [some (vr (some w)), some (vi x1), none]) (st2 := [vi 1, vr (some w)]) rfl ?_
    refine R_putI rfl t0 ?_
    show WP T N _ _ _ _ (si h_2 w 0 1) _
    generalize e_7 : si h_2 w 0 1 = h_6
    replace k := k h_6 e_7.symm
    refine R_ps 1 (pc2 := 18) (L2 := [some (vr (some w)), some (vi x1), none]) (st2 := [vr (some w)]) rfl ?_
    refine R_getI rfl t0 ?_
    refine R_ps 1 (pc2 := 22) (L2 := [some (vr (some w)), some (vi x1), none]) (st2 := [vi 1, vi (gi h_6 w 0)]) rfl ?_
    refine R_if rfl (fun c_9 => ?_) (fun c_9 => ?_)
    · have k := k.2 c_9
      refine R_ps 1 (pc2 := 28) (L2 := [some (vr (some w)), some (vi x1), none]) (st2 := [vr (some w)]) rfl ?_
      refine R_cV (as := [vr (some w)]) rfl rfl ⟨Nat.le_of_ble_eq_true rfl, Nat.le_of_ble_eq_true rfl, rfl, (Or.inr ⟨_, rfl, t0⟩)⟩ rfl rfl k (fun h_11 k => ?_)
      refine R_ps 3 (pc2 := 34) (L2 := [some (vr (some w)), some (vi x1), none]) (st2 := [vi 5, vi x1, vr (some w)]) rfl ?_
      refine R_cI (as := [vr (some w), vi x1, vi 5]) rfl rfl ⟨Nat.le_of_ble_eq_true rfl, Nat.le_of_ble_eq_true rfl, rfl, (Or.inr ⟨_, rfl, t0⟩)⟩ rfl rfl k (fun x_15 h_14 k => ?_)
      refine R_ps 2 (pc2 := 39) (L2 := [some (vr (some w)), some (vi x1), none]) (st2 := [vi x1, vr (some w), vi x_15]) rfl ?_
      refine R_cI (as := [vr (some w), vi x1]) rfl rfl ⟨Nat.le_of_ble_eq_true rfl, Nat.le_of_ble_eq_true rfl, rfl, (Or.inr ⟨_, rfl, t0⟩)⟩ rfl rfl k (fun x_18 h_17 k => ?_)
      refine R_ps 7 (pc2 := 49) (L2 := [some (vr (some w)), some (vi x1), some (vi (x_15 - x_18))]) (st2 := [vi x1, vr (some w), vi 5, vi x1, vr (some w)]) rfl ?_
      refine R_cI (as := [vr (some w), vi x1]) rfl rfl ⟨Nat.le_of_ble_eq_true rfl, Nat.le_of_ble_eq_true rfl, rfl, (Or.inr ⟨_, rfl, t0⟩)⟩ rfl rfl k (fun x_21 h_20 k => ?_)
      refine R_cV (as := [vr (some w), vi x1, vi 5, vi x_21]) rfl rfl ⟨Nat.le_of_ble_eq_true rfl, Nat.le_of_ble_eq_true rfl, rfl, (Or.inr ⟨_, rfl, t0⟩)⟩ rfl rfl k (fun h_23 k => ?_)
      refine R_ps 6 (pc2 := 61) (L2 := [some (vr (some w)), some (vi x1), some (vi (x_15 - x_18))]) (st2 := [vi 0, vi x1, vr (some w), vi 4, vi x1, vr (some w)]) rfl ?_
      refine R_cI (as := [vr (some w), vi x1, vi 0]) rfl rfl ⟨Nat.le_of_ble_eq_true rfl, Nat.le_of_ble_eq_true rfl, rfl, (Or.inr ⟨_, rfl, t0⟩)⟩ rfl rfl k (fun x_27 h_26 k => ?_)
      refine R_ps 1 (pc2 := 65) (L2 := [some (vr (some w)), some (vi x1), some (vi (x_15 - x_18))]) (st2 := [vi 2, vi x_27, vi 4, vi x1, vr (some w)]) rfl ?_
      refine R_if rfl (fun c_28 => ?_) (fun c_28 => ?_)
      · have k := k.2 c_28
        refine R_ps 1 (pc2 := 78) (L2 := [some (vr (some w)), some (vi x1), some (vi (x_15 - x_18))]) (st2 := [vi (-1), vi 4, vi x1, vr (some w)]) rfl ?_
        refine R_cV (as := [vr (some w), vi x1, vi 4, vi (-1)]) rfl rfl ⟨Nat.le_of_ble_eq_true rfl, Nat.le_of_ble_eq_true rfl, rfl, (Or.inr ⟨_, rfl, t0⟩)⟩ rfl rfl k (fun h_30 k => ?_)
        refine R_ps 1 (pc2 := 82) (L2 := [some (vr (some w)), some (vi x1), some (vi (x_15 - x_18))]) (st2 := [vi (x_15 - x_18)]) rfl ?_
        exact R_iret rfl rfl ⟨_, rfl, k⟩
      · have k := k.1 (Classical.not_not.mp c_28)
        refine R_ps 3 (pc2 := 71) (L2 := [some (vr (some w)), some (vi x1), some (vi (x_15 - x_18))]) (st2 := [vi 3, vi x1, vr (some w), vi 4, vi x1, vr (some w)]) rfl ?_
        refine R_cI (as := [vr (some w), vi x1, vi 3]) rfl rfl ⟨Nat.le_of_ble_eq_true rfl, Nat.le_of_ble_eq_true rfl, rfl, (Or.inr ⟨_, rfl, t0⟩)⟩ rfl rfl k (fun x_35 h_34 k => ?_)
        refine R_ps 1 (pc2 := 78) (L2 := [some (vr (some w)), some (vi x1), some (vi (x_15 - x_18))]) (st2 := [vi x_35, vi 4, vi x1, vr (some w)]) rfl ?_
        refine R_cV (as := [vr (some w), vi x1, vi 4, vi x_35]) rfl rfl ⟨Nat.le_of_ble_eq_true rfl, Nat.le_of_ble_eq_true rfl, rfl, (Or.inr ⟨_, rfl, t0⟩)⟩ rfl rfl k (fun h_37 k => ?_)
        refine R_ps 1 (pc2 := 82) (L2 := [some (vr (some w)), some (vi x1), some (vi (x_15 - x_18))]) (st2 := [vi (x_15 - x_18)]) rfl ?_
        exact R_iret rfl rfl ⟨_, rfl, k⟩
    · have k := k.1 (Classical.not_not.mp c_9)
      refine R_ps 1 (pc2 := 26) (L2 := [some (vr (some w)), some (vi x1), none]) (st2 := [vi 0]) rfl ?_
      exact R_iret rfl rfl ⟨_, rfl, k⟩
  · have k := k.2 c_4
    refine R_ps 2 (pc2 := 14) (L2 := [some (vr (some w)), some (vi x1), none]) (st2 := [vi 0, vr (some w)]) rfl ?_
    refine R_putI rfl t0 ?_
    show WP T N _ _ _ _ (si h_2 w 0 0) _
    generalize e_43 : si h_2 w 0 0 = h_42
    replace k := k h_42 e_43.symm
    refine R_ps 1 (pc2 := 18) (L2 := [some (vr (some w)), some (vi x1), none]) (st2 := [vr (some w)]) rfl ?_
    refine R_getI rfl t0 ?_
    refine R_ps 1 (pc2 := 22) (L2 := [some (vr (some w)), some (vi x1), none]) (st2 := [vi 1, vi (gi h_42 w 0)]) rfl ?_
    refine R_if rfl (fun c_45 => ?_) (fun c_45 => ?_)
    · have k := k.2 c_45
      refine R_ps 1 (pc2 := 28) (L2 := [some (vr (some w)), some (vi x1), none]) (st2 := [vr (some w)]) rfl ?_
      refine R_cV (as := [vr (some w)]) rfl rfl ⟨Nat.le_of_ble_eq_true rfl, Nat.le_of_ble_eq_true rfl, rfl, (Or.inr ⟨_, rfl, t0⟩)⟩ rfl rfl k (fun h_47 k => ?_)
      refine R_ps 3 (pc2 := 34) (L2 := [some (vr (some w)), some (vi x1), none]) (st2 := [vi 5, vi x1, vr (some w)]) rfl ?_
      refine R_cI (as := [vr (some w), vi x1, vi 5]) rfl rfl ⟨Nat.le_of_ble_eq_true rfl, Nat.le_of_ble_eq_true rfl, rfl, (Or.inr ⟨_, rfl, t0⟩)⟩ rfl rfl k (fun x_51 h_50 k => ?_)
      refine R_ps 2 (pc2 := 39) (L2 := [some (vr (some w)), some (vi x1), none]) (st2 := [vi x1, vr (some w), vi x_51]) rfl ?_
      refine R_cI (as := [vr (some w), vi x1]) rfl rfl ⟨Nat.le_of_ble_eq_true rfl, Nat.le_of_ble_eq_true rfl, rfl, (Or.inr ⟨_, rfl, t0⟩)⟩ rfl rfl k (fun x_54 h_53 k => ?_)
      refine R_ps 7 (pc2 := 49) (L2 := [some (vr (some w)), some (vi x1), some (vi (x_51 - x_54))]) (st2 := [vi x1, vr (some w), vi 5, vi x1, vr (some w)]) rfl ?_
      refine R_cI (as := [vr (some w), vi x1]) rfl rfl ⟨Nat.le_of_ble_eq_true rfl, Nat.le_of_ble_eq_true rfl, rfl, (Or.inr ⟨_, rfl, t0⟩)⟩ rfl rfl k (fun x_57 h_56 k => ?_)
      refine R_cV (as := [vr (some w), vi x1, vi 5, vi x_57]) rfl rfl ⟨Nat.le_of_ble_eq_true rfl, Nat.le_of_ble_eq_true rfl, rfl, (Or.inr ⟨_, rfl, t0⟩)⟩ rfl rfl k (fun h_59 k => ?_)
      refine R_ps 6 (pc2 := 61) (L2 := [some (vr (some w)), some (vi x1), some (vi (x_51 - x_54))]) (st2 := [vi 0, vi x1, vr (some w), vi 4, vi x1, vr (some w)]) rfl ?_
      refine R_cI (as := [vr (some w), vi x1, vi 0]) rfl rfl ⟨Nat.le_of_ble_eq_true rfl, Nat.le_of_ble_eq_true rfl, rfl, (Or.inr ⟨_, rfl, t0⟩)⟩ rfl rfl k (fun x_63 h_62 k => ?_)
      refine R_ps 1 (pc2 := 65) (L2 := [some (vr (some w)), some (vi x1), some (vi (x_51 - x_54))]) (st2 := [vi 2, vi x_63, vi 4, vi x1, vr (some w)]) rfl ?_
      refine R_if rfl (fun c_64 => ?_) (fun c_64 => ?_)
      · have k := k.2 c_64
        refine R_ps 1 (pc2 := 78) (L2 := [some (vr (some w)), some (vi x1), some (vi (x_51 - x_54))]) (st2 := [vi (-1), vi 4, vi x1, vr (some w)]) rfl ?_
        refine R_cV (as := [vr (some w), vi x1, vi 4, vi (-1)]) rfl rfl ⟨Nat.le_of_ble_eq_true rfl, Nat.le_of_ble_eq_true rfl, rfl, (Or.inr ⟨_, rfl, t0⟩)⟩ rfl rfl k (fun h_66 k => ?_)
        refine R_ps 1 (pc2 := 82) (L2 := [some (vr (some w)), some (vi x1), some (vi (x_51 - x_54))]) (st2 := [vi (x_51 - x_54)]) rfl ?_
        exact R_iret rfl rfl ⟨_, rfl, k⟩
      · have k := k.1 (Classical.not_not.mp c_64)
        refine R_ps 3 (pc2 := 71) (L2 := [some (vr (some w)), some (vi x1), some (vi (x_51 - x_54))]) (st2 := [vi 3, vi x1, vr (some w), vi 4, vi x1, vr (some w)]) rfl ?_
        refine R_cI (as := [vr (some w), vi x1, vi 3]) rfl rfl ⟨Nat.le_of_ble_eq_true rfl, Nat.le_of_ble_eq_true rfl, rfl, (Or.inr ⟨_, rfl, t0⟩)⟩ rfl rfl k (fun x_71 h_70 k => ?_)
        refine R_ps 1 (pc2 := 78) (L2 := [some (vr (some w)), some (vi x1), some (vi (x_51 - x_54))]) (st2 := [vi x_71, vi 4, vi x1, vr (some w)]) rfl ?_
        refine R_cV (as := [vr (some w), vi x1, vi 4, vi x_71]) rfl rfl ⟨Nat.le_of_ble_eq_true rfl, Nat.le_of_ble_eq_true rfl, rfl, (Or.inr ⟨_, rfl, t0⟩)⟩ rfl rfl k (fun h_73 k => ?_)
        refine R_ps 1 (pc2 := 82) (L2 := [some (vr (some w)), some (vi x1), some (vi (x_51 - x_54))]) (st2 := [vi (x_51 - x_54)]) rfl ?_
        exact R_iret rfl rfl ⟨_, rfl, k⟩
    · have k := k.1 (Classical.not_not.mp c_45)
      refine R_ps 1 (pc2 := 26) (L2 := [some (vr (some w)), some (vi x1), none]) (st2 := [vi 0]) rfl ?_
      exact R_iret rfl rfl ⟨_, rfl, k⟩
/-- DroneCorridorsModel.loses -/
theorem m220 {T N : Nat → Nat} {h : PH} {w : Nat} {x1 : Int32} {K : PH → Prop} (t0 : T w = 12) (k : (CV T N 169 [vr (some w), vi x1, vi 0, vi 3] h (fun h_2 => (CV T N 169 [vr (some w), vi x1, vi 5, vi 0] h_2 (fun h_5 => (K h_5)))))) : CV T N 220 [vr (some w), vi x1] h K := by
  show WP T N 220 0 [some (vr (some w)), some (vi x1)] [] h _
  refine R_ps 4 (pc2 := 4) (L2 := [some (vr (some w)), some (vi x1)]) (st2 := [vi 3, vi 0, vi x1, vr (some w)]) rfl ?_
  refine R_cV (as := [vr (some w), vi x1, vi 0, vi 3]) rfl rfl ⟨Nat.le_of_ble_eq_true rfl, Nat.le_of_ble_eq_true rfl, rfl, (Or.inr ⟨_, rfl, t0⟩)⟩ rfl rfl k (fun h_2 k => ?_)
  refine R_ps 4 (pc2 := 11) (L2 := [some (vr (some w)), some (vi x1)]) (st2 := [vi 0, vi 5, vi x1, vr (some w)]) rfl ?_
  refine R_cV (as := [vr (some w), vi x1, vi 5, vi 0]) rfl rfl ⟨Nat.le_of_ble_eq_true rfl, Nat.le_of_ble_eq_true rfl, rfl, (Or.inr ⟨_, rfl, t0⟩)⟩ rfl rfl k (fun h_5 k => ?_)
  exact R_ret rfl rfl ⟨rfl, k⟩
/-- DroneCorridorsModel.drain -/
theorem m221 {T N : Nat → Nat} {h : PH} {w : Nat} {x1 : Int32} {x2 : Int32} {K : Int32 → PH → Prop} (t0 : T w = 12) (k : (CI T N 164 [vr (some w), vi x1] h (fun x_3 h_2 => (((x_3 = 0 → (∀ h_161, h_161 = si h_2 w 0 1 → ((0 < (gi h_161 w 0) → (K 0 h_161)) ∧ (¬ (0 < (gi h_161 w 0)) → (CV T N 160 [vr (some w)] h_161 (fun h_166 => (CI T N 168 [vr (some w), vi x1, vi 1] h_166 (fun x_170 h_169 => (CI T N 168 [vr (some w), vi x1, vi 0] h_169 (fun x_173 h_172 => (((x_173 = 2 → (((0 < x_170 → ((((x_170 - x2) < 1 → (CV T N 169 [vr (some w), vi x1, vi 1, vi 1] h_172 (fun h_195 => (CI T N 168 [vr (some w), vi x1, vi 12] h_195 (fun x_199 h_198 => (CV T N 169 [vr (some w), vi x1, vi 12, vi ((x_199 + x_170) - 1)] h_198 (fun h_201 => (CI T N 168 [vr (some w), vi x1, vi 0] h_201 (fun x_205 h_204 => (((x_205 = 1 → (WI T N 221 152 [none, none, none, none, none, some (vi 1)] [] h_204 K)) ∧ (¬ (x_205 = 1) → (WI T N 221 152 [none, none, none, none, none, some (vi 1)] [] h_204 K))))))))))))) ∧ (¬ ((x_170 - x2) < 1) → (CV T N 169 [vr (some w), vi x1, vi 1, vi (x_170 - x2)] h_172 (fun h_178 => (CI T N 168 [vr (some w), vi x1, vi 12] h_178 (fun x_182 h_181 => (CV T N 169 [vr (some w), vi x1, vi 12, vi ((x_182 + x_170) - (x_170 - x2))] h_181 (fun h_184 => (CI T N 168 [vr (some w), vi x1, vi 0] h_184 (fun x_188 h_187 => (((x_188 = 1 → ((((x_170 - x2) = 0 → (CV T N 220 [vr (some w), vi x1] h_187 (fun h_192 => (WI T N 221 152 [none, none, none, none, none, some (vi (x_170 - x2))] [] h_192 K)))) ∧ (¬ ((x_170 - x2) = 0) → (WI T N 221 152 [none, none, none, none, none, some (vi (x_170 - x2))] [] h_187 K))))) ∧ (¬ (x_188 = 1) → (WI T N 221 152 [none, none, none, none, none, some (vi (x_170 - x2))] [] h_187 K)))))))))))))))) ∧ (¬ (0 < x_170) → (WI T N 221 84 [some (vr (some w)), some (vi x1), some (vi x2), some (vi x_170), none, none] [] h_172 K))))) ∧ (¬ (x_173 = 2) → (WI T N 221 84 [some (vr (some w)), some (vi x1), some (vi x2), some (vi x_170), none, none] [] h_172 K)))))))))))))) ∧ (¬ (x_3 = 0) → (CI T N 158 [vi x2, vi 1, vi 200] h_2 (fun x_7 h_6 => (((x_7 = 0 → (∀ h_112, h_112 = si h_6 w 0 2 → ((0 < (gi h_112 w 0) → (K 0 h_112)) ∧ (¬ (0 < (gi h_112 w 0)) → (CV T N 160 [vr (some w)] h_112 (fun h_117 => (CI T N 168 [vr (some w), vi x1, vi 1] h_117 (fun x_121 h_120 => (CI T N 168 [vr (some w), vi x1, vi 0] h_120 (fun x_124 h_123 => (((x_124 = 2 → (((0 < x_121 → ((((x_121 - x2) < 1 → (CV T N 169 [vr (some w), vi x1, vi 1, vi 1] h_123 (fun h_146 => (CI T N 168 [vr (some w), vi x1, vi 12] h_146 (fun x_150 h_149 => (CV T N 169 [vr (some w), vi x1, vi 12, vi ((x_150 + x_121) - 1)] h_149 (fun h_152 => (CI T N 168 [vr (some w), vi x1, vi 0] h_152 (fun x_156 h_155 => (((x_156 = 1 → (WI T N 221 152 [none, none, none, none, none, some (vi 1)] [] h_155 K)) ∧ (¬ (x_156 = 1) → (WI T N 221 152 [none, none, none, none, none, some (vi 1)] [] h_155 K))))))))))))) ∧ (¬ ((x_121 - x2) < 1) → (CV T N 169 [vr (some w), vi x1, vi 1, vi (x_121 - x2)] h_123 (fun h_129 => (CI T N 168 [vr (some w), vi x1, vi 12] h_129 (fun x_133 h_132 => (CV T N 169 [vr (some w), vi x1, vi 12, vi ((x_133 + x_121) - (x_121 - x2))] h_132 (fun h_135 => (CI T N 168 [vr (some w), vi x1, vi 0] h_135 (fun x_139 h_138 => (((x_139 = 1 → ((((x_121 - x2) = 0 → (CV T N 220 [vr (some w), vi x1] h_138 (fun h_143 => (WI T N 221 152 [none, none, none, none, none, some (vi (x_121 - x2))] [] h_143 K)))) ∧ (¬ ((x_121 - x2) = 0) → (WI T N 221 152 [none, none, none, none, none, some (vi (x_121 - x2))] [] h_138 K))))) ∧ (¬ (x_139 = 1) → (WI T N 221 152 [none, none, none, none, none, some (vi (x_121 - x2))] [] h_138 K)))))))))))))))) ∧ (¬ (0 < x_121) → (WI T N 221 84 [some (vr (some w)), some (vi x1), some (vi x2), some (vi x_121), none, none] [] h_123 K))))) ∧ (¬ (x_124 = 2) → (WI T N 221 84 [some (vr (some w)), some (vi x1), some (vi x2), some (vi x_121), none, none] [] h_123 K)))))))))))))) ∧ (¬ (x_7 = 0) → (CI T N 168 [vr (some w), vi x1, vi 0] h_6 (fun x_11 h_10 => (((x_11 = 3 → (∀ h_63, h_63 = si h_10 w 0 3 → ((0 < (gi h_63 w 0) → (K 0 h_63)) ∧ (¬ (0 < (gi h_63 w 0)) → (CV T N 160 [vr (some w)] h_63 (fun h_68 => (CI T N 168 [vr (some w), vi x1, vi 1] h_68 (fun x_72 h_71 => (CI T N 168 [vr (some w), vi x1, vi 0] h_71 (fun x_75 h_74 => (((x_75 = 2 → (((0 < x_72 → ((((x_72 - x2) < 1 → (CV T N 169 [vr (some w), vi x1, vi 1, vi 1] h_74 (fun h_97 => (CI T N 168 [vr (some w), vi x1, vi 12] h_97 (fun x_101 h_100 => (CV T N 169 [vr (some w), vi x1, vi 12, vi ((x_101 + x_72) - 1)] h_100 (fun h_103 => (CI T N 168 [vr (some w), vi x1, vi 0] h_103 (fun x_107 h_106 => (((x_107 = 1 → (WI T N 221 152 [none, none, none, none, none, some (vi 1)] [] h_106 K)) ∧ (¬ (x_107 = 1) → (WI T N 221 152 [none, none, none, none, none, some (vi 1)] [] h_106 K))))))))))))) ∧ (¬ ((x_72 - x2) < 1) → (CV T N 169 [vr (some w), vi x1, vi 1, vi (x_72 - x2)] h_74 (fun h_80 => (CI T N 168 [vr (some w), vi x1, vi 12] h_80 (fun x_84 h_83 => (CV T N 169 [vr (some w), vi x1, vi 12, vi ((x_84 + x_72) - (x_72 - x2))] h_83 (fun h_86 => (CI T N 168 [vr (some w), vi x1, vi 0] h_86 (fun x_90 h_89 => (((x_90 = 1 → ((((x_72 - x2) = 0 → (CV T N 220 [vr (some w), vi x1] h_89 (fun h_94 => (WI T N 221 152 [none, none, none, none, none, some (vi (x_72 - x2))] [] h_94 K)))) ∧ (¬ ((x_72 - x2) = 0) → (WI T N 221 152 [none, none, none, none, none, some (vi (x_72 - x2))] [] h_89 K))))) ∧ (¬ (x_90 = 1) → (WI T N 221 152 [none, none, none, none, none, some (vi (x_72 - x2))] [] h_89 K)))))))))))))))) ∧ (¬ (0 < x_72) → (WI T N 221 84 [some (vr (some w)), some (vi x1), some (vi x2), some (vi x_72), none, none] [] h_74 K))))) ∧ (¬ (x_75 = 2) → (WI T N 221 84 [some (vr (some w)), some (vi x1), some (vi x2), some (vi x_72), none, none] [] h_74 K)))))))))))))) ∧ (¬ (x_11 = 3) → (∀ h_14, h_14 = si h_10 w 0 0 → ((0 < (gi h_14 w 0) → (K 0 h_14)) ∧ (¬ (0 < (gi h_14 w 0)) → (CV T N 160 [vr (some w)] h_14 (fun h_19 => (CI T N 168 [vr (some w), vi x1, vi 1] h_19 (fun x_23 h_22 => (CI T N 168 [vr (some w), vi x1, vi 0] h_22 (fun x_26 h_25 => (((x_26 = 2 → (((0 < x_23 → ((((x_23 - x2) < 1 → (CV T N 169 [vr (some w), vi x1, vi 1, vi 1] h_25 (fun h_48 => (CI T N 168 [vr (some w), vi x1, vi 12] h_48 (fun x_52 h_51 => (CV T N 169 [vr (some w), vi x1, vi 12, vi ((x_52 + x_23) - 1)] h_51 (fun h_54 => (CI T N 168 [vr (some w), vi x1, vi 0] h_54 (fun x_58 h_57 => (((x_58 = 1 → (WI T N 221 152 [none, none, none, none, none, some (vi 1)] [] h_57 K)) ∧ (¬ (x_58 = 1) → (WI T N 221 152 [none, none, none, none, none, some (vi 1)] [] h_57 K))))))))))))) ∧ (¬ ((x_23 - x2) < 1) → (CV T N 169 [vr (some w), vi x1, vi 1, vi (x_23 - x2)] h_25 (fun h_31 => (CI T N 168 [vr (some w), vi x1, vi 12] h_31 (fun x_35 h_34 => (CV T N 169 [vr (some w), vi x1, vi 12, vi ((x_35 + x_23) - (x_23 - x2))] h_34 (fun h_37 => (CI T N 168 [vr (some w), vi x1, vi 0] h_37 (fun x_41 h_40 => (((x_41 = 1 → ((((x_23 - x2) = 0 → (CV T N 220 [vr (some w), vi x1] h_40 (fun h_45 => (WI T N 221 152 [none, none, none, none, none, some (vi (x_23 - x2))] [] h_45 K)))) ∧ (¬ ((x_23 - x2) = 0) → (WI T N 221 152 [none, none, none, none, none, some (vi (x_23 - x2))] [] h_40 K))))) ∧ (¬ (x_41 = 1) → (WI T N 221 152 [none, none, none, none, none, some (vi (x_23 - x2))] [] h_40 K)))))))))))))))) ∧ (¬ (0 < x_23) → (WI T N 221 84 [some (vr (some w)), some (vi x1), some (vi x2), some (vi x_23), none, none] [] h_25 K))))) ∧ (¬ (x_26 = 2) → (WI T N 221 84 [some (vr (some w)), some (vi x1), some (vi x2), some (vi x_23), none, none] [] h_25 K))))))))))))))))))))))))))))) : CI T N 221 [vr (some w), vi x1, vi x2] h K := by
  show WP T N 221 0 [some (vr (some w)), some (vi x1), some (vi x2), none, none, none] [] h _
  refine R_ps 3 (pc2 := 3) (L2 := [some (vr (some w)), some (vi x1), some (vi x2), none, none, none]) (st2 := [vi x1, vr (some w), vr (some w)]) rfl ?_
  refine R_cI (as := [vr (some w), vi x1]) rfl rfl ⟨Nat.le_of_ble_eq_true rfl, Nat.le_of_ble_eq_true rfl, rfl, (Or.inr ⟨_, rfl, t0⟩)⟩ rfl rfl k (fun x_3 h_2 k => ?_)
  refine R_if0 rfl (fun c_4 => ?_) (fun c_4 => ?_)
  · have k := k.2 c_4
    refine R_ps 3 (pc2 := 18) (L2 := [some (vr (some w)), some (vi x1), some (vi x2), none, none, none]) (st2 := [vi 200, vi 1, vi x2, vr (some w)]) rfl ?_
    refine R_cI (as := [vi x2, vi 1, vi 200]) rfl rfl ⟨Nat.le_of_ble_eq_true rfl, Nat.le_of_ble_eq_true rfl, rfl, (Or.inl rfl)⟩ rfl rfl k (fun x_7 h_6 k => ?_)
    refine R_if0 rfl (fun c_8 => ?_) (fun c_8 => ?_)
    · have k := k.2 c_8
      refine R_ps 3 (pc2 := 31) (L2 := [some (vr (some w)), some (vi x1), some (vi x2), none, none, none]) (st2 := [vi 0, vi x1, vr (some w), vr (some w)]) rfl ?_
      refine R_cI (as := [vr (some w), vi x1, vi 0]) rfl rfl ⟨Nat.le_of_ble_eq_true rfl, Nat.le_of_ble_eq_true rfl, rfl, (Or.inr ⟨_, rfl, t0⟩)⟩ rfl rfl k (fun x_11 h_10 k => ?_)
      refine R_ps 1 (pc2 := 35) (L2 := [some (vr (some w)), some (vi x1), some (vi x2), none, none, none]) (st2 := [vi 3, vi x_11, vr (some w)]) rfl ?_
      refine R_if rfl (fun c_12 => ?_) (fun c_12 => ?_)
      · have k := k.2 c_12
        refine R_ps 1 (pc2 := 43) (L2 := [some (vr (some w)), some (vi x1), some (vi x2), none, none, none]) (st2 := [vi 0, vr (some w)]) rfl ?_
        refine R_putI rfl t0 ?_
        show WP T N _ _ _ _ (si h_10 w 0 0) _
        generalize e_15 : si h_10 w 0 0 = h_14
        replace k := k h_14 e_15.symm
        refine R_ps 1 (pc2 := 47) (L2 := [some (vr (some w)), some (vi x1), some (vi x2), none, none, none]) (st2 := [vr (some w)]) rfl ?_
        refine R_getI rfl t0 ?_
        refine R_if0 rfl (fun c_17 => ?_) (fun c_17 => ?_)
        · have k := k.2 (i32_nlt c_17)
          refine R_ps 1 (pc2 := 56) (L2 := [some (vr (some w)), some (vi x1), some (vi x2), none, none, none]) (st2 := [vr (some w)]) rfl ?_
          refine R_cV (as := [vr (some w)]) rfl rfl ⟨Nat.le_of_ble_eq_true rfl, Nat.le_of_ble_eq_true rfl, rfl, (Or.inr ⟨_, rfl, t0⟩)⟩ rfl rfl k (fun h_19 k => ?_)
          refine R_ps 3 (pc2 := 62) (L2 := [some (vr (some w)), some (vi x1), some (vi x2), none, none, none]) (st2 := [vi 1, vi x1, vr (some w)]) rfl ?_
          refine R_cI (as := [vr (some w), vi x1, vi 1]) rfl rfl ⟨Nat.le_of_ble_eq_true rfl, Nat.le_of_ble_eq_true rfl, rfl, (Or.inr ⟨_, rfl, t0⟩)⟩ rfl rfl k (fun x_23 h_22 k => ?_)
          refine R_ps 4 (pc2 := 69) (L2 := [some (vr (some w)), some (vi x1), some (vi x2), some (vi x_23), none, none]) (st2 := [vi 0, vi x1, vr (some w)]) rfl ?_
          refine R_cI (as := [vr (some w), vi x1, vi 0]) rfl rfl ⟨Nat.le_of_ble_eq_true rfl, Nat.le_of_ble_eq_true rfl, rfl, (Or.inr ⟨_, rfl, t0⟩)⟩ rfl rfl k (fun x_26 h_25 k => ?_)
          refine R_ps 1 (pc2 := 73) (L2 := [some (vr (some w)), some (vi x1), some (vi x2), some (vi x_23), none, none]) (st2 := [vi 2, vi x_26]) rfl ?_
          refine R_if rfl (fun c_27 => ?_) (fun c_27 => ?_)
          · have k := k.2 c_27
            exact k
          · have k := k.1 (Classical.not_not.mp c_27)
            refine R_ps 1 (pc2 := 77) (L2 := [some (vr (some w)), some (vi x1), some (vi x2), some (vi x_23), none, none]) (st2 := [vi x_23]) rfl ?_
            refine R_if0 rfl (fun c_28 => ?_) (fun c_28 => ?_)
            · have k := k.2 (i32_nlt c_28)
              exact k
            · have k := k.1 (i32_lt c_28)
              refine R_ps 7 (pc2 := 92) (L2 := [some (vr (some w)), some (vi x1), some (vi x2), some (vi x_23), some (vi 1), none]) (st2 := [vi 1, vi (x_23 - x2)]) rfl ?_
              refine R_if rfl (fun c_29 => ?_) (fun c_29 => ?_)
              · have k := k.2 (i32_nlt c_29)
                refine R_ps 8 (pc2 := 110) (L2 := [some (vr (some w)), some (vi x1), some (vi x2), some (vi x_23), some (vi 1), some (vi (x_23 - x2))]) (st2 := [vi (x_23 - x2), vi 1, vi x1, vr (some w)]) rfl ?_
                refine R_cV (as := [vr (some w), vi x1, vi 1, vi (x_23 - x2)]) rfl rfl ⟨Nat.le_of_ble_eq_true rfl, Nat.le_of_ble_eq_true rfl, rfl, (Or.inr ⟨_, rfl, t0⟩)⟩ rfl rfl k (fun h_31 k => ?_)
                refine R_ps 6 (pc2 := 121) (L2 := [some (vr (some w)), some (vi x1), some (vi x2), some (vi x_23), some (vi 1), some (vi (x_23 - x2))]) (st2 := [vi 12, vi x1, vr (some w), vi 12, vi x1, vr (some w)]) rfl ?_
                refine R_cI (as := [vr (some w), vi x1, vi 12]) rfl rfl ⟨Nat.le_of_ble_eq_true rfl, Nat.le_of_ble_eq_true rfl, rfl, (Or.inr ⟨_, rfl, t0⟩)⟩ rfl rfl k (fun x_35 h_34 k => ?_)
                refine R_ps 4 (pc2 := 129) (L2 := [some (vr (some w)), some (vi x1), some (vi x2), some (vi x_23), some (vi 1), some (vi (x_23 - x2))]) (st2 := [vi ((x_35 + x_23) - (x_23 - x2)), vi 12, vi x1, vr (some w)]) rfl ?_
                refine R_cV (as := [vr (some w), vi x1, vi 12, vi ((x_35 + x_23) - (x_23 - x2))]) rfl rfl ⟨Nat.le_of_ble_eq_true rfl, Nat.le_of_ble_eq_true rfl, rfl, (Or.inr ⟨_, rfl, t0⟩)⟩ rfl rfl k (fun h_37 k => ?_)
                refine R_ps 3 (pc2 := 135) (L2 := [some (vr (some w)), some (vi x1), some (vi x2), some (vi x_23), some (vi 1), some (vi (x_23 - x2))]) (st2 := [vi 0, vi x1, vr (some w)]) rfl ?_
                refine R_cI (as := [vr (some w), vi x1, vi 0]) rfl rfl ⟨Nat.le_of_ble_eq_true rfl, Nat.le_of_ble_eq_true rfl, rfl, (Or.inr ⟨_, rfl, t0⟩)⟩ rfl rfl k (fun x_41 h_40 k => ?_)
                refine R_ps 1 (pc2 := 139) (L2 := [some (vr (some w)), some (vi x1), some (vi x2), some (vi x_23), some (vi 1), some (vi (x_23 - x2))]) (st2 := [vi 1, vi x_41]) rfl ?_
                refine R_if rfl (fun c_42 => ?_) (fun c_42 => ?_)
                · have k := k.2 c_42
                  exact R_drop k (LE_of (L := [none, none, none, none, none, some (vi (x_23 - x2))]) (L2 := [some (vr (some w)), some (vi x1), some (vi x2), some (vi x_23), some (vi 1), some (vi (x_23 - x2))]) ⟨rfl, trivial⟩)
                · have k := k.1 (Classical.not_not.mp c_42)
                  refine R_ps 1 (pc2 := 144) (L2 := [some (vr (some w)), some (vi x1), some (vi x2), some (vi x_23), some (vi 1), some (vi (x_23 - x2))]) (st2 := [vi (x_23 - x2)]) rfl ?_
                  refine R_if0 rfl (fun c_43 => ?_) (fun c_43 => ?_)
                  · have k := k.2 c_43
                    exact R_drop k (LE_of (L := [none, none, none, none, none, some (vi (x_23 - x2))]) (L2 := [some (vr (some w)), some (vi x1), some (vi x2), some (vi x_23), some (vi 1), some (vi (x_23 - x2))]) ⟨rfl, trivial⟩)
                  · have k := k.1 (Classical.not_not.mp c_43)
                    refine R_ps 2 (pc2 := 149) (L2 := [some (vr (some w)), some (vi x1), some (vi x2), some (vi x_23), some (vi 1), some (vi (x_23 - x2))]) (st2 := [vi x1, vr (some w)]) rfl ?_
                    refine R_cV (as := [vr (some w), vi x1]) rfl rfl ⟨Nat.le_of_ble_eq_true rfl, Nat.le_of_ble_eq_true rfl, rfl, (Or.inr ⟨_, rfl, t0⟩)⟩ rfl rfl k (fun h_45 k => ?_)
                    exact R_drop k (LE_of (L := [none, none, none, none, none, some (vi (x_23 - x2))]) (L2 := [some (vr (some w)), some (vi x1), some (vi x2), some (vi x_23), some (vi 1), some (vi (x_23 - x2))]) ⟨rfl, trivial⟩)
              · have k := k.1 (i32_lt c_29)
                refine R_ps 7 (pc2 := 110) (L2 := [some (vr (some w)), some (vi x1), some (vi x2), some (vi x_23), some (vi 1), some (vi 1)]) (st2 := [vi 1, vi 1, vi x1, vr (some w)]) rfl ?_
                refine R_cV (as := [vr (some w), vi x1, vi 1, vi 1]) rfl rfl ⟨Nat.le_of_ble_eq_true rfl, Nat.le_of_ble_eq_true rfl, rfl, (Or.inr ⟨_, rfl, t0⟩)⟩ rfl rfl k (fun h_48 k => ?_)
                refine R_ps 6 (pc2 := 121) (L2 := [some (vr (some w)), some (vi x1), some (vi x2), some (vi x_23), some (vi 1), some (vi 1)]) (st2 := [vi 12, vi x1, vr (some w), vi 12, vi x1, vr (some w)]) rfl ?_
                refine R_cI (as := [vr (some w), vi x1, vi 12]) rfl rfl ⟨Nat.le_of_ble_eq_true rfl, Nat.le_of_ble_eq_true rfl, rfl, (Or.inr ⟨_, rfl, t0⟩)⟩ rfl rfl k (fun x_52 h_51 k => ?_)
                refine R_ps 4 (pc2 := 129) (L2 := [some (vr (some w)), some (vi x1), some (vi x2), some (vi x_23), some (vi 1), some (vi 1)]) (st2 := [vi ((x_52 + x_23) - 1), vi 12, vi x1, vr (some w)]) rfl ?_
                refine R_cV (as := [vr (some w), vi x1, vi 12, vi ((x_52 + x_23) - 1)]) rfl rfl ⟨Nat.le_of_ble_eq_true rfl, Nat.le_of_ble_eq_true rfl, rfl, (Or.inr ⟨_, rfl, t0⟩)⟩ rfl rfl k (fun h_54 k => ?_)
                refine R_ps 3 (pc2 := 135) (L2 := [some (vr (some w)), some (vi x1), some (vi x2), some (vi x_23), some (vi 1), some (vi 1)]) (st2 := [vi 0, vi x1, vr (some w)]) rfl ?_
                refine R_cI (as := [vr (some w), vi x1, vi 0]) rfl rfl ⟨Nat.le_of_ble_eq_true rfl, Nat.le_of_ble_eq_true rfl, rfl, (Or.inr ⟨_, rfl, t0⟩)⟩ rfl rfl k (fun x_58 h_57 k => ?_)
                refine R_ps 1 (pc2 := 139) (L2 := [some (vr (some w)), some (vi x1), some (vi x2), some (vi x_23), some (vi 1), some (vi 1)]) (st2 := [vi 1, vi x_58]) rfl ?_
                refine R_if rfl (fun c_59 => ?_) (fun c_59 => ?_)
                · have k := k.2 c_59
                  exact R_drop k (LE_of (L := [none, none, none, none, none, some (vi 1)]) (L2 := [some (vr (some w)), some (vi x1), some (vi x2), some (vi x_23), some (vi 1), some (vi 1)]) ⟨rfl, trivial⟩)
                · have k := k.1 (Classical.not_not.mp c_59)
                  refine R_ps 1 (pc2 := 144) (L2 := [some (vr (some w)), some (vi x1), some (vi x2), some (vi x_23), some (vi 1), some (vi 1)]) (st2 := [vi 1]) rfl ?_
                  refine R_if0 rfl (fun _ => ?_) (fun c_60 => absurd (show ¬ (1 : Int32) = (0 : Int32) by decide) c_60)
                  exact R_drop k (LE_of (L := [none, none, none, none, none, some (vi 1)]) (L2 := [some (vr (some w)), some (vi x1), some (vi x2), some (vi x_23), some (vi 1), some (vi 1)]) ⟨rfl, trivial⟩)
        · have k := k.1 (i32_lt c_17)
          refine R_ps 1 (pc2 := 54) (L2 := [some (vr (some w)), some (vi x1), some (vi x2), none, none, none]) (st2 := [vi 0]) rfl ?_
          exact R_iret rfl rfl ⟨_, rfl, k⟩
      · have k := k.1 (Classical.not_not.mp c_12)
        refine R_ps 2 (pc2 := 43) (L2 := [some (vr (some w)), some (vi x1), some (vi x2), none, none, none]) (st2 := [vi 3, vr (some w)]) rfl ?_
        refine R_putI rfl t0 ?_
        show WP T N _ _ _ _ (si h_10 w 0 3) _
        generalize e_64 : si h_10 w 0 3 = h_63
        replace k := k h_63 e_64.symm
        refine R_ps 1 (pc2 := 47) (L2 := [some (vr (some w)), some (vi x1), some (vi x2), none, none, none]) (st2 := [vr (some w)]) rfl ?_
        refine R_getI rfl t0 ?_
        refine R_if0 rfl (fun c_66 => ?_) (fun c_66 => ?_)
        · have k := k.2 (i32_nlt c_66)
          refine R_ps 1 (pc2 := 56) (L2 := [some (vr (some w)), some (vi x1), some (vi x2), none, none, none]) (st2 := [vr (some w)]) rfl ?_
          refine R_cV (as := [vr (some w)]) rfl rfl ⟨Nat.le_of_ble_eq_true rfl, Nat.le_of_ble_eq_true rfl, rfl, (Or.inr ⟨_, rfl, t0⟩)⟩ rfl rfl k (fun h_68 k => ?_)
          refine R_ps 3 (pc2 := 62) (L2 := [some (vr (some w)), some (vi x1), some (vi x2), none, none, none]) (st2 := [vi 1, vi x1, vr (some w)]) rfl ?_
          refine R_cI (as := [vr (some w), vi x1, vi 1]) rfl rfl ⟨Nat.le_of_ble_eq_true rfl, Nat.le_of_ble_eq_true rfl, rfl, (Or.inr ⟨_, rfl, t0⟩)⟩ rfl rfl k (fun x_72 h_71 k => ?_)
          refine R_ps 4 (pc2 := 69) (L2 := [some (vr (some w)), some (vi x1), some (vi x2), some (vi x_72), none, none]) (st2 := [vi 0, vi x1, vr (some w)]) rfl ?_
          refine R_cI (as := [vr (some w), vi x1, vi 0]) rfl rfl ⟨Nat.le_of_ble_eq_true rfl, Nat.le_of_ble_eq_true rfl, rfl, (Or.inr ⟨_, rfl, t0⟩)⟩ rfl rfl k (fun x_75 h_74 k => ?_)
          refine R_ps 1 (pc2 := 73) (L2 := [some (vr (some w)), some (vi x1), some (vi x2), some (vi x_72), none, none]) (st2 := [vi 2, vi x_75]) rfl ?_
          refine R_if rfl (fun c_76 => ?_) (fun c_76 => ?_)
          · have k := k.2 c_76
            exact k
          · have k := k.1 (Classical.not_not.mp c_76)
            refine R_ps 1 (pc2 := 77) (L2 := [some (vr (some w)), some (vi x1), some (vi x2), some (vi x_72), none, none]) (st2 := [vi x_72]) rfl ?_
            refine R_if0 rfl (fun c_77 => ?_) (fun c_77 => ?_)
            · have k := k.2 (i32_nlt c_77)
              exact k
            · have k := k.1 (i32_lt c_77)
              refine R_ps 7 (pc2 := 92) (L2 := [some (vr (some w)), some (vi x1), some (vi x2), some (vi x_72), some (vi 1), none]) (st2 := [vi 1, vi (x_72 - x2)]) rfl ?_
              refine R_if rfl (fun c_78 => ?_) (fun c_78 => ?_)
              · have k := k.2 (i32_nlt c_78)
                refine R_ps 8 (pc2 := 110) (L2 := [some (vr (some w)), some (vi x1), some (vi x2), some (vi x_72), some (vi 1), some (vi (x_72 - x2))]) (st2 := [vi (x_72 - x2), vi 1, vi x1, vr (some w)]) rfl ?_
                refine R_cV (as := [vr (some w), vi x1, vi 1, vi (x_72 - x2)]) rfl rfl ⟨Nat.le_of_ble_eq_true rfl, Nat.le_of_ble_eq_true rfl, rfl, (Or.inr ⟨_, rfl, t0⟩)⟩ rfl rfl k (fun h_80 k => ?_)
                refine R_ps 6 (pc2 := 121) (L2 := [some (vr (some w)), some (vi x1), some (vi x2), some (vi x_72), some (vi 1), some (vi (x_72 - x2))]) (st2 := [vi 12, vi x1, vr (some w), vi 12, vi x1, vr (some w)]) rfl ?_
                refine R_cI (as := [vr (some w), vi x1, vi 12]) rfl rfl ⟨Nat.le_of_ble_eq_true rfl, Nat.le_of_ble_eq_true rfl, rfl, (Or.inr ⟨_, rfl, t0⟩)⟩ rfl rfl k (fun x_84 h_83 k => ?_)
                refine R_ps 4 (pc2 := 129) (L2 := [some (vr (some w)), some (vi x1), some (vi x2), some (vi x_72), some (vi 1), some (vi (x_72 - x2))]) (st2 := [vi ((x_84 + x_72) - (x_72 - x2)), vi 12, vi x1, vr (some w)]) rfl ?_
                refine R_cV (as := [vr (some w), vi x1, vi 12, vi ((x_84 + x_72) - (x_72 - x2))]) rfl rfl ⟨Nat.le_of_ble_eq_true rfl, Nat.le_of_ble_eq_true rfl, rfl, (Or.inr ⟨_, rfl, t0⟩)⟩ rfl rfl k (fun h_86 k => ?_)
                refine R_ps 3 (pc2 := 135) (L2 := [some (vr (some w)), some (vi x1), some (vi x2), some (vi x_72), some (vi 1), some (vi (x_72 - x2))]) (st2 := [vi 0, vi x1, vr (some w)]) rfl ?_
                refine R_cI (as := [vr (some w), vi x1, vi 0]) rfl rfl ⟨Nat.le_of_ble_eq_true rfl, Nat.le_of_ble_eq_true rfl, rfl, (Or.inr ⟨_, rfl, t0⟩)⟩ rfl rfl k (fun x_90 h_89 k => ?_)
                refine R_ps 1 (pc2 := 139) (L2 := [some (vr (some w)), some (vi x1), some (vi x2), some (vi x_72), some (vi 1), some (vi (x_72 - x2))]) (st2 := [vi 1, vi x_90]) rfl ?_
                refine R_if rfl (fun c_91 => ?_) (fun c_91 => ?_)
                · have k := k.2 c_91
                  exact R_drop k (LE_of (L := [none, none, none, none, none, some (vi (x_72 - x2))]) (L2 := [some (vr (some w)), some (vi x1), some (vi x2), some (vi x_72), some (vi 1), some (vi (x_72 - x2))]) ⟨rfl, trivial⟩)
                · have k := k.1 (Classical.not_not.mp c_91)
                  refine R_ps 1 (pc2 := 144) (L2 := [some (vr (some w)), some (vi x1), some (vi x2), some (vi x_72), some (vi 1), some (vi (x_72 - x2))]) (st2 := [vi (x_72 - x2)]) rfl ?_
                  refine R_if0 rfl (fun c_92 => ?_) (fun c_92 => ?_)
                  · have k := k.2 c_92
                    exact R_drop k (LE_of (L := [none, none, none, none, none, some (vi (x_72 - x2))]) (L2 := [some (vr (some w)), some (vi x1), some (vi x2), some (vi x_72), some (vi 1), some (vi (x_72 - x2))]) ⟨rfl, trivial⟩)
                  · have k := k.1 (Classical.not_not.mp c_92)
                    refine R_ps 2 (pc2 := 149) (L2 := [some (vr (some w)), some (vi x1), some (vi x2), some (vi x_72), some (vi 1), some (vi (x_72 - x2))]) (st2 := [vi x1, vr (some w)]) rfl ?_
                    refine R_cV (as := [vr (some w), vi x1]) rfl rfl ⟨Nat.le_of_ble_eq_true rfl, Nat.le_of_ble_eq_true rfl, rfl, (Or.inr ⟨_, rfl, t0⟩)⟩ rfl rfl k (fun h_94 k => ?_)
                    exact R_drop k (LE_of (L := [none, none, none, none, none, some (vi (x_72 - x2))]) (L2 := [some (vr (some w)), some (vi x1), some (vi x2), some (vi x_72), some (vi 1), some (vi (x_72 - x2))]) ⟨rfl, trivial⟩)
              · have k := k.1 (i32_lt c_78)
                refine R_ps 7 (pc2 := 110) (L2 := [some (vr (some w)), some (vi x1), some (vi x2), some (vi x_72), some (vi 1), some (vi 1)]) (st2 := [vi 1, vi 1, vi x1, vr (some w)]) rfl ?_
                refine R_cV (as := [vr (some w), vi x1, vi 1, vi 1]) rfl rfl ⟨Nat.le_of_ble_eq_true rfl, Nat.le_of_ble_eq_true rfl, rfl, (Or.inr ⟨_, rfl, t0⟩)⟩ rfl rfl k (fun h_97 k => ?_)
                refine R_ps 6 (pc2 := 121) (L2 := [some (vr (some w)), some (vi x1), some (vi x2), some (vi x_72), some (vi 1), some (vi 1)]) (st2 := [vi 12, vi x1, vr (some w), vi 12, vi x1, vr (some w)]) rfl ?_
                refine R_cI (as := [vr (some w), vi x1, vi 12]) rfl rfl ⟨Nat.le_of_ble_eq_true rfl, Nat.le_of_ble_eq_true rfl, rfl, (Or.inr ⟨_, rfl, t0⟩)⟩ rfl rfl k (fun x_101 h_100 k => ?_)
                refine R_ps 4 (pc2 := 129) (L2 := [some (vr (some w)), some (vi x1), some (vi x2), some (vi x_72), some (vi 1), some (vi 1)]) (st2 := [vi ((x_101 + x_72) - 1), vi 12, vi x1, vr (some w)]) rfl ?_
                refine R_cV (as := [vr (some w), vi x1, vi 12, vi ((x_101 + x_72) - 1)]) rfl rfl ⟨Nat.le_of_ble_eq_true rfl, Nat.le_of_ble_eq_true rfl, rfl, (Or.inr ⟨_, rfl, t0⟩)⟩ rfl rfl k (fun h_103 k => ?_)
                refine R_ps 3 (pc2 := 135) (L2 := [some (vr (some w)), some (vi x1), some (vi x2), some (vi x_72), some (vi 1), some (vi 1)]) (st2 := [vi 0, vi x1, vr (some w)]) rfl ?_
                refine R_cI (as := [vr (some w), vi x1, vi 0]) rfl rfl ⟨Nat.le_of_ble_eq_true rfl, Nat.le_of_ble_eq_true rfl, rfl, (Or.inr ⟨_, rfl, t0⟩)⟩ rfl rfl k (fun x_107 h_106 k => ?_)
                refine R_ps 1 (pc2 := 139) (L2 := [some (vr (some w)), some (vi x1), some (vi x2), some (vi x_72), some (vi 1), some (vi 1)]) (st2 := [vi 1, vi x_107]) rfl ?_
                refine R_if rfl (fun c_108 => ?_) (fun c_108 => ?_)
                · have k := k.2 c_108
                  exact R_drop k (LE_of (L := [none, none, none, none, none, some (vi 1)]) (L2 := [some (vr (some w)), some (vi x1), some (vi x2), some (vi x_72), some (vi 1), some (vi 1)]) ⟨rfl, trivial⟩)
                · have k := k.1 (Classical.not_not.mp c_108)
                  refine R_ps 1 (pc2 := 144) (L2 := [some (vr (some w)), some (vi x1), some (vi x2), some (vi x_72), some (vi 1), some (vi 1)]) (st2 := [vi 1]) rfl ?_
                  refine R_if0 rfl (fun _ => ?_) (fun c_109 => absurd (show ¬ (1 : Int32) = (0 : Int32) by decide) c_109)
                  exact R_drop k (LE_of (L := [none, none, none, none, none, some (vi 1)]) (L2 := [some (vr (some w)), some (vi x1), some (vi x2), some (vi x_72), some (vi 1), some (vi 1)]) ⟨rfl, trivial⟩)
        · have k := k.1 (i32_lt c_66)
          refine R_ps 1 (pc2 := 54) (L2 := [some (vr (some w)), some (vi x1), some (vi x2), none, none, none]) (st2 := [vi 0]) rfl ?_
          exact R_iret rfl rfl ⟨_, rfl, k⟩
    · have k := k.1 (Classical.not_not.mp c_8)
      refine R_ps 2 (pc2 := 43) (L2 := [some (vr (some w)), some (vi x1), some (vi x2), none, none, none]) (st2 := [vi 2, vr (some w)]) rfl ?_
      refine R_putI rfl t0 ?_
      show WP T N _ _ _ _ (si h_6 w 0 2) _
      generalize e_113 : si h_6 w 0 2 = h_112
      replace k := k h_112 e_113.symm
      refine R_ps 1 (pc2 := 47) (L2 := [some (vr (some w)), some (vi x1), some (vi x2), none, none, none]) (st2 := [vr (some w)]) rfl ?_
      refine R_getI rfl t0 ?_
      refine R_if0 rfl (fun c_115 => ?_) (fun c_115 => ?_)
      · have k := k.2 (i32_nlt c_115)
        refine R_ps 1 (pc2 := 56) (L2 := [some (vr (some w)), some (vi x1), some (vi x2), none, none, none]) (st2 := [vr (some w)]) rfl ?_
        refine R_cV (as := [vr (some w)]) rfl rfl ⟨Nat.le_of_ble_eq_true rfl, Nat.le_of_ble_eq_true rfl, rfl, (Or.inr ⟨_, rfl, t0⟩)⟩ rfl rfl k (fun h_117 k => ?_)
        refine R_ps 3 (pc2 := 62) (L2 := [some (vr (some w)), some (vi x1), some (vi x2), none, none, none]) (st2 := [vi 1, vi x1, vr (some w)]) rfl ?_
        refine R_cI (as := [vr (some w), vi x1, vi 1]) rfl rfl ⟨Nat.le_of_ble_eq_true rfl, Nat.le_of_ble_eq_true rfl, rfl, (Or.inr ⟨_, rfl, t0⟩)⟩ rfl rfl k (fun x_121 h_120 k => ?_)
        refine R_ps 4 (pc2 := 69) (L2 := [some (vr (some w)), some (vi x1), some (vi x2), some (vi x_121), none, none]) (st2 := [vi 0, vi x1, vr (some w)]) rfl ?_
        refine R_cI (as := [vr (some w), vi x1, vi 0]) rfl rfl ⟨Nat.le_of_ble_eq_true rfl, Nat.le_of_ble_eq_true rfl, rfl, (Or.inr ⟨_, rfl, t0⟩)⟩ rfl rfl k (fun x_124 h_123 k => ?_)
        refine R_ps 1 (pc2 := 73) (L2 := [some (vr (some w)), some (vi x1), some (vi x2), some (vi x_121), none, none]) (st2 := [vi 2, vi x_124]) rfl ?_
        refine R_if rfl (fun c_125 => ?_) (fun c_125 => ?_)
        · have k := k.2 c_125
          exact k
        · have k := k.1 (Classical.not_not.mp c_125)
          refine R_ps 1 (pc2 := 77) (L2 := [some (vr (some w)), some (vi x1), some (vi x2), some (vi x_121), none, none]) (st2 := [vi x_121]) rfl ?_
          refine R_if0 rfl (fun c_126 => ?_) (fun c_126 => ?_)
          · have k := k.2 (i32_nlt c_126)
            exact k
          · have k := k.1 (i32_lt c_126)
            refine R_ps 7 (pc2 := 92) (L2 := [some (vr (some w)), some (vi x1), some (vi x2), some (vi x_121), some (vi 1), none]) (st2 := [vi 1, vi (x_121 - x2)]) rfl ?_
            refine R_if rfl (fun c_127 => ?_) (fun c_127 => ?_)
            · have k := k.2 (i32_nlt c_127)
              refine R_ps 8 (pc2 := 110) (L2 := [some (vr (some w)), some (vi x1), some (vi x2), some (vi x_121), some (vi 1), some (vi (x_121 - x2))]) (st2 := [vi (x_121 - x2), vi 1, vi x1, vr (some w)]) rfl ?_
              refine R_cV (as := [vr (some w), vi x1, vi 1, vi (x_121 - x2)]) rfl rfl ⟨Nat.le_of_ble_eq_true rfl, Nat.le_of_ble_eq_true rfl, rfl, (Or.inr ⟨_, rfl, t0⟩)⟩ rfl rfl k (fun h_129 k => ?_)
              refine R_ps 6 (pc2 := 121) (L2 := [some (vr (some w)), some (vi x1), some (vi x2), some (vi x_121), some (vi 1), some (vi (x_121 - x2))]) (st2 := [vi 12, vi x1, vr (some w), vi 12, vi x1, vr (some w)]) rfl ?_
              refine R_cI (as := [vr (some w), vi x1, vi 12]) rfl rfl ⟨Nat.le_of_ble_eq_true rfl, Nat.le_of_ble_eq_true rfl, rfl, (Or.inr ⟨_, rfl, t0⟩)⟩ rfl rfl k (fun x_133 h_132 k => ?_)
              refine R_ps 4 (pc2 := 129) (L2 := [some (vr (some w)), some (vi x1), some (vi x2), some (vi x_121), some (vi 1), some (vi (x_121 - x2))]) (st2 := [vi ((x_133 + x_121) - (x_121 - x2)), vi 12, vi x1, vr (some w)]) rfl ?_
              refine R_cV (as := [vr (some w), vi x1, vi 12, vi ((x_133 + x_121) - (x_121 - x2))]) rfl rfl ⟨Nat.le_of_ble_eq_true rfl, Nat.le_of_ble_eq_true rfl, rfl, (Or.inr ⟨_, rfl, t0⟩)⟩ rfl rfl k (fun h_135 k => ?_)
              refine R_ps 3 (pc2 := 135) (L2 := [some (vr (some w)), some (vi x1), some (vi x2), some (vi x_121), some (vi 1), some (vi (x_121 - x2))]) (st2 := [vi 0, vi x1, vr (some w)]) rfl ?_
              refine R_cI (as := [vr (some w), vi x1, vi 0]) rfl rfl ⟨Nat.le_of_ble_eq_true rfl, Nat.le_of_ble_eq_true rfl, rfl, (Or.inr ⟨_, rfl, t0⟩)⟩ rfl rfl k (fun x_139 h_138 k => ?_)
              refine R_ps 1 (pc2 := 139) (L2 := [some (vr (some w)), some (vi x1), some (vi x2), some (vi x_121), some (vi 1), some (vi (x_121 - x2))]) (st2 := [vi 1, vi x_139]) rfl ?_
              refine R_if rfl (fun c_140 => ?_) (fun c_140 => ?_)
              · have k := k.2 c_140
                exact R_drop k (LE_of (L := [none, none, none, none, none, some (vi (x_121 - x2))]) (L2 := [some (vr (some w)), some (vi x1), some (vi x2), some (vi x_121), some (vi 1), some (vi (x_121 - x2))]) ⟨rfl, trivial⟩)
              · have k := k.1 (Classical.not_not.mp c_140)
                refine R_ps 1 (pc2 := 144) (L2 := [some (vr (some w)), some (vi x1), some (vi x2), some (vi x_121), some (vi 1), some (vi (x_121 - x2))]) (st2 := [vi (x_121 - x2)]) rfl ?_
                refine R_if0 rfl (fun c_141 => ?_) (fun c_141 => ?_)
                · have k := k.2 c_141
                  exact R_drop k (LE_of (L := [none, none, none, none, none, some (vi (x_121 - x2))]) (L2 := [some (vr (some w)), some (vi x1), some (vi x2), some (vi x_121), some (vi 1), some (vi (x_121 - x2))]) ⟨rfl, trivial⟩)
                · have k := k.1 (Classical.not_not.mp c_141)
                  refine R_ps 2 (pc2 := 149) (L2 := [some (vr (some w)), some (vi x1), some (vi x2), some (vi x_121), some (vi 1), some (vi (x_121 - x2))]) (st2 := [vi x1, vr (some w)]) rfl ?_
                  refine R_cV (as := [vr (some w), vi x1]) rfl rfl ⟨Nat.le_of_ble_eq_true rfl, Nat.le_of_ble_eq_true rfl, rfl, (Or.inr ⟨_, rfl, t0⟩)⟩ rfl rfl k (fun h_143 k => ?_)
                  exact R_drop k (LE_of (L := [none, none, none, none, none, some (vi (x_121 - x2))]) (L2 := [some (vr (some w)), some (vi x1), some (vi x2), some (vi x_121), some (vi 1), some (vi (x_121 - x2))]) ⟨rfl, trivial⟩)
            · have k := k.1 (i32_lt c_127)
              refine R_ps 7 (pc2 := 110) (L2 := [some (vr (some w)), some (vi x1), some (vi x2), some (vi x_121), some (vi 1), some (vi 1)]) (st2 := [vi 1, vi 1, vi x1, vr (some w)]) rfl ?_
              refine R_cV (as := [vr (some w), vi x1, vi 1, vi 1]) rfl rfl ⟨Nat.le_of_ble_eq_true rfl, Nat.le_of_ble_eq_true rfl, rfl, (Or.inr ⟨_, rfl, t0⟩)⟩ rfl rfl k (fun h_146 k => ?_)
              refine R_ps 6 (pc2 := 121) (L2 := [some (vr (some w)), some (vi x1), some (vi x2), some (vi x_121), some (vi 1), some (vi 1)]) (st2 := [vi 12, vi x1, vr (some w), vi 12, vi x1, vr (some w)]) rfl ?_
              refine R_cI (as := [vr (some w), vi x1, vi 12]) rfl rfl ⟨Nat.le_of_ble_eq_true rfl, Nat.le_of_ble_eq_true rfl, rfl, (Or.inr ⟨_, rfl, t0⟩)⟩ rfl rfl k (fun x_150 h_149 k => ?_)
              refine R_ps 4 (pc2 := 129) (L2 := [some (vr (some w)), some (vi x1), some (vi x2), some (vi x_121), some (vi 1), some (vi 1)]) (st2 := [vi ((x_150 + x_121) - 1), vi 12, vi x1, vr (some w)]) rfl ?_
              refine R_cV (as := [vr (some w), vi x1, vi 12, vi ((x_150 + x_121) - 1)]) rfl rfl ⟨Nat.le_of_ble_eq_true rfl, Nat.le_of_ble_eq_true rfl, rfl, (Or.inr ⟨_, rfl, t0⟩)⟩ rfl rfl k (fun h_152 k => ?_)
              refine R_ps 3 (pc2 := 135) (L2 := [some (vr (some w)), some (vi x1), some (vi x2), some (vi x_121), some (vi 1), some (vi 1)]) (st2 := [vi 0, vi x1, vr (some w)]) rfl ?_
              refine R_cI (as := [vr (some w), vi x1, vi 0]) rfl rfl ⟨Nat.le_of_ble_eq_true rfl, Nat.le_of_ble_eq_true rfl, rfl, (Or.inr ⟨_, rfl, t0⟩)⟩ rfl rfl k (fun x_156 h_155 k => ?_)
              refine R_ps 1 (pc2 := 139) (L2 := [some (vr (some w)), some (vi x1), some (vi x2), some (vi x_121), some (vi 1), some (vi 1)]) (st2 := [vi 1, vi x_156]) rfl ?_
              refine R_if rfl (fun c_157 => ?_) (fun c_157 => ?_)
              · have k := k.2 c_157
                exact R_drop k (LE_of (L := [none, none, none, none, none, some (vi 1)]) (L2 := [some (vr (some w)), some (vi x1), some (vi x2), some (vi x_121), some (vi 1), some (vi 1)]) ⟨rfl, trivial⟩)
              · have k := k.1 (Classical.not_not.mp c_157)
                refine R_ps 1 (pc2 := 144) (L2 := [some (vr (some w)), some (vi x1), some (vi x2), some (vi x_121), some (vi 1), some (vi 1)]) (st2 := [vi 1]) rfl ?_
                refine R_if0 rfl (fun _ => ?_) (fun c_158 => absurd (show ¬ (1 : Int32) = (0 : Int32) by decide) c_158)
                exact R_drop k (LE_of (L := [none, none, none, none, none, some (vi 1)]) (L2 := [some (vr (some w)), some (vi x1), some (vi x2), some (vi x_121), some (vi 1), some (vi 1)]) ⟨rfl, trivial⟩)
      · have k := k.1 (i32_lt c_115)
        refine R_ps 1 (pc2 := 54) (L2 := [some (vr (some w)), some (vi x1), some (vi x2), none, none, none]) (st2 := [vi 0]) rfl ?_
        exact R_iret rfl rfl ⟨_, rfl, k⟩
  · have k := k.1 (Classical.not_not.mp c_4)
    refine R_ps 2 (pc2 := 43) (L2 := [some (vr (some w)), some (vi x1), some (vi x2), none, none, none]) (st2 := [vi 1, vr (some w)]) rfl ?_
    refine R_putI rfl t0 ?_
    show WP T N _ _ _ _ (si h_2 w 0 1) _
    generalize e_162 : si h_2 w 0 1 = h_161
    replace k := k h_161 e_162.symm
    refine R_ps 1 (pc2 := 47) (L2 := [some (vr (some w)), some (vi x1), some (vi x2), none, none, none]) (st2 := [vr (some w)]) rfl ?_
    refine R_getI rfl t0 ?_
    refine R_if0 rfl (fun c_164 => ?_) (fun c_164 => ?_)
    · have k := k.2 (i32_nlt c_164)
      refine R_ps 1 (pc2 := 56) (L2 := [some (vr (some w)), some (vi x1), some (vi x2), none, none, none]) (st2 := [vr (some w)]) rfl ?_
      refine R_cV (as := [vr (some w)]) rfl rfl ⟨Nat.le_of_ble_eq_true rfl, Nat.le_of_ble_eq_true rfl, rfl, (Or.inr ⟨_, rfl, t0⟩)⟩ rfl rfl k (fun h_166 k => ?_)
      refine R_ps 3 (pc2 := 62) (L2 := [some (vr (some w)), some (vi x1), some (vi x2), none, none, none]) (st2 := [vi 1, vi x1, vr (some w)]) rfl ?_
      refine R_cI (as := [vr (some w), vi x1, vi 1]) rfl rfl ⟨Nat.le_of_ble_eq_true rfl, Nat.le_of_ble_eq_true rfl, rfl, (Or.inr ⟨_, rfl, t0⟩)⟩ rfl rfl k (fun x_170 h_169 k => ?_)
      refine R_ps 4 (pc2 := 69) (L2 := [some (vr (some w)), some (vi x1), some (vi x2), some (vi x_170), none, none]) (st2 := [vi 0, vi x1, vr (some w)]) rfl ?_
      refine R_cI (as := [vr (some w), vi x1, vi 0]) rfl rfl ⟨Nat.le_of_ble_eq_true rfl, Nat.le_of_ble_eq_true rfl, rfl, (Or.inr ⟨_, rfl, t0⟩)⟩ rfl rfl k (fun x_173 h_172 k => ?_)
      refine R_ps 1 (pc2 := 73) (L2 := [some (vr (some w)), some (vi x1), some (vi x2), some (vi x_170), none, none]) (st2 := [vi 2, vi x_173]) rfl ?_
      refine R_if rfl (fun c_174 => ?_) (fun c_174 => ?_)
      · have k := k.2 c_174
        exact k
      · have k := k.1 (Classical.not_not.mp c_174)
        refine R_ps 1 (pc2 := 77) (L2 := [some (vr (some w)), some (vi x1), some (vi x2), some (vi x_170), none, none]) (st2 := [vi x_170]) rfl ?_
        refine R_if0 rfl (fun c_175 => ?_) (fun c_175 => ?_)
        · have k := k.2 (i32_nlt c_175)
          exact k
        · have k := k.1 (i32_lt c_175)
          refine R_ps 7 (pc2 := 92) (L2 := [some (vr (some w)), some (vi x1), some (vi x2), some (vi x_170), some (vi 1), none]) (st2 := [vi 1, vi (x_170 - x2)]) rfl ?_
          refine R_if rfl (fun c_176 => ?_) (fun c_176 => ?_)
          · have k := k.2 (i32_nlt c_176)
            refine R_ps 8 (pc2 := 110) (L2 := [some (vr (some w)), some (vi x1), some (vi x2), some (vi x_170), some (vi 1), some (vi (x_170 - x2))]) (st2 := [vi (x_170 - x2), vi 1, vi x1, vr (some w)]) rfl ?_
            refine R_cV (as := [vr (some w), vi x1, vi 1, vi (x_170 - x2)]) rfl rfl ⟨Nat.le_of_ble_eq_true rfl, Nat.le_of_ble_eq_true rfl, rfl, (Or.inr ⟨_, rfl, t0⟩)⟩ rfl rfl k (fun h_178 k => ?_)
            refine R_ps 6 (pc2 := 121) (L2 := [some (vr (some w)), some (vi x1), some (vi x2), some (vi x_170), some (vi 1), some (vi (x_170 - x2))]) (st2 := [vi 12, vi x1, vr (some w), vi 12, vi x1, vr (some w)]) rfl ?_
            refine R_cI (as := [vr (some w), vi x1, vi 12]) rfl rfl ⟨Nat.le_of_ble_eq_true rfl, Nat.le_of_ble_eq_true rfl, rfl, (Or.inr ⟨_, rfl, t0⟩)⟩ rfl rfl k (fun x_182 h_181 k => ?_)
            refine R_ps 4 (pc2 := 129) (L2 := [some (vr (some w)), some (vi x1), some (vi x2), some (vi x_170), some (vi 1), some (vi (x_170 - x2))]) (st2 := [vi ((x_182 + x_170) - (x_170 - x2)), vi 12, vi x1, vr (some w)]) rfl ?_
            refine R_cV (as := [vr (some w), vi x1, vi 12, vi ((x_182 + x_170) - (x_170 - x2))]) rfl rfl ⟨Nat.le_of_ble_eq_true rfl, Nat.le_of_ble_eq_true rfl, rfl, (Or.inr ⟨_, rfl, t0⟩)⟩ rfl rfl k (fun h_184 k => ?_)
            refine R_ps 3 (pc2 := 135) (L2 := [some (vr (some w)), some (vi x1), some (vi x2), some (vi x_170), some (vi 1), some (vi (x_170 - x2))]) (st2 := [vi 0, vi x1, vr (some w)]) rfl ?_
            refine R_cI (as := [vr (some w), vi x1, vi 0]) rfl rfl ⟨Nat.le_of_ble_eq_true rfl, Nat.le_of_ble_eq_true rfl, rfl, (Or.inr ⟨_, rfl, t0⟩)⟩ rfl rfl k (fun x_188 h_187 k => ?_)
            refine R_ps 1 (pc2 := 139) (L2 := [some (vr (some w)), some (vi x1), some (vi x2), some (vi x_170), some (vi 1), some (vi (x_170 - x2))]) (st2 := [vi 1, vi x_188]) rfl ?_
            refine R_if rfl (fun c_189 => ?_) (fun c_189 => ?_)
            · have k := k.2 c_189
              exact R_drop k (LE_of (L := [none, none, none, none, none, some (vi (x_170 - x2))]) (L2 := [some (vr (some w)), some (vi x1), some (vi x2), some (vi x_170), some (vi 1), some (vi (x_170 - x2))]) ⟨rfl, trivial⟩)
            · have k := k.1 (Classical.not_not.mp c_189)
              refine R_ps 1 (pc2 := 144) (L2 := [some (vr (some w)), some (vi x1), some (vi x2), some (vi x_170), some (vi 1), some (vi (x_170 - x2))]) (st2 := [vi (x_170 - x2)]) rfl ?_
              refine R_if0 rfl (fun c_190 => ?_) (fun c_190 => ?_)
              · have k := k.2 c_190
                exact R_drop k (LE_of (L := [none, none, none, none, none, some (vi (x_170 - x2))]) (L2 := [some (vr (some w)), some (vi x1), some (vi x2), some (vi x_170), some (vi 1), some (vi (x_170 - x2))]) ⟨rfl, trivial⟩)
              · have k := k.1 (Classical.not_not.mp c_190)
                refine R_ps 2 (pc2 := 149) (L2 := [some (vr (some w)), some (vi x1), some (vi x2), some (vi x_170), some (vi 1), some (vi (x_170 - x2))]) (st2 := [vi x1, vr (some w)]) rfl ?_
                refine R_cV (as := [vr (some w), vi x1]) rfl rfl ⟨Nat.le_of_ble_eq_true rfl, Nat.le_of_ble_eq_true rfl, rfl, (Or.inr ⟨_, rfl, t0⟩)⟩ rfl rfl k (fun h_192 k => ?_)
                exact R_drop k (LE_of (L := [none, none, none, none, none, some (vi (x_170 - x2))]) (L2 := [some (vr (some w)), some (vi x1), some (vi x2), some (vi x_170), some (vi 1), some (vi (x_170 - x2))]) ⟨rfl, trivial⟩)
          · have k := k.1 (i32_lt c_176)
            refine R_ps 7 (pc2 := 110) (L2 := [some (vr (some w)), some (vi x1), some (vi x2), some (vi x_170), some (vi 1), some (vi 1)]) (st2 := [vi 1, vi 1, vi x1, vr (some w)]) rfl ?_
            refine R_cV (as := [vr (some w), vi x1, vi 1, vi 1]) rfl rfl ⟨Nat.le_of_ble_eq_true rfl, Nat.le_of_ble_eq_true rfl, rfl, (Or.inr ⟨_, rfl, t0⟩)⟩ rfl rfl k (fun h_195 k => ?_)
            refine R_ps 6 (pc2 := 121) (L2 := [some (vr (some w)), some (vi x1), some (vi x2), some (vi x_170), some (vi 1), some (vi 1)]) (st2 := [vi 12, vi x1, vr (some w), vi 12, vi x1, vr (some w)]) rfl ?_
            refine R_cI (as := [vr (some w), vi x1, vi 12]) rfl rfl ⟨Nat.le_of_ble_eq_true rfl, Nat.le_of_ble_eq_true rfl, rfl, (Or.inr ⟨_, rfl, t0⟩)⟩ rfl rfl k (fun x_199 h_198 k => ?_)
            refine R_ps 4 (pc2 := 129) (L2 := [some (vr (some w)), some (vi x1), some (vi x2), some (vi x_170), some (vi 1), some (vi 1)]) (st2 := [vi ((x_199 + x_170) - 1), vi 12, vi x1, vr (some w)]) rfl ?_
            refine R_cV (as := [vr (some w), vi x1, vi 12, vi ((x_199 + x_170) - 1)]) rfl rfl ⟨Nat.le_of_ble_eq_true rfl, Nat.le_of_ble_eq_true rfl, rfl, (Or.inr ⟨_, rfl, t0⟩)⟩ rfl rfl k (fun h_201 k => ?_)
            refine R_ps 3 (pc2 := 135) (L2 := [some (vr (some w)), some (vi x1), some (vi x2), some (vi x_170), some (vi 1), some (vi 1)]) (st2 := [vi 0, vi x1, vr (some w)]) rfl ?_
            refine R_cI (as := [vr (some w), vi x1, vi 0]) rfl rfl ⟨Nat.le_of_ble_eq_true rfl, Nat.le_of_ble_eq_true rfl, rfl, (Or.inr ⟨_, rfl, t0⟩)⟩ rfl rfl k (fun x_205 h_204 k => ?_)
            refine R_ps 1 (pc2 := 139) (L2 := [some (vr (some w)), some (vi x1), some (vi x2), some (vi x_170), some (vi 1), some (vi 1)]) (st2 := [vi 1, vi x_205]) rfl ?_
            refine R_if rfl (fun c_206 => ?_) (fun c_206 => ?_)
            · have k := k.2 c_206
              exact R_drop k (LE_of (L := [none, none, none, none, none, some (vi 1)]) (L2 := [some (vr (some w)), some (vi x1), some (vi x2), some (vi x_170), some (vi 1), some (vi 1)]) ⟨rfl, trivial⟩)
            · have k := k.1 (Classical.not_not.mp c_206)
              refine R_ps 1 (pc2 := 144) (L2 := [some (vr (some w)), some (vi x1), some (vi x2), some (vi x_170), some (vi 1), some (vi 1)]) (st2 := [vi 1]) rfl ?_
              refine R_if0 rfl (fun _ => ?_) (fun c_207 => absurd (show ¬ (1 : Int32) = (0 : Int32) by decide) c_207)
              exact R_drop k (LE_of (L := [none, none, none, none, none, some (vi 1)]) (L2 := [some (vr (some w)), some (vi x1), some (vi x2), some (vi x_170), some (vi 1), some (vi 1)]) ⟨rfl, trivial⟩)
    · have k := k.1 (i32_lt c_164)
      refine R_ps 1 (pc2 := 54) (L2 := [some (vr (some w)), some (vi x1), some (vi x2), none, none, none]) (st2 := [vi 0]) rfl ?_
      exact R_iret rfl rfl ⟨_, rfl, k⟩
theorem m221_84 {T N : Nat → Nat} {h : PH} {w : Nat} {x1 : Int32} {x2 : Int32} {x3 : Int32} {K : Int32 → PH → Prop} (t0 : T w = 12) (k : ((((x3 - x2) < 0 → (CV T N 169 [vr (some w), vi x1, vi 1, vi 0] h (fun h_20 => (CI T N 168 [vr (some w), vi x1, vi 12] h_20 (fun x_24 h_23 => (CV T N 169 [vr (some w), vi x1, vi 12, vi ((x_24 + x3) - 0)] h_23 (fun h_26 => (CI T N 168 [vr (some w), vi x1, vi 0] h_26 (fun x_30 h_29 => (((x_30 = 1 → (CV T N 220 [vr (some w), vi x1] h_29 (fun h_34 => (WI T N 221 152 [none, none, none, none, none, some (vi 0)] [] h_34 K)))) ∧ (¬ (x_30 = 1) → (WI T N 221 152 [none, none, none, none, none, some (vi 0)] [] h_29 K))))))))))))) ∧ (¬ ((x3 - x2) < 0) → (CV T N 169 [vr (some w), vi x1, vi 1, vi (x3 - x2)] h (fun h_3 => (CI T N 168 [vr (some w), vi x1, vi 12] h_3 (fun x_7 h_6 => (CV T N 169 [vr (some w), vi x1, vi 12, vi ((x_7 + x3) - (x3 - x2))] h_6 (fun h_9 => (CI T N 168 [vr (some w), vi x1, vi 0] h_9 (fun x_13 h_12 => (((x_13 = 1 → ((((x3 - x2) = 0 → (CV T N 220 [vr (some w), vi x1] h_12 (fun h_17 => (WI T N 221 152 [none, none, none, none, none, some (vi (x3 - x2))] [] h_17 K)))) ∧ (¬ ((x3 - x2) = 0) → (WI T N 221 152 [none, none, none, none, none, some (vi (x3 - x2))] [] h_12 K))))) ∧ (¬ (x_13 = 1) → (WI T N 221 152 [none, none, none, none, none, some (vi (x3 - x2))] [] h_12 K)))))))))))))))) : WI T N 221 84 [some (vr (some w)), some (vi x1), some (vi x2), some (vi x3), none, none] [] h K := by
  show WP T N 221 84 [some (vr (some w)), some (vi x1), some (vi x2), some (vi x3), none, none] [] h _
  refine R_ps 6 (pc2 := 92) (L2 := [some (vr (some w)), some (vi x1), some (vi x2), some (vi x3), some (vi 0), none]) (st2 := [vi 0, vi (x3 - x2)]) rfl ?_
  refine R_if rfl (fun c_1 => ?_) (fun c_1 => ?_)
  · have k := k.2 (i32_nlt c_1)
    refine R_ps 8 (pc2 := 110) (L2 := [some (vr (some w)), some (vi x1), some (vi x2), some (vi x3), some (vi 0), some (vi (x3 - x2))]) (st2 := [vi (x3 - x2), vi 1, vi x1, vr (some w)]) rfl ?_
    refine R_cV (as := [vr (some w), vi x1, vi 1, vi (x3 - x2)]) rfl rfl ⟨Nat.le_of_ble_eq_true rfl, Nat.le_of_ble_eq_true rfl, rfl, (Or.inr ⟨_, rfl, t0⟩)⟩ rfl rfl k (fun h_3 k => ?_)
    refine R_ps 6 (pc2 := 121) (L2 := [some (vr (some w)), some (vi x1), some (vi x2), some (vi x3), some (vi 0), some (vi (x3 - x2))]) (st2 := [vi 12, vi x1, vr (some w), vi 12, vi x1, vr (some w)]) rfl ?_
    refine R_cI (as := [vr (some w), vi x1, vi 12]) rfl rfl ⟨Nat.le_of_ble_eq_true rfl, Nat.le_of_ble_eq_true rfl, rfl, (Or.inr ⟨_, rfl, t0⟩)⟩ rfl rfl k (fun x_7 h_6 k => ?_)
    refine R_ps 4 (pc2 := 129) (L2 := [some (vr (some w)), some (vi x1), some (vi x2), some (vi x3), some (vi 0), some (vi (x3 - x2))]) (st2 := [vi ((x_7 + x3) - (x3 - x2)), vi 12, vi x1, vr (some w)]) rfl ?_
    refine R_cV (as := [vr (some w), vi x1, vi 12, vi ((x_7 + x3) - (x3 - x2))]) rfl rfl ⟨Nat.le_of_ble_eq_true rfl, Nat.le_of_ble_eq_true rfl, rfl, (Or.inr ⟨_, rfl, t0⟩)⟩ rfl rfl k (fun h_9 k => ?_)
    refine R_ps 3 (pc2 := 135) (L2 := [some (vr (some w)), some (vi x1), some (vi x2), some (vi x3), some (vi 0), some (vi (x3 - x2))]) (st2 := [vi 0, vi x1, vr (some w)]) rfl ?_
    refine R_cI (as := [vr (some w), vi x1, vi 0]) rfl rfl ⟨Nat.le_of_ble_eq_true rfl, Nat.le_of_ble_eq_true rfl, rfl, (Or.inr ⟨_, rfl, t0⟩)⟩ rfl rfl k (fun x_13 h_12 k => ?_)
    refine R_ps 1 (pc2 := 139) (L2 := [some (vr (some w)), some (vi x1), some (vi x2), some (vi x3), some (vi 0), some (vi (x3 - x2))]) (st2 := [vi 1, vi x_13]) rfl ?_
    refine R_if rfl (fun c_14 => ?_) (fun c_14 => ?_)
    · have k := k.2 c_14
      exact R_drop k (LE_of (L := [none, none, none, none, none, some (vi (x3 - x2))]) (L2 := [some (vr (some w)), some (vi x1), some (vi x2), some (vi x3), some (vi 0), some (vi (x3 - x2))]) ⟨rfl, trivial⟩)
    · have k := k.1 (Classical.not_not.mp c_14)
      refine R_ps 1 (pc2 := 144) (L2 := [some (vr (some w)), some (vi x1), some (vi x2), some (vi x3), some (vi 0), some (vi (x3 - x2))]) (st2 := [vi (x3 - x2)]) rfl ?_
      refine R_if0 rfl (fun c_15 => ?_) (fun c_15 => ?_)
      · have k := k.2 c_15
        exact R_drop k (LE_of (L := [none, none, none, none, none, some (vi (x3 - x2))]) (L2 := [some (vr (some w)), some (vi x1), some (vi x2), some (vi x3), some (vi 0), some (vi (x3 - x2))]) ⟨rfl, trivial⟩)
      · have k := k.1 (Classical.not_not.mp c_15)
        refine R_ps 2 (pc2 := 149) (L2 := [some (vr (some w)), some (vi x1), some (vi x2), some (vi x3), some (vi 0), some (vi (x3 - x2))]) (st2 := [vi x1, vr (some w)]) rfl ?_
        refine R_cV (as := [vr (some w), vi x1]) rfl rfl ⟨Nat.le_of_ble_eq_true rfl, Nat.le_of_ble_eq_true rfl, rfl, (Or.inr ⟨_, rfl, t0⟩)⟩ rfl rfl k (fun h_17 k => ?_)
        exact R_drop k (LE_of (L := [none, none, none, none, none, some (vi (x3 - x2))]) (L2 := [some (vr (some w)), some (vi x1), some (vi x2), some (vi x3), some (vi 0), some (vi (x3 - x2))]) ⟨rfl, trivial⟩)
  · have k := k.1 (i32_lt c_1)
    refine R_ps 7 (pc2 := 110) (L2 := [some (vr (some w)), some (vi x1), some (vi x2), some (vi x3), some (vi 0), some (vi 0)]) (st2 := [vi 0, vi 1, vi x1, vr (some w)]) rfl ?_
    refine R_cV (as := [vr (some w), vi x1, vi 1, vi 0]) rfl rfl ⟨Nat.le_of_ble_eq_true rfl, Nat.le_of_ble_eq_true rfl, rfl, (Or.inr ⟨_, rfl, t0⟩)⟩ rfl rfl k (fun h_20 k => ?_)
    refine R_ps 6 (pc2 := 121) (L2 := [some (vr (some w)), some (vi x1), some (vi x2), some (vi x3), some (vi 0), some (vi 0)]) (st2 := [vi 12, vi x1, vr (some w), vi 12, vi x1, vr (some w)]) rfl ?_
    refine R_cI (as := [vr (some w), vi x1, vi 12]) rfl rfl ⟨Nat.le_of_ble_eq_true rfl, Nat.le_of_ble_eq_true rfl, rfl, (Or.inr ⟨_, rfl, t0⟩)⟩ rfl rfl k (fun x_24 h_23 k => ?_)
    refine R_ps 4 (pc2 := 129) (L2 := [some (vr (some w)), some (vi x1), some (vi x2), some (vi x3), some (vi 0), some (vi 0)]) (st2 := [vi ((x_24 + x3) - 0), vi 12, vi x1, vr (some w)]) rfl ?_
    refine R_cV (as := [vr (some w), vi x1, vi 12, vi ((x_24 + x3) - 0)]) rfl rfl ⟨Nat.le_of_ble_eq_true rfl, Nat.le_of_ble_eq_true rfl, rfl, (Or.inr ⟨_, rfl, t0⟩)⟩ rfl rfl k (fun h_26 k => ?_)
    refine R_ps 3 (pc2 := 135) (L2 := [some (vr (some w)), some (vi x1), some (vi x2), some (vi x3), some (vi 0), some (vi 0)]) (st2 := [vi 0, vi x1, vr (some w)]) rfl ?_
    refine R_cI (as := [vr (some w), vi x1, vi 0]) rfl rfl ⟨Nat.le_of_ble_eq_true rfl, Nat.le_of_ble_eq_true rfl, rfl, (Or.inr ⟨_, rfl, t0⟩)⟩ rfl rfl k (fun x_30 h_29 k => ?_)
    refine R_ps 1 (pc2 := 139) (L2 := [some (vr (some w)), some (vi x1), some (vi x2), some (vi x3), some (vi 0), some (vi 0)]) (st2 := [vi 1, vi x_30]) rfl ?_
    refine R_if rfl (fun c_31 => ?_) (fun c_31 => ?_)
    · have k := k.2 c_31
      exact R_drop k (LE_of (L := [none, none, none, none, none, some (vi 0)]) (L2 := [some (vr (some w)), some (vi x1), some (vi x2), some (vi x3), some (vi 0), some (vi 0)]) ⟨rfl, trivial⟩)
    · have k := k.1 (Classical.not_not.mp c_31)
      refine R_ps 1 (pc2 := 144) (L2 := [some (vr (some w)), some (vi x1), some (vi x2), some (vi x3), some (vi 0), some (vi 0)]) (st2 := [vi 0]) rfl ?_
      refine R_if0 rfl (fun c_32 => absurd (show ¬ (0 : Int32) = (0 : Int32) from c_32) (by decide)) (fun _ => ?_)
      refine R_ps 2 (pc2 := 149) (L2 := [some (vr (some w)), some (vi x1), some (vi x2), some (vi x3), some (vi 0), some (vi 0)]) (st2 := [vi x1, vr (some w)]) rfl ?_
      refine R_cV (as := [vr (some w), vi x1]) rfl rfl ⟨Nat.le_of_ble_eq_true rfl, Nat.le_of_ble_eq_true rfl, rfl, (Or.inr ⟨_, rfl, t0⟩)⟩ rfl rfl k (fun h_34 k => ?_)
      exact R_drop k (LE_of (L := [none, none, none, none, none, some (vi 0)]) (L2 := [some (vr (some w)), some (vi x1), some (vi x2), some (vi x3), some (vi 0), some (vi 0)]) ⟨rfl, trivial⟩)
theorem m221_152 {T N : Nat → Nat} {h : PH} {x5 : Int32} {K : Int32 → PH → Prop} (k : (K x5 h)) : WI T N 221 152 [none, none, none, none, none, some (vi x5)] [] h K := by
  show WP T N 221 152 [none, none, none, none, none, some (vi x5)] [] h _
  refine R_ps 1 (pc2 := 154) (L2 := [none, none, none, none, none, some (vi x5)]) (st2 := [vi x5]) rfl ?_
  exact R_iret rfl rfl ⟨_, rfl, k⟩
/-- DroneCorridorsModel.firstPad -/
theorem m222 {T N : Nat → Nat} {h : PH} {w : Nat} {K : Int32 → PH → Prop} (k : (WI T N 222 6 [some (vr (some w)), some (vi (-1)), some (vi 0), some (vi 0)] [] h K)) : CI T N 222 [vr (some w)] h K := by
  show WP T N 222 0 [some (vr (some w)), none, none, none] [] h _
  refine R_ps 6 (pc2 := 6) (L2 := [some (vr (some w)), some (vi (-1)), some (vi 0), some (vi 0)]) (st2 := []) rfl ?_
  exact k
theorem m222_6 {T N : Nat → Nat} {h : PH} {w : Nat} {x1 : Int32} {x2 : Int32} {x3 : Int32} {K : Int32 → PH → Prop} (t0 : T w = 12) (k : (∃ a_3, (gr h w 1) = some a_3 ∧ T a_3 = 22 ∧ inb 0 (N a_3) ∧ ((x3 < (gi h a_3 0) → (∃ a_11, (gr h w 1) = some a_11 ∧ T a_11 = 22 ∧ inb (1 + x3) (N a_11) ∧ (((gi h a_11 (Int32.toNatClampNeg (1 + x3))) = 0 → (WI T N 222 6 [some (vr (some w)), some (vi x1), some (vi x2), some (vi (x3 + 1))] [] h K)) ∧ (¬ ((gi h a_11 (Int32.toNatClampNeg (1 + x3))) = 0) → (CI T N 210 [vr (some w), vi x3] h (fun x_18 h_17 => (((x_18 = (-1) → (WI T N 222 6 [some (vr (some w)), some (vi x1), some (vi x2), some (vi (x3 + 1))] [] h_17 K)) ∧ (¬ (x_18 = (-1)) → (((x1 < 0 → (WI T N 222 6 [some (vr (some w)), some (vi x3), some (vi (gi h_17 w 21)), some (vi (x3 + 1))] [] h_17 K)) ∧ (¬ (x1 < 0) → ((((gi h_17 w 21) < x2 → (WI T N 222 6 [some (vr (some w)), some (vi x3), some (vi (gi h_17 w 21)), some (vi (x3 + 1))] [] h_17 K)) ∧ (¬ ((gi h_17 w 21) < x2) → (WI T N 222 6 [some (vr (some w)), some (vi x1), some (vi x2), some (vi (x3 + 1))] [] h_17 K)))))))))))))))) ∧ (¬ (x3 < (gi h a_3 0)) → (K x1 h))))) : WI T N 222 6 [some (vr (some w)), some (vi x1), some (vi x2), some (vi x3)] [] h K := by
  show WP T N 222 6 [some (vr (some w)), some (vi x1), some (vi x2), some (vi x3)] [] h _
  refine R_ps 2 (pc2 := 8) (L2 := [some (vr (some w)), some (vi x1), some (vi x2), some (vi x3)]) (st2 := [vr (some w), vi x3]) rfl ?_
  refine R_getR rfl t0 ?_
  refine R_ps 1 (pc2 := 12) (L2 := [some (vr (some w)), some (vi x1), some (vi x2), some (vi x3)]) (st2 := [vi 0, vr (gr h w 1), vi x3]) rfl ?_
  obtain ⟨a_3, e_4, k⟩ := k
  rw [e_4]
  obtain ⟨t_5, k⟩ := k
  obtain ⟨t_6, k⟩ := k
  refine R_iald rfl (Or.inl t_5) t_6 ?_
  refine R_if rfl (fun c_7 => ?_) (fun c_7 => ?_)
  · have k := k.2 (i32_nlt c_7)
    refine R_ps 1 (pc2 := 65) (L2 := [some (vr (some w)), some (vi x1), some (vi x2), some (vi x3)]) (st2 := [vi x1]) rfl ?_
    exact R_iret rfl rfl ⟨_, rfl, k⟩
  · have k := k.1 (i32_lt c_7)
    refine R_ps 1 (pc2 := 17) (L2 := [some (vr (some w)), some (vi x1), some (vi x2), some (vi x3)]) (st2 := [vr (some w)]) rfl ?_
    refine R_getR rfl t0 ?_
    refine R_ps 3 (pc2 := 23) (L2 := [some (vr (some w)), some (vi x1), some (vi x2), some (vi x3)]) (st2 := [vi (1 + x3), vr (gr h w 1)]) rfl ?_
    obtain ⟨a_11, e_12, k⟩ := k
    rw [e_12]
    obtain ⟨t_13, k⟩ := k
    obtain ⟨t_14, k⟩ := k
    refine R_iald rfl (Or.inl t_13) t_14 ?_
    refine R_if0 rfl (fun c_15 => ?_) (fun c_15 => ?_)
    · have k := k.1 c_15
      refine R_ps 2 (pc2 := 6) (L2 := [some (vr (some w)), some (vi x1), some (vi x2), some (vi (x3 + 1))]) (st2 := []) rfl ?_
      exact k
    · have k := k.2 c_15
      refine R_ps 2 (pc2 := 29) (L2 := [some (vr (some w)), some (vi x1), some (vi x2), some (vi x3)]) (st2 := [vi x3, vr (some w)]) rfl ?_
      refine R_cI (as := [vr (some w), vi x3]) rfl rfl ⟨Nat.le_of_ble_eq_true rfl, Nat.le_of_ble_eq_true rfl, rfl, (Or.inr ⟨_, rfl, t0⟩)⟩ rfl rfl k (fun x_18 h_17 k => ?_)
      refine R_ps 1 (pc2 := 33) (L2 := [some (vr (some w)), some (vi x1), some (vi x2), some (vi x3)]) (st2 := [vi (-1), vi x_18]) rfl ?_
      refine R_if rfl (fun c_19 => ?_) (fun c_19 => ?_)
      · have k := k.1 c_19
        refine R_ps 2 (pc2 := 6) (L2 := [some (vr (some w)), some (vi x1), some (vi x2), some (vi (x3 + 1))]) (st2 := []) rfl ?_
        exact k
      · have k := k.2 c_19
        refine R_ps 1 (pc2 := 37) (L2 := [some (vr (some w)), some (vi x1), some (vi x2), some (vi x3)]) (st2 := [vi x1]) rfl ?_
        refine R_if0 rfl (fun c_20 => ?_) (fun c_20 => ?_)
        · have k := k.1 c_20
          refine R_ps 3 (pc2 := 54) (L2 := [some (vr (some w)), some (vi x3), some (vi x2), some (vi x3)]) (st2 := [vr (some w)]) rfl ?_
          refine R_getI rfl t0 ?_
          refine R_ps 3 (pc2 := 6) (L2 := [some (vr (some w)), some (vi x3), some (vi (gi h_17 w 21)), some (vi (x3 + 1))]) (st2 := []) rfl ?_
          exact k
        · have k := k.2 c_20
          refine R_ps 1 (pc2 := 41) (L2 := [some (vr (some w)), some (vi x1), some (vi x2), some (vi x3)]) (st2 := [vr (some w)]) rfl ?_
          refine R_getI rfl t0 ?_
          refine R_ps 1 (pc2 := 45) (L2 := [some (vr (some w)), some (vi x1), some (vi x2), some (vi x3)]) (st2 := [vi x2, vi (gi h_17 w 21)]) rfl ?_
          refine R_if rfl (fun c_23 => ?_) (fun c_23 => ?_)
          · have k := k.1 c_23
            refine R_ps 3 (pc2 := 54) (L2 := [some (vr (some w)), some (vi x3), some (vi x2), some (vi x3)]) (st2 := [vr (some w)]) rfl ?_
            refine R_getI rfl t0 ?_
            refine R_ps 3 (pc2 := 6) (L2 := [some (vr (some w)), some (vi x3), some (vi (gi h_17 w 21)), some (vi (x3 + 1))]) (st2 := []) rfl ?_
            exact k
          · have k := k.2 c_23
            refine R_ps 3 (pc2 := 6) (L2 := [some (vr (some w)), some (vi x1), some (vi x2), some (vi (x3 + 1))]) (st2 := []) rfl ?_
            exact k
/-- DroneCorridorsModel.reroute -/
theorem m223 {T N : Nat → Nat} {h : PH} {w : Nat} {K : Int32 → PH → Prop} (t0 : T w = 12) (k : (∀ h_2, h_2 = si h w 0 0 → CV T N 160 [vr (some w)] h_2 (fun h_5 => (CI T N 200 [vr (some w)] h_5 (fun x_9 h_8 => (WI T N 223 18 [some (vr (some w)), some (vi x_9), some (vi 0), some (vi 0), none, none, none, none] [] h_8 K)))))) : CI T N 223 [vr (some w)] h K := by
  show WP T N 223 0 [some (vr (some w)), none, none, none, none, none, none, none] [] h _
  refine R_ps 2 (pc2 := 2) (L2 := [some (vr (some w)), none, none, none, none, none, none, none]) (st2 := [vi 0, vr (some w)]) rfl ?_
  refine R_putI rfl t0 ?_
  show WP T N _ _ _ _ (si h w 0 0) _
  generalize e_3 : si h w 0 0 = h_2
  replace k := k h_2 e_3.symm
  refine R_ps 1 (pc2 := 6) (L2 := [some (vr (some w)), none, none, none, none, none, none, none]) (st2 := [vr (some w)]) rfl ?_
  refine R_cV (as := [vr (some w)]) rfl rfl ⟨Nat.le_of_ble_eq_true rfl, Nat.le_of_ble_eq_true rfl, rfl, (Or.inr ⟨_, rfl, t0⟩)⟩ rfl rfl k (fun h_5 k => ?_)
  refine R_ps 1 (pc2 := 10) (L2 := [some (vr (some w)), none, none, none, none, none, none, none]) (st2 := [vr (some w)]) rfl ?_
  refine R_cI (as := [vr (some w)]) rfl rfl ⟨Nat.le_of_ble_eq_true rfl, Nat.le_of_ble_eq_true rfl, rfl, (Or.inr ⟨_, rfl, t0⟩)⟩ rfl rfl k (fun x_9 h_8 k => ?_)
  refine R_ps 5 (pc2 := 18) (L2 := [some (vr (some w)), some (vi x_9), some (vi 0), some (vi 0), none, none, none, none]) (st2 := []) rfl ?_
  exact k
theorem m223_18 {T N : Nat → Nat} {h : PH} {w : Nat} {x1 : Int32} {x2 : Int32} {x3 : Int32} {K : Int32 → PH → Prop} (t0 : T w = 12) (k : (∃ a_3, (gr h w 1) = some a_3 ∧ T a_3 = 22 ∧ inb 117 (N a_3) ∧ ((x3 < (gi h a_3 117) → (((((x1 >>> (x3 &&& 31)) &&& 1) = 0 → (WI T N 223 18 [some (vr (some w)), some (vi x1), some (vi x2), some (vi (x3 + 1)), none, none, none, none] [] h K)) ∧ (¬ (((x1 >>> (x3 &&& 31)) &&& 1) = 0) → (CI T N 206 [vr (some w), vi x3] h (fun x_12 h_11 => (CV T N 208 [vr (some w), vi x3, vi 1, vi 1] h_11 (fun h_14 => (CI T N 168 [vr (some w), vi x3, vi 4] h_14 (fun x_18 h_17 => (((x_12 = 0 → (((x_12 = 0 → (CI T N 193 [vr (some w), vi x3] h_17 (fun x_24 h_23 => (CV T N 169 [vr (some w), vi x3, vi 5, vi x_24] h_23 (fun h_26 => (CV T N 169 [vr (some w), vi x3, vi 4, vi (-1)] h_26 (fun h_29 => (WI T N 223 18 [some (vr (some w)), some (vi x1), some (vi x2), some (vi (x3 + 1)), none, none, none, none] [] h_29 K)))))))) ∧ (¬ (x_12 = 0) → (CI T N 222 [vr (some w)] h_17 (fun x_33 h_32 => (((x_33 < 0 → (CI T N 193 [vr (some w), vi x3] h_32 (fun x_37 h_36 => (CV T N 169 [vr (some w), vi x3, vi 5, vi x_37] h_36 (fun h_39 => (CV T N 169 [vr (some w), vi x3, vi 4, vi (-1)] h_39 (fun h_42 => (WI T N 223 18 [some (vr (some w)), some (vi x1), some (vi x2), some (vi (x3 + 1)), none, none, none, none] [] h_42 K)))))))) ∧ (¬ (x_33 < 0) → (CI T N 210 [vr (some w), vi x_33] h_32 (fun x_46 h_45 => (CV T N 213 [vr (some w), vi x3, vi x_46, vi x_33] h_45 (fun h_48 => (WI T N 223 18 [some (vr (some w)), some (vi x1), some (vi x2), some (vi (x3 + 1)), none, none, none, none] [] h_48 K)))))))))))))) ∧ (¬ (x_12 = 0) → (CI T N 210 [vr (some w), vi x_18] h_17 (fun x_52 h_51 => (((x_52 = (-1) → (((x_12 = 0 → (CI T N 193 [vr (some w), vi x3] h_51 (fun x_58 h_57 => (CV T N 169 [vr (some w), vi x3, vi 5, vi x_58] h_57 (fun h_60 => (CV T N 169 [vr (some w), vi x3, vi 4, vi (-1)] h_60 (fun h_63 => (WI T N 223 18 [some (vr (some w)), some (vi x1), some (vi x2), some (vi (x3 + 1)), none, none, none, none] [] h_63 K)))))))) ∧ (¬ (x_12 = 0) → (CI T N 222 [vr (some w)] h_51 (fun x_67 h_66 => (((x_67 < 0 → (CI T N 193 [vr (some w), vi x3] h_66 (fun x_71 h_70 => (CV T N 169 [vr (some w), vi x3, vi 5, vi x_71] h_70 (fun h_73 => (CV T N 169 [vr (some w), vi x3, vi 4, vi (-1)] h_73 (fun h_76 => (WI T N 223 18 [some (vr (some w)), some (vi x1), some (vi x2), some (vi (x3 + 1)), none, none, none, none] [] h_76 K)))))))) ∧ (¬ (x_67 < 0) → (CI T N 210 [vr (some w), vi x_67] h_66 (fun x_80 h_79 => (CV T N 213 [vr (some w), vi x3, vi x_80, vi x_67] h_79 (fun h_82 => (WI T N 223 18 [some (vr (some w)), some (vi x1), some (vi x2), some (vi (x3 + 1)), none, none, none, none] [] h_82 K)))))))))))))) ∧ (¬ (x_52 = (-1)) → (CI T N 210 [vr (some w), vi x_18] h_51 (fun x_86 h_85 => (CV T N 213 [vr (some w), vi x3, vi x_86, vi x_18] h_85 (fun h_88 => (WI T N 223 18 [some (vr (some w)), some (vi x1), some (vi (x2 + 1)), some (vi (x3 + 1)), none, none, none, none] [] h_88 K))))))))))))))))))))))) ∧ (¬ (x3 < (gi h a_3 117)) → (K x2 h))))) : WI T N 223 18 [some (vr (some w)), some (vi x1), some (vi x2), some (vi x3), none, none, none, none] [] h K := by
  show WP T N 223 18 [some (vr (some w)), some (vi x1), some (vi x2), some (vi x3), none, none, none, none] [] h _
  refine R_ps 2 (pc2 := 20) (L2 := [some (vr (some w)), some (vi x1), some (vi x2), some (vi x3), none, none, none, none]) (st2 := [vr (some w), vi x3]) rfl ?_
  refine R_getR rfl t0 ?_
  refine R_ps 1 (pc2 := 25) (L2 := [some (vr (some w)), some (vi x1), some (vi x2), some (vi x3), none, none, none, none]) (st2 := [vi 117, vr (gr h w 1), vi x3]) rfl ?_
  obtain ⟨a_3, e_4, k⟩ := k
  rw [e_4]
  obtain ⟨t_5, k⟩ := k
  obtain ⟨t_6, k⟩ := k
  refine R_iald rfl (Or.inl t_5) t_6 ?_
  refine R_if rfl (fun c_7 => ?_) (fun c_7 => ?_)
  · have k := k.2 (i32_nlt c_7)
    refine R_ps 1 (pc2 := 165) (L2 := [some (vr (some w)), some (vi x1), some (vi x2), some (vi x3), none, none, none, none]) (st2 := [vi x2]) rfl ?_
    exact R_iret rfl rfl ⟨_, rfl, k⟩
  · have k := k.1 (i32_lt c_7)
    refine R_ps 5 (pc2 := 34) (L2 := [some (vr (some w)), some (vi x1), some (vi x2), some (vi x3), none, none, none, none]) (st2 := [vi ((x1 >>> (x3 &&& 31)) &&& 1)]) rfl ?_
    refine R_if0 rfl (fun c_9 => ?_) (fun c_9 => ?_)
    · have k := k.2 c_9
      refine R_ps 2 (pc2 := 42) (L2 := [some (vr (some w)), some (vi x1), some (vi x2), some (vi x3), none, none, none, none]) (st2 := [vi x3, vr (some w)]) rfl ?_
      refine R_cI (as := [vr (some w), vi x3]) rfl rfl ⟨Nat.le_of_ble_eq_true rfl, Nat.le_of_ble_eq_true rfl, rfl, (Or.inr ⟨_, rfl, t0⟩)⟩ rfl rfl k (fun x_12 h_11 k => ?_)
      refine R_ps 5 (pc2 := 51) (L2 := [some (vr (some w)), some (vi x1), some (vi x2), some (vi x3), some (vi x_12), none, none, none]) (st2 := [vi 1, vi 1, vi x3, vr (some w)]) rfl ?_
      refine R_cV (as := [vr (some w), vi x3, vi 1, vi 1]) rfl rfl ⟨Nat.le_of_ble_eq_true rfl, Nat.le_of_ble_eq_true rfl, rfl, (Or.inr ⟨_, rfl, t0⟩)⟩ rfl rfl k (fun h_14 k => ?_)
      refine R_ps 3 (pc2 := 57) (L2 := [some (vr (some w)), some (vi x1), some (vi x2), some (vi x3), some (vi x_12), none, none, none]) (st2 := [vi 4, vi x3, vr (some w)]) rfl ?_
      refine R_cI (as := [vr (some w), vi x3, vi 4]) rfl rfl ⟨Nat.le_of_ble_eq_true rfl, Nat.le_of_ble_eq_true rfl, rfl, (Or.inr ⟨_, rfl, t0⟩)⟩ rfl rfl k (fun x_18 h_17 k => ?_)
      refine R_ps 2 (pc2 := 64) (L2 := [some (vr (some w)), some (vi x1), some (vi x2), some (vi x3), some (vi x_12), some (vi x_18), none, none]) (st2 := [vi x_12]) rfl ?_
      refine R_if0 rfl (fun c_19 => ?_) (fun c_19 => ?_)
      · have k := k.1 c_19
        refine R_ps 1 (pc2 := 102) (L2 := [some (vr (some w)), some (vi x1), some (vi x2), some (vi x3), some (vi x_12), some (vi x_18), none, none]) (st2 := [vi x_12]) rfl ?_
        refine R_if0 rfl (fun c_20 => ?_) (fun c_20 => ?_)
        · have k := k.1 c_20
          refine R_ps 3 (pc2 := 117) (L2 := [some (vr (some w)), some (vi x1), some (vi x2), some (vi x3), some (vi x_12), some (vi x_18), some (vi (-1)), none]) (st2 := [vi (-1)]) rfl ?_
          refine R_if0 rfl (fun _ => ?_) (fun c_21 => absurd (show (-1 : Int32) < (0 : Int32) by decide) c_21)
          refine R_ps 5 (pc2 := 145) (L2 := [some (vr (some w)), some (vi x1), some (vi x2), some (vi x3), some (vi x_12), some (vi x_18), some (vi (-1)), none]) (st2 := [vi x3, vr (some w), vi 5, vi x3, vr (some w)]) rfl ?_
          refine R_cI (as := [vr (some w), vi x3]) rfl rfl ⟨Nat.le_of_ble_eq_true rfl, Nat.le_of_ble_eq_true rfl, rfl, (Or.inr ⟨_, rfl, t0⟩)⟩ rfl rfl k (fun x_24 h_23 k => ?_)
          refine R_cV (as := [vr (some w), vi x3, vi 5, vi x_24]) rfl rfl ⟨Nat.le_of_ble_eq_true rfl, Nat.le_of_ble_eq_true rfl, rfl, (Or.inr ⟨_, rfl, t0⟩)⟩ rfl rfl k (fun h_26 k => ?_)
          refine R_ps 4 (pc2 := 155) (L2 := [some (vr (some w)), some (vi x1), some (vi x2), some (vi x3), some (vi x_12), some (vi x_18), some (vi (-1)), none]) (st2 := [vi (-1), vi 4, vi x3, vr (some w)]) rfl ?_
          refine R_cV (as := [vr (some w), vi x3, vi 4, vi (-1)]) rfl rfl ⟨Nat.le_of_ble_eq_true rfl, Nat.le_of_ble_eq_true rfl, rfl, (Or.inr ⟨_, rfl, t0⟩)⟩ rfl rfl k (fun h_29 k => ?_)
          refine R_ps 2 (pc2 := 18) (L2 := [some (vr (some w)), some (vi x1), some (vi x2), some (vi (x3 + 1)), some (vi x_12), some (vi x_18), some (vi (-1)), none]) (st2 := []) rfl ?_
          exact R_drop k (LE_of (L := [some (vr (some w)), some (vi x1), some (vi x2), some (vi (x3 + 1)), none, none, none, none]) (L2 := [some (vr (some w)), some (vi x1), some (vi x2), some (vi (x3 + 1)), some (vi x_12), some (vi x_18), some (vi (-1)), none]) ⟨rfl, rfl, rfl, rfl, trivial⟩)
        · have k := k.2 c_20
          refine R_ps 1 (pc2 := 106) (L2 := [some (vr (some w)), some (vi x1), some (vi x2), some (vi x3), some (vi x_12), some (vi x_18), none, none]) (st2 := [vr (some w)]) rfl ?_
          refine R_cI (as := [vr (some w)]) rfl rfl ⟨Nat.le_of_ble_eq_true rfl, Nat.le_of_ble_eq_true rfl, rfl, (Or.inr ⟨_, rfl, t0⟩)⟩ rfl rfl k (fun x_33 h_32 k => ?_)
          refine R_ps 3 (pc2 := 117) (L2 := [some (vr (some w)), some (vi x1), some (vi x2), some (vi x3), some (vi x_12), some (vi x_18), some (vi x_33), none]) (st2 := [vi x_33]) rfl ?_
          refine R_if0 rfl (fun c_34 => ?_) (fun c_34 => ?_)
          · have k := k.1 c_34
            refine R_ps 5 (pc2 := 145) (L2 := [some (vr (some w)), some (vi x1), some (vi x2), some (vi x3), some (vi x_12), some (vi x_18), some (vi x_33), none]) (st2 := [vi x3, vr (some w), vi 5, vi x3, vr (some w)]) rfl ?_
            refine R_cI (as := [vr (some w), vi x3]) rfl rfl ⟨Nat.le_of_ble_eq_true rfl, Nat.le_of_ble_eq_true rfl, rfl, (Or.inr ⟨_, rfl, t0⟩)⟩ rfl rfl k (fun x_37 h_36 k => ?_)
            refine R_cV (as := [vr (some w), vi x3, vi 5, vi x_37]) rfl rfl ⟨Nat.le_of_ble_eq_true rfl, Nat.le_of_ble_eq_true rfl, rfl, (Or.inr ⟨_, rfl, t0⟩)⟩ rfl rfl k (fun h_39 k => ?_)
            refine R_ps 4 (pc2 := 155) (L2 := [some (vr (some w)), some (vi x1), some (vi x2), some (vi x3), some (vi x_12), some (vi x_18), some (vi x_33), none]) (st2 := [vi (-1), vi 4, vi x3, vr (some w)]) rfl ?_
            refine R_cV (as := [vr (some w), vi x3, vi 4, vi (-1)]) rfl rfl ⟨Nat.le_of_ble_eq_true rfl, Nat.le_of_ble_eq_true rfl, rfl, (Or.inr ⟨_, rfl, t0⟩)⟩ rfl rfl k (fun h_42 k => ?_)
            refine R_ps 2 (pc2 := 18) (L2 := [some (vr (some w)), some (vi x1), some (vi x2), some (vi (x3 + 1)), some (vi x_12), some (vi x_18), some (vi x_33), none]) (st2 := []) rfl ?_
            exact R_drop k (LE_of (L := [some (vr (some w)), some (vi x1), some (vi x2), some (vi (x3 + 1)), none, none, none, none]) (L2 := [some (vr (some w)), some (vi x1), some (vi x2), some (vi (x3 + 1)), some (vi x_12), some (vi x_18), some (vi x_33), none]) ⟨rfl, rfl, rfl, rfl, trivial⟩)
          · have k := k.2 c_34
            refine R_ps 2 (pc2 := 123) (L2 := [some (vr (some w)), some (vi x1), some (vi x2), some (vi x3), some (vi x_12), some (vi x_18), some (vi x_33), none]) (st2 := [vi x_33, vr (some w)]) rfl ?_
            refine R_cI (as := [vr (some w), vi x_33]) rfl rfl ⟨Nat.le_of_ble_eq_true rfl, Nat.le_of_ble_eq_true rfl, rfl, (Or.inr ⟨_, rfl, t0⟩)⟩ rfl rfl k (fun x_46 h_45 k => ?_)
            refine R_ps 5 (pc2 := 134) (L2 := [some (vr (some w)), some (vi x1), some (vi x2), some (vi x3), some (vi x_12), some (vi x_18), some (vi x_33), some (vi x_46)]) (st2 := [vi x_33, vi x_46, vi x3, vr (some w)]) rfl ?_
            refine R_cV (as := [vr (some w), vi x3, vi x_46, vi x_33]) rfl rfl ⟨Nat.le_of_ble_eq_true rfl, Nat.le_of_ble_eq_true rfl, rfl, (Or.inr ⟨_, rfl, t0⟩)⟩ rfl rfl k (fun h_48 k => ?_)
            refine R_ps 3 (pc2 := 18) (L2 := [some (vr (some w)), some (vi x1), some (vi x2), some (vi (x3 + 1)), some (vi x_12), some (vi x_18), some (vi x_33), some (vi x_46)]) (st2 := []) rfl ?_
            exact R_drop k (LE_of (L := [some (vr (some w)), some (vi x1), some (vi x2), some (vi (x3 + 1)), none, none, none, none]) (L2 := [some (vr (some w)), some (vi x1), some (vi x2), some (vi (x3 + 1)), some (vi x_12), some (vi x_18), some (vi x_33), some (vi x_46)]) ⟨rfl, rfl, rfl, rfl, trivial⟩)
      · have k := k.2 c_19
        refine R_ps 2 (pc2 := 70) (L2 := [some (vr (some w)), some (vi x1), some (vi x2), some (vi x3), some (vi x_12), some (vi x_18), none, none]) (st2 := [vi x_18, vr (some w)]) rfl ?_
        refine R_cI (as := [vr (some w), vi x_18]) rfl rfl ⟨Nat.le_of_ble_eq_true rfl, Nat.le_of_ble_eq_true rfl, rfl, (Or.inr ⟨_, rfl, t0⟩)⟩ rfl rfl k (fun x_52 h_51 k => ?_)
        refine R_ps 1 (pc2 := 74) (L2 := [some (vr (some w)), some (vi x1), some (vi x2), some (vi x3), some (vi x_12), some (vi x_18), none, none]) (st2 := [vi (-1), vi x_52]) rfl ?_
        refine R_if rfl (fun c_53 => ?_) (fun c_53 => ?_)
        · have k := k.1 c_53
          refine R_ps 1 (pc2 := 102) (L2 := [some (vr (some w)), some (vi x1), some (vi x2), some (vi x3), some (vi x_12), some (vi x_18), none, none]) (st2 := [vi x_12]) rfl ?_
          refine R_if0 rfl (fun c_54 => ?_) (fun c_54 => ?_)
          · have k := k.1 c_54
            refine R_ps 3 (pc2 := 117) (L2 := [some (vr (some w)), some (vi x1), some (vi x2), some (vi x3), some (vi x_12), some (vi x_18), some (vi (-1)), none]) (st2 := [vi (-1)]) rfl ?_
            refine R_if0 rfl (fun _ => ?_) (fun c_55 => absurd (show (-1 : Int32) < (0 : Int32) by decide) c_55)
            refine R_ps 5 (pc2 := 145) (L2 := [some (vr (some w)), some (vi x1), some (vi x2), some (vi x3), some (vi x_12), some (vi x_18), some (vi (-1)), none]) (st2 := [vi x3, vr (some w), vi 5, vi x3, vr (some w)]) rfl ?_
            refine R_cI (as := [vr (some w), vi x3]) rfl rfl ⟨Nat.le_of_ble_eq_true rfl, Nat.le_of_ble_eq_true rfl, rfl, (Or.inr ⟨_, rfl, t0⟩)⟩ rfl rfl k (fun x_58 h_57 k => ?_)
            refine R_cV (as := [vr (some w), vi x3, vi 5, vi x_58]) rfl rfl ⟨Nat.le_of_ble_eq_true rfl, Nat.le_of_ble_eq_true rfl, rfl, (Or.inr ⟨_, rfl, t0⟩)⟩ rfl rfl k (fun h_60 k => ?_)
            refine R_ps 4 (pc2 := 155) (L2 := [some (vr (some w)), some (vi x1), some (vi x2), some (vi x3), some (vi x_12), some (vi x_18), some (vi (-1)), none]) (st2 := [vi (-1), vi 4, vi x3, vr (some w)]) rfl ?_
            refine R_cV (as := [vr (some w), vi x3, vi 4, vi (-1)]) rfl rfl ⟨Nat.le_of_ble_eq_true rfl, Nat.le_of_ble_eq_true rfl, rfl, (Or.inr ⟨_, rfl, t0⟩)⟩ rfl rfl k (fun h_63 k => ?_)
            refine R_ps 2 (pc2 := 18) (L2 := [some (vr (some w)), some (vi x1), some (vi x2), some (vi (x3 + 1)), some (vi x_12), some (vi x_18), some (vi (-1)), none]) (st2 := []) rfl ?_
            exact R_drop k (LE_of (L := [some (vr (some w)), some (vi x1), some (vi x2), some (vi (x3 + 1)), none, none, none, none]) (L2 := [some (vr (some w)), some (vi x1), some (vi x2), some (vi (x3 + 1)), some (vi x_12), some (vi x_18), some (vi (-1)), none]) ⟨rfl, rfl, rfl, rfl, trivial⟩)
          · have k := k.2 c_54
            refine R_ps 1 (pc2 := 106) (L2 := [some (vr (some w)), some (vi x1), some (vi x2), some (vi x3), some (vi x_12), some (vi x_18), none, none]) (st2 := [vr (some w)]) rfl ?_
            refine R_cI (as := [vr (some w)]) rfl rfl ⟨Nat.le_of_ble_eq_true rfl, Nat.le_of_ble_eq_true rfl, rfl, (Or.inr ⟨_, rfl, t0⟩)⟩ rfl rfl k (fun x_67 h_66 k => ?_)
            refine R_ps 3 (pc2 := 117) (L2 := [some (vr (some w)), some (vi x1), some (vi x2), some (vi x3), some (vi x_12), some (vi x_18), some (vi x_67), none]) (st2 := [vi x_67]) rfl ?_
            refine R_if0 rfl (fun c_68 => ?_) (fun c_68 => ?_)
            · have k := k.1 c_68
              refine R_ps 5 (pc2 := 145) (L2 := [some (vr (some w)), some (vi x1), some (vi x2), some (vi x3), some (vi x_12), some (vi x_18), some (vi x_67), none]) (st2 := [vi x3, vr (some w), vi 5, vi x3, vr (some w)]) rfl ?_
              refine R_cI (as := [vr (some w), vi x3]) rfl rfl ⟨Nat.le_of_ble_eq_true rfl, Nat.le_of_ble_eq_true rfl, rfl, (Or.inr ⟨_, rfl, t0⟩)⟩ rfl rfl k (fun x_71 h_70 k => ?_)
              refine R_cV (as := [vr (some w), vi x3, vi 5, vi x_71]) rfl rfl ⟨Nat.le_of_ble_eq_true rfl, Nat.le_of_ble_eq_true rfl, rfl, (Or.inr ⟨_, rfl, t0⟩)⟩ rfl rfl k (fun h_73 k => ?_)
              refine R_ps 4 (pc2 := 155) (L2 := [some (vr (some w)), some (vi x1), some (vi x2), some (vi x3), some (vi x_12), some (vi x_18), some (vi x_67), none]) (st2 := [vi (-1), vi 4, vi x3, vr (some w)]) rfl ?_
              refine R_cV (as := [vr (some w), vi x3, vi 4, vi (-1)]) rfl rfl ⟨Nat.le_of_ble_eq_true rfl, Nat.le_of_ble_eq_true rfl, rfl, (Or.inr ⟨_, rfl, t0⟩)⟩ rfl rfl k (fun h_76 k => ?_)
              refine R_ps 2 (pc2 := 18) (L2 := [some (vr (some w)), some (vi x1), some (vi x2), some (vi (x3 + 1)), some (vi x_12), some (vi x_18), some (vi x_67), none]) (st2 := []) rfl ?_
              exact R_drop k (LE_of (L := [some (vr (some w)), some (vi x1), some (vi x2), some (vi (x3 + 1)), none, none, none, none]) (L2 := [some (vr (some w)), some (vi x1), some (vi x2), some (vi (x3 + 1)), some (vi x_12), some (vi x_18), some (vi x_67), none]) ⟨rfl, rfl, rfl, rfl, trivial⟩)
            · have k := k.2 c_68
              refine R_ps 2 (pc2 := 123) (L2 := [some (vr (some w)), some (vi x1), some (vi x2), some (vi x3), some (vi x_12), some (vi x_18), some (vi x_67), none]) (st2 := [vi x_67, vr (some w)]) rfl ?_
              refine R_cI (as := [vr (some w), vi x_67]) rfl rfl ⟨Nat.le_of_ble_eq_true rfl, Nat.le_of_ble_eq_true rfl, rfl, (Or.inr ⟨_, rfl, t0⟩)⟩ rfl rfl k (fun x_80 h_79 k => ?_)
              refine R_ps 5 (pc2 := 134) (L2 := [some (vr (some w)), some (vi x1), some (vi x2), some (vi x3), some (vi x_12), some (vi x_18), some (vi x_67), some (vi x_80)]) (st2 := [vi x_67, vi x_80, vi x3, vr (some w)]) rfl ?_
              refine R_cV (as := [vr (some w), vi x3, vi x_80, vi x_67]) rfl rfl ⟨Nat.le_of_ble_eq_true rfl, Nat.le_of_ble_eq_true rfl, rfl, (Or.inr ⟨_, rfl, t0⟩)⟩ rfl rfl k (fun h_82 k => ?_)
              refine R_ps 3 (pc2 := 18) (L2 := [some (vr (some w)), some (vi x1), some (vi x2), some (vi (x3 + 1)), some (vi x_12), some (vi x_18), some (vi x_67), some (vi x_80)]) (st2 := []) rfl ?_
              exact R_drop k (LE_of (L := [some (vr (some w)), some (vi x1), some (vi x2), some (vi (x3 + 1)), none, none, none, none]) (L2 := [some (vr (some w)), some (vi x1), some (vi x2), some (vi (x3 + 1)), some (vi x_12), some (vi x_18), some (vi x_67), some (vi x_80)]) ⟨rfl, rfl, rfl, rfl, trivial⟩)
        · have k := k.2 c_53
          refine R_ps 2 (pc2 := 80) (L2 := [some (vr (some w)), some (vi x1), some (vi x2), some (vi x3), some (vi x_12), some (vi x_18), none, none]) (st2 := [vi x_18, vr (some w)]) rfl ?_
          refine R_cI (as := [vr (some w), vi x_18]) rfl rfl ⟨Nat.le_of_ble_eq_true rfl, Nat.le_of_ble_eq_true rfl, rfl, (Or.inr ⟨_, rfl, t0⟩)⟩ rfl rfl k (fun x_86 h_85 k => ?_)
          refine R_ps 5 (pc2 := 91) (L2 := [some (vr (some w)), some (vi x1), some (vi x2), some (vi x3), some (vi x_12), some (vi x_18), some (vi x_86), none]) (st2 := [vi x_18, vi x_86, vi x3, vr (some w)]) rfl ?_
          refine R_cV (as := [vr (some w), vi x3, vi x_86, vi x_18]) rfl rfl ⟨Nat.le_of_ble_eq_true rfl, Nat.le_of_ble_eq_true rfl, rfl, (Or.inr ⟨_, rfl, t0⟩)⟩ rfl rfl k (fun h_88 k => ?_)
          refine R_ps 4 (pc2 := 18) (L2 := [some (vr (some w)), some (vi x1), some (vi (x2 + 1)), some (vi (x3 + 1)), some (vi x_12), some (vi x_18), some (vi x_86), none]) (st2 := []) rfl ?_
          exact R_drop k (LE_of (L := [some (vr (some w)), some (vi x1), some (vi (x2 + 1)), some (vi (x3 + 1)), none, none, none, none]) (L2 := [some (vr (some w)), some (vi x1), some (vi (x2 + 1)), some (vi (x3 + 1)), some (vi x_12), some (vi x_18), some (vi x_86), none]) ⟨rfl, rfl, rfl, rfl, trivial⟩)
    · have k := k.1 (Classical.not_not.mp c_9)
      refine R_ps 3 (pc2 := 18) (L2 := [some (vr (some w)), some (vi x1), some (vi x2), some (vi (x3 + 1)), none, none, none, none]) (st2 := []) rfl ?_
      exact k
/-- DroneCorridorsModel.nearestPad -/
theorem m224 {T N : Nat → Nat} {h : PH} {w : Nat} {x1 : Int32} {K : Int32 → PH → Prop} (t0 : T w = 12) (k : (CI T N 164 [vr (some w), vi x1] h (fun x_3 h_2 => (((x_3 = 0 → (∀ h_6, h_6 = si h_2 w 0 1 → (((gi h_6 w 0) = 1 → (K 0 h_6)) ∧ (¬ ((gi h_6 w 0) = 1) → (CI T N 206 [vr (some w), vi x1] h_6 (fun x_12 h_11 => (((x_12 = 0 → (CI T N 157 [vr (some w), vi 2] h_11 (fun x_28 h_27 => (K x_28 h_27)))) ∧ (¬ (x_12 = 0) → (CV T N 208 [vr (some w), vi x1, vi 1, vi 1] h_11 (fun h_15 => (CI T N 222 [vr (some w)] h_15 (fun x_19 h_18 => (((x_19 < 0 → (CI T N 157 [vr (some w), vi 2] h_18 (fun x_23 h_22 => (K x_23 h_22)))) ∧ (¬ (x_19 < 0) → (K x_19 h_18))))))))))))))))) ∧ (¬ (x_3 = 0) → (∀ h_32, h_32 = si h_2 w 0 0 → (((gi h_32 w 0) = 1 → (K 0 h_32)) ∧ (¬ ((gi h_32 w 0) = 1) → (CI T N 206 [vr (some w), vi x1] h_32 (fun x_38 h_37 => (((x_38 = 0 → (CI T N 157 [vr (some w), vi 2] h_37 (fun x_54 h_53 => (K x_54 h_53)))) ∧ (¬ (x_38 = 0) → (CV T N 208 [vr (some w), vi x1, vi 1, vi 1] h_37 (fun h_41 => (CI T N 222 [vr (some w)] h_41 (fun x_45 h_44 => (((x_45 < 0 → (CI T N 157 [vr (some w), vi 2] h_44 (fun x_49 h_48 => (K x_49 h_48)))) ∧ (¬ (x_45 < 0) → (K x_45 h_44)))))))))))))))))))))) : CI T N 224 [vr (some w), vi x1] h K := by
  show WP T N 224 0 [some (vr (some w)), some (vi x1), none] [] h _
  refine R_ps 3 (pc2 := 3) (L2 := [some (vr (some w)), some (vi x1), none]) (st2 := [vi x1, vr (some w), vr (some w)]) rfl ?_
  refine R_cI (as := [vr (some w), vi x1]) rfl rfl ⟨Nat.le_of_ble_eq_true rfl, Nat.le_of_ble_eq_true rfl, rfl, (Or.inr ⟨_, rfl, t0⟩)⟩ rfl rfl k (fun x_3 h_2 k => ?_)
  refine R_if0 rfl (fun c_4 => ?_) (fun c_4 => ?_)
  · have k := k.1 c_4
    refine R_ps 1 (pc2 := 14) (L2 := [some (vr (some w)), some (vi x1), none]) (st2 := [vi 1, vr (some w)]) rfl ?_
    refine R_putI rfl t0 ?_
    show WP T N _ _ _ _ (si h_2 w 0 1) _
    generalize e_7 : si h_2 w 0 1 = h_6
    replace k := k h_6 e_7.symm
    refine R_ps 1 (pc2 := 18) (L2 := [some (vr (some w)), some (vi x1), none]) (st2 := [vr (some w)]) rfl ?_
    refine R_getI rfl t0 ?_
    refine R_ps 1 (pc2 := 22) (L2 := [some (vr (some w)), some (vi x1), none]) (st2 := [vi 1, vi (gi h_6 w 0)]) rfl ?_
    refine R_if rfl (fun c_9 => ?_) (fun c_9 => ?_)
    · have k := k.2 c_9
      refine R_ps 2 (pc2 := 29) (L2 := [some (vr (some w)), some (vi x1), none]) (st2 := [vi x1, vr (some w)]) rfl ?_
      refine R_cI (as := [vr (some w), vi x1]) rfl rfl ⟨Nat.le_of_ble_eq_true rfl, Nat.le_of_ble_eq_true rfl, rfl, (Or.inr ⟨_, rfl, t0⟩)⟩ rfl rfl k (fun x_12 h_11 k => ?_)
      refine R_if0 rfl (fun c_13 => ?_) (fun c_13 => ?_)
      · have k := k.2 c_13
        refine R_ps 4 (pc2 := 45) (L2 := [some (vr (some w)), some (vi x1), none]) (st2 := [vi 1, vi 1, vi x1, vr (some w)]) rfl ?_
        refine R_cV (as := [vr (some w), vi x1, vi 1, vi 1]) rfl rfl ⟨Nat.le_of_ble_eq_true rfl, Nat.le_of_ble_eq_true rfl, rfl, (Or.inr ⟨_, rfl, t0⟩)⟩ rfl rfl k (fun h_15 k => ?_)
        refine R_ps 1 (pc2 := 49) (L2 := [some (vr (some w)), some (vi x1), none]) (st2 := [vr (some w)]) rfl ?_
        refine R_cI (as := [vr (some w)]) rfl rfl ⟨Nat.le_of_ble_eq_true rfl, Nat.le_of_ble_eq_true rfl, rfl, (Or.inr ⟨_, rfl, t0⟩)⟩ rfl rfl k (fun x_19 h_18 k => ?_)
        refine R_ps 2 (pc2 := 54) (L2 := [some (vr (some w)), some (vi x1), some (vi x_19)]) (st2 := [vi x_19]) rfl ?_
        refine R_if0 rfl (fun c_20 => ?_) (fun c_20 => ?_)
        · have k := k.1 c_20
          refine R_ps 2 (pc2 := 63) (L2 := [some (vr (some w)), some (vi x1), some (vi x_19)]) (st2 := [vi 2, vr (some w)]) rfl ?_
          refine R_cI (as := [vr (some w), vi 2]) rfl rfl ⟨Nat.le_of_ble_eq_true rfl, Nat.le_of_ble_eq_true rfl, rfl, (Or.inr ⟨_, rfl, t0⟩)⟩ rfl rfl k (fun x_23 h_22 k => ?_)
          exact R_iret rfl rfl ⟨_, rfl, k⟩
        · have k := k.2 c_20
          refine R_ps 2 (pc2 := 66) (L2 := [some (vr (some w)), some (vi x1), some (vi x_19)]) (st2 := [vi x_19]) rfl ?_
          exact R_iret rfl rfl ⟨_, rfl, k⟩
      · have k := k.1 (Classical.not_not.mp c_13)
        refine R_ps 2 (pc2 := 37) (L2 := [some (vr (some w)), some (vi x1), none]) (st2 := [vi 2, vr (some w)]) rfl ?_
        refine R_cI (as := [vr (some w), vi 2]) rfl rfl ⟨Nat.le_of_ble_eq_true rfl, Nat.le_of_ble_eq_true rfl, rfl, (Or.inr ⟨_, rfl, t0⟩)⟩ rfl rfl k (fun x_28 h_27 k => ?_)
        exact R_iret rfl rfl ⟨_, rfl, k⟩
    · have k := k.1 (Classical.not_not.mp c_9)
      refine R_ps 1 (pc2 := 26) (L2 := [some (vr (some w)), some (vi x1), none]) (st2 := [vi 0]) rfl ?_
      exact R_iret rfl rfl ⟨_, rfl, k⟩
  · have k := k.2 c_4
    refine R_ps 2 (pc2 := 14) (L2 := [some (vr (some w)), some (vi x1), none]) (st2 := [vi 0, vr (some w)]) rfl ?_
    refine R_putI rfl t0 ?_
    show WP T N _ _ _ _ (si h_2 w 0 0) _
    generalize e_33 : si h_2 w 0 0 = h_32
    replace k := k h_32 e_33.symm
    refine R_ps 1 (pc2 := 18) (L2 := [some (vr (some w)), some (vi x1), none]) (st2 := [vr (some w)]) rfl ?_
    refine R_getI rfl t0 ?_
    refine R_ps 1 (pc2 := 22) (L2 := [some (vr (some w)), some (vi x1), none]) (st2 := [vi 1, vi (gi h_32 w 0)]) rfl ?_
    refine R_if rfl (fun c_35 => ?_) (fun c_35 => ?_)
    · have k := k.2 c_35
      refine R_ps 2 (pc2 := 29) (L2 := [some (vr (some w)), some (vi x1), none]) (st2 := [vi x1, vr (some w)]) rfl ?_
      refine R_cI (as := [vr (some w), vi x1]) rfl rfl ⟨Nat.le_of_ble_eq_true rfl, Nat.le_of_ble_eq_true rfl, rfl, (Or.inr ⟨_, rfl, t0⟩)⟩ rfl rfl k (fun x_38 h_37 k => ?_)
      refine R_if0 rfl (fun c_39 => ?_) (fun c_39 => ?_)
      · have k := k.2 c_39
        refine R_ps 4 (pc2 := 45) (L2 := [some (vr (some w)), some (vi x1), none]) (st2 := [vi 1, vi 1, vi x1, vr (some w)]) rfl ?_
        refine R_cV (as := [vr (some w), vi x1, vi 1, vi 1]) rfl rfl ⟨Nat.le_of_ble_eq_true rfl, Nat.le_of_ble_eq_true rfl, rfl, (Or.inr ⟨_, rfl, t0⟩)⟩ rfl rfl k (fun h_41 k => ?_)
        refine R_ps 1 (pc2 := 49) (L2 := [some (vr (some w)), some (vi x1), none]) (st2 := [vr (some w)]) rfl ?_
        refine R_cI (as := [vr (some w)]) rfl rfl ⟨Nat.le_of_ble_eq_true rfl, Nat.le_of_ble_eq_true rfl, rfl, (Or.inr ⟨_, rfl, t0⟩)⟩ rfl rfl k (fun x_45 h_44 k => ?_)
        refine R_ps 2 (pc2 := 54) (L2 := [some (vr (some w)), some (vi x1), some (vi x_45)]) (st2 := [vi x_45]) rfl ?_
        refine R_if0 rfl (fun c_46 => ?_) (fun c_46 => ?_)
        · have k := k.1 c_46
          refine R_ps 2 (pc2 := 63) (L2 := [some (vr (some w)), some (vi x1), some (vi x_45)]) (st2 := [vi 2, vr (some w)]) rfl ?_
          refine R_cI (as := [vr (some w), vi 2]) rfl rfl ⟨Nat.le_of_ble_eq_true rfl, Nat.le_of_ble_eq_true rfl, rfl, (Or.inr ⟨_, rfl, t0⟩)⟩ rfl rfl k (fun x_49 h_48 k => ?_)
          exact R_iret rfl rfl ⟨_, rfl, k⟩
        · have k := k.2 c_46
          refine R_ps 2 (pc2 := 66) (L2 := [some (vr (some w)), some (vi x1), some (vi x_45)]) (st2 := [vi x_45]) rfl ?_
          exact R_iret rfl rfl ⟨_, rfl, k⟩
      · have k := k.1 (Classical.not_not.mp c_39)
        refine R_ps 2 (pc2 := 37) (L2 := [some (vr (some w)), some (vi x1), none]) (st2 := [vi 2, vr (some w)]) rfl ?_
        refine R_cI (as := [vr (some w), vi 2]) rfl rfl ⟨Nat.le_of_ble_eq_true rfl, Nat.le_of_ble_eq_true rfl, rfl, (Or.inr ⟨_, rfl, t0⟩)⟩ rfl rfl k (fun x_54 h_53 k => ?_)
        exact R_iret rfl rfl ⟨_, rfl, k⟩
    · have k := k.1 (Classical.not_not.mp c_35)
      refine R_ps 1 (pc2 := 26) (L2 := [some (vr (some w)), some (vi x1), none]) (st2 := [vi 0]) rfl ?_
      exact R_iret rfl rfl ⟨_, rfl, k⟩
/-- DroneCorridorsModel.low -/
theorem m225 {T N : Nat → Nat} {h : PH} {w : Nat} {K : Int32 → PH → Prop} (t0 : T w = 12) (k : (∀ h_2, h_2 = si h w 0 0 → CV T N 182 [vr (some w)] h_2 (fun h_5 => (WI T N 225 13 [some (vr (some w)), some (vi 0), some (vi 0)] [] h_5 K)))) : CI T N 225 [vr (some w)] h K := by
  show WP T N 225 0 [some (vr (some w)), none, none] [] h _
  refine R_ps 2 (pc2 := 2) (L2 := [some (vr (some w)), none, none]) (st2 := [vi 0, vr (some w)]) rfl ?_
  refine R_putI rfl t0 ?_
  show WP T N _ _ _ _ (si h w 0 0) _
  generalize e_3 : si h w 0 0 = h_2
  replace k := k h_2 e_3.symm
  refine R_ps 1 (pc2 := 6) (L2 := [some (vr (some w)), none, none]) (st2 := [vr (some w)]) rfl ?_
  refine R_cV (as := [vr (some w)]) rfl rfl ⟨Nat.le_of_ble_eq_true rfl, Nat.le_of_ble_eq_true rfl, rfl, (Or.inr ⟨_, rfl, t0⟩)⟩ rfl rfl k (fun h_5 k => ?_)
  refine R_ps 4 (pc2 := 13) (L2 := [some (vr (some w)), some (vi 0), some (vi 0)]) (st2 := []) rfl ?_
  exact k
theorem m225_13 {T N : Nat → Nat} {h : PH} {w : Nat} {x1 : Int32} {x2 : Int32} {K : Int32 → PH → Prop} (t0 : T w = 12) (k : (∃ a_3, (gr h w 1) = some a_3 ∧ T a_3 = 22 ∧ inb 117 (N a_3) ∧ ((x2 < (gi h a_3 117) → (CI T N 168 [vr (some w), vi x2, vi 0] h (fun x_11 h_10 => (((x_11 = 1 → (CI T N 168 [vr (some w), vi x2, vi 1] h_10 (fun x_15 h_14 => (CI T N 168 [vr (some w), vi x2, vi 3] h_14 (fun x_19 h_18 => (∃ a_21, (gr h_14 w 12) = some a_21 ∧ T a_21 = 22 ∧ inb x_19 (N a_21) ∧ ((x_15 < (gi h_18 a_21 (Int32.toNatClampNeg x_19)) → (WI T N 225 13 [some (vr (some w)), some (vi (x1 ||| (1 <<< (x2 &&& 31)))), some (vi (x2 + 1))] [] h_18 K)) ∧ (¬ (x_15 < (gi h_18 a_21 (Int32.toNatClampNeg x_19))) → (WI T N 225 13 [some (vr (some w)), some (vi (x1 ||| 0)), some (vi (x2 + 1))] [] h_18 K))))))))) ∧ (¬ (x_11 = 1) → (WI T N 225 13 [some (vr (some w)), some (vi (x1 ||| 0)), some (vi (x2 + 1))] [] h_10 K))))))) ∧ (¬ (x2 < (gi h a_3 117)) → (K x1 h))))) : WI T N 225 13 [some (vr (some w)), some (vi x1), some (vi x2)] [] h K := by
  show WP T N 225 13 [some (vr (some w)), some (vi x1), some (vi x2)] [] h _
  refine R_ps 2 (pc2 := 15) (L2 := [some (vr (some w)), some (vi x1), some (vi x2)]) (st2 := [vr (some w), vi x2]) rfl ?_
  refine R_getR rfl t0 ?_
  refine R_ps 1 (pc2 := 20) (L2 := [some (vr (some w)), some (vi x1), some (vi x2)]) (st2 := [vi 117, vr (gr h w 1), vi x2]) rfl ?_
  obtain ⟨a_3, e_4, k⟩ := k
  rw [e_4]
  obtain ⟨t_5, k⟩ := k
  obtain ⟨t_6, k⟩ := k
  refine R_iald rfl (Or.inl t_5) t_6 ?_
  refine R_if rfl (fun c_7 => ?_) (fun c_7 => ?_)
  · have k := k.2 (i32_nlt c_7)
    refine R_ps 1 (pc2 := 71) (L2 := [some (vr (some w)), some (vi x1), some (vi x2)]) (st2 := [vi x1]) rfl ?_
    exact R_iret rfl rfl ⟨_, rfl, k⟩
  · have k := k.1 (i32_lt c_7)
    refine R_ps 4 (pc2 := 28) (L2 := [some (vr (some w)), some (vi x1), some (vi x2)]) (st2 := [vi 0, vi x2, vr (some w), vi x1]) rfl ?_
    refine R_cI (as := [vr (some w), vi x2, vi 0]) rfl rfl ⟨Nat.le_of_ble_eq_true rfl, Nat.le_of_ble_eq_true rfl, rfl, (Or.inr ⟨_, rfl, t0⟩)⟩ rfl rfl k (fun x_11 h_10 k => ?_)
    refine R_ps 1 (pc2 := 32) (L2 := [some (vr (some w)), some (vi x1), some (vi x2)]) (st2 := [vi 1, vi x_11, vi x1]) rfl ?_
    refine R_if rfl (fun c_12 => ?_) (fun c_12 => ?_)
    · have k := k.2 c_12
      refine R_ps 5 (pc2 := 13) (L2 := [some (vr (some w)), some (vi (x1 ||| 0)), some (vi (x2 + 1))]) (st2 := []) rfl ?_
      exact k
    · have k := k.1 (Classical.not_not.mp c_12)
      refine R_ps 3 (pc2 := 38) (L2 := [some (vr (some w)), some (vi x1), some (vi x2)]) (st2 := [vi 1, vi x2, vr (some w), vi x1]) rfl ?_
      refine R_cI (as := [vr (some w), vi x2, vi 1]) rfl rfl ⟨Nat.le_of_ble_eq_true rfl, Nat.le_of_ble_eq_true rfl, rfl, (Or.inr ⟨_, rfl, t0⟩)⟩ rfl rfl k (fun x_15 h_14 k => ?_)
      refine R_ps 1 (pc2 := 42) (L2 := [some (vr (some w)), some (vi x1), some (vi x2)]) (st2 := [vr (some w), vi x_15, vi x1]) rfl ?_
      refine R_getR rfl t0 ?_
      refine R_ps 3 (pc2 := 48) (L2 := [some (vr (some w)), some (vi x1), some (vi x2)]) (st2 := [vi 3, vi x2, vr (some w), vr (gr h_14 w 12), vi x_15, vi x1]) rfl ?_
      refine R_cI (as := [vr (some w), vi x2, vi 3]) rfl rfl ⟨Nat.le_of_ble_eq_true rfl, Nat.le_of_ble_eq_true rfl, rfl, (Or.inr ⟨_, rfl, t0⟩)⟩ rfl rfl k (fun x_19 h_18 k => ?_)
      obtain ⟨a_21, e_22, k⟩ := k
      rw [e_22]
      obtain ⟨t_23, k⟩ := k
      obtain ⟨t_24, k⟩ := k
      refine R_iald rfl (Or.inl t_23) t_24 ?_
      refine R_if rfl (fun c_25 => ?_) (fun c_25 => ?_)
      · have k := k.2 (i32_nlt c_25)
        refine R_ps 5 (pc2 := 13) (L2 := [some (vr (some w)), some (vi (x1 ||| 0)), some (vi (x2 + 1))]) (st2 := []) rfl ?_
        exact k
      · have k := k.1 (i32_lt c_25)
        refine R_ps 8 (pc2 := 13) (L2 := [some (vr (some w)), some (vi (x1 ||| (1 <<< (x2 &&& 31)))), some (vi (x2 + 1))]) (st2 := []) rfl ?_
        exact k
