/-! WHAT IS TO BE SHOWN OF EACH METHOD, by program (gen_blk.py): 58 to 104 -/
/-- DroneCorridors$Search.<init> -/
theorem m58 {T N : Nat → Nat} {h : PH} {w : Nat} {K : PH → Prop} (t0 : T w = 8) (k : (T (nx h) = 9 ∧ ∀ a_3 h_4, a_3 = nx h → h_4 = grow h 1 → CV T N 77 [vr (some a_3)] h_4 (fun h_9 => (∀ h_12, h_12 = sr h_9 w 4 (some a_3) → T (nx h_12) = 1 ∧ ∀ a_15 h_16, a_15 = nx h_12 → h_16 = grow h_12 1 → CV T N 0 [vr (some a_15)] h_16 (fun h_21 => (∀ h_24, h_24 = sr h_21 w 5 (some a_15) → (T (nx h_24) = 22 ∧ 0 ≤ Int32.toInt 3840 ∧ Int32.toInt 3840 = N (nx h_24) ∧ N (nx h_24) ≤ 65536) ∧ ∀ a_27 h_28, a_27 = nx h_24 → h_28 = grow h_24 (N (nx h_24)) → ∀ h_33, h_33 = sr h_28 w 6 (some a_27) → (T (nx h_33) = 22 ∧ 0 ≤ Int32.toInt 3840 ∧ Int32.toInt 3840 = N (nx h_33) ∧ N (nx h_33) ≤ 65536) ∧ ∀ a_36 h_37, a_36 = nx h_33 → h_37 = grow h_33 (N (nx h_33)) → ∀ h_42, h_42 = sr h_37 w 7 (some a_36) → (T (nx h_42) = 22 ∧ 0 ≤ Int32.toInt 30 ∧ Int32.toInt 30 = N (nx h_42) ∧ N (nx h_42) ≤ 65536) ∧ ∀ a_45 h_46, a_45 = nx h_42 → h_46 = grow h_42 (N (nx h_42)) → ∀ h_51, h_51 = sr h_46 w 8 (some a_45) → (T (nx h_51) = 22 ∧ 0 ≤ Int32.toInt 30 ∧ Int32.toInt 30 = N (nx h_51) ∧ N (nx h_51) ≤ 65536) ∧ ∀ a_54 h_55, a_54 = nx h_51 → h_55 = grow h_51 (N (nx h_51)) → ∀ h_60, h_60 = sr h_55 w 9 (some a_54) → (T (nx h_60) = 22 ∧ 0 ≤ Int32.toInt 30 ∧ Int32.toInt 30 = N (nx h_60) ∧ N (nx h_60) ≤ 65536) ∧ ∀ a_63 h_64, a_63 = nx h_60 → h_64 = grow h_60 (N (nx h_60)) → ∀ h_69, h_69 = sr h_64 w 10 (some a_63) → (T (nx h_69) = 22 ∧ 0 ≤ Int32.toInt 30 ∧ Int32.toInt 30 = N (nx h_69) ∧ N (nx h_69) ≤ 65536) ∧ ∀ a_72 h_73, a_72 = nx h_69 → h_73 = grow h_69 (N (nx h_69)) → ∀ h_78, h_78 = sr h_73 w 11 (some a_72) → K h_78)))))) : CV T N 58 [vr (some w)] h K := by
  show WP T N 58 0 [some (vr (some w))] [] h _
  refine R_ps 1 (pc2 := 1) (L2 := [some (vr (some w))]) (st2 := [vr (some w)]) rfl ?_
  refine R_jdk (st2 := []) rfl rfl rfl rfl rfl rfl rfl rfl ?_
  refine R_ps 1 (pc2 := 5) (L2 := [some (vr (some w))]) (st2 := [vr (some w)]) rfl ?_
  obtain ⟨t_7, k⟩ := k
  refine R_new rfl ⟨by decide, t_7⟩ ?_
  show WP T N _ _ _ _ (grow h 1) _
  generalize e_5 : nx h = a_3
  generalize e_6 : grow h 1 = h_4
  replace k := k a_3 h_4 e_5.symm e_6.symm
  refine R_ps 1 (pc2 := 9) (L2 := [some (vr (some w))]) (st2 := [vr (some a_3), vr (some a_3), vr (some w)]) rfl ?_
  refine R_cV (as := [vr (some a_3)]) rfl rfl ⟨Nat.le_of_ble_eq_true rfl, Nat.le_of_ble_eq_true rfl, rfl, (Or.inr ⟨_, rfl, (e_5 ▸ t_7)⟩)⟩ rfl rfl k (fun h_9 k => ?_)
  refine R_putR rfl t0 ?_
  show WP T N _ _ _ _ (sr h_9 w 4 (some a_3)) _
  generalize e_13 : sr h_9 w 4 (some a_3) = h_12
  replace k := k h_12 e_13.symm
  refine R_ps 1 (pc2 := 16) (L2 := [some (vr (some w))]) (st2 := [vr (some w)]) rfl ?_
  obtain ⟨t_19, k⟩ := k
  refine R_new rfl ⟨by decide, t_19⟩ ?_
  show WP T N _ _ _ _ (grow h_12 1) _
  generalize e_17 : nx h_12 = a_15
  generalize e_18 : grow h_12 1 = h_16
  replace k := k a_15 h_16 e_17.symm e_18.symm
  refine R_ps 1 (pc2 := 20) (L2 := [some (vr (some w))]) (st2 := [vr (some a_15), vr (some a_15), vr (some w)]) rfl ?_
  refine R_cV (as := [vr (some a_15)]) rfl rfl ⟨Nat.le_of_ble_eq_true rfl, Nat.le_of_ble_eq_true rfl, rfl, (Or.inr ⟨_, rfl, (e_17 ▸ t_19)⟩)⟩ rfl rfl k (fun h_21 k => ?_)
  refine R_putR rfl t0 ?_
  show WP T N _ _ _ _ (sr h_21 w 5 (some a_15)) _
  generalize e_25 : sr h_21 w 5 (some a_15) = h_24
  replace k := k h_24 e_25.symm
  refine R_ps 2 (pc2 := 30) (L2 := [some (vr (some w))]) (st2 := [vi 3840, vr (some w)]) rfl ?_
  obtain ⟨t_31, k⟩ := k
  refine R_newa rfl t_31 ?_
  generalize e_30 : grow h_24 (N (nx h_24)) = h_28
  generalize e_29 : nx h_24 = a_27
  replace k := k a_27 h_28 e_29.symm e_30.symm
  refine R_putR rfl t0 ?_
  show WP T N _ _ _ _ (sr h_28 w 6 (some a_27)) _
  generalize e_34 : sr h_28 w 6 (some a_27) = h_33
  replace k := k h_33 e_34.symm
  refine R_ps 2 (pc2 := 39) (L2 := [some (vr (some w))]) (st2 := [vi 3840, vr (some w)]) rfl ?_
  obtain ⟨t_40, k⟩ := k
  refine R_newa rfl t_40 ?_
  generalize e_39 : grow h_33 (N (nx h_33)) = h_37
  generalize e_38 : nx h_33 = a_36
  replace k := k a_36 h_37 e_38.symm e_39.symm
  refine R_putR rfl t0 ?_
  show WP T N _ _ _ _ (sr h_37 w 7 (some a_36)) _
  generalize e_43 : sr h_37 w 7 (some a_36) = h_42
  replace k := k h_42 e_43.symm
  refine R_ps 2 (pc2 := 47) (L2 := [some (vr (some w))]) (st2 := [vi 30, vr (some w)]) rfl ?_
  obtain ⟨t_49, k⟩ := k
  refine R_newa rfl t_49 ?_
  generalize e_48 : grow h_42 (N (nx h_42)) = h_46
  generalize e_47 : nx h_42 = a_45
  replace k := k a_45 h_46 e_47.symm e_48.symm
  refine R_putR rfl t0 ?_
  show WP T N _ _ _ _ (sr h_46 w 8 (some a_45)) _
  generalize e_52 : sr h_46 w 8 (some a_45) = h_51
  replace k := k h_51 e_52.symm
  refine R_ps 2 (pc2 := 55) (L2 := [some (vr (some w))]) (st2 := [vi 30, vr (some w)]) rfl ?_
  obtain ⟨t_58, k⟩ := k
  refine R_newa rfl t_58 ?_
  generalize e_57 : grow h_51 (N (nx h_51)) = h_55
  generalize e_56 : nx h_51 = a_54
  replace k := k a_54 h_55 e_56.symm e_57.symm
  refine R_putR rfl t0 ?_
  show WP T N _ _ _ _ (sr h_55 w 9 (some a_54)) _
  generalize e_61 : sr h_55 w 9 (some a_54) = h_60
  replace k := k h_60 e_61.symm
  refine R_ps 2 (pc2 := 63) (L2 := [some (vr (some w))]) (st2 := [vi 30, vr (some w)]) rfl ?_
  obtain ⟨t_67, k⟩ := k
  refine R_newa rfl t_67 ?_
  generalize e_66 : grow h_60 (N (nx h_60)) = h_64
  generalize e_65 : nx h_60 = a_63
  replace k := k a_63 h_64 e_65.symm e_66.symm
  refine R_putR rfl t0 ?_
  show WP T N _ _ _ _ (sr h_64 w 10 (some a_63)) _
  generalize e_70 : sr h_64 w 10 (some a_63) = h_69
  replace k := k h_69 e_70.symm
  refine R_ps 2 (pc2 := 71) (L2 := [some (vr (some w))]) (st2 := [vi 30, vr (some w)]) rfl ?_
  obtain ⟨t_76, k⟩ := k
  refine R_newa rfl t_76 ?_
  generalize e_75 : grow h_69 (N (nx h_69)) = h_73
  generalize e_74 : nx h_69 = a_72
  replace k := k a_72 h_73 e_74.symm e_75.symm
  refine R_putR rfl t0 ?_
  show WP T N _ _ _ _ (sr h_73 w 11 (some a_72)) _
  generalize e_79 : sr h_73 w 11 (some a_72) = h_78
  replace k := k h_78 e_79.symm
  exact R_ret rfl rfl ⟨rfl, k⟩
/-- DroneCorridors$Search.find -/
theorem m59 {T N : Nat → Nat} {h : PH} {w : Nat} {a1 : Nat} {x2 : Int32} {x3 : Int32} {x4 : Int32} {K : Int32 → PH → Prop} (t0 : T a1 = 10) (t1 : T w = 8) (k : (CR T N 91 [vr (some a1), vi x2] h (fun x_3 h_2 => (((x_3 = none → (K 0 h_2)) ∧ (∀ a_5, x_3 = some a_5 → (T a_5 = 3 ∧ (((gi h_2 a_5 0) = 3 → (K 0 h_2)) ∧ (¬ ((gi h_2 a_5 0) = 3) → (CV T N 61 [vr (some w), vr (some a_5), vi (gi h_2 a1 0)] h_2 (fun h_13 => (CI T N 145 [vi x3, vi (gi h_13 w 14)] h_13 (fun x_18 h_17 => (((x_18 = 0 → (∃ a_23, (gr h_17 w 4) = some a_23 ∧ T a_23 = 9 ∧ CV T N 79 [vr (some a_23), vr (some a1), vi (gi h_17 a1 2), vi 0] h_17 (fun h_26 => (∃ a_30, (gr h_26 w 5) = some a_30 ∧ T a_30 = 1 ∧ CV T N 2 [vr (some a_30)] h_26 (fun h_33 => (((x4 < 1 → (((x4 < 2 → (CI T N 63 [vr (some w), vr (some a1), vi x3] h_33 (fun x_39 h_38 => ((x_39 = 0 ∨ x_39 = 1) ∧ K x_39 h_38)))) ∧ (¬ (x4 < 2) → (∃ a_44, (gr h_33 w 5) = some a_44 ∧ T a_44 = 1 ∧ CV T N 4 [vr (some a_44), vr (some a1), vi x2] h_33 (fun h_47 => (CI T N 63 [vr (some w), vr (some a1), vi x3] h_47 (fun x_51 h_50 => ((x_51 = 0 ∨ x_51 = 1) ∧ K x_51 h_50))))))))) ∧ (¬ (x4 < 1) → (∃ a_56, (gr h_33 w 5) = some a_56 ∧ T a_56 = 1 ∧ CV T N 3 [vr (some a_56), vr (some a1)] h_33 (fun h_59 => (((x4 < 2 → (CI T N 63 [vr (some w), vr (some a1), vi x3] h_59 (fun x_64 h_63 => ((x_64 = 0 ∨ x_64 = 1) ∧ K x_64 h_63)))) ∧ (¬ (x4 < 2) → (∃ a_69, (gr h_59 w 5) = some a_69 ∧ T a_69 = 1 ∧ CV T N 4 [vr (some a_69), vr (some a1), vi x2] h_59 (fun h_72 => (CI T N 63 [vr (some w), vr (some a1), vi x3] h_72 (fun x_76 h_75 => ((x_76 = 0 ∨ x_76 = 1) ∧ K x_76 h_75)))))))))))))))))) ∧ (¬ (x_18 = 0) → (CV T N 62 [vr (some w), vi (-1), vi ((gi h_17 a1 0) + (gi h_17 w 13)), vi 0, vi (gi h_17 w 14)] h_17 (fun h_83 => (K 1 h_83))))))))))))))))))) : CI T N 59 [vr (some w), vr (some a1), vi x2, vi x3, vi x4] h K := by
  show WP T N 59 0 [some (vr (some w)), some (vr (some a1)), some (vi x2), some (vi x3), some (vi x4), none] [] h _
  refine R_ps 2 (pc2 := 2) (L2 := [some (vr (some w)), some (vr (some a1)), some (vi x2), some (vi x3), some (vi x4), none]) (st2 := [vi x2, vr (some a1)]) rfl ?_
  refine R_cR (as := [vr (some a1), vi x2]) rfl rfl ⟨Nat.le_of_ble_eq_true rfl, Nat.le_of_ble_eq_true rfl, rfl, (Or.inr ⟨_, rfl, t0⟩)⟩ rfl rfl k (fun x_3 h_2 k => ?_)
  refine R_ps 2 (pc2 := 9) (L2 := [some (vr (some w)), some (vr (some a1)), some (vi x2), some (vi x3), some (vi x4), some (vr x_3)]) (st2 := [vr x_3]) rfl ?_
  rcases null_or (x_3) with e_6 | ⟨a_5, e_6⟩
  · have k := k.1 e_6
    rw [e_6]
    refine R_null rfl (fun _ => ?_) (fun _ c_4 => nomatch c_4)
    refine R_ps 1 (pc2 := 22) (L2 := [some (vr (some w)), some (vr (some a1)), some (vi x2), some (vi x3), some (vi x4), some (vr none)]) (st2 := [vi 0]) rfl ?_
    exact R_zret rfl rfl (Or.inl rfl) ⟨_, rfl, k⟩
  · have k := k.2 a_5 e_6
    rw [e_6]
    refine R_null rfl (fun c_4 => nomatch c_4) (fun _ _ => ?_)
    refine R_ps 1 (pc2 := 14) (L2 := [some (vr (some w)), some (vr (some a1)), some (vi x2), some (vi x3), some (vi x4), some (vr (some a_5))]) (st2 := [vr (some a_5)]) rfl ?_
    obtain ⟨t_9, k⟩ := k
    refine R_getI rfl t_9 ?_
    refine R_ps 1 (pc2 := 18) (L2 := [some (vr (some w)), some (vr (some a1)), some (vi x2), some (vi x3), some (vi x4), some (vr (some a_5))]) (st2 := [vi 3, vi (gi h_2 a_5 0)]) rfl ?_
    refine R_if rfl (fun c_10 => ?_) (fun c_10 => ?_)
    · have k := k.2 c_10
      refine R_ps 3 (pc2 := 27) (L2 := [some (vr (some w)), some (vr (some a1)), some (vi x2), some (vi x3), some (vi x4), some (vr (some a_5))]) (st2 := [vr (some a1), vr (some a_5), vr (some w)]) rfl ?_
      refine R_getI rfl t0 ?_
      refine R_cV (as := [vr (some w), vr (some a_5), vi (gi h_2 a1 0)]) rfl rfl ⟨Nat.le_of_ble_eq_true rfl, Nat.le_of_ble_eq_true rfl, rfl, (Or.inr ⟨_, rfl, t1⟩)⟩ rfl rfl k (fun h_13 k => ?_)
      refine R_ps 2 (pc2 := 35) (L2 := [some (vr (some w)), some (vr (some a1)), some (vi x2), some (vi x3), some (vi x4), some (vr (some a_5))]) (st2 := [vr (some w), vi x3]) rfl ?_
      refine R_getI rfl t1 ?_
      refine R_cI (as := [vi x3, vi (gi h_13 w 14)]) rfl rfl ⟨Nat.le_of_ble_eq_true rfl, Nat.le_of_ble_eq_true rfl, rfl, (Or.inl rfl)⟩ rfl rfl k (fun x_18 h_17 k => ?_)
      refine R_if0 rfl (fun c_19 => ?_) (fun c_19 => ?_)
      · have k := k.1 c_19
        refine R_ps 1 (pc2 := 66) (L2 := [some (vr (some w)), some (vr (some a1)), some (vi x2), some (vi x3), some (vi x4), some (vr (some a_5))]) (st2 := [vr (some w)]) rfl ?_
        refine R_getR rfl t1 ?_
        refine R_ps 2 (pc2 := 71) (L2 := [some (vr (some w)), some (vr (some a1)), some (vi x2), some (vi x3), some (vi x4), some (vr (some a_5))]) (st2 := [vr (some a1), vr (some a1), vr (gr h_17 w 4)]) rfl ?_
        refine R_getI rfl t0 ?_
        refine R_ps 1 (pc2 := 75) (L2 := [some (vr (some w)), some (vr (some a1)), some (vi x2), some (vi x3), some (vi x4), some (vr (some a_5))]) (st2 := [vi 0, vi (gi h_17 a1 2), vr (some a1), vr (gr h_17 w 4)]) rfl ?_
        obtain ⟨a_23, e_24, k⟩ := k
        rw [e_24]
        obtain ⟨t_25, k⟩ := k
        refine R_cV (as := [vr (some a_23), vr (some a1), vi (gi h_17 a1 2), vi 0]) rfl rfl ⟨Nat.le_of_ble_eq_true rfl, Nat.le_of_ble_eq_true rfl, rfl, (Or.inr ⟨_, rfl, t_25⟩)⟩ rfl rfl k (fun h_26 k => ?_)
        refine R_ps 1 (pc2 := 79) (L2 := [some (vr (some w)), some (vr (some a1)), some (vi x2), some (vi x3), some (vi x4), some (vr (some a_5))]) (st2 := [vr (some w)]) rfl ?_
        refine R_getR rfl t1 ?_
        obtain ⟨a_30, e_31, k⟩ := k
        rw [e_31]
        obtain ⟨t_32, k⟩ := k
        refine R_cV (as := [vr (some a_30)]) rfl rfl ⟨Nat.le_of_ble_eq_true rfl, Nat.le_of_ble_eq_true rfl, rfl, (Or.inr ⟨_, rfl, t_32⟩)⟩ rfl rfl k (fun h_33 k => ?_)
        refine R_ps 2 (pc2 := 88) (L2 := [some (vr (some w)), some (vr (some a1)), some (vi x2), some (vi x3), some (vi x4), some (vr (some a_5))]) (st2 := [vi 1, vi x4]) rfl ?_
        refine R_if rfl (fun c_35 => ?_) (fun c_35 => ?_)
        · have k := k.1 c_35
          refine R_ps 2 (pc2 := 102) (L2 := [some (vr (some w)), some (vr (some a1)), some (vi x2), some (vi x3), some (vi x4), some (vr (some a_5))]) (st2 := [vi 2, vi x4]) rfl ?_
          refine R_if rfl (fun c_36 => ?_) (fun c_36 => ?_)
          · have k := k.1 c_36
            refine R_ps 3 (pc2 := 117) (L2 := [some (vr (some w)), some (vr (some a1)), some (vi x2), some (vi x3), some (vi x4), some (vr (some a_5))]) (st2 := [vi x3, vr (some a1), vr (some w)]) rfl ?_
            refine R_cI (as := [vr (some w), vr (some a1), vi x3]) rfl rfl ⟨Nat.le_of_ble_eq_true rfl, Nat.le_of_ble_eq_true rfl, rfl, (Or.inr ⟨_, rfl, t1⟩)⟩ rfl rfl k (fun x_39 h_38 k => ?_)
            obtain ⟨t_41, k⟩ := k
            exact R_zret rfl rfl t_41 ⟨_, rfl, k⟩
          · have k := k.2 c_36
            refine R_ps 1 (pc2 := 106) (L2 := [some (vr (some w)), some (vr (some a1)), some (vi x2), some (vi x3), some (vi x4), some (vr (some a_5))]) (st2 := [vr (some w)]) rfl ?_
            refine R_getR rfl t1 ?_
            refine R_ps 2 (pc2 := 111) (L2 := [some (vr (some w)), some (vr (some a1)), some (vi x2), some (vi x3), some (vi x4), some (vr (some a_5))]) (st2 := [vi x2, vr (some a1), vr (gr h_33 w 5)]) rfl ?_
            obtain ⟨a_44, e_45, k⟩ := k
            rw [e_45]
            obtain ⟨t_46, k⟩ := k
            refine R_cV (as := [vr (some a_44), vr (some a1), vi x2]) rfl rfl ⟨Nat.le_of_ble_eq_true rfl, Nat.le_of_ble_eq_true rfl, rfl, (Or.inr ⟨_, rfl, t_46⟩)⟩ rfl rfl k (fun h_47 k => ?_)
            refine R_ps 3 (pc2 := 117) (L2 := [some (vr (some w)), some (vr (some a1)), some (vi x2), some (vi x3), some (vi x4), some (vr (some a_5))]) (st2 := [vi x3, vr (some a1), vr (some w)]) rfl ?_
            refine R_cI (as := [vr (some w), vr (some a1), vi x3]) rfl rfl ⟨Nat.le_of_ble_eq_true rfl, Nat.le_of_ble_eq_true rfl, rfl, (Or.inr ⟨_, rfl, t1⟩)⟩ rfl rfl k (fun x_51 h_50 k => ?_)
            obtain ⟨t_53, k⟩ := k
            exact R_zret rfl rfl t_53 ⟨_, rfl, k⟩
        · have k := k.2 c_35
          refine R_ps 1 (pc2 := 92) (L2 := [some (vr (some w)), some (vr (some a1)), some (vi x2), some (vi x3), some (vi x4), some (vr (some a_5))]) (st2 := [vr (some w)]) rfl ?_
          refine R_getR rfl t1 ?_
          refine R_ps 1 (pc2 := 96) (L2 := [some (vr (some w)), some (vr (some a1)), some (vi x2), some (vi x3), some (vi x4), some (vr (some a_5))]) (st2 := [vr (some a1), vr (gr h_33 w 5)]) rfl ?_
          obtain ⟨a_56, e_57, k⟩ := k
          rw [e_57]
          obtain ⟨t_58, k⟩ := k
          refine R_cV (as := [vr (some a_56), vr (some a1)]) rfl rfl ⟨Nat.le_of_ble_eq_true rfl, Nat.le_of_ble_eq_true rfl, rfl, (Or.inr ⟨_, rfl, t_58⟩)⟩ rfl rfl k (fun h_59 k => ?_)
          refine R_ps 2 (pc2 := 102) (L2 := [some (vr (some w)), some (vr (some a1)), some (vi x2), some (vi x3), some (vi x4), some (vr (some a_5))]) (st2 := [vi 2, vi x4]) rfl ?_
          refine R_if rfl (fun c_61 => ?_) (fun c_61 => ?_)
          · have k := k.1 c_61
            refine R_ps 3 (pc2 := 117) (L2 := [some (vr (some w)), some (vr (some a1)), some (vi x2), some (vi x3), some (vi x4), some (vr (some a_5))]) (st2 := [vi x3, vr (some a1), vr (some w)]) rfl ?_
            refine R_cI (as := [vr (some w), vr (some a1), vi x3]) rfl rfl ⟨Nat.le_of_ble_eq_true rfl, Nat.le_of_ble_eq_true rfl, rfl, (Or.inr ⟨_, rfl, t1⟩)⟩ rfl rfl k (fun x_64 h_63 k => ?_)
            obtain ⟨t_66, k⟩ := k
            exact R_zret rfl rfl t_66 ⟨_, rfl, k⟩
          · have k := k.2 c_61
            refine R_ps 1 (pc2 := 106) (L2 := [some (vr (some w)), some (vr (some a1)), some (vi x2), some (vi x3), some (vi x4), some (vr (some a_5))]) (st2 := [vr (some w)]) rfl ?_
            refine R_getR rfl t1 ?_
            refine R_ps 2 (pc2 := 111) (L2 := [some (vr (some w)), some (vr (some a1)), some (vi x2), some (vi x3), some (vi x4), some (vr (some a_5))]) (st2 := [vi x2, vr (some a1), vr (gr h_59 w 5)]) rfl ?_
            obtain ⟨a_69, e_70, k⟩ := k
            rw [e_70]
            obtain ⟨t_71, k⟩ := k
            refine R_cV (as := [vr (some a_69), vr (some a1), vi x2]) rfl rfl ⟨Nat.le_of_ble_eq_true rfl, Nat.le_of_ble_eq_true rfl, rfl, (Or.inr ⟨_, rfl, t_71⟩)⟩ rfl rfl k (fun h_72 k => ?_)
            refine R_ps 3 (pc2 := 117) (L2 := [some (vr (some w)), some (vr (some a1)), some (vi x2), some (vi x3), some (vi x4), some (vr (some a_5))]) (st2 := [vi x3, vr (some a1), vr (some w)]) rfl ?_
            refine R_cI (as := [vr (some w), vr (some a1), vi x3]) rfl rfl ⟨Nat.le_of_ble_eq_true rfl, Nat.le_of_ble_eq_true rfl, rfl, (Or.inr ⟨_, rfl, t1⟩)⟩ rfl rfl k (fun x_76 h_75 k => ?_)
            obtain ⟨t_78, k⟩ := k
            exact R_zret rfl rfl t_78 ⟨_, rfl, k⟩
      · have k := k.2 c_19
        refine R_ps 3 (pc2 := 47) (L2 := [some (vr (some w)), some (vr (some a1)), some (vi x2), some (vi x3), some (vi x4), some (vr (some a_5))]) (st2 := [vr (some a1), vi (-1), vr (some w)]) rfl ?_
        refine R_getI rfl t0 ?_
        refine R_ps 1 (pc2 := 51) (L2 := [some (vr (some w)), some (vr (some a1)), some (vi x2), some (vi x3), some (vi x4), some (vr (some a_5))]) (st2 := [vr (some w), vi (gi h_17 a1 0), vi (-1), vr (some w)]) rfl ?_
        refine R_getI rfl t1 ?_
        refine R_ps 3 (pc2 := 57) (L2 := [some (vr (some w)), some (vr (some a1)), some (vi x2), some (vi x3), some (vi x4), some (vr (some a_5))]) (st2 := [vr (some w), vi 0, vi ((gi h_17 a1 0) + (gi h_17 w 13)), vi (-1), vr (some w)]) rfl ?_
        refine R_getI rfl t1 ?_
        refine R_cV (as := [vr (some w), vi (-1), vi ((gi h_17 a1 0) + (gi h_17 w 13)), vi 0, vi (gi h_17 w 14)]) rfl rfl ⟨Nat.le_of_ble_eq_true rfl, Nat.le_of_ble_eq_true rfl, rfl, (Or.inr ⟨_, rfl, t1⟩)⟩ rfl rfl k (fun h_83 k => ?_)
        refine R_ps 1 (pc2 := 64) (L2 := [some (vr (some w)), some (vr (some a1)), some (vi x2), some (vi x3), some (vi x4), some (vr (some a_5))]) (st2 := [vi 1]) rfl ?_
        exact R_zret rfl rfl (Or.inr rfl) ⟨_, rfl, k⟩
    · have k := k.1 (Classical.not_not.mp c_10)
      refine R_ps 1 (pc2 := 22) (L2 := [some (vr (some w)), some (vr (some a1)), some (vi x2), some (vi x3), some (vi x4), some (vr (some a_5))]) (st2 := [vi 0]) rfl ?_
      exact R_zret rfl rfl (Or.inl rfl) ⟨_, rfl, k⟩
/-- DroneCorridors$Search.applyTo -/
theorem m60 {T N : Nat → Nat} {h : PH} {w : Nat} {a1 : Nat} {a2 : Nat} {K : PH → Prop} (t0 : T a2 = 3) (t1 : T w = 8) (t2 : T a1 = 10) (k : (CI T N 22 [vr (some a2)] h (fun x_3 h_2 => (CV T N 75 [vr (some w), vr (some a1), vr (some a2)] h_2 (fun h_5 => (∀ h_9, h_9 = si h_5 a2 4 (gi h_5 w 2) → (((gi h_9 w 3) = (-1) → ((((gi h_9 a2 0) = 1 → (CI T N 145 [vi (gi h_9 a1 2), vi (gi h_9 w 2)] h_9 (fun x_21 h_20 => (((x_21 = 0 → (K h_20)) ∧ (¬ (x_21 = 0) → (CV T N 28 [vr (some a2)] h_20 (fun h_25 => (K h_25))))))))) ∧ (¬ ((gi h_9 a2 0) = 1) → (K h_9))))) ∧ (¬ ((gi h_9 w 3) = (-1)) → (K h_9))))))))) : CV T N 60 [vr (some w), vr (some a1), vr (some a2)] h K := by
  show WP T N 60 0 [some (vr (some w)), some (vr (some a1)), some (vr (some a2))] [] h _
  refine R_ps 1 (pc2 := 1) (L2 := [some (vr (some w)), some (vr (some a1)), some (vr (some a2))]) (st2 := [vr (some a2)]) rfl ?_
  refine R_cI (as := [vr (some a2)]) rfl rfl ⟨Nat.le_of_ble_eq_true rfl, Nat.le_of_ble_eq_true rfl, rfl, (Or.inr ⟨_, rfl, t0⟩)⟩ rfl rfl k (fun x_3 h_2 k => ?_)
  refine R_ps 4 (pc2 := 8) (L2 := [some (vr (some w)), some (vr (some a1)), some (vr (some a2))]) (st2 := [vr (some a2), vr (some a1), vr (some w)]) rfl ?_
  refine R_cV (as := [vr (some w), vr (some a1), vr (some a2)]) rfl rfl ⟨Nat.le_of_ble_eq_true rfl, Nat.le_of_ble_eq_true rfl, rfl, (Or.inr ⟨_, rfl, t1⟩)⟩ rfl rfl k (fun h_5 k => ?_)
  refine R_ps 2 (pc2 := 13) (L2 := [some (vr (some w)), some (vr (some a1)), some (vr (some a2))]) (st2 := [vr (some w), vr (some a2)]) rfl ?_
  refine R_getI rfl t1 ?_
  refine R_putI rfl t0 ?_
  show WP T N _ _ _ _ (si h_5 a2 4 (gi h_5 w 2)) _
  generalize e_10 : si h_5 a2 4 (gi h_5 w 2) = h_9
  replace k := k h_9 e_10.symm
  refine R_ps 1 (pc2 := 20) (L2 := [some (vr (some w)), some (vr (some a1)), some (vr (some a2))]) (st2 := [vr (some w)]) rfl ?_
  refine R_getI rfl t1 ?_
  refine R_ps 1 (pc2 := 24) (L2 := [some (vr (some w)), some (vr (some a1)), some (vr (some a2))]) (st2 := [vi (-1), vi (gi h_9 w 3)]) rfl ?_
  refine R_if rfl (fun c_12 => ?_) (fun c_12 => ?_)
  · have k := k.2 c_12
    exact R_ret rfl rfl ⟨rfl, k⟩
  · have k := k.1 (Classical.not_not.mp c_12)
    refine R_ps 1 (pc2 := 28) (L2 := [some (vr (some w)), some (vr (some a1)), some (vr (some a2))]) (st2 := [vr (some a2)]) rfl ?_
    refine R_getI rfl t0 ?_
    refine R_ps 1 (pc2 := 32) (L2 := [some (vr (some w)), some (vr (some a1)), some (vr (some a2))]) (st2 := [vi 1, vi (gi h_9 a2 0)]) rfl ?_
    refine R_if rfl (fun c_15 => ?_) (fun c_15 => ?_)
    · have k := k.2 c_15
      exact R_ret rfl rfl ⟨rfl, k⟩
    · have k := k.1 (Classical.not_not.mp c_15)
      refine R_ps 1 (pc2 := 36) (L2 := [some (vr (some w)), some (vr (some a1)), some (vr (some a2))]) (st2 := [vr (some a1)]) rfl ?_
      refine R_getI rfl t2 ?_
      refine R_ps 1 (pc2 := 40) (L2 := [some (vr (some w)), some (vr (some a1)), some (vr (some a2))]) (st2 := [vr (some w), vi (gi h_9 a1 2)]) rfl ?_
      refine R_getI rfl t1 ?_
      refine R_cI (as := [vi (gi h_9 a1 2), vi (gi h_9 w 2)]) rfl rfl ⟨Nat.le_of_ble_eq_true rfl, Nat.le_of_ble_eq_true rfl, rfl, (Or.inl rfl)⟩ rfl rfl k (fun x_21 h_20 k => ?_)
      refine R_if0 rfl (fun c_22 => ?_) (fun c_22 => ?_)
      · have k := k.1 c_22
        exact R_ret rfl rfl ⟨rfl, k⟩
      · have k := k.2 c_22
        refine R_ps 1 (pc2 := 50) (L2 := [some (vr (some w)), some (vr (some a1)), some (vr (some a2))]) (st2 := [vr (some a2)]) rfl ?_
        refine R_cV (as := [vr (some a2)]) rfl rfl ⟨Nat.le_of_ble_eq_true rfl, Nat.le_of_ble_eq_true rfl, rfl, (Or.inr ⟨_, rfl, t0⟩)⟩ rfl rfl k (fun h_25 k => ?_)
        exact R_ret rfl rfl ⟨rfl, k⟩
/-- DroneCorridors$Search.setOut -/
theorem m61 {T N : Nat → Nat} {h : PH} {w : Nat} {a1 : Nat} {x2 : Int32} {K : PH → Prop} (t0 : T a1 = 3) (t1 : T w = 8) (k : ((((gi h a1 0) = 2 → (CR T N 17 [vr (some a1), vi 0] h (fun x_31 h_30 => (((x_31 = none → (∀ h_36, h_36 = si h_30 w 13 0 → ∀ h_40, h_40 = si h_36 w 14 (gi h_36 a1 3) → ∀ h_44, h_44 = si h_40 w 15 (gi h_40 a1 2) → ∀ h_48, h_48 = si h_44 w 16 (gi h_44 a1 1) → (((gi h_48 a1 0) = 0 → (∀ h_57, h_57 = si h_48 w 17 1 → K h_57)) ∧ (¬ ((gi h_48 a1 0) = 0) → (∀ h_53, h_53 = si h_48 w 17 0 → K h_53))))) ∧ (∀ a_33, x_31 = some a_33 → (T a_33 = 7 ∧ ∀ h_63, h_63 = si h_30 w 13 ((gi h_30 a_33 4) - x2) → ∀ h_67, h_67 = si h_63 w 14 (gi h_63 a1 3) → ∀ h_71, h_71 = si h_67 w 15 (gi h_67 a1 2) → ∀ h_75, h_75 = si h_71 w 16 (gi h_71 a1 1) → (((gi h_75 a1 0) = 0 → (∀ h_84, h_84 = si h_75 w 17 1 → K h_84)) ∧ (¬ ((gi h_75 a1 0) = 0) → (∀ h_80, h_80 = si h_75 w 17 0 → K h_80)))))))))) ∧ (¬ ((gi h a1 0) = 2) → (∀ h_5, h_5 = si h w 13 0 → ∀ h_9, h_9 = si h_5 w 14 (gi h_5 a1 3) → ∀ h_13, h_13 = si h_9 w 15 (gi h_9 a1 2) → ∀ h_17, h_17 = si h_13 w 16 (gi h_13 a1 1) → (((gi h_17 a1 0) = 0 → (∀ h_26, h_26 = si h_17 w 17 1 → K h_26)) ∧ (¬ ((gi h_17 a1 0) = 0) → (∀ h_22, h_22 = si h_17 w 17 0 → K h_22)))))))) : CV T N 61 [vr (some w), vr (some a1), vi x2] h K := by
  show WP T N 61 0 [some (vr (some w)), some (vr (some a1)), some (vi x2), none] [] h _
  refine R_ps 1 (pc2 := 1) (L2 := [some (vr (some w)), some (vr (some a1)), some (vi x2), none]) (st2 := [vr (some a1)]) rfl ?_
  refine R_getI rfl t0 ?_
  refine R_ps 1 (pc2 := 5) (L2 := [some (vr (some w)), some (vr (some a1)), some (vi x2), none]) (st2 := [vi 2, vi (gi h a1 0)]) rfl ?_
  refine R_if rfl (fun c_2 => ?_) (fun c_2 => ?_)
  · have k := k.2 c_2
    refine R_ps 4 (pc2 := 20) (L2 := [some (vr (some w)), some (vr (some a1)), some (vi x2), some (vr none)]) (st2 := [vr none, vr (some w)]) rfl ?_
    refine R_nonnull rfl (fun _ => ?_) (fun _ c_3 => nomatch c_3)
    refine R_ps 2 (pc2 := 33) (L2 := [some (vr (some w)), some (vr (some a1)), some (vi x2), some (vr none)]) (st2 := [vi 0, vr (some w)]) rfl ?_
    refine R_putI rfl t1 ?_
    show WP T N _ _ _ _ (si h w 13 0) _
    generalize e_6 : si h w 13 0 = h_5
    replace k := k h_5 e_6.symm
    refine R_ps 2 (pc2 := 38) (L2 := [some (vr (some w)), some (vr (some a1)), some (vi x2), some (vr none)]) (st2 := [vr (some a1), vr (some w)]) rfl ?_
    refine R_getI rfl t0 ?_
    refine R_putI rfl t1 ?_
    show WP T N _ _ _ _ (si h_5 w 14 (gi h_5 a1 3)) _
    generalize e_10 : si h_5 w 14 (gi h_5 a1 3) = h_9
    replace k := k h_9 e_10.symm
    refine R_ps 2 (pc2 := 46) (L2 := [some (vr (some w)), some (vr (some a1)), some (vi x2), some (vr none)]) (st2 := [vr (some a1), vr (some w)]) rfl ?_
    refine R_getI rfl t0 ?_
    refine R_putI rfl t1 ?_
    show WP T N _ _ _ _ (si h_9 w 15 (gi h_9 a1 2)) _
    generalize e_14 : si h_9 w 15 (gi h_9 a1 2) = h_13
    replace k := k h_13 e_14.symm
    refine R_ps 2 (pc2 := 54) (L2 := [some (vr (some w)), some (vr (some a1)), some (vi x2), some (vr none)]) (st2 := [vr (some a1), vr (some w)]) rfl ?_
    refine R_getI rfl t0 ?_
    refine R_putI rfl t1 ?_
    show WP T N _ _ _ _ (si h_13 w 16 (gi h_13 a1 1)) _
    generalize e_18 : si h_13 w 16 (gi h_13 a1 1) = h_17
    replace k := k h_17 e_18.symm
    refine R_ps 2 (pc2 := 62) (L2 := [some (vr (some w)), some (vr (some a1)), some (vi x2), some (vr none)]) (st2 := [vr (some a1), vr (some w)]) rfl ?_
    refine R_getI rfl t0 ?_
    refine R_if0 rfl (fun c_20 => ?_) (fun c_20 => ?_)
    · have k := k.2 c_20
      refine R_ps 1 (pc2 := 73) (L2 := [some (vr (some w)), some (vr (some a1)), some (vi x2), some (vr none)]) (st2 := [vi 0, vr (some w)]) rfl ?_
      refine R_putZ rfl t1 (Or.inl rfl) ?_
      show WP T N _ _ _ _ (si h_17 w 17 0) _
      generalize e_23 : si h_17 w 17 0 = h_22
      replace k := k h_22 e_23.symm
      exact R_ret rfl rfl ⟨rfl, k⟩
    · have k := k.1 (Classical.not_not.mp c_20)
      refine R_ps 2 (pc2 := 73) (L2 := [some (vr (some w)), some (vr (some a1)), some (vi x2), some (vr none)]) (st2 := [vi 1, vr (some w)]) rfl ?_
      refine R_putZ rfl t1 (Or.inr rfl) ?_
      show WP T N _ _ _ _ (si h_17 w 17 1) _
      generalize e_27 : si h_17 w 17 1 = h_26
      replace k := k h_26 e_27.symm
      exact R_ret rfl rfl ⟨rfl, k⟩
  · have k := k.1 (Classical.not_not.mp c_2)
    refine R_ps 2 (pc2 := 10) (L2 := [some (vr (some w)), some (vr (some a1)), some (vi x2), none]) (st2 := [vi 0, vr (some a1)]) rfl ?_
    refine R_cR (as := [vr (some a1), vi 0]) rfl rfl ⟨Nat.le_of_ble_eq_true rfl, Nat.le_of_ble_eq_true rfl, rfl, (Or.inr ⟨_, rfl, t0⟩)⟩ rfl rfl k (fun x_31 h_30 k => ?_)
    refine R_ps 4 (pc2 := 20) (L2 := [some (vr (some w)), some (vr (some a1)), some (vi x2), some (vr x_31)]) (st2 := [vr x_31, vr (some w)]) rfl ?_
    rcases null_or (x_31) with e_34 | ⟨a_33, e_34⟩
    · have k := k.1 e_34
      rw [e_34]
      refine R_nonnull rfl (fun _ => ?_) (fun _ c_32 => nomatch c_32)
      refine R_ps 2 (pc2 := 33) (L2 := [some (vr (some w)), some (vr (some a1)), some (vi x2), some (vr none)]) (st2 := [vi 0, vr (some w)]) rfl ?_
      refine R_putI rfl t1 ?_
      show WP T N _ _ _ _ (si h_30 w 13 0) _
      generalize e_37 : si h_30 w 13 0 = h_36
      replace k := k h_36 e_37.symm
      refine R_ps 2 (pc2 := 38) (L2 := [some (vr (some w)), some (vr (some a1)), some (vi x2), some (vr none)]) (st2 := [vr (some a1), vr (some w)]) rfl ?_
      refine R_getI rfl t0 ?_
      refine R_putI rfl t1 ?_
      show WP T N _ _ _ _ (si h_36 w 14 (gi h_36 a1 3)) _
      generalize e_41 : si h_36 w 14 (gi h_36 a1 3) = h_40
      replace k := k h_40 e_41.symm
      refine R_ps 2 (pc2 := 46) (L2 := [some (vr (some w)), some (vr (some a1)), some (vi x2), some (vr none)]) (st2 := [vr (some a1), vr (some w)]) rfl ?_
      refine R_getI rfl t0 ?_
      refine R_putI rfl t1 ?_
      show WP T N _ _ _ _ (si h_40 w 15 (gi h_40 a1 2)) _
      generalize e_45 : si h_40 w 15 (gi h_40 a1 2) = h_44
      replace k := k h_44 e_45.symm
      refine R_ps 2 (pc2 := 54) (L2 := [some (vr (some w)), some (vr (some a1)), some (vi x2), some (vr none)]) (st2 := [vr (some a1), vr (some w)]) rfl ?_
      refine R_getI rfl t0 ?_
      refine R_putI rfl t1 ?_
      show WP T N _ _ _ _ (si h_44 w 16 (gi h_44 a1 1)) _
      generalize e_49 : si h_44 w 16 (gi h_44 a1 1) = h_48
      replace k := k h_48 e_49.symm
      refine R_ps 2 (pc2 := 62) (L2 := [some (vr (some w)), some (vr (some a1)), some (vi x2), some (vr none)]) (st2 := [vr (some a1), vr (some w)]) rfl ?_
      refine R_getI rfl t0 ?_
      refine R_if0 rfl (fun c_51 => ?_) (fun c_51 => ?_)
      · have k := k.2 c_51
        refine R_ps 1 (pc2 := 73) (L2 := [some (vr (some w)), some (vr (some a1)), some (vi x2), some (vr none)]) (st2 := [vi 0, vr (some w)]) rfl ?_
        refine R_putZ rfl t1 (Or.inl rfl) ?_
        show WP T N _ _ _ _ (si h_48 w 17 0) _
        generalize e_54 : si h_48 w 17 0 = h_53
        replace k := k h_53 e_54.symm
        exact R_ret rfl rfl ⟨rfl, k⟩
      · have k := k.1 (Classical.not_not.mp c_51)
        refine R_ps 2 (pc2 := 73) (L2 := [some (vr (some w)), some (vr (some a1)), some (vi x2), some (vr none)]) (st2 := [vi 1, vr (some w)]) rfl ?_
        refine R_putZ rfl t1 (Or.inr rfl) ?_
        show WP T N _ _ _ _ (si h_48 w 17 1) _
        generalize e_58 : si h_48 w 17 1 = h_57
        replace k := k h_57 e_58.symm
        exact R_ret rfl rfl ⟨rfl, k⟩
    · have k := k.2 a_33 e_34
      rw [e_34]
      refine R_nonnull rfl (fun c_32 => nomatch c_32) (fun _ _ => ?_)
      refine R_ps 1 (pc2 := 28) (L2 := [some (vr (some w)), some (vr (some a1)), some (vi x2), some (vr (some a_33))]) (st2 := [vr (some a_33), vr (some w)]) rfl ?_
      obtain ⟨t_61, k⟩ := k
      refine R_getI rfl t_61 ?_
      refine R_ps 2 (pc2 := 33) (L2 := [some (vr (some w)), some (vr (some a1)), some (vi x2), some (vr (some a_33))]) (st2 := [vi ((gi h_30 a_33 4) - x2), vr (some w)]) rfl ?_
      refine R_putI rfl t1 ?_
      show WP T N _ _ _ _ (si h_30 w 13 ((gi h_30 a_33 4) - x2)) _
      generalize e_64 : si h_30 w 13 ((gi h_30 a_33 4) - x2) = h_63
      replace k := k h_63 e_64.symm
      refine R_ps 2 (pc2 := 38) (L2 := [some (vr (some w)), some (vr (some a1)), some (vi x2), some (vr (some a_33))]) (st2 := [vr (some a1), vr (some w)]) rfl ?_
      refine R_getI rfl t0 ?_
      refine R_putI rfl t1 ?_
      show WP T N _ _ _ _ (si h_63 w 14 (gi h_63 a1 3)) _
      generalize e_68 : si h_63 w 14 (gi h_63 a1 3) = h_67
      replace k := k h_67 e_68.symm
      refine R_ps 2 (pc2 := 46) (L2 := [some (vr (some w)), some (vr (some a1)), some (vi x2), some (vr (some a_33))]) (st2 := [vr (some a1), vr (some w)]) rfl ?_
      refine R_getI rfl t0 ?_
      refine R_putI rfl t1 ?_
      show WP T N _ _ _ _ (si h_67 w 15 (gi h_67 a1 2)) _
      generalize e_72 : si h_67 w 15 (gi h_67 a1 2) = h_71
      replace k := k h_71 e_72.symm
      refine R_ps 2 (pc2 := 54) (L2 := [some (vr (some w)), some (vr (some a1)), some (vi x2), some (vr (some a_33))]) (st2 := [vr (some a1), vr (some w)]) rfl ?_
      refine R_getI rfl t0 ?_
      refine R_putI rfl t1 ?_
      show WP T N _ _ _ _ (si h_71 w 16 (gi h_71 a1 1)) _
      generalize e_76 : si h_71 w 16 (gi h_71 a1 1) = h_75
      replace k := k h_75 e_76.symm
      refine R_ps 2 (pc2 := 62) (L2 := [some (vr (some w)), some (vr (some a1)), some (vi x2), some (vr (some a_33))]) (st2 := [vr (some a1), vr (some w)]) rfl ?_
      refine R_getI rfl t0 ?_
      refine R_if0 rfl (fun c_78 => ?_) (fun c_78 => ?_)
      · have k := k.2 c_78
        refine R_ps 1 (pc2 := 73) (L2 := [some (vr (some w)), some (vr (some a1)), some (vi x2), some (vr (some a_33))]) (st2 := [vi 0, vr (some w)]) rfl ?_
        refine R_putZ rfl t1 (Or.inl rfl) ?_
        show WP T N _ _ _ _ (si h_75 w 17 0) _
        generalize e_81 : si h_75 w 17 0 = h_80
        replace k := k h_80 e_81.symm
        exact R_ret rfl rfl ⟨rfl, k⟩
      · have k := k.1 (Classical.not_not.mp c_78)
        refine R_ps 2 (pc2 := 73) (L2 := [some (vr (some w)), some (vr (some a1)), some (vi x2), some (vr (some a_33))]) (st2 := [vi 1, vr (some w)]) rfl ?_
        refine R_putZ rfl t1 (Or.inr rfl) ?_
        show WP T N _ _ _ _ (si h_75 w 17 1) _
        generalize e_85 : si h_75 w 17 1 = h_84
        replace k := k h_84 e_85.symm
        exact R_ret rfl rfl ⟨rfl, k⟩
/-- DroneCorridors$Search.note -/
theorem m62 {T N : Nat → Nat} {h : PH} {w : Nat} {x1 : Int32} {x2 : Int32} {x3 : Int32} {x4 : Int32} {K : PH → Prop} (t0 : T w = 8) (k : (∀ h_2, h_2 = si h w 3 x1 → ∀ h_5, h_5 = si h_2 w 0 x2 → ∀ h_8, h_8 = si h_5 w 1 x3 → ∀ h_11, h_11 = si h_8 w 2 x4 → K h_11)) : CV T N 62 [vr (some w), vi x1, vi x2, vi x3, vi x4] h K := by
  show WP T N 62 0 [some (vr (some w)), some (vi x1), some (vi x2), some (vi x3), some (vi x4)] [] h _
  refine R_ps 2 (pc2 := 2) (L2 := [some (vr (some w)), some (vi x1), some (vi x2), some (vi x3), some (vi x4)]) (st2 := [vi x1, vr (some w)]) rfl ?_
  refine R_putI rfl t0 ?_
  show WP T N _ _ _ _ (si h w 3 x1) _
  generalize e_3 : si h w 3 x1 = h_2
  replace k := k h_2 e_3.symm
  refine R_ps 2 (pc2 := 7) (L2 := [some (vr (some w)), some (vi x1), some (vi x2), some (vi x3), some (vi x4)]) (st2 := [vi x2, vr (some w)]) rfl ?_
  refine R_putI rfl t0 ?_
  show WP T N _ _ _ _ (si h_2 w 0 x2) _
  generalize e_6 : si h_2 w 0 x2 = h_5
  replace k := k h_5 e_6.symm
  refine R_ps 2 (pc2 := 12) (L2 := [some (vr (some w)), some (vi x1), some (vi x2), some (vi x3), some (vi x4)]) (st2 := [vi x3, vr (some w)]) rfl ?_
  refine R_putI rfl t0 ?_
  show WP T N _ _ _ _ (si h_5 w 1 x3) _
  generalize e_9 : si h_5 w 1 x3 = h_8
  replace k := k h_8 e_9.symm
  refine R_ps 2 (pc2 := 18) (L2 := [some (vr (some w)), some (vi x1), some (vi x2), some (vi x3), some (vi x4)]) (st2 := [vi x4, vr (some w)]) rfl ?_
  refine R_putI rfl t0 ?_
  show WP T N _ _ _ _ (si h_8 w 2 x4) _
  generalize e_12 : si h_8 w 2 x4 = h_11
  replace k := k h_11 e_12.symm
  exact R_ret rfl rfl ⟨rfl, k⟩
/-- DroneCorridors$Search.searchFor -/
theorem m63 {T N : Nat → Nat} {h : PH} {w : Nat} {a1 : Nat} {x2 : Int32} {K : Int32 → PH → Prop} (t0 : T w = 8) (k : (CV T N 254 [vr (gr h w 8), vi (-1)] h (fun h_3 => (∀ h_6, h_6 = si h_3 w 12 0 → WI T N 63 22 [some (vr (some w)), some (vr (some a1)), some (vi x2), some (vi (if (gi h_6 w 13) < 0 then 0 else (gi h_6 w 13))), none] [] h_6 K)))) : CI T N 63 [vr (some w), vr (some a1), vi x2] h K := by
  show WP T N 63 0 [some (vr (some w)), some (vr (some a1)), some (vi x2), none, none] [] h _
  refine R_ps 1 (pc2 := 1) (L2 := [some (vr (some w)), some (vr (some a1)), some (vi x2), none, none]) (st2 := [vr (some w)]) rfl ?_
  refine R_getR rfl t0 ?_
  refine R_ps 1 (pc2 := 5) (L2 := [some (vr (some w)), some (vr (some a1)), some (vi x2), none, none]) (st2 := [vi (-1), vr (gr h w 8)]) rfl ?_
  refine R_cV (as := [vr (gr h w 8), vi (-1)]) rfl rfl ⟨Nat.le_of_ble_eq_true rfl, Nat.le_of_ble_eq_true rfl, rfl, (Or.inl rfl)⟩ rfl rfl k (fun h_3 k => ?_)
  refine R_ps 2 (pc2 := 10) (L2 := [some (vr (some w)), some (vr (some a1)), some (vi x2), none, none]) (st2 := [vi 0, vr (some w)]) rfl ?_
  refine R_putI rfl t0 ?_
  show WP T N _ _ _ _ (si h_3 w 12 0) _
  generalize e_7 : si h_3 w 12 0 = h_6
  replace k := k h_6 e_7.symm
  refine R_ps 1 (pc2 := 14) (L2 := [some (vr (some w)), some (vr (some a1)), some (vi x2), none, none]) (st2 := [vr (some w)]) rfl ?_
  refine R_getI rfl t0 ?_
  refine R_ps 1 (pc2 := 18) (L2 := [some (vr (some w)), some (vr (some a1)), some (vi x2), none, none]) (st2 := [vi 0, vi (gi h_6 w 13)]) rfl ?_
  refine R_jdk (st2 := [vi (if (gi h_6 w 13) < 0 then 0 else (gi h_6 w 13))]) rfl rfl rfl rfl rfl rfl rfl rfl ?_
  refine R_ps 1 (pc2 := 22) (L2 := [some (vr (some w)), some (vr (some a1)), some (vi x2), some (vi (if (gi h_6 w 13) < 0 then 0 else (gi h_6 w 13))), none]) (st2 := []) rfl ?_
  exact k
theorem m63_22 {T N : Nat → Nat} {h : PH} {w : Nat} {a1 : Nat} {x2 : Int32} {x3 : Int32} {K : Int32 → PH → Prop} (t0 : T w = 8) (t1 : T a1 = 10) (k : (((40 < x3 → (K 0 h)) ∧ (¬ (40 < x3) → (CI T N 66 [vr (some w), vr (some a1), vi x3] h (fun x_5 h_4 => ((((x_5 &&& x2) = 0 → (∀ h_9, h_9 = si h_4 w 12 ((gi h_4 w 12) ||| x_5) → ((x3 < 40 → (CV T N 70 [vr (some w), vi (gi h_9 a1 1), vi x3] h_9 (fun h_14 => (CV T N 72 [vr (some w), vr (some a1), vi x3] h_14 (fun h_17 => (WI T N 63 22 [some (vr (some w)), some (vr (some a1)), some (vi x2), some (vi (x3 + 1)), none] [] h_17 K)))))) ∧ (¬ (x3 < 40) → (WI T N 63 22 [some (vr (some w)), some (vr (some a1)), some (vi x2), some (vi (x3 + 1)), none] [] h_9 K))))) ∧ (¬ ((x_5 &&& x2) = 0) → (CI T N 146 [vi (x_5 &&& x2)] h_4 (fun x_21 h_20 => (CV T N 69 [vr (some w), vr (some a1), vi x3, vi x_21] h_20 (fun h_23 => (K 1 h_23)))))))))))))) : WI T N 63 22 [some (vr (some w)), some (vr (some a1)), some (vi x2), some (vi x3), none] [] h K := by
  show WP T N 63 22 [some (vr (some w)), some (vr (some a1)), some (vi x2), some (vi x3), none] [] h _
  refine R_ps 2 (pc2 := 25) (L2 := [some (vr (some w)), some (vr (some a1)), some (vi x2), some (vi x3), none]) (st2 := [vi 40, vi x3]) rfl ?_
  refine R_if rfl (fun c_1 => ?_) (fun c_1 => ?_)
  · have k := k.1 c_1
    refine R_ps 1 (pc2 := 97) (L2 := [some (vr (some w)), some (vr (some a1)), some (vi x2), some (vi x3), none]) (st2 := [vi 0]) rfl ?_
    exact R_zret rfl rfl (Or.inl rfl) ⟨_, rfl, k⟩
  · have k := k.2 c_1
    refine R_ps 3 (pc2 := 31) (L2 := [some (vr (some w)), some (vr (some a1)), some (vi x2), some (vi x3), none]) (st2 := [vi x3, vr (some a1), vr (some w)]) rfl ?_
    refine R_cI (as := [vr (some w), vr (some a1), vi x3]) rfl rfl ⟨Nat.le_of_ble_eq_true rfl, Nat.le_of_ble_eq_true rfl, rfl, (Or.inr ⟨_, rfl, t0⟩)⟩ rfl rfl k (fun x_5 h_4 k => ?_)
    refine R_ps 4 (pc2 := 40) (L2 := [some (vr (some w)), some (vr (some a1)), some (vi x2), some (vi x3), some (vi x_5)]) (st2 := [vi (x_5 &&& x2)]) rfl ?_
    refine R_if0 rfl (fun c_6 => ?_) (fun c_6 => ?_)
    · have k := k.1 c_6
      refine R_ps 2 (pc2 := 60) (L2 := [some (vr (some w)), some (vr (some a1)), some (vi x2), some (vi x3), some (vi x_5)]) (st2 := [vr (some w), vr (some w)]) rfl ?_
      refine R_getI rfl t0 ?_
      refine R_ps 2 (pc2 := 66) (L2 := [some (vr (some w)), some (vr (some a1)), some (vi x2), some (vi x3), some (vi x_5)]) (st2 := [vi ((gi h_4 w 12) ||| x_5), vr (some w)]) rfl ?_
      refine R_putI rfl t0 ?_
      show WP T N _ _ _ _ (si h_4 w 12 ((gi h_4 w 12) ||| x_5)) _
      generalize e_10 : si h_4 w 12 ((gi h_4 w 12) ||| x_5) = h_9
      replace k := k h_9 e_10.symm
      refine R_ps 2 (pc2 := 72) (L2 := [some (vr (some w)), some (vr (some a1)), some (vi x2), some (vi x3), some (vi x_5)]) (st2 := [vi 40, vi x3]) rfl ?_
      refine R_if rfl (fun c_11 => ?_) (fun c_11 => ?_)
      · have k := k.2 (i32_nlt c_11)
        refine R_ps 2 (pc2 := 22) (L2 := [some (vr (some w)), some (vr (some a1)), some (vi x2), some (vi (x3 + 1)), some (vi x_5)]) (st2 := []) rfl ?_
        exact R_drop k (LE_of (L := [some (vr (some w)), some (vr (some a1)), some (vi x2), some (vi (x3 + 1)), none]) (L2 := [some (vr (some w)), some (vr (some a1)), some (vi x2), some (vi (x3 + 1)), some (vi x_5)]) ⟨rfl, rfl, rfl, rfl, trivial⟩)
      · have k := k.1 (i32_lt c_11)
        refine R_ps 2 (pc2 := 77) (L2 := [some (vr (some w)), some (vr (some a1)), some (vi x2), some (vi x3), some (vi x_5)]) (st2 := [vr (some a1), vr (some w)]) rfl ?_
        refine R_getI rfl t1 ?_
        refine R_ps 1 (pc2 := 81) (L2 := [some (vr (some w)), some (vr (some a1)), some (vi x2), some (vi x3), some (vi x_5)]) (st2 := [vi x3, vi (gi h_9 a1 1), vr (some w)]) rfl ?_
        refine R_cV (as := [vr (some w), vi (gi h_9 a1 1), vi x3]) rfl rfl ⟨Nat.le_of_ble_eq_true rfl, Nat.le_of_ble_eq_true rfl, rfl, (Or.inr ⟨_, rfl, t0⟩)⟩ rfl rfl k (fun h_14 k => ?_)
        refine R_ps 3 (pc2 := 87) (L2 := [some (vr (some w)), some (vr (some a1)), some (vi x2), some (vi x3), some (vi x_5)]) (st2 := [vi x3, vr (some a1), vr (some w)]) rfl ?_
        refine R_cV (as := [vr (some w), vr (some a1), vi x3]) rfl rfl ⟨Nat.le_of_ble_eq_true rfl, Nat.le_of_ble_eq_true rfl, rfl, (Or.inr ⟨_, rfl, t0⟩)⟩ rfl rfl k (fun h_17 k => ?_)
        refine R_ps 2 (pc2 := 22) (L2 := [some (vr (some w)), some (vr (some a1)), some (vi x2), some (vi (x3 + 1)), some (vi x_5)]) (st2 := []) rfl ?_
        exact R_drop k (LE_of (L := [some (vr (some w)), some (vr (some a1)), some (vi x2), some (vi (x3 + 1)), none]) (L2 := [some (vr (some w)), some (vr (some a1)), some (vi x2), some (vi (x3 + 1)), some (vi x_5)]) ⟨rfl, rfl, rfl, rfl, trivial⟩)
    · have k := k.2 c_6
      refine R_ps 6 (pc2 := 50) (L2 := [some (vr (some w)), some (vr (some a1)), some (vi x2), some (vi x3), some (vi x_5)]) (st2 := [vi (x_5 &&& x2), vi x3, vr (some a1), vr (some w)]) rfl ?_
      refine R_cI (as := [vi (x_5 &&& x2)]) rfl rfl ⟨Nat.le_of_ble_eq_true rfl, Nat.le_of_ble_eq_true rfl, rfl, (Or.inl rfl)⟩ rfl rfl k (fun x_21 h_20 k => ?_)
      refine R_cV (as := [vr (some w), vr (some a1), vi x3, vi x_21]) rfl rfl ⟨Nat.le_of_ble_eq_true rfl, Nat.le_of_ble_eq_true rfl, rfl, (Or.inr ⟨_, rfl, t0⟩)⟩ rfl rfl k (fun h_23 k => ?_)
      refine R_ps 1 (pc2 := 57) (L2 := [some (vr (some w)), some (vr (some a1)), some (vi x2), some (vi x3), some (vi x_5)]) (st2 := [vi 1]) rfl ?_
      exact R_zret rfl rfl (Or.inr rfl) ⟨_, rfl, k⟩
/-- DroneCorridors$Search.energyOfLeg -/
theorem m64 {T N : Nat → Nat} {h : PH} {w : Nat} {x1 : Int32} {K : Int32 → PH → Prop} (t0 : T w = 8) (k : (((x1 < 0 → (K (-1) h)) ∧ (¬ (x1 < 0) → (∃ a_5, (gr h w 6) = some a_5 ∧ 21 ≤ T a_5 ∧ ((x1 < (Int32.ofNat (N a_5)) → (∃ a_12, (gr h w 6) = some a_12 ∧ T a_12 = 22 ∧ inb x1 (N a_12) ∧ K (gi h a_12 (Int32.toNatClampNeg x1)) h)) ∧ (¬ (x1 < (Int32.ofNat (N a_5))) → (K (-1) h)))))))) : CI T N 64 [vr (some w), vi x1] h K := by
  show WP T N 64 0 [some (vr (some w)), some (vi x1)] [] h _
  refine R_ps 1 (pc2 := 1) (L2 := [some (vr (some w)), some (vi x1)]) (st2 := [vi x1]) rfl ?_
  refine R_if0 rfl (fun c_1 => ?_) (fun c_1 => ?_)
  · have k := k.1 c_1
    refine R_ps 1 (pc2 := 23) (L2 := [some (vr (some w)), some (vi x1)]) (st2 := [vi (-1)]) rfl ?_
    exact R_iret rfl rfl ⟨_, rfl, k⟩
  · have k := k.2 c_1
    refine R_ps 2 (pc2 := 6) (L2 := [some (vr (some w)), some (vi x1)]) (st2 := [vr (some w), vi x1]) rfl ?_
    refine R_getR rfl t0 ?_
    obtain ⟨a_5, e_6, k⟩ := k
    rw [e_6]
    obtain ⟨t_7, k⟩ := k
    refine R_alen rfl t_7 ?_
    refine R_if rfl (fun c_8 => ?_) (fun c_8 => ?_)
    · have k := k.2 (i32_nlt c_8)
      refine R_ps 1 (pc2 := 23) (L2 := [some (vr (some w)), some (vi x1)]) (st2 := [vi (-1)]) rfl ?_
      exact R_iret rfl rfl ⟨_, rfl, k⟩
    · have k := k.1 (i32_lt c_8)
      refine R_ps 1 (pc2 := 14) (L2 := [some (vr (some w)), some (vi x1)]) (st2 := [vr (some w)]) rfl ?_
      refine R_getR rfl t0 ?_
      refine R_ps 1 (pc2 := 18) (L2 := [some (vr (some w)), some (vi x1)]) (st2 := [vi x1, vr (gr h w 6)]) rfl ?_
      obtain ⟨a_12, e_13, k⟩ := k
      rw [e_13]
      obtain ⟨t_14, k⟩ := k
      obtain ⟨t_15, k⟩ := k
      refine R_iald rfl (Or.inl t_14) t_15 ?_
      refine R_ps 1 (pc2 := 23) (L2 := [some (vr (some w)), some (vi x1)]) (st2 := [vi (gi h a_12 (Int32.toNatClampNeg x1))]) rfl ?_
      exact R_iret rfl rfl ⟨_, rfl, k⟩
/-- DroneCorridors$Search.legEndingAt -/
theorem m65 {T N : Nat → Nat} {h : PH} {w : Nat} {x1 : Int32} {x2 : Int32} {x3 : Int32} {K : Int32 → PH → Prop} (t0 : T w = 8) (k : ((((x1 - x2) < (gi h w 13) → (K (-1) h)) ∧ (¬ ((x1 - x2) < (gi h w 13)) → (CI T N 64 [vr (some w), vi (((x1 - x2) * 96) + x3)] h (fun x_5 h_4 => (((x_5 = (-1) → (K (-1) h_4)) ∧ (¬ (x_5 = (-1)) → (K (((x1 - x2) * 96) + x3) h_4)))))))))) : CI T N 65 [vr (some w), vi x1, vi x2, vi x3] h K := by
  show WP T N 65 0 [some (vr (some w)), some (vi x1), some (vi x2), some (vi x3), none, none] [] h _
  refine R_ps 6 (pc2 := 8) (L2 := [some (vr (some w)), some (vi x1), some (vi x2), some (vi x3), some (vi (x1 - x2)), none]) (st2 := [vr (some w), vi (x1 - x2)]) rfl ?_
  refine R_getI rfl t0 ?_
  refine R_if rfl (fun c_2 => ?_) (fun c_2 => ?_)
  · have k := k.2 (i32_nlt c_2)
    refine R_ps 8 (pc2 := 28) (L2 := [some (vr (some w)), some (vi x1), some (vi x2), some (vi x3), some (vi (x1 - x2)), some (vi (((x1 - x2) * 96) + x3))]) (st2 := [vi (((x1 - x2) * 96) + x3), vr (some w)]) rfl ?_
    refine R_cI (as := [vr (some w), vi (((x1 - x2) * 96) + x3)]) rfl rfl ⟨Nat.le_of_ble_eq_true rfl, Nat.le_of_ble_eq_true rfl, rfl, (Or.inr ⟨_, rfl, t0⟩)⟩ rfl rfl k (fun x_5 h_4 k => ?_)
    refine R_ps 1 (pc2 := 32) (L2 := [some (vr (some w)), some (vi x1), some (vi x2), some (vi x3), some (vi (x1 - x2)), some (vi (((x1 - x2) * 96) + x3))]) (st2 := [vi (-1), vi x_5]) rfl ?_
    refine R_if rfl (fun c_6 => ?_) (fun c_6 => ?_)
    · have k := k.2 c_6
      refine R_ps 1 (pc2 := 41) (L2 := [some (vr (some w)), some (vi x1), some (vi x2), some (vi x3), some (vi (x1 - x2)), some (vi (((x1 - x2) * 96) + x3))]) (st2 := [vi (((x1 - x2) * 96) + x3)]) rfl ?_
      exact R_iret rfl rfl ⟨_, rfl, k⟩
    · have k := k.1 (Classical.not_not.mp c_6)
      refine R_ps 2 (pc2 := 41) (L2 := [some (vr (some w)), some (vi x1), some (vi x2), some (vi x3), some (vi (x1 - x2)), some (vi (((x1 - x2) * 96) + x3))]) (st2 := [vi (-1)]) rfl ?_
      exact R_iret rfl rfl ⟨_, rfl, k⟩
  · have k := k.1 (i32_lt c_2)
    refine R_ps 1 (pc2 := 15) (L2 := [some (vr (some w)), some (vi x1), some (vi x2), some (vi x3), some (vi (x1 - x2)), none]) (st2 := [vi (-1)]) rfl ?_
    exact R_iret rfl rfl ⟨_, rfl, k⟩
/-- DroneCorridors$Search.endLegs -/
theorem m66 {T N : Nat → Nat} {h : PH} {w : Nat} {a1 : Nat} {x2 : Int32} {K : Int32 → PH → Prop} (k : (WI T N 66 5 [some (vr (some w)), some (vr (some a1)), some (vi x2), some (vi 0), some (vi 0), none, none, none, none, none] [] h K)) : CI T N 66 [vr (some w), vr (some a1), vi x2] h K := by
  show WP T N 66 0 [some (vr (some w)), some (vr (some a1)), some (vi x2), none, none, none, none, none, none, none] [] h _
  refine R_ps 4 (pc2 := 5) (L2 := [some (vr (some w)), some (vr (some a1)), some (vi x2), some (vi 0), some (vi 0), none, none, none, none, none]) (st2 := []) rfl ?_
  exact k
theorem m66_5 {T N : Nat → Nat} {h : PH} {w : Nat} {a1 : Nat} {x2 : Int32} {x3 : Int32} {x4 : Int32} {K : Int32 → PH → Prop} (t0 : T a1 = 10) (k : (((x4 < (gi h a1 3) → (CR T N 89 [vr (some a1), vi x4] h (fun x_6 h_5 => (((x_6 = none → (WI T N 66 5 [some (vr (some w)), some (vr (some a1)), some (vi x2), some (vi x3), some (vi (x4 + 1)), none, none, none, none, none] [] h_5 K)) ∧ (∀ a_8, x_6 = some a_8 → (WI T N 66 33 [some (vr (some w)), some (vr (some a1)), some (vi x2), some (vi x3), some (vi x4), some (vr (some a_8)), some (vi 0), none, none, none] [] h_5 K))))))) ∧ (¬ (x4 < (gi h a1 3)) → (K x3 h))))) : WI T N 66 5 [some (vr (some w)), some (vr (some a1)), some (vi x2), some (vi x3), some (vi x4), none, none, none, none, none] [] h K := by
  show WP T N 66 5 [some (vr (some w)), some (vr (some a1)), some (vi x2), some (vi x3), some (vi x4), none, none, none, none, none] [] h _
  refine R_ps 2 (pc2 := 8) (L2 := [some (vr (some w)), some (vr (some a1)), some (vi x2), some (vi x3), some (vi x4), none, none, none, none, none]) (st2 := [vr (some a1), vi x4]) rfl ?_
  refine R_getI rfl t0 ?_
  refine R_if rfl (fun c_2 => ?_) (fun c_2 => ?_)
  · have k := k.2 (i32_nlt c_2)
    refine R_ps 1 (pc2 := 136) (L2 := [some (vr (some w)), some (vr (some a1)), some (vi x2), some (vi x3), some (vi x4), none, none, none, none, none]) (st2 := [vi x3]) rfl ?_
    exact R_iret rfl rfl ⟨_, rfl, k⟩
  · have k := k.1 (i32_lt c_2)
    refine R_ps 2 (pc2 := 17) (L2 := [some (vr (some w)), some (vr (some a1)), some (vi x2), some (vi x3), some (vi x4), none, none, none, none, none]) (st2 := [vi x4, vr (some a1)]) rfl ?_
    refine R_cR (as := [vr (some a1), vi x4]) rfl rfl ⟨Nat.le_of_ble_eq_true rfl, Nat.le_of_ble_eq_true rfl, rfl, (Or.inr ⟨_, rfl, t0⟩)⟩ rfl rfl k (fun x_6 h_5 k => ?_)
    refine R_ps 2 (pc2 := 24) (L2 := [some (vr (some w)), some (vr (some a1)), some (vi x2), some (vi x3), some (vi x4), some (vr x_6), none, none, none, none]) (st2 := [vr x_6]) rfl ?_
    rcases null_or (x_6) with e_9 | ⟨a_8, e_9⟩
    · have k := k.1 e_9
      rw [e_9]
      refine R_nonnull rfl (fun _ => ?_) (fun _ c_7 => nomatch c_7)
      refine R_ps 3 (pc2 := 5) (L2 := [some (vr (some w)), some (vr (some a1)), some (vi x2), some (vi x3), some (vi (x4 + 1)), some (vr none), none, none, none, none]) (st2 := []) rfl ?_
      exact R_drop k (LE_of (L := [some (vr (some w)), some (vr (some a1)), some (vi x2), some (vi x3), some (vi (x4 + 1)), none, none, none, none, none]) (L2 := [some (vr (some w)), some (vr (some a1)), some (vi x2), some (vi x3), some (vi (x4 + 1)), some (vr none), none, none, none, none]) ⟨rfl, rfl, rfl, rfl, rfl, trivial⟩)
    · have k := k.2 a_8 e_9
      rw [e_9]
      refine R_nonnull rfl (fun c_7 => nomatch c_7) (fun _ _ => ?_)
      refine R_ps 2 (pc2 := 33) (L2 := [some (vr (some w)), some (vr (some a1)), some (vi x2), some (vi x3), some (vi x4), some (vr (some a_8)), some (vi 0), none, none, none]) (st2 := []) rfl ?_
      exact k
theorem m66_33 {T N : Nat → Nat} {h : PH} {w : Nat} {a1 : Nat} {x2 : Int32} {x3 : Int32} {x4 : Int32} {a5 : Nat} {x6 : Int32} {K : Int32 → PH → Prop} (t0 : T a5 = 2) (k : (((x6 < 2 → (CI T N 12 [vr (some a5), vi x6] h (fun x_4 h_3 => (WI T N 66 53 [some (vr (some w)), some (vr (some a1)), some (vi x2), some (vi x3), some (vi x4), some (vr (some a5)), some (vi x6), some (vi (x_4 * 3)), some (vi 0), none] [] h_3 K)))) ∧ (¬ (x6 < 2) → (WI T N 66 5 [some (vr (some w)), some (vr (some a1)), some (vi x2), some (vi x3), some (vi (x4 + 1)), none, none, none, none, none] [] h K))))) : WI T N 66 33 [some (vr (some w)), some (vr (some a1)), some (vi x2), some (vi x3), some (vi x4), some (vr (some a5)), some (vi x6), none, none, none] [] h K := by
  show WP T N 66 33 [some (vr (some w)), some (vr (some a1)), some (vi x2), some (vi x3), some (vi x4), some (vr (some a5)), some (vi x6), none, none, none] [] h _
  refine R_ps 2 (pc2 := 36) (L2 := [some (vr (some w)), some (vr (some a1)), some (vi x2), some (vi x3), some (vi x4), some (vr (some a5)), some (vi x6), none, none, none]) (st2 := [vi 2, vi x6]) rfl ?_
  refine R_if rfl (fun c_1 => ?_) (fun c_1 => ?_)
  · have k := k.2 (i32_nlt c_1)
    refine R_ps 2 (pc2 := 5) (L2 := [some (vr (some w)), some (vr (some a1)), some (vi x2), some (vi x3), some (vi (x4 + 1)), some (vr (some a5)), some (vi x6), none, none, none]) (st2 := []) rfl ?_
    exact R_drop k (LE_of (L := [some (vr (some w)), some (vr (some a1)), some (vi x2), some (vi x3), some (vi (x4 + 1)), none, none, none, none, none]) (L2 := [some (vr (some w)), some (vr (some a1)), some (vi x2), some (vi x3), some (vi (x4 + 1)), some (vr (some a5)), some (vi x6), none, none, none]) ⟨rfl, rfl, rfl, rfl, rfl, trivial⟩)
  · have k := k.1 (i32_lt c_1)
    refine R_ps 2 (pc2 := 43) (L2 := [some (vr (some w)), some (vr (some a1)), some (vi x2), some (vi x3), some (vi x4), some (vr (some a5)), some (vi x6), none, none, none]) (st2 := [vi x6, vr (some a5)]) rfl ?_
    refine R_cI (as := [vr (some a5), vi x6]) rfl rfl ⟨Nat.le_of_ble_eq_true rfl, Nat.le_of_ble_eq_true rfl, rfl, (Or.inr ⟨_, rfl, t0⟩)⟩ rfl rfl k (fun x_4 h_3 k => ?_)
    refine R_ps 5 (pc2 := 53) (L2 := [some (vr (some w)), some (vr (some a1)), some (vi x2), some (vi x3), some (vi x4), some (vr (some a5)), some (vi x6), some (vi (x_4 * 3)), some (vi 0), none]) (st2 := []) rfl ?_
    exact k
theorem m66_53 {T N : Nat → Nat} {h : PH} {w : Nat} {a1 : Nat} {x2 : Int32} {x3 : Int32} {x4 : Int32} {a5 : Nat} {x6 : Int32} {x7 : Int32} {x8 : Int32} {K : Int32 → PH → Prop} (t0 : T a5 = 2) (t1 : T w = 8) (k : (((x8 < 3 → (CI T N 8 [vi x4, vi x6, vi x8] h (fun x_5 h_4 => (CI T N 65 [vr (some w), vi x2, vi (gi h a5 2), vi x_5] h_4 (fun x_8 h_7 => (((x_8 = (-1) → (WI T N 66 53 [some (vr (some w)), some (vr (some a1)), some (vi x2), some (vi x3), some (vi x4), some (vr (some a5)), some (vi x6), some (vi x7), some (vi (x8 + 1)), none] [] h_7 K)) ∧ (¬ (x_8 = (-1)) → (CI T N 64 [vr (some w), vi x_8] h_7 (fun x_12 h_11 => (CV T N 67 [vr (some w), vi x_8, vi (x7 + x8), vi (x_12 - x2)] h_11 (fun h_14 => (CI T N 12 [vr (some a5), vi x6] h_14 (fun x_18 h_17 => (WI T N 66 53 [some (vr (some w)), some (vr (some a1)), some (vi x2), some (vi (x3 ||| (1 <<< (x_18 &&& 31)))), some (vi x4), some (vr (some a5)), some (vi x6), some (vi x7), some (vi (x8 + 1)), none] [] h_17 K))))))))))))))) ∧ (¬ (x8 < 3) → (WI T N 66 33 [some (vr (some w)), some (vr (some a1)), some (vi x2), some (vi x3), some (vi x4), some (vr (some a5)), some (vi (x6 + 1)), none, none, none] [] h K))))) : WI T N 66 53 [some (vr (some w)), some (vr (some a1)), some (vi x2), some (vi x3), some (vi x4), some (vr (some a5)), some (vi x6), some (vi x7), some (vi x8), none] [] h K := by
  show WP T N 66 53 [some (vr (some w)), some (vr (some a1)), some (vi x2), some (vi x3), some (vi x4), some (vr (some a5)), some (vi x6), some (vi x7), some (vi x8), none] [] h _
  refine R_ps 2 (pc2 := 56) (L2 := [some (vr (some w)), some (vr (some a1)), some (vi x2), some (vi x3), some (vi x4), some (vr (some a5)), some (vi x6), some (vi x7), some (vi x8), none]) (st2 := [vi 3, vi x8]) rfl ?_
  refine R_if rfl (fun c_1 => ?_) (fun c_1 => ?_)
  · have k := k.2 (i32_nlt c_1)
    refine R_ps 2 (pc2 := 33) (L2 := [some (vr (some w)), some (vr (some a1)), some (vi x2), some (vi x3), some (vi x4), some (vr (some a5)), some (vi (x6 + 1)), some (vi x7), some (vi x8), none]) (st2 := []) rfl ?_
    exact R_drop k (LE_of (L := [some (vr (some w)), some (vr (some a1)), some (vi x2), some (vi x3), some (vi x4), some (vr (some a5)), some (vi (x6 + 1)), none, none, none]) (L2 := [some (vr (some w)), some (vr (some a1)), some (vi x2), some (vi x3), some (vi x4), some (vr (some a5)), some (vi (x6 + 1)), some (vi x7), some (vi x8), none]) ⟨rfl, rfl, rfl, rfl, rfl, rfl, rfl, trivial⟩)
  · have k := k.1 (i32_lt c_1)
    refine R_ps 3 (pc2 := 63) (L2 := [some (vr (some w)), some (vr (some a1)), some (vi x2), some (vi x3), some (vi x4), some (vr (some a5)), some (vi x6), some (vi x7), some (vi x8), none]) (st2 := [vr (some a5), vi x2, vr (some w)]) rfl ?_
    refine R_getI rfl t0 ?_
    refine R_ps 3 (pc2 := 72) (L2 := [some (vr (some w)), some (vr (some a1)), some (vi x2), some (vi x3), some (vi x4), some (vr (some a5)), some (vi x6), some (vi x7), some (vi x8), none]) (st2 := [vi x8, vi x6, vi x4, vi (gi h a5 2), vi x2, vr (some w)]) rfl ?_
    refine R_cI (as := [vi x4, vi x6, vi x8]) rfl rfl ⟨Nat.le_of_ble_eq_true rfl, Nat.le_of_ble_eq_true rfl, rfl, (Or.inl rfl)⟩ rfl rfl k (fun x_5 h_4 k => ?_)
    refine R_cI (as := [vr (some w), vi x2, vi (gi h a5 2), vi x_5]) rfl rfl ⟨Nat.le_of_ble_eq_true rfl, Nat.le_of_ble_eq_true rfl, rfl, (Or.inr ⟨_, rfl, t1⟩)⟩ rfl rfl k (fun x_8 h_7 k => ?_)
    refine R_ps 3 (pc2 := 83) (L2 := [some (vr (some w)), some (vr (some a1)), some (vi x2), some (vi x3), some (vi x4), some (vr (some a5)), some (vi x6), some (vi x7), some (vi x8), some (vi x_8)]) (st2 := [vi (-1), vi x_8]) rfl ?_
    refine R_if rfl (fun c_9 => ?_) (fun c_9 => ?_)
    · have k := k.1 c_9
      refine R_ps 2 (pc2 := 53) (L2 := [some (vr (some w)), some (vr (some a1)), some (vi x2), some (vi x3), some (vi x4), some (vr (some a5)), some (vi x6), some (vi x7), some (vi (x8 + 1)), some (vi x_8)]) (st2 := []) rfl ?_
      exact R_drop k (LE_of (L := [some (vr (some w)), some (vr (some a1)), some (vi x2), some (vi x3), some (vi x4), some (vr (some a5)), some (vi x6), some (vi x7), some (vi (x8 + 1)), none]) (L2 := [some (vr (some w)), some (vr (some a1)), some (vi x2), some (vi x3), some (vi x4), some (vr (some a5)), some (vi x6), some (vi x7), some (vi (x8 + 1)), some (vi x_8)]) ⟨rfl, rfl, rfl, rfl, rfl, rfl, rfl, rfl, rfl, trivial⟩)
    · have k := k.2 c_9
      refine R_ps 7 (pc2 := 97) (L2 := [some (vr (some w)), some (vr (some a1)), some (vi x2), some (vi x3), some (vi x4), some (vr (some a5)), some (vi x6), some (vi x7), some (vi x8), some (vi x_8)]) (st2 := [vi x_8, vr (some w), vi (x7 + x8), vi x_8, vr (some w)]) rfl ?_
      refine R_cI (as := [vr (some w), vi x_8]) rfl rfl ⟨Nat.le_of_ble_eq_true rfl, Nat.le_of_ble_eq_true rfl, rfl, (Or.inr ⟨_, rfl, t1⟩)⟩ rfl rfl k (fun x_12 h_11 k => ?_)
      refine R_ps 2 (pc2 := 102) (L2 := [some (vr (some w)), some (vr (some a1)), some (vi x2), some (vi x3), some (vi x4), some (vr (some a5)), some (vi x6), some (vi x7), some (vi x8), some (vi x_8)]) (st2 := [vi (x_12 - x2), vi (x7 + x8), vi x_8, vr (some w)]) rfl ?_
      refine R_cV (as := [vr (some w), vi x_8, vi (x7 + x8), vi (x_12 - x2)]) rfl rfl ⟨Nat.le_of_ble_eq_true rfl, Nat.le_of_ble_eq_true rfl, rfl, (Or.inr ⟨_, rfl, t1⟩)⟩ rfl rfl k (fun h_14 k => ?_)
      refine R_ps 4 (pc2 := 111) (L2 := [some (vr (some w)), some (vr (some a1)), some (vi x2), some (vi x3), some (vi x4), some (vr (some a5)), some (vi x6), some (vi x7), some (vi x8), some (vi x_8)]) (st2 := [vi x6, vr (some a5), vi 1, vi x3]) rfl ?_
      refine R_cI (as := [vr (some a5), vi x6]) rfl rfl ⟨Nat.le_of_ble_eq_true rfl, Nat.le_of_ble_eq_true rfl, rfl, (Or.inr ⟨_, rfl, t0⟩)⟩ rfl rfl k (fun x_18 h_17 k => ?_)
      refine R_ps 5 (pc2 := 53) (L2 := [some (vr (some w)), some (vr (some a1)), some (vi x2), some (vi (x3 ||| (1 <<< (x_18 &&& 31)))), some (vi x4), some (vr (some a5)), some (vi x6), some (vi x7), some (vi (x8 + 1)), some (vi x_8)]) (st2 := []) rfl ?_
      exact R_drop k (LE_of (L := [some (vr (some w)), some (vr (some a1)), some (vi x2), some (vi (x3 ||| (1 <<< (x_18 &&& 31)))), some (vi x4), some (vr (some a5)), some (vi x6), some (vi x7), some (vi (x8 + 1)), none]) (L2 := [some (vr (some w)), some (vr (some a1)), some (vi x2), some (vi (x3 ||| (1 <<< (x_18 &&& 31)))), some (vi x4), some (vr (some a5)), some (vi x6), some (vi x7), some (vi (x8 + 1)), some (vi x_8)]) ⟨rfl, rfl, rfl, rfl, rfl, rfl, rfl, rfl, rfl, trivial⟩)
/-- DroneCorridors$Search.letWait -/
theorem m67 {T N : Nat → Nat} {h : PH} {w : Nat} {x1 : Int32} {x2 : Int32} {x3 : Int32} {K : PH → Prop} (t0 : T w = 8) (k : (((x2 < 0 → (K h)) ∧ (¬ (x2 < 0) → (∃ a_5, (gr h w 8) = some a_5 ∧ 21 ≤ T a_5 ∧ ((x2 < (Int32.ofNat (N a_5)) → (∃ a_11, (gr h w 8) = some a_11 ∧ T a_11 = 22 ∧ inb x2 (N a_11) ∧ (((gi h a_11 (Int32.toNatClampNeg x2)) = (-1) → (∃ a_18, (gr h w 8) = some a_18 ∧ T a_18 = 22 ∧ inb x2 (N a_18) ∧ ∀ h_20, h_20 = si h a_18 (Int32.toNatClampNeg x2) x1 → ∃ a_26, (gr h_20 w 9) = some a_26 ∧ T a_26 = 22 ∧ inb x2 (N a_26) ∧ ∀ h_28, h_28 = si h_20 a_26 (Int32.toNatClampNeg x2) x3 → K h_28)) ∧ (¬ ((gi h a_11 (Int32.toNatClampNeg x2)) = (-1)) → (∃ a_35, (gr h w 9) = some a_35 ∧ T a_35 = 22 ∧ inb x2 (N a_35) ∧ (((gi h a_35 (Int32.toNatClampNeg x2)) < x3 → (K h)) ∧ (¬ ((gi h a_35 (Int32.toNatClampNeg x2)) < x3) → (∃ a_43, (gr h w 9) = some a_43 ∧ T a_43 = 22 ∧ inb x2 (N a_43) ∧ ((x3 = (gi h a_43 (Int32.toNatClampNeg x2)) → (CI T N 68 [vi x1, vi (gi h a_11 (Int32.toNatClampNeg x2))] h (fun x_67 h_66 => (((x_67 = 0 → (K h_66)) ∧ (¬ (x_67 = 0) → (∃ a_71, (gr h_66 w 8) = some a_71 ∧ T a_71 = 22 ∧ inb x2 (N a_71) ∧ ∀ h_73, h_73 = si h_66 a_71 (Int32.toNatClampNeg x2) x1 → ∃ a_79, (gr h_73 w 9) = some a_79 ∧ T a_79 = 22 ∧ inb x2 (N a_79) ∧ ∀ h_81, h_81 = si h_73 a_79 (Int32.toNatClampNeg x2) x3 → K h_81))))))) ∧ (¬ (x3 = (gi h a_43 (Int32.toNatClampNeg x2))) → (∃ a_50, (gr h w 8) = some a_50 ∧ T a_50 = 22 ∧ inb x2 (N a_50) ∧ ∀ h_52, h_52 = si h a_50 (Int32.toNatClampNeg x2) x1 → ∃ a_58, (gr h_52 w 9) = some a_58 ∧ T a_58 = 22 ∧ inb x2 (N a_58) ∧ ∀ h_60, h_60 = si h_52 a_58 (Int32.toNatClampNeg x2) x3 → K h_60))))))))))) ∧ (¬ (x2 < (Int32.ofNat (N a_5))) → (K h)))))))) : CV T N 67 [vr (some w), vi x1, vi x2, vi x3] h K := by
  show WP T N 67 0 [some (vr (some w)), some (vi x1), some (vi x2), some (vi x3), none] [] h _
  refine R_ps 1 (pc2 := 1) (L2 := [some (vr (some w)), some (vi x1), some (vi x2), some (vi x3), none]) (st2 := [vi x2]) rfl ?_
  refine R_if0 rfl (fun c_1 => ?_) (fun c_1 => ?_)
  · have k := k.1 c_1
    exact R_ret rfl rfl ⟨rfl, k⟩
  · have k := k.2 c_1
    refine R_ps 2 (pc2 := 6) (L2 := [some (vr (some w)), some (vi x1), some (vi x2), some (vi x3), none]) (st2 := [vr (some w), vi x2]) rfl ?_
    refine R_getR rfl t0 ?_
    obtain ⟨a_5, e_6, k⟩ := k
    rw [e_6]
    obtain ⟨t_7, k⟩ := k
    refine R_alen rfl t_7 ?_
    refine R_if rfl (fun c_8 => ?_) (fun c_8 => ?_)
    · have k := k.1 c_8
      refine R_ps 1 (pc2 := 15) (L2 := [some (vr (some w)), some (vi x1), some (vi x2), some (vi x3), none]) (st2 := [vr (some w)]) rfl ?_
      refine R_getR rfl t0 ?_
      refine R_ps 1 (pc2 := 19) (L2 := [some (vr (some w)), some (vi x1), some (vi x2), some (vi x3), none]) (st2 := [vi x2, vr (gr h w 8)]) rfl ?_
      obtain ⟨a_11, e_12, k⟩ := k
      rw [e_12]
      obtain ⟨t_13, k⟩ := k
      obtain ⟨t_14, k⟩ := k
      refine R_iald rfl (Or.inl t_13) t_14 ?_
      refine R_ps 3 (pc2 := 25) (L2 := [some (vr (some w)), some (vi x1), some (vi x2), some (vi x3), some (vi (gi h a_11 (Int32.toNatClampNeg x2)))]) (st2 := [vi (-1), vi (gi h a_11 (Int32.toNatClampNeg x2))]) rfl ?_
      refine R_if rfl (fun c_15 => ?_) (fun c_15 => ?_)
      · have k := k.1 c_15
        refine R_ps 1 (pc2 := 59) (L2 := [some (vr (some w)), some (vi x1), some (vi x2), some (vi x3), some (vi (gi h a_11 (Int32.toNatClampNeg x2)))]) (st2 := [vr (some w)]) rfl ?_
        refine R_getR rfl t0 ?_
        refine R_ps 2 (pc2 := 64) (L2 := [some (vr (some w)), some (vi x1), some (vi x2), some (vi x3), some (vi (gi h a_11 (Int32.toNatClampNeg x2)))]) (st2 := [vi x1, vi x2, vr (gr h w 8)]) rfl ?_
        obtain ⟨a_18, e_19, k⟩ := k
        rw [e_19]
        obtain ⟨t_22, k⟩ := k
        obtain ⟨t_23, k⟩ := k
        refine R_iast rfl t_22 t_23  ?_
        show WP T N _ _ _ _ (si h a_18 (Int32.toNatClampNeg x2) x1) _
        generalize e_21 : si h a_18 (Int32.toNatClampNeg x2) x1 = h_20
        replace k := k h_20 e_21.symm
        refine R_ps 1 (pc2 := 66) (L2 := [some (vr (some w)), some (vi x1), some (vi x2), some (vi x3), some (vi (gi h a_11 (Int32.toNatClampNeg x2)))]) (st2 := [vr (some w)]) rfl ?_
        refine R_getR rfl t0 ?_
        refine R_ps 2 (pc2 := 71) (L2 := [some (vr (some w)), some (vi x1), some (vi x2), some (vi x3), some (vi (gi h a_11 (Int32.toNatClampNeg x2)))]) (st2 := [vi x3, vi x2, vr (gr h_20 w 9)]) rfl ?_
        obtain ⟨a_26, e_27, k⟩ := k
        rw [e_27]
        obtain ⟨t_30, k⟩ := k
        obtain ⟨t_31, k⟩ := k
        refine R_iast rfl t_30 t_31  ?_
        show WP T N _ _ _ _ (si h_20 a_26 (Int32.toNatClampNeg x2) x3) _
        generalize e_29 : si h_20 a_26 (Int32.toNatClampNeg x2) x3 = h_28
        replace k := k h_28 e_29.symm
        exact R_ret rfl rfl ⟨rfl, k⟩
      · have k := k.2 c_15
        refine R_ps 2 (pc2 := 30) (L2 := [some (vr (some w)), some (vi x1), some (vi x2), some (vi x3), some (vi (gi h a_11 (Int32.toNatClampNeg x2)))]) (st2 := [vr (some w), vi x3]) rfl ?_
        refine R_getR rfl t0 ?_
        refine R_ps 1 (pc2 := 34) (L2 := [some (vr (some w)), some (vi x1), some (vi x2), some (vi x3), some (vi (gi h a_11 (Int32.toNatClampNeg x2)))]) (st2 := [vi x2, vr (gr h w 9), vi x3]) rfl ?_
        obtain ⟨a_35, e_36, k⟩ := k
        rw [e_36]
        obtain ⟨t_37, k⟩ := k
        obtain ⟨t_38, k⟩ := k
        refine R_iald rfl (Or.inl t_37) t_38 ?_
        refine R_if rfl (fun c_39 => ?_) (fun c_39 => ?_)
        · have k := k.1 c_39
          exact R_ret rfl rfl ⟨rfl, k⟩
        · have k := k.2 c_39
          refine R_ps 2 (pc2 := 40) (L2 := [some (vr (some w)), some (vi x1), some (vi x2), some (vi x3), some (vi (gi h a_11 (Int32.toNatClampNeg x2)))]) (st2 := [vr (some w), vi x3]) rfl ?_
          refine R_getR rfl t0 ?_
          refine R_ps 1 (pc2 := 44) (L2 := [some (vr (some w)), some (vi x1), some (vi x2), some (vi x3), some (vi (gi h a_11 (Int32.toNatClampNeg x2)))]) (st2 := [vi x2, vr (gr h w 9), vi x3]) rfl ?_
          obtain ⟨a_43, e_44, k⟩ := k
          rw [e_44]
          obtain ⟨t_45, k⟩ := k
          obtain ⟨t_46, k⟩ := k
          refine R_iald rfl (Or.inl t_45) t_46 ?_
          refine R_if rfl (fun c_47 => ?_) (fun c_47 => ?_)
          · have k := k.2 c_47
            refine R_ps 1 (pc2 := 59) (L2 := [some (vr (some w)), some (vi x1), some (vi x2), some (vi x3), some (vi (gi h a_11 (Int32.toNatClampNeg x2)))]) (st2 := [vr (some w)]) rfl ?_
            refine R_getR rfl t0 ?_
            refine R_ps 2 (pc2 := 64) (L2 := [some (vr (some w)), some (vi x1), some (vi x2), some (vi x3), some (vi (gi h a_11 (Int32.toNatClampNeg x2)))]) (st2 := [vi x1, vi x2, vr (gr h w 8)]) rfl ?_
            obtain ⟨a_50, e_51, k⟩ := k
            rw [e_51]
            obtain ⟨t_54, k⟩ := k
            obtain ⟨t_55, k⟩ := k
            refine R_iast rfl t_54 t_55  ?_
            show WP T N _ _ _ _ (si h a_50 (Int32.toNatClampNeg x2) x1) _
            generalize e_53 : si h a_50 (Int32.toNatClampNeg x2) x1 = h_52
            replace k := k h_52 e_53.symm
            refine R_ps 1 (pc2 := 66) (L2 := [some (vr (some w)), some (vi x1), some (vi x2), some (vi x3), some (vi (gi h a_11 (Int32.toNatClampNeg x2)))]) (st2 := [vr (some w)]) rfl ?_
            refine R_getR rfl t0 ?_
            refine R_ps 2 (pc2 := 71) (L2 := [some (vr (some w)), some (vi x1), some (vi x2), some (vi x3), some (vi (gi h a_11 (Int32.toNatClampNeg x2)))]) (st2 := [vi x3, vi x2, vr (gr h_52 w 9)]) rfl ?_
            obtain ⟨a_58, e_59, k⟩ := k
            rw [e_59]
            obtain ⟨t_62, k⟩ := k
            obtain ⟨t_63, k⟩ := k
            refine R_iast rfl t_62 t_63  ?_
            show WP T N _ _ _ _ (si h_52 a_58 (Int32.toNatClampNeg x2) x3) _
            generalize e_61 : si h_52 a_58 (Int32.toNatClampNeg x2) x3 = h_60
            replace k := k h_60 e_61.symm
            exact R_ret rfl rfl ⟨rfl, k⟩
          · have k := k.1 (Classical.not_not.mp c_47)
            refine R_ps 2 (pc2 := 51) (L2 := [some (vr (some w)), some (vi x1), some (vi x2), some (vi x3), some (vi (gi h a_11 (Int32.toNatClampNeg x2)))]) (st2 := [vi (gi h a_11 (Int32.toNatClampNeg x2)), vi x1]) rfl ?_
            refine R_cI (as := [vi x1, vi (gi h a_11 (Int32.toNatClampNeg x2))]) rfl rfl ⟨Nat.le_of_ble_eq_true rfl, Nat.le_of_ble_eq_true rfl, rfl, (Or.inl rfl)⟩ rfl rfl k (fun x_67 h_66 k => ?_)
            refine R_if0 rfl (fun c_68 => ?_) (fun c_68 => ?_)
            · have k := k.2 c_68
              refine R_ps 1 (pc2 := 59) (L2 := [some (vr (some w)), some (vi x1), some (vi x2), some (vi x3), some (vi (gi h a_11 (Int32.toNatClampNeg x2)))]) (st2 := [vr (some w)]) rfl ?_
              refine R_getR rfl t0 ?_
              refine R_ps 2 (pc2 := 64) (L2 := [some (vr (some w)), some (vi x1), some (vi x2), some (vi x3), some (vi (gi h a_11 (Int32.toNatClampNeg x2)))]) (st2 := [vi x1, vi x2, vr (gr h_66 w 8)]) rfl ?_
              obtain ⟨a_71, e_72, k⟩ := k
              rw [e_72]
              obtain ⟨t_75, k⟩ := k
              obtain ⟨t_76, k⟩ := k
              refine R_iast rfl t_75 t_76  ?_
              show WP T N _ _ _ _ (si h_66 a_71 (Int32.toNatClampNeg x2) x1) _
              generalize e_74 : si h_66 a_71 (Int32.toNatClampNeg x2) x1 = h_73
              replace k := k h_73 e_74.symm
              refine R_ps 1 (pc2 := 66) (L2 := [some (vr (some w)), some (vi x1), some (vi x2), some (vi x3), some (vi (gi h a_11 (Int32.toNatClampNeg x2)))]) (st2 := [vr (some w)]) rfl ?_
              refine R_getR rfl t0 ?_
              refine R_ps 2 (pc2 := 71) (L2 := [some (vr (some w)), some (vi x1), some (vi x2), some (vi x3), some (vi (gi h a_11 (Int32.toNatClampNeg x2)))]) (st2 := [vi x3, vi x2, vr (gr h_73 w 9)]) rfl ?_
              obtain ⟨a_79, e_80, k⟩ := k
              rw [e_80]
              obtain ⟨t_83, k⟩ := k
              obtain ⟨t_84, k⟩ := k
              refine R_iast rfl t_83 t_84  ?_
              show WP T N _ _ _ _ (si h_73 a_79 (Int32.toNatClampNeg x2) x3) _
              generalize e_82 : si h_73 a_79 (Int32.toNatClampNeg x2) x3 = h_81
              replace k := k h_81 e_82.symm
              exact R_ret rfl rfl ⟨rfl, k⟩
            · have k := k.1 (Classical.not_not.mp c_68)
              exact R_ret rfl rfl ⟨rfl, k⟩
    · have k := k.2 c_8
      exact R_ret rfl rfl ⟨rfl, k⟩
/-- DroneCorridors$Search.isBetterBefore -/
theorem m68 {T N : Nat → Nat} {h : PH} {x0 : Int32} {x1 : Int32} {K : Int32 → PH → Prop} (k : (((((x0 - x0 / 96 * 96) / 6) < ((x1 - x1 / 96 * 96) / 6) → (K 1 h)) ∧ (¬ (((x0 - x0 / 96 * 96) / 6) < ((x1 - x1 / 96 * 96) / 6)) → (((((x0 - x0 / 96 * 96) / 6) = ((x1 - x1 / 96 * 96) / 6) → ((((x1 / 96) < (x0 / 96) → (K 1 h)) ∧ (¬ ((x1 / 96) < (x0 / 96)) → (K 0 h))))) ∧ (¬ (((x0 - x0 / 96 * 96) / 6) = ((x1 - x1 / 96 * 96) / 6)) → (K 0 h)))))))) : CI T N 68 [vi x0, vi x1] h K := by
  show WP T N 68 0 [some (vi x0), some (vi x1), none, none] [] h _
  refine R_ps 2 (pc2 := 3) (L2 := [some (vi x0), some (vi x1), none, none]) (st2 := [vi 96, vi x0]) rfl ?_
  refine R_rem rfl (by decide) ?_
  refine R_ps 1 (pc2 := 6) (L2 := [some (vi x0), some (vi x1), none, none]) (st2 := [vi 6, vi (x0 - x0 / 96 * 96)]) rfl ?_
  refine R_div rfl (by decide) ?_
  refine R_ps 3 (pc2 := 11) (L2 := [some (vi x0), some (vi x1), some (vi ((x0 - x0 / 96 * 96) / 6)), none]) (st2 := [vi 96, vi x1]) rfl ?_
  refine R_rem rfl (by decide) ?_
  refine R_ps 1 (pc2 := 14) (L2 := [some (vi x0), some (vi x1), some (vi ((x0 - x0 / 96 * 96) / 6)), none]) (st2 := [vi 6, vi (x1 - x1 / 96 * 96)]) rfl ?_
  refine R_div rfl (by decide) ?_
  refine R_ps 3 (pc2 := 18) (L2 := [some (vi x0), some (vi x1), some (vi ((x0 - x0 / 96 * 96) / 6)), some (vi ((x1 - x1 / 96 * 96) / 6))]) (st2 := [vi ((x1 - x1 / 96 * 96) / 6), vi ((x0 - x0 / 96 * 96) / 6)]) rfl ?_
  refine R_if rfl (fun c_5 => ?_) (fun c_5 => ?_)
  · have k := k.1 c_5
    refine R_ps 2 (pc2 := 42) (L2 := [some (vi x0), some (vi x1), some (vi ((x0 - x0 / 96 * 96) / 6)), some (vi ((x1 - x1 / 96 * 96) / 6))]) (st2 := [vi 1]) rfl ?_
    exact R_zret rfl rfl (Or.inr rfl) ⟨_, rfl, k⟩
  · have k := k.2 c_5
    refine R_ps 2 (pc2 := 23) (L2 := [some (vi x0), some (vi x1), some (vi ((x0 - x0 / 96 * 96) / 6)), some (vi ((x1 - x1 / 96 * 96) / 6))]) (st2 := [vi ((x1 - x1 / 96 * 96) / 6), vi ((x0 - x0 / 96 * 96) / 6)]) rfl ?_
    refine R_if rfl (fun c_7 => ?_) (fun c_7 => ?_)
    · have k := k.2 c_7
      refine R_ps 1 (pc2 := 42) (L2 := [some (vi x0), some (vi x1), some (vi ((x0 - x0 / 96 * 96) / 6)), some (vi ((x1 - x1 / 96 * 96) / 6))]) (st2 := [vi 0]) rfl ?_
      exact R_zret rfl rfl (Or.inl rfl) ⟨_, rfl, k⟩
    · have k := k.1 (Classical.not_not.mp c_7)
      refine R_ps 2 (pc2 := 29) (L2 := [some (vi x0), some (vi x1), some (vi ((x0 - x0 / 96 * 96) / 6)), some (vi ((x1 - x1 / 96 * 96) / 6))]) (st2 := [vi 96, vi x0]) rfl ?_
      refine R_div rfl (by decide) ?_
      refine R_ps 2 (pc2 := 33) (L2 := [some (vi x0), some (vi x1), some (vi ((x0 - x0 / 96 * 96) / 6)), some (vi ((x1 - x1 / 96 * 96) / 6))]) (st2 := [vi 96, vi x1, vi (x0 / 96)]) rfl ?_
      refine R_div rfl (by decide) ?_
      refine R_if rfl (fun c_11 => ?_) (fun c_11 => ?_)
      · have k := k.2 (i32_nlt c_11)
        refine R_ps 1 (pc2 := 42) (L2 := [some (vi x0), some (vi x1), some (vi ((x0 - x0 / 96 * 96) / 6)), some (vi ((x1 - x1 / 96 * 96) / 6))]) (st2 := [vi 0]) rfl ?_
        exact R_zret rfl rfl (Or.inl rfl) ⟨_, rfl, k⟩
      · have k := k.1 (i32_lt c_11)
        refine R_ps 2 (pc2 := 42) (L2 := [some (vi x0), some (vi x1), some (vi ((x0 - x0 / 96 * 96) / 6)), some (vi ((x1 - x1 / 96 * 96) / 6))]) (st2 := [vi 1]) rfl ?_
        exact R_zret rfl rfl (Or.inr rfl) ⟨_, rfl, k⟩
/-- DroneCorridors$Search.arriveAt -/
theorem m69 {T N : Nat → Nat} {h : PH} {w : Nat} {a1 : Nat} {x2 : Int32} {x3 : Int32} {K : PH → Prop} (k : (WV T N 69 6 [some (vr (some w)), some (vr (some a1)), some (vi x2), some (vi x3), some (vi (-1)), some (vi 0), none, none, none, none] [] h K)) : CV T N 69 [vr (some w), vr (some a1), vi x2, vi x3] h K := by
  show WP T N 69 0 [some (vr (some w)), some (vr (some a1)), some (vi x2), some (vi x3), none, none, none, none, none, none] [] h _
  refine R_ps 4 (pc2 := 6) (L2 := [some (vr (some w)), some (vr (some a1)), some (vi x2), some (vi x3), some (vi (-1)), some (vi 0), none, none, none, none]) (st2 := []) rfl ?_
  exact k
theorem m69_6 {T N : Nat → Nat} {h : PH} {w : Nat} {a1 : Nat} {x2 : Int32} {x3 : Int32} {x4 : Int32} {x5 : Int32} {K : PH → Prop} (t0 : T a1 = 10) (t1 : T w = 8) (k : (((x5 < 3 → (WV T N 69 15 [some (vr (some w)), some (vr (some a1)), some (vi x2), some (vi x3), some (vi x4), some (vi x5), some (vi 0), none, none, none] [] h K)) ∧ (¬ (x5 < 3) → (CI T N 64 [vr (some w), vi x4] h (fun x_5 h_4 => (CV T N 62 [vr (some w), vi x4, vi ((gi h a1 0) + x2), vi x_5, vi x3] h_4 (fun h_7 => (K h_7))))))))) : WV T N 69 6 [some (vr (some w)), some (vr (some a1)), some (vi x2), some (vi x3), some (vi x4), some (vi x5), none, none, none, none] [] h K := by
  show WP T N 69 6 [some (vr (some w)), some (vr (some a1)), some (vi x2), some (vi x3), some (vi x4), some (vi x5), none, none, none, none] [] h _
  refine R_ps 2 (pc2 := 9) (L2 := [some (vr (some w)), some (vr (some a1)), some (vi x2), some (vi x3), some (vi x4), some (vi x5), none, none, none, none]) (st2 := [vi 3, vi x5]) rfl ?_
  refine R_if rfl (fun c_1 => ?_) (fun c_1 => ?_)
  · have k := k.2 (i32_nlt c_1)
    refine R_ps 3 (pc2 := 142) (L2 := [some (vr (some w)), some (vr (some a1)), some (vi x2), some (vi x3), some (vi x4), some (vi x5), none, none, none, none]) (st2 := [vr (some a1), vi x4, vr (some w)]) rfl ?_
    refine R_getI rfl t0 ?_
    refine R_ps 4 (pc2 := 150) (L2 := [some (vr (some w)), some (vr (some a1)), some (vi x2), some (vi x3), some (vi x4), some (vi x5), none, none, none, none]) (st2 := [vi x4, vr (some w), vi ((gi h a1 0) + x2), vi x4, vr (some w)]) rfl ?_
    refine R_cI (as := [vr (some w), vi x4]) rfl rfl ⟨Nat.le_of_ble_eq_true rfl, Nat.le_of_ble_eq_true rfl, rfl, (Or.inr ⟨_, rfl, t1⟩)⟩ rfl rfl k (fun x_5 h_4 k => ?_)
    refine R_ps 1 (pc2 := 154) (L2 := [some (vr (some w)), some (vr (some a1)), some (vi x2), some (vi x3), some (vi x4), some (vi x5), none, none, none, none]) (st2 := [vi x3, vi x_5, vi ((gi h a1 0) + x2), vi x4, vr (some w)]) rfl ?_
    refine R_cV (as := [vr (some w), vi x4, vi ((gi h a1 0) + x2), vi x_5, vi x3]) rfl rfl ⟨Nat.le_of_ble_eq_true rfl, Nat.le_of_ble_eq_true rfl, rfl, (Or.inr ⟨_, rfl, t1⟩)⟩ rfl rfl k (fun h_7 k => ?_)
    exact R_ret rfl rfl ⟨rfl, k⟩
  · have k := k.1 (i32_lt c_1)
    refine R_ps 2 (pc2 := 15) (L2 := [some (vr (some w)), some (vr (some a1)), some (vi x2), some (vi x3), some (vi x4), some (vi x5), some (vi 0), none, none, none]) (st2 := []) rfl ?_
    exact k
theorem m69_15 {T N : Nat → Nat} {h : PH} {w : Nat} {a1 : Nat} {x2 : Int32} {x3 : Int32} {x4 : Int32} {x5 : Int32} {x6 : Int32} {K : PH → Prop} (t0 : T a1 = 10) (t1 : T w = 8) (k : (((x6 < (gi h a1 3) → (CR T N 89 [vr (some a1), vi x6] h (fun x_5 h_4 => (((x_5 = none → (WV T N 69 15 [some (vr (some w)), some (vr (some a1)), some (vi x2), some (vi x3), some (vi x4), some (vi x5), some (vi (x6 + 1)), none, none, none] [] h_4 K)) ∧ (∀ a_7, x_5 = some a_7 → (T a_7 = 2 ∧ (((gi h_4 a_7 0) = x3 → ((((gi h_4 a_7 1) = x3 → (CI T N 8 [vi x6, vi 0, vi x5] h_4 (fun x_33 h_32 => (CI T N 65 [vr (some w), vi x2, vi (gi h_4 a_7 2), vi x_33] h_32 (fun x_36 h_35 => (((x_36 = (-1) → (WV T N 69 15 [some (vr (some w)), some (vr (some a1)), some (vi x2), some (vi x3), some (vi x4), some (vi x5), some (vi (x6 + 1)), none, none, none] [] h_35 K)) ∧ (¬ (x_36 = (-1)) → (((x4 = (-1) → (WV T N 69 15 [some (vr (some w)), some (vr (some a1)), some (vi x2), some (vi x3), some (vi x_36), some (vi x5), some (vi (x6 + 1)), none, none, none] [] h_35 K)) ∧ (¬ (x4 = (-1)) → (CI T N 64 [vr (some w), vi x_36] h_35 (fun x_41 h_40 => (CI T N 64 [vr (some w), vi x4] h_40 (fun x_44 h_43 => (((x_41 < x_44 → (WV T N 69 15 [some (vr (some w)), some (vr (some a1)), some (vi x2), some (vi x3), some (vi x_36), some (vi x5), some (vi (x6 + 1)), none, none, none] [] h_43 K)) ∧ (¬ (x_41 < x_44) → (WV T N 69 15 [some (vr (some w)), some (vr (some a1)), some (vi x2), some (vi x3), some (vi x4), some (vi x5), some (vi (x6 + 1)), none, none, none] [] h_43 K))))))))))))))))))) ∧ (¬ ((gi h_4 a_7 1) = x3) → (CI T N 8 [vi x6, vi 1, vi x5] h_4 (fun x_17 h_16 => (CI T N 65 [vr (some w), vi x2, vi (gi h_4 a_7 2), vi x_17] h_16 (fun x_20 h_19 => (((x_20 = (-1) → (WV T N 69 15 [some (vr (some w)), some (vr (some a1)), some (vi x2), some (vi x3), some (vi x4), some (vi x5), some (vi (x6 + 1)), none, none, none] [] h_19 K)) ∧ (¬ (x_20 = (-1)) → (((x4 = (-1) → (WV T N 69 15 [some (vr (some w)), some (vr (some a1)), some (vi x2), some (vi x3), some (vi x_20), some (vi x5), some (vi (x6 + 1)), none, none, none] [] h_19 K)) ∧ (¬ (x4 = (-1)) → (CI T N 64 [vr (some w), vi x_20] h_19 (fun x_25 h_24 => (CI T N 64 [vr (some w), vi x4] h_24 (fun x_28 h_27 => (((x_25 < x_28 → (WV T N 69 15 [some (vr (some w)), some (vr (some a1)), some (vi x2), some (vi x3), some (vi x_20), some (vi x5), some (vi (x6 + 1)), none, none, none] [] h_27 K)) ∧ (¬ (x_25 < x_28) → (WV T N 69 15 [some (vr (some w)), some (vr (some a1)), some (vi x2), some (vi x3), some (vi x4), some (vi x5), some (vi (x6 + 1)), none, none, none] [] h_27 K)))))))))))))))))))))) ∧ (¬ ((gi h_4 a_7 0) = x3) → ((((gi h_4 a_7 1) = x3 → ((((gi h_4 a_7 1) = x3 → (CI T N 8 [vi x6, vi 0, vi x5] h_4 (fun x_69 h_68 => (CI T N 65 [vr (some w), vi x2, vi (gi h_4 a_7 2), vi x_69] h_68 (fun x_72 h_71 => (((x_72 = (-1) → (WV T N 69 15 [some (vr (some w)), some (vr (some a1)), some (vi x2), some (vi x3), some (vi x4), some (vi x5), some (vi (x6 + 1)), none, none, none] [] h_71 K)) ∧ (¬ (x_72 = (-1)) → (((x4 = (-1) → (WV T N 69 15 [some (vr (some w)), some (vr (some a1)), some (vi x2), some (vi x3), some (vi x_72), some (vi x5), some (vi (x6 + 1)), none, none, none] [] h_71 K)) ∧ (¬ (x4 = (-1)) → (CI T N 64 [vr (some w), vi x_72] h_71 (fun x_77 h_76 => (CI T N 64 [vr (some w), vi x4] h_76 (fun x_80 h_79 => (((x_77 < x_80 → (WV T N 69 15 [some (vr (some w)), some (vr (some a1)), some (vi x2), some (vi x3), some (vi x_72), some (vi x5), some (vi (x6 + 1)), none, none, none] [] h_79 K)) ∧ (¬ (x_77 < x_80) → (WV T N 69 15 [some (vr (some w)), some (vr (some a1)), some (vi x2), some (vi x3), some (vi x4), some (vi x5), some (vi (x6 + 1)), none, none, none] [] h_79 K))))))))))))))))))) ∧ (¬ ((gi h_4 a_7 1) = x3) → (CI T N 8 [vi x6, vi 1, vi x5] h_4 (fun x_53 h_52 => (CI T N 65 [vr (some w), vi x2, vi (gi h_4 a_7 2), vi x_53] h_52 (fun x_56 h_55 => (((x_56 = (-1) → (WV T N 69 15 [some (vr (some w)), some (vr (some a1)), some (vi x2), some (vi x3), some (vi x4), some (vi x5), some (vi (x6 + 1)), none, none, none] [] h_55 K)) ∧ (¬ (x_56 = (-1)) → (((x4 = (-1) → (WV T N 69 15 [some (vr (some w)), some (vr (some a1)), some (vi x2), some (vi x3), some (vi x_56), some (vi x5), some (vi (x6 + 1)), none, none, none] [] h_55 K)) ∧ (¬ (x4 = (-1)) → (CI T N 64 [vr (some w), vi x_56] h_55 (fun x_61 h_60 => (CI T N 64 [vr (some w), vi x4] h_60 (fun x_64 h_63 => (((x_61 < x_64 → (WV T N 69 15 [some (vr (some w)), some (vr (some a1)), some (vi x2), some (vi x3), some (vi x_56), some (vi x5), some (vi (x6 + 1)), none, none, none] [] h_63 K)) ∧ (¬ (x_61 < x_64) → (WV T N 69 15 [some (vr (some w)), some (vr (some a1)), some (vi x2), some (vi x3), some (vi x4), some (vi x5), some (vi (x6 + 1)), none, none, none] [] h_63 K)))))))))))))))))))))) ∧ (¬ ((gi h_4 a_7 1) = x3) → (WV T N 69 15 [some (vr (some w)), some (vr (some a1)), some (vi x2), some (vi x3), some (vi x4), some (vi x5), some (vi (x6 + 1)), none, none, none] [] h_4 K))))))))))))) ∧ (¬ (x6 < (gi h a1 3)) → (WV T N 69 6 [some (vr (some w)), some (vr (some a1)), some (vi x2), some (vi x3), some (vi x4), some (vi (x5 + 1)), none, none, none, none] [] h K))))) : WV T N 69 15 [some (vr (some w)), some (vr (some a1)), some (vi x2), some (vi x3), some (vi x4), some (vi x5), some (vi x6), none, none, none] [] h K := by
  show WP T N 69 15 [some (vr (some w)), some (vr (some a1)), some (vi x2), some (vi x3), some (vi x4), some (vi x5), some (vi x6), none, none, none] [] h _
  refine R_ps 2 (pc2 := 18) (L2 := [some (vr (some w)), some (vr (some a1)), some (vi x2), some (vi x3), some (vi x4), some (vi x5), some (vi x6), none, none, none]) (st2 := [vr (some a1), vi x6]) rfl ?_
  refine R_getI rfl t0 ?_
  refine R_if rfl (fun c_2 => ?_) (fun c_2 => ?_)
  · have k := k.2 (i32_nlt c_2)
    refine R_ps 2 (pc2 := 6) (L2 := [some (vr (some w)), some (vr (some a1)), some (vi x2), some (vi x3), some (vi x4), some (vi (x5 + 1)), some (vi x6), none, none, none]) (st2 := []) rfl ?_
    exact R_drop k (LE_of (L := [some (vr (some w)), some (vr (some a1)), some (vi x2), some (vi x3), some (vi x4), some (vi (x5 + 1)), none, none, none, none]) (L2 := [some (vr (some w)), some (vr (some a1)), some (vi x2), some (vi x3), some (vi x4), some (vi (x5 + 1)), some (vi x6), none, none, none]) ⟨rfl, rfl, rfl, rfl, rfl, rfl, trivial⟩)
  · have k := k.1 (i32_lt c_2)
    refine R_ps 2 (pc2 := 27) (L2 := [some (vr (some w)), some (vr (some a1)), some (vi x2), some (vi x3), some (vi x4), some (vi x5), some (vi x6), none, none, none]) (st2 := [vi x6, vr (some a1)]) rfl ?_
    refine R_cR (as := [vr (some a1), vi x6]) rfl rfl ⟨Nat.le_of_ble_eq_true rfl, Nat.le_of_ble_eq_true rfl, rfl, (Or.inr ⟨_, rfl, t0⟩)⟩ rfl rfl k (fun x_5 h_4 k => ?_)
    refine R_ps 2 (pc2 := 34) (L2 := [some (vr (some w)), some (vr (some a1)), some (vi x2), some (vi x3), some (vi x4), some (vi x5), some (vi x6), some (vr x_5), none, none]) (st2 := [vr x_5]) rfl ?_
    rcases null_or (x_5) with e_8 | ⟨a_7, e_8⟩
    · have k := k.1 e_8
      rw [e_8]
      refine R_null rfl (fun _ => ?_) (fun _ c_6 => nomatch c_6)
      refine R_ps 2 (pc2 := 15) (L2 := [some (vr (some w)), some (vr (some a1)), some (vi x2), some (vi x3), some (vi x4), some (vi x5), some (vi (x6 + 1)), some (vr none), none, none]) (st2 := []) rfl ?_
      exact R_drop k (LE_of (L := [some (vr (some w)), some (vr (some a1)), some (vi x2), some (vi x3), some (vi x4), some (vi x5), some (vi (x6 + 1)), none, none, none]) (L2 := [some (vr (some w)), some (vr (some a1)), some (vi x2), some (vi x3), some (vi x4), some (vi x5), some (vi (x6 + 1)), some (vr none), none, none]) ⟨rfl, rfl, rfl, rfl, rfl, rfl, rfl, trivial⟩)
    · have k := k.2 a_7 e_8
      rw [e_8]
      refine R_null rfl (fun c_6 => nomatch c_6) (fun _ _ => ?_)
      refine R_ps 1 (pc2 := 39) (L2 := [some (vr (some w)), some (vr (some a1)), some (vi x2), some (vi x3), some (vi x4), some (vi x5), some (vi x6), some (vr (some a_7)), none, none]) (st2 := [vr (some a_7)]) rfl ?_
      obtain ⟨t_10, k⟩ := k
      refine R_getI rfl t_10 ?_
      refine R_ps 1 (pc2 := 43) (L2 := [some (vr (some w)), some (vr (some a1)), some (vi x2), some (vi x3), some (vi x4), some (vi x5), some (vi x6), some (vr (some a_7)), none, none]) (st2 := [vi x3, vi (gi h_4 a_7 0)]) rfl ?_
      refine R_if rfl (fun c_11 => ?_) (fun c_11 => ?_)
      · have k := k.1 c_11
        refine R_ps 1 (pc2 := 60) (L2 := [some (vr (some w)), some (vr (some a1)), some (vi x2), some (vi x3), some (vi x4), some (vi x5), some (vi x6), some (vr (some a_7)), none, none]) (st2 := [vr (some a_7)]) rfl ?_
        refine R_getI rfl t_10 ?_
        refine R_ps 1 (pc2 := 64) (L2 := [some (vr (some w)), some (vr (some a1)), some (vi x2), some (vi x3), some (vi x4), some (vi x5), some (vi x6), some (vr (some a_7)), none, none]) (st2 := [vi x3, vi (gi h_4 a_7 1)]) rfl ?_
        refine R_if rfl (fun c_13 => ?_) (fun c_13 => ?_)
        · have k := k.2 c_13
          refine R_ps 5 (pc2 := 78) (L2 := [some (vr (some w)), some (vr (some a1)), some (vi x2), some (vi x3), some (vi x4), some (vi x5), some (vi x6), some (vr (some a_7)), some (vi 1), none]) (st2 := [vr (some a_7), vi x2, vr (some w)]) rfl ?_
          refine R_getI rfl t_10 ?_
          refine R_ps 3 (pc2 := 87) (L2 := [some (vr (some w)), some (vr (some a1)), some (vi x2), some (vi x3), some (vi x4), some (vi x5), some (vi x6), some (vr (some a_7)), some (vi 1), none]) (st2 := [vi x5, vi 1, vi x6, vi (gi h_4 a_7 2), vi x2, vr (some w)]) rfl ?_
          refine R_cI (as := [vi x6, vi 1, vi x5]) rfl rfl ⟨Nat.le_of_ble_eq_true rfl, Nat.le_of_ble_eq_true rfl, rfl, (Or.inl rfl)⟩ rfl rfl k (fun x_17 h_16 k => ?_)
          refine R_cI (as := [vr (some w), vi x2, vi (gi h_4 a_7 2), vi x_17]) rfl rfl ⟨Nat.le_of_ble_eq_true rfl, Nat.le_of_ble_eq_true rfl, rfl, (Or.inr ⟨_, rfl, t1⟩)⟩ rfl rfl k (fun x_20 h_19 k => ?_)
          refine R_ps 3 (pc2 := 98) (L2 := [some (vr (some w)), some (vr (some a1)), some (vi x2), some (vi x3), some (vi x4), some (vi x5), some (vi x6), some (vr (some a_7)), some (vi 1), some (vi x_20)]) (st2 := [vi (-1), vi x_20]) rfl ?_
          refine R_if rfl (fun c_21 => ?_) (fun c_21 => ?_)
          · have k := k.1 c_21
            refine R_ps 2 (pc2 := 15) (L2 := [some (vr (some w)), some (vr (some a1)), some (vi x2), some (vi x3), some (vi x4), some (vi x5), some (vi (x6 + 1)), some (vr (some a_7)), some (vi 1), some (vi x_20)]) (st2 := []) rfl ?_
            exact R_drop k (LE_of (L := [some (vr (some w)), some (vr (some a1)), some (vi x2), some (vi x3), some (vi x4), some (vi x5), some (vi (x6 + 1)), none, none, none]) (L2 := [some (vr (some w)), some (vr (some a1)), some (vi x2), some (vi x3), some (vi x4), some (vi x5), some (vi (x6 + 1)), some (vr (some a_7)), some (vi 1), some (vi x_20)]) ⟨rfl, rfl, rfl, rfl, rfl, rfl, rfl, trivial⟩)
          · have k := k.2 c_21
            refine R_ps 2 (pc2 := 104) (L2 := [some (vr (some w)), some (vr (some a1)), some (vi x2), some (vi x3), some (vi x4), some (vi x5), some (vi x6), some (vr (some a_7)), some (vi 1), some (vi x_20)]) (st2 := [vi (-1), vi x4]) rfl ?_
            refine R_if rfl (fun c_22 => ?_) (fun c_22 => ?_)
            · have k := k.1 c_22
              refine R_ps 4 (pc2 := 15) (L2 := [some (vr (some w)), some (vr (some a1)), some (vi x2), some (vi x3), some (vi x_20), some (vi x5), some (vi (x6 + 1)), some (vr (some a_7)), some (vi 1), some (vi x_20)]) (st2 := []) rfl ?_
              exact R_drop k (LE_of (L := [some (vr (some w)), some (vr (some a1)), some (vi x2), some (vi x3), some (vi x_20), some (vi x5), some (vi (x6 + 1)), none, none, none]) (L2 := [some (vr (some w)), some (vr (some a1)), some (vi x2), some (vi x3), some (vi x_20), some (vi x5), some (vi (x6 + 1)), some (vr (some a_7)), some (vi 1), some (vi x_20)]) ⟨rfl, rfl, rfl, rfl, rfl, rfl, rfl, trivial⟩)
            · have k := k.2 c_22
              refine R_ps 2 (pc2 := 110) (L2 := [some (vr (some w)), some (vr (some a1)), some (vi x2), some (vi x3), some (vi x4), some (vi x5), some (vi x6), some (vr (some a_7)), some (vi 1), some (vi x_20)]) (st2 := [vi x_20, vr (some w)]) rfl ?_
              refine R_cI (as := [vr (some w), vi x_20]) rfl rfl ⟨Nat.le_of_ble_eq_true rfl, Nat.le_of_ble_eq_true rfl, rfl, (Or.inr ⟨_, rfl, t1⟩)⟩ rfl rfl k (fun x_25 h_24 k => ?_)
              refine R_ps 2 (pc2 := 116) (L2 := [some (vr (some w)), some (vr (some a1)), some (vi x2), some (vi x3), some (vi x4), some (vi x5), some (vi x6), some (vr (some a_7)), some (vi 1), some (vi x_20)]) (st2 := [vi x4, vr (some w), vi x_25]) rfl ?_
              refine R_cI (as := [vr (some w), vi x4]) rfl rfl ⟨Nat.le_of_ble_eq_true rfl, Nat.le_of_ble_eq_true rfl, rfl, (Or.inr ⟨_, rfl, t1⟩)⟩ rfl rfl k (fun x_28 h_27 k => ?_)
              refine R_if rfl (fun c_29 => ?_) (fun c_29 => ?_)
              · have k := k.2 (i32_nlt c_29)
                refine R_ps 2 (pc2 := 15) (L2 := [some (vr (some w)), some (vr (some a1)), some (vi x2), some (vi x3), some (vi x4), some (vi x5), some (vi (x6 + 1)), some (vr (some a_7)), some (vi 1), some (vi x_20)]) (st2 := []) rfl ?_
                exact R_drop k (LE_of (L := [some (vr (some w)), some (vr (some a1)), some (vi x2), some (vi x3), some (vi x4), some (vi x5), some (vi (x6 + 1)), none, none, none]) (L2 := [some (vr (some w)), some (vr (some a1)), some (vi x2), some (vi x3), some (vi x4), some (vi x5), some (vi (x6 + 1)), some (vr (some a_7)), some (vi 1), some (vi x_20)]) ⟨rfl, rfl, rfl, rfl, rfl, rfl, rfl, trivial⟩)
              · have k := k.1 (i32_lt c_29)
                refine R_ps 4 (pc2 := 15) (L2 := [some (vr (some w)), some (vr (some a1)), some (vi x2), some (vi x3), some (vi x_20), some (vi x5), some (vi (x6 + 1)), some (vr (some a_7)), some (vi 1), some (vi x_20)]) (st2 := []) rfl ?_
                exact R_drop k (LE_of (L := [some (vr (some w)), some (vr (some a1)), some (vi x2), some (vi x3), some (vi x_20), some (vi x5), some (vi (x6 + 1)), none, none, none]) (L2 := [some (vr (some w)), some (vr (some a1)), some (vi x2), some (vi x3), some (vi x_20), some (vi x5), some (vi (x6 + 1)), some (vr (some a_7)), some (vi 1), some (vi x_20)]) ⟨rfl, rfl, rfl, rfl, rfl, rfl, rfl, trivial⟩)
        · have k := k.1 (Classical.not_not.mp c_13)
          refine R_ps 6 (pc2 := 78) (L2 := [some (vr (some w)), some (vr (some a1)), some (vi x2), some (vi x3), some (vi x4), some (vi x5), some (vi x6), some (vr (some a_7)), some (vi 0), none]) (st2 := [vr (some a_7), vi x2, vr (some w)]) rfl ?_
          refine R_getI rfl t_10 ?_
          refine R_ps 3 (pc2 := 87) (L2 := [some (vr (some w)), some (vr (some a1)), some (vi x2), some (vi x3), some (vi x4), some (vi x5), some (vi x6), some (vr (some a_7)), some (vi 0), none]) (st2 := [vi x5, vi 0, vi x6, vi (gi h_4 a_7 2), vi x2, vr (some w)]) rfl ?_
          refine R_cI (as := [vi x6, vi 0, vi x5]) rfl rfl ⟨Nat.le_of_ble_eq_true rfl, Nat.le_of_ble_eq_true rfl, rfl, (Or.inl rfl)⟩ rfl rfl k (fun x_33 h_32 k => ?_)
          refine R_cI (as := [vr (some w), vi x2, vi (gi h_4 a_7 2), vi x_33]) rfl rfl ⟨Nat.le_of_ble_eq_true rfl, Nat.le_of_ble_eq_true rfl, rfl, (Or.inr ⟨_, rfl, t1⟩)⟩ rfl rfl k (fun x_36 h_35 k => ?_)
          refine R_ps 3 (pc2 := 98) (L2 := [some (vr (some w)), some (vr (some a1)), some (vi x2), some (vi x3), some (vi x4), some (vi x5), some (vi x6), some (vr (some a_7)), some (vi 0), some (vi x_36)]) (st2 := [vi (-1), vi x_36]) rfl ?_
          refine R_if rfl (fun c_37 => ?_) (fun c_37 => ?_)
          · have k := k.1 c_37
            refine R_ps 2 (pc2 := 15) (L2 := [some (vr (some w)), some (vr (some a1)), some (vi x2), some (vi x3), some (vi x4), some (vi x5), some (vi (x6 + 1)), some (vr (some a_7)), some (vi 0), some (vi x_36)]) (st2 := []) rfl ?_
            exact R_drop k (LE_of (L := [some (vr (some w)), some (vr (some a1)), some (vi x2), some (vi x3), some (vi x4), some (vi x5), some (vi (x6 + 1)), none, none, none]) (L2 := [some (vr (some w)), some (vr (some a1)), some (vi x2), some (vi x3), some (vi x4), some (vi x5), some (vi (x6 + 1)), some (vr (some a_7)), some (vi 0), some (vi x_36)]) ⟨rfl, rfl, rfl, rfl, rfl, rfl, rfl, trivial⟩)
          · have k := k.2 c_37
            refine R_ps 2 (pc2 := 104) (L2 := [some (vr (some w)), some (vr (some a1)), some (vi x2), some (vi x3), some (vi x4), some (vi x5), some (vi x6), some (vr (some a_7)), some (vi 0), some (vi x_36)]) (st2 := [vi (-1), vi x4]) rfl ?_
            refine R_if rfl (fun c_38 => ?_) (fun c_38 => ?_)
            · have k := k.1 c_38
              refine R_ps 4 (pc2 := 15) (L2 := [some (vr (some w)), some (vr (some a1)), some (vi x2), some (vi x3), some (vi x_36), some (vi x5), some (vi (x6 + 1)), some (vr (some a_7)), some (vi 0), some (vi x_36)]) (st2 := []) rfl ?_
              exact R_drop k (LE_of (L := [some (vr (some w)), some (vr (some a1)), some (vi x2), some (vi x3), some (vi x_36), some (vi x5), some (vi (x6 + 1)), none, none, none]) (L2 := [some (vr (some w)), some (vr (some a1)), some (vi x2), some (vi x3), some (vi x_36), some (vi x5), some (vi (x6 + 1)), some (vr (some a_7)), some (vi 0), some (vi x_36)]) ⟨rfl, rfl, rfl, rfl, rfl, rfl, rfl, trivial⟩)
            · have k := k.2 c_38
              refine R_ps 2 (pc2 := 110) (L2 := [some (vr (some w)), some (vr (some a1)), some (vi x2), some (vi x3), some (vi x4), some (vi x5), some (vi x6), some (vr (some a_7)), some (vi 0), some (vi x_36)]) (st2 := [vi x_36, vr (some w)]) rfl ?_
              refine R_cI (as := [vr (some w), vi x_36]) rfl rfl ⟨Nat.le_of_ble_eq_true rfl, Nat.le_of_ble_eq_true rfl, rfl, (Or.inr ⟨_, rfl, t1⟩)⟩ rfl rfl k (fun x_41 h_40 k => ?_)
              refine R_ps 2 (pc2 := 116) (L2 := [some (vr (some w)), some (vr (some a1)), some (vi x2), some (vi x3), some (vi x4), some (vi x5), some (vi x6), some (vr (some a_7)), some (vi 0), some (vi x_36)]) (st2 := [vi x4, vr (some w), vi x_41]) rfl ?_
              refine R_cI (as := [vr (some w), vi x4]) rfl rfl ⟨Nat.le_of_ble_eq_true rfl, Nat.le_of_ble_eq_true rfl, rfl, (Or.inr ⟨_, rfl, t1⟩)⟩ rfl rfl k (fun x_44 h_43 k => ?_)
              refine R_if rfl (fun c_45 => ?_) (fun c_45 => ?_)
              · have k := k.2 (i32_nlt c_45)
                refine R_ps 2 (pc2 := 15) (L2 := [some (vr (some w)), some (vr (some a1)), some (vi x2), some (vi x3), some (vi x4), some (vi x5), some (vi (x6 + 1)), some (vr (some a_7)), some (vi 0), some (vi x_36)]) (st2 := []) rfl ?_
                exact R_drop k (LE_of (L := [some (vr (some w)), some (vr (some a1)), some (vi x2), some (vi x3), some (vi x4), some (vi x5), some (vi (x6 + 1)), none, none, none]) (L2 := [some (vr (some w)), some (vr (some a1)), some (vi x2), some (vi x3), some (vi x4), some (vi x5), some (vi (x6 + 1)), some (vr (some a_7)), some (vi 0), some (vi x_36)]) ⟨rfl, rfl, rfl, rfl, rfl, rfl, rfl, trivial⟩)
              · have k := k.1 (i32_lt c_45)
                refine R_ps 4 (pc2 := 15) (L2 := [some (vr (some w)), some (vr (some a1)), some (vi x2), some (vi x3), some (vi x_36), some (vi x5), some (vi (x6 + 1)), some (vr (some a_7)), some (vi 0), some (vi x_36)]) (st2 := []) rfl ?_
                exact R_drop k (LE_of (L := [some (vr (some w)), some (vr (some a1)), some (vi x2), some (vi x3), some (vi x_36), some (vi x5), some (vi (x6 + 1)), none, none, none]) (L2 := [some (vr (some w)), some (vr (some a1)), some (vi x2), some (vi x3), some (vi x_36), some (vi x5), some (vi (x6 + 1)), some (vr (some a_7)), some (vi 0), some (vi x_36)]) ⟨rfl, rfl, rfl, rfl, rfl, rfl, rfl, trivial⟩)
      · have k := k.2 c_11
        refine R_ps 1 (pc2 := 48) (L2 := [some (vr (some w)), some (vr (some a1)), some (vi x2), some (vi x3), some (vi x4), some (vi x5), some (vi x6), some (vr (some a_7)), none, none]) (st2 := [vr (some a_7)]) rfl ?_
        refine R_getI rfl t_10 ?_
        refine R_ps 1 (pc2 := 52) (L2 := [some (vr (some w)), some (vr (some a1)), some (vi x2), some (vi x3), some (vi x4), some (vi x5), some (vi x6), some (vr (some a_7)), none, none]) (st2 := [vi x3, vi (gi h_4 a_7 1)]) rfl ?_
        refine R_if rfl (fun c_47 => ?_) (fun c_47 => ?_)
        · have k := k.1 c_47
          refine R_ps 1 (pc2 := 60) (L2 := [some (vr (some w)), some (vr (some a1)), some (vi x2), some (vi x3), some (vi x4), some (vi x5), some (vi x6), some (vr (some a_7)), none, none]) (st2 := [vr (some a_7)]) rfl ?_
          refine R_getI rfl t_10 ?_
          refine R_ps 1 (pc2 := 64) (L2 := [some (vr (some w)), some (vr (some a1)), some (vi x2), some (vi x3), some (vi x4), some (vi x5), some (vi x6), some (vr (some a_7)), none, none]) (st2 := [vi x3, vi (gi h_4 a_7 1)]) rfl ?_
          refine R_if rfl (fun c_49 => ?_) (fun c_49 => ?_)
          · have k := k.2 c_49
            refine R_ps 5 (pc2 := 78) (L2 := [some (vr (some w)), some (vr (some a1)), some (vi x2), some (vi x3), some (vi x4), some (vi x5), some (vi x6), some (vr (some a_7)), some (vi 1), none]) (st2 := [vr (some a_7), vi x2, vr (some w)]) rfl ?_
            refine R_getI rfl t_10 ?_
            refine R_ps 3 (pc2 := 87) (L2 := [some (vr (some w)), some (vr (some a1)), some (vi x2), some (vi x3), some (vi x4), some (vi x5), some (vi x6), some (vr (some a_7)), some (vi 1), none]) (st2 := [vi x5, vi 1, vi x6, vi (gi h_4 a_7 2), vi x2, vr (some w)]) rfl ?_
            refine R_cI (as := [vi x6, vi 1, vi x5]) rfl rfl ⟨Nat.le_of_ble_eq_true rfl, Nat.le_of_ble_eq_true rfl, rfl, (Or.inl rfl)⟩ rfl rfl k (fun x_53 h_52 k => ?_)
            refine R_cI (as := [vr (some w), vi x2, vi (gi h_4 a_7 2), vi x_53]) rfl rfl ⟨Nat.le_of_ble_eq_true rfl, Nat.le_of_ble_eq_true rfl, rfl, (Or.inr ⟨_, rfl, t1⟩)⟩ rfl rfl k (fun x_56 h_55 k => ?_)
            refine R_ps 3 (pc2 := 98) (L2 := [some (vr (some w)), some (vr (some a1)), some (vi x2), some (vi x3), some (vi x4), some (vi x5), some (vi x6), some (vr (some a_7)), some (vi 1), some (vi x_56)]) (st2 := [vi (-1), vi x_56]) rfl ?_
            refine R_if rfl (fun c_57 => ?_) (fun c_57 => ?_)
            · have k := k.1 c_57
              refine R_ps 2 (pc2 := 15) (L2 := [some (vr (some w)), some (vr (some a1)), some (vi x2), some (vi x3), some (vi x4), some (vi x5), some (vi (x6 + 1)), some (vr (some a_7)), some (vi 1), some (vi x_56)]) (st2 := []) rfl ?_
              exact R_drop k (LE_of (L := [some (vr (some w)), some (vr (some a1)), some (vi x2), some (vi x3), some (vi x4), some (vi x5), some (vi (x6 + 1)), none, none, none]) (L2 := [some (vr (some w)), some (vr (some a1)), some (vi x2), some (vi x3), some (vi x4), some (vi x5), some (vi (x6 + 1)), some (vr (some a_7)), some (vi 1), some (vi x_56)]) ⟨rfl, rfl, rfl, rfl, rfl, rfl, rfl, trivial⟩)
            · have k := k.2 c_57
              refine R_ps 2 (pc2 := 104) (L2 := [some (vr (some w)), some (vr (some a1)), some (vi x2), some (vi x3), some (vi x4), some (vi x5), some (vi x6), some (vr (some a_7)), some (vi 1), some (vi x_56)]) (st2 := [vi (-1), vi x4]) rfl ?_
              refine R_if rfl (fun c_58 => ?_) (fun c_58 => ?_)
              · have k := k.1 c_58
                refine R_ps 4 (pc2 := 15) (L2 := [some (vr (some w)), some (vr (some a1)), some (vi x2), some (vi x3), some (vi x_56), some (vi x5), some (vi (x6 + 1)), some (vr (some a_7)), some (vi 1), some (vi x_56)]) (st2 := []) rfl ?_
                exact R_drop k (LE_of (L := [some (vr (some w)), some (vr (some a1)), some (vi x2), some (vi x3), some (vi x_56), some (vi x5), some (vi (x6 + 1)), none, none, none]) (L2 := [some (vr (some w)), some (vr (some a1)), some (vi x2), some (vi x3), some (vi x_56), some (vi x5), some (vi (x6 + 1)), some (vr (some a_7)), some (vi 1), some (vi x_56)]) ⟨rfl, rfl, rfl, rfl, rfl, rfl, rfl, trivial⟩)
              · have k := k.2 c_58
                refine R_ps 2 (pc2 := 110) (L2 := [some (vr (some w)), some (vr (some a1)), some (vi x2), some (vi x3), some (vi x4), some (vi x5), some (vi x6), some (vr (some a_7)), some (vi 1), some (vi x_56)]) (st2 := [vi x_56, vr (some w)]) rfl ?_
                refine R_cI (as := [vr (some w), vi x_56]) rfl rfl ⟨Nat.le_of_ble_eq_true rfl, Nat.le_of_ble_eq_true rfl, rfl, (Or.inr ⟨_, rfl, t1⟩)⟩ rfl rfl k (fun x_61 h_60 k => ?_)
                refine R_ps 2 (pc2 := 116) (L2 := [some (vr (some w)), some (vr (some a1)), some (vi x2), some (vi x3), some (vi x4), some (vi x5), some (vi x6), some (vr (some a_7)), some (vi 1), some (vi x_56)]) (st2 := [vi x4, vr (some w), vi x_61]) rfl ?_
                refine R_cI (as := [vr (some w), vi x4]) rfl rfl ⟨Nat.le_of_ble_eq_true rfl, Nat.le_of_ble_eq_true rfl, rfl, (Or.inr ⟨_, rfl, t1⟩)⟩ rfl rfl k (fun x_64 h_63 k => ?_)
                refine R_if rfl (fun c_65 => ?_) (fun c_65 => ?_)
                · have k := k.2 (i32_nlt c_65)
                  refine R_ps 2 (pc2 := 15) (L2 := [some (vr (some w)), some (vr (some a1)), some (vi x2), some (vi x3), some (vi x4), some (vi x5), some (vi (x6 + 1)), some (vr (some a_7)), some (vi 1), some (vi x_56)]) (st2 := []) rfl ?_
                  exact R_drop k (LE_of (L := [some (vr (some w)), some (vr (some a1)), some (vi x2), some (vi x3), some (vi x4), some (vi x5), some (vi (x6 + 1)), none, none, none]) (L2 := [some (vr (some w)), some (vr (some a1)), some (vi x2), some (vi x3), some (vi x4), some (vi x5), some (vi (x6 + 1)), some (vr (some a_7)), some (vi 1), some (vi x_56)]) ⟨rfl, rfl, rfl, rfl, rfl, rfl, rfl, trivial⟩)
                · have k := k.1 (i32_lt c_65)
                  refine R_ps 4 (pc2 := 15) (L2 := [some (vr (some w)), some (vr (some a1)), some (vi x2), some (vi x3), some (vi x_56), some (vi x5), some (vi (x6 + 1)), some (vr (some a_7)), some (vi 1), some (vi x_56)]) (st2 := []) rfl ?_
                  exact R_drop k (LE_of (L := [some (vr (some w)), some (vr (some a1)), some (vi x2), some (vi x3), some (vi x_56), some (vi x5), some (vi (x6 + 1)), none, none, none]) (L2 := [some (vr (some w)), some (vr (some a1)), some (vi x2), some (vi x3), some (vi x_56), some (vi x5), some (vi (x6 + 1)), some (vr (some a_7)), some (vi 1), some (vi x_56)]) ⟨rfl, rfl, rfl, rfl, rfl, rfl, rfl, trivial⟩)
          · have k := k.1 (Classical.not_not.mp c_49)
            refine R_ps 6 (pc2 := 78) (L2 := [some (vr (some w)), some (vr (some a1)), some (vi x2), some (vi x3), some (vi x4), some (vi x5), some (vi x6), some (vr (some a_7)), some (vi 0), none]) (st2 := [vr (some a_7), vi x2, vr (some w)]) rfl ?_
            refine R_getI rfl t_10 ?_
            refine R_ps 3 (pc2 := 87) (L2 := [some (vr (some w)), some (vr (some a1)), some (vi x2), some (vi x3), some (vi x4), some (vi x5), some (vi x6), some (vr (some a_7)), some (vi 0), none]) (st2 := [vi x5, vi 0, vi x6, vi (gi h_4 a_7 2), vi x2, vr (some w)]) rfl ?_
            refine R_cI (as := [vi x6, vi 0, vi x5]) rfl rfl ⟨Nat.le_of_ble_eq_true rfl, Nat.le_of_ble_eq_true rfl, rfl, (Or.inl rfl)⟩ rfl rfl k (fun x_69 h_68 k => ?_)
            refine R_cI (as := [vr (some w), vi x2, vi (gi h_4 a_7 2), vi x_69]) rfl rfl ⟨Nat.le_of_ble_eq_true rfl, Nat.le_of_ble_eq_true rfl, rfl, (Or.inr ⟨_, rfl, t1⟩)⟩ rfl rfl k (fun x_72 h_71 k => ?_)
            refine R_ps 3 (pc2 := 98) (L2 := [some (vr (some w)), some (vr (some a1)), some (vi x2), some (vi x3), some (vi x4), some (vi x5), some (vi x6), some (vr (some a_7)), some (vi 0), some (vi x_72)]) (st2 := [vi (-1), vi x_72]) rfl ?_
            refine R_if rfl (fun c_73 => ?_) (fun c_73 => ?_)
            · have k := k.1 c_73
              refine R_ps 2 (pc2 := 15) (L2 := [some (vr (some w)), some (vr (some a1)), some (vi x2), some (vi x3), some (vi x4), some (vi x5), some (vi (x6 + 1)), some (vr (some a_7)), some (vi 0), some (vi x_72)]) (st2 := []) rfl ?_
              exact R_drop k (LE_of (L := [some (vr (some w)), some (vr (some a1)), some (vi x2), some (vi x3), some (vi x4), some (vi x5), some (vi (x6 + 1)), none, none, none]) (L2 := [some (vr (some w)), some (vr (some a1)), some (vi x2), some (vi x3), some (vi x4), some (vi x5), some (vi (x6 + 1)), some (vr (some a_7)), some (vi 0), some (vi x_72)]) ⟨rfl, rfl, rfl, rfl, rfl, rfl, rfl, trivial⟩)
            · have k := k.2 c_73
              refine R_ps 2 (pc2 := 104) (L2 := [some (vr (some w)), some (vr (some a1)), some (vi x2), some (vi x3), some (vi x4), some (vi x5), some (vi x6), some (vr (some a_7)), some (vi 0), some (vi x_72)]) (st2 := [vi (-1), vi x4]) rfl ?_
              refine R_if rfl (fun c_74 => ?_) (fun c_74 => ?_)
              · have k := k.1 c_74
                refine R_ps 4 (pc2 := 15) (L2 := [some (vr (some w)), some (vr (some a1)), some (vi x2), some (vi x3), some (vi x_72), some (vi x5), some (vi (x6 + 1)), some (vr (some a_7)), some (vi 0), some (vi x_72)]) (st2 := []) rfl ?_
                exact R_drop k (LE_of (L := [some (vr (some w)), some (vr (some a1)), some (vi x2), some (vi x3), some (vi x_72), some (vi x5), some (vi (x6 + 1)), none, none, none]) (L2 := [some (vr (some w)), some (vr (some a1)), some (vi x2), some (vi x3), some (vi x_72), some (vi x5), some (vi (x6 + 1)), some (vr (some a_7)), some (vi 0), some (vi x_72)]) ⟨rfl, rfl, rfl, rfl, rfl, rfl, rfl, trivial⟩)
              · have k := k.2 c_74
                refine R_ps 2 (pc2 := 110) (L2 := [some (vr (some w)), some (vr (some a1)), some (vi x2), some (vi x3), some (vi x4), some (vi x5), some (vi x6), some (vr (some a_7)), some (vi 0), some (vi x_72)]) (st2 := [vi x_72, vr (some w)]) rfl ?_
                refine R_cI (as := [vr (some w), vi x_72]) rfl rfl ⟨Nat.le_of_ble_eq_true rfl, Nat.le_of_ble_eq_true rfl, rfl, (Or.inr ⟨_, rfl, t1⟩)⟩ rfl rfl k (fun x_77 h_76 k => ?_)
                refine R_ps 2 (pc2 := 116) (L2 := [some (vr (some w)), some (vr (some a1)), some (vi x2), some (vi x3), some (vi x4), some (vi x5), some (vi x6), some (vr (some a_7)), some (vi 0), some (vi x_72)]) (st2 := [vi x4, vr (some w), vi x_77]) rfl ?_
                refine R_cI (as := [vr (some w), vi x4]) rfl rfl ⟨Nat.le_of_ble_eq_true rfl, Nat.le_of_ble_eq_true rfl, rfl, (Or.inr ⟨_, rfl, t1⟩)⟩ rfl rfl k (fun x_80 h_79 k => ?_)
                refine R_if rfl (fun c_81 => ?_) (fun c_81 => ?_)
                · have k := k.2 (i32_nlt c_81)
                  refine R_ps 2 (pc2 := 15) (L2 := [some (vr (some w)), some (vr (some a1)), some (vi x2), some (vi x3), some (vi x4), some (vi x5), some (vi (x6 + 1)), some (vr (some a_7)), some (vi 0), some (vi x_72)]) (st2 := []) rfl ?_
                  exact R_drop k (LE_of (L := [some (vr (some w)), some (vr (some a1)), some (vi x2), some (vi x3), some (vi x4), some (vi x5), some (vi (x6 + 1)), none, none, none]) (L2 := [some (vr (some w)), some (vr (some a1)), some (vi x2), some (vi x3), some (vi x4), some (vi x5), some (vi (x6 + 1)), some (vr (some a_7)), some (vi 0), some (vi x_72)]) ⟨rfl, rfl, rfl, rfl, rfl, rfl, rfl, trivial⟩)
                · have k := k.1 (i32_lt c_81)
                  refine R_ps 4 (pc2 := 15) (L2 := [some (vr (some w)), some (vr (some a1)), some (vi x2), some (vi x3), some (vi x_72), some (vi x5), some (vi (x6 + 1)), some (vr (some a_7)), some (vi 0), some (vi x_72)]) (st2 := []) rfl ?_
                  exact R_drop k (LE_of (L := [some (vr (some w)), some (vr (some a1)), some (vi x2), some (vi x3), some (vi x_72), some (vi x5), some (vi (x6 + 1)), none, none, none]) (L2 := [some (vr (some w)), some (vr (some a1)), some (vi x2), some (vi x3), some (vi x_72), some (vi x5), some (vi (x6 + 1)), some (vr (some a_7)), some (vi 0), some (vi x_72)]) ⟨rfl, rfl, rfl, rfl, rfl, rfl, rfl, trivial⟩)
        · have k := k.2 c_47
          refine R_ps 3 (pc2 := 15) (L2 := [some (vr (some w)), some (vr (some a1)), some (vi x2), some (vi x3), some (vi x4), some (vi x5), some (vi (x6 + 1)), some (vr (some a_7)), none, none]) (st2 := []) rfl ?_
          exact R_drop k (LE_of (L := [some (vr (some w)), some (vr (some a1)), some (vi x2), some (vi x3), some (vi x4), some (vi x5), some (vi (x6 + 1)), none, none, none]) (L2 := [some (vr (some w)), some (vr (some a1)), some (vi x2), some (vi x3), some (vi x4), some (vi x5), some (vi (x6 + 1)), some (vr (some a_7)), none, none]) ⟨rfl, rfl, rfl, rfl, rfl, rfl, rfl, trivial⟩)
/-- DroneCorridors$Search.getReady -/
theorem m70 {T N : Nat → Nat} {h : PH} {w : Nat} {x1 : Int32} {x2 : Int32} {K : PH → Prop} (k : (WV T N 70 2 [some (vr (some w)), some (vi x1), some (vi x2), some (vi 0), none] [] h K)) : CV T N 70 [vr (some w), vi x1, vi x2] h K := by
  show WP T N 70 0 [some (vr (some w)), some (vi x1), some (vi x2), none, none] [] h _
  refine R_ps 2 (pc2 := 2) (L2 := [some (vr (some w)), some (vi x1), some (vi x2), some (vi 0), none]) (st2 := []) rfl ?_
  exact k
theorem m70_2 {T N : Nat → Nat} {h : PH} {w : Nat} {x1 : Int32} {x2 : Int32} {x3 : Int32} {K : PH → Prop} (k : (((x3 < x1 → (((x3 < 10 → (WV T N 70 16 [some (vr (some w)), some (vi x1), some (vi x2), some (vi x3), some (vi 0)] [] h K)) ∧ (¬ (x3 < 10) → (K h))))) ∧ (¬ (x3 < x1) → (K h))))) : WV T N 70 2 [some (vr (some w)), some (vi x1), some (vi x2), some (vi x3), none] [] h K := by
  show WP T N 70 2 [some (vr (some w)), some (vi x1), some (vi x2), some (vi x3), none] [] h _
  refine R_ps 2 (pc2 := 4) (L2 := [some (vr (some w)), some (vi x1), some (vi x2), some (vi x3), none]) (st2 := [vi x1, vi x3]) rfl ?_
  refine R_if rfl (fun c_1 => ?_) (fun c_1 => ?_)
  · have k := k.2 (i32_nlt c_1)
    exact R_ret rfl rfl ⟨rfl, k⟩
  · have k := k.1 (i32_lt c_1)
    refine R_ps 2 (pc2 := 10) (L2 := [some (vr (some w)), some (vi x1), some (vi x2), some (vi x3), none]) (st2 := [vi 10, vi x3]) rfl ?_
    refine R_if rfl (fun c_3 => ?_) (fun c_3 => ?_)
    · have k := k.2 (i32_nlt c_3)
      exact R_ret rfl rfl ⟨rfl, k⟩
    · have k := k.1 (i32_lt c_3)
      refine R_ps 2 (pc2 := 16) (L2 := [some (vr (some w)), some (vi x1), some (vi x2), some (vi x3), some (vi 0)]) (st2 := []) rfl ?_
      exact k
theorem m70_16 {T N : Nat → Nat} {h : PH} {w : Nat} {x1 : Int32} {x2 : Int32} {x3 : Int32} {x4 : Int32} {K : PH → Prop} (t0 : T w = 8) (k : (((x4 < 3 → (CV T N 71 [vr (some w), vi x3, vi x4, vi x2] h (fun h_3 => (WV T N 70 16 [some (vr (some w)), some (vi x1), some (vi x2), some (vi x3), some (vi (x4 + 1))] [] h_3 K)))) ∧ (¬ (x4 < 3) → (WV T N 70 2 [some (vr (some w)), some (vi x1), some (vi x2), some (vi (x3 + 1)), none] [] h K))))) : WV T N 70 16 [some (vr (some w)), some (vi x1), some (vi x2), some (vi x3), some (vi x4)] [] h K := by
  show WP T N 70 16 [some (vr (some w)), some (vi x1), some (vi x2), some (vi x3), some (vi x4)] [] h _
  refine R_ps 2 (pc2 := 19) (L2 := [some (vr (some w)), some (vi x1), some (vi x2), some (vi x3), some (vi x4)]) (st2 := [vi 3, vi x4]) rfl ?_
  refine R_if rfl (fun c_1 => ?_) (fun c_1 => ?_)
  · have k := k.2 (i32_nlt c_1)
    refine R_ps 2 (pc2 := 2) (L2 := [some (vr (some w)), some (vi x1), some (vi x2), some (vi (x3 + 1)), some (vi x4)]) (st2 := []) rfl ?_
    exact R_drop k (LE_of (L := [some (vr (some w)), some (vi x1), some (vi x2), some (vi (x3 + 1)), none]) (L2 := [some (vr (some w)), some (vi x1), some (vi x2), some (vi (x3 + 1)), some (vi x4)]) ⟨rfl, rfl, rfl, rfl, trivial⟩)
  · have k := k.1 (i32_lt c_1)
    refine R_ps 4 (pc2 := 27) (L2 := [some (vr (some w)), some (vi x1), some (vi x2), some (vi x3), some (vi x4)]) (st2 := [vi x2, vi x4, vi x3, vr (some w)]) rfl ?_
    refine R_cV (as := [vr (some w), vi x3, vi x4, vi x2]) rfl rfl ⟨Nat.le_of_ble_eq_true rfl, Nat.le_of_ble_eq_true rfl, rfl, (Or.inr ⟨_, rfl, t0⟩)⟩ rfl rfl k (fun h_3 k => ?_)
    refine R_ps 2 (pc2 := 16) (L2 := [some (vr (some w)), some (vi x1), some (vi x2), some (vi x3), some (vi (x4 + 1))]) (st2 := []) rfl ?_
    exact k
/-- DroneCorridors$Search.getReadyAt -/
theorem m71 {T N : Nat → Nat} {h : PH} {w : Nat} {x1 : Int32} {x2 : Int32} {x3 : Int32} {K : PH → Prop} (t0 : T w = 8) (k : (((x1 = (gi h w 14) → ((((gi h w 17) = 0 → (WV T N 71 51 [some (vr (some w)), some (vi x1), some (vi x2), some (vi x3), some (vi (-1)), some (vi ((x3 - (gi h w 13)) + (if 0 ≤ (x2 - (gi h w 15)) then (x2 - (gi h w 15)) else 0 - (x2 - (gi h w 15))))), some (vi 0), none, none] [] h K)) ∧ (¬ ((gi h w 17) = 0) → (WV T N 71 51 [some (vr (some w)), some (vi x1), some (vi x2), some (vi x3), some (vi (-1)), some (vi (0 + (if 0 ≤ (x2 - (gi h w 15)) then (x2 - (gi h w 15)) else 0 - (x2 - (gi h w 15))))), some (vi 0), none, none] [] h K))))) ∧ (¬ (x1 = (gi h w 14)) → (WV T N 71 51 [some (vr (some w)), some (vi x1), some (vi x2), some (vi x3), some (vi (-2)), some (vi 1000000), some (vi 0), none, none] [] h K))))) : CV T N 71 [vr (some w), vi x1, vi x2, vi x3] h K := by
  show WP T N 71 0 [some (vr (some w)), some (vi x1), some (vi x2), some (vi x3), none, none, none, none, none] [] h _
  refine R_ps 6 (pc2 := 10) (L2 := [some (vr (some w)), some (vi x1), some (vi x2), some (vi x3), some (vi (-2)), some (vi 1000000), none, none, none]) (st2 := [vr (some w), vi x1]) rfl ?_
  refine R_getI rfl t0 ?_
  refine R_if rfl (fun c_2 => ?_) (fun c_2 => ?_)
  · have k := k.2 c_2
    refine R_ps 2 (pc2 := 51) (L2 := [some (vr (some w)), some (vi x1), some (vi x2), some (vi x3), some (vi (-2)), some (vi 1000000), some (vi 0), none, none]) (st2 := []) rfl ?_
    exact k
  · have k := k.1 (Classical.not_not.mp c_2)
    refine R_ps 3 (pc2 := 20) (L2 := [some (vr (some w)), some (vi x1), some (vi x2), some (vi x3), some (vi (-1)), some (vi 1000000), none, none, none]) (st2 := [vr (some w)]) rfl ?_
    refine R_getZ rfl t0 ?_
    refine R_if0 rfl (fun c_4 => ?_) (fun c_4 => ?_)
    · have k := k.1 c_4
      refine R_ps 2 (pc2 := 32) (L2 := [some (vr (some w)), some (vi x1), some (vi x2), some (vi x3), some (vi (-1)), some (vi 1000000), none, none, none]) (st2 := [vr (some w), vi x3]) rfl ?_
      refine R_getI rfl t0 ?_
      refine R_ps 3 (pc2 := 38) (L2 := [some (vr (some w)), some (vi x1), some (vi x2), some (vi x3), some (vi (-1)), some (vi 1000000), none, none, none]) (st2 := [vr (some w), vi x2, vi (x3 - (gi h w 13))]) rfl ?_
      refine R_getI rfl t0 ?_
      refine R_ps 1 (pc2 := 42) (L2 := [some (vr (some w)), some (vi x1), some (vi x2), some (vi x3), some (vi (-1)), some (vi 1000000), none, none, none]) (st2 := [vi (x2 - (gi h w 15)), vi (x3 - (gi h w 13))]) rfl ?_
      refine R_jdk (st2 := [vi (if 0 ≤ (x2 - (gi h w 15)) then (x2 - (gi h w 15)) else 0 - (x2 - (gi h w 15))), vi (x3 - (gi h w 13))]) rfl rfl rfl rfl rfl rfl rfl rfl ?_
      refine R_ps 4 (pc2 := 51) (L2 := [some (vr (some w)), some (vi x1), some (vi x2), some (vi x3), some (vi (-1)), some (vi ((x3 - (gi h w 13)) + (if 0 ≤ (x2 - (gi h w 15)) then (x2 - (gi h w 15)) else 0 - (x2 - (gi h w 15))))), some (vi 0), none, none]) (st2 := []) rfl ?_
      exact k
    · have k := k.2 c_4
      refine R_ps 4 (pc2 := 38) (L2 := [some (vr (some w)), some (vi x1), some (vi x2), some (vi x3), some (vi (-1)), some (vi 1000000), none, none, none]) (st2 := [vr (some w), vi x2, vi 0]) rfl ?_
      refine R_getI rfl t0 ?_
      refine R_ps 1 (pc2 := 42) (L2 := [some (vr (some w)), some (vi x1), some (vi x2), some (vi x3), some (vi (-1)), some (vi 1000000), none, none, none]) (st2 := [vi (x2 - (gi h w 15)), vi 0]) rfl ?_
      refine R_jdk (st2 := [vi (if 0 ≤ (x2 - (gi h w 15)) then (x2 - (gi h w 15)) else 0 - (x2 - (gi h w 15))), vi 0]) rfl rfl rfl rfl rfl rfl rfl rfl ?_
      refine R_ps 4 (pc2 := 51) (L2 := [some (vr (some w)), some (vi x1), some (vi x2), some (vi x3), some (vi (-1)), some (vi (0 + (if 0 ≤ (x2 - (gi h w 15)) then (x2 - (gi h w 15)) else 0 - (x2 - (gi h w 15))))), some (vi 0), none, none]) (st2 := []) rfl ?_
      exact k
theorem m71_51 {T N : Nat → Nat} {h : PH} {w : Nat} {x1 : Int32} {x2 : Int32} {x3 : Int32} {x4 : Int32} {x5 : Int32} {x6 : Int32} {K : PH → Prop} (t0 : T w = 8) (k : (((x6 < 3 → (CI T N 145 [vi (gi h w 12), vi x1] h (fun x_31 h_30 => (((x_31 = 0 → (((((x1 * 3) + x2) < 0 → (K h_30)) ∧ (¬ (((x1 * 3) + x2) < 0) → (∃ a_37, (gr h_30 w 10) = some a_37 ∧ 21 ≤ T a_37 ∧ ((((x1 * 3) + x2) < (Int32.ofNat (N a_37)) → (∃ a_44, (gr h_30 w 10) = some a_44 ∧ T a_44 = 22 ∧ inb ((x1 * 3) + x2) (N a_44) ∧ ∀ h_46, h_46 = si h_30 a_44 (Int32.toNatClampNeg ((x1 * 3) + x2)) x4 → ∃ a_52, (gr h_46 w 11) = some a_52 ∧ T a_52 = 22 ∧ inb ((x1 * 3) + x2) (N a_52) ∧ ∀ h_54, h_54 = si h_46 a_52 (Int32.toNatClampNeg ((x1 * 3) + x2)) x5 → K h_54)) ∧ (¬ (((x1 * 3) + x2) < (Int32.ofNat (N a_37))) → (K h_30)))))))) ∧ (¬ (x_31 = 0) → (((((x1 * 3) + x6) < 0 → (WV T N 71 51 [some (vr (some w)), some (vi x1), some (vi x2), some (vi x3), some (vi x4), some (vi x5), some (vi (x6 + 1)), none, none] [] h_30 K)) ∧ (¬ (((x1 * 3) + x6) < 0) → (∃ a_62, (gr h_30 w 8) = some a_62 ∧ 21 ≤ T a_62 ∧ ((((x1 * 3) + x6) < (Int32.ofNat (N a_62)) → (∃ a_68, (gr h_30 w 8) = some a_68 ∧ T a_68 = 22 ∧ inb ((x1 * 3) + x6) (N a_68) ∧ (((gi h_30 a_68 (Int32.toNatClampNeg ((x1 * 3) + x6))) = (-1) → (WV T N 71 51 [some (vr (some w)), some (vi x1), some (vi x2), some (vi x3), some (vi x4), some (vi x5), some (vi (x6 + 1)), none, none] [] h_30 K)) ∧ (¬ ((gi h_30 a_68 (Int32.toNatClampNeg ((x1 * 3) + x6))) = (-1)) → (∃ a_75, (gr h_30 w 9) = some a_75 ∧ T a_75 = 22 ∧ inb ((x1 * 3) + x6) (N a_75) ∧ (((((gi h_30 a_75 (Int32.toNatClampNeg ((x1 * 3) + x6))) + x3) + (if 0 ≤ (x2 - x6) then (x2 - x6) else 0 - (x2 - x6))) < x5 → (∃ a_83, (gr h_30 w 8) = some a_83 ∧ T a_83 = 22 ∧ inb ((x1 * 3) + x6) (N a_83) ∧ WV T N 71 51 [some (vr (some w)), some (vi x1), some (vi x2), some (vi x3), some (vi (gi h_30 a_83 (Int32.toNatClampNeg ((x1 * 3) + x6)))), some (vi (((gi h_30 a_75 (Int32.toNatClampNeg ((x1 * 3) + x6))) + x3) + (if 0 ≤ (x2 - x6) then (x2 - x6) else 0 - (x2 - x6)))), some (vi (x6 + 1)), none, none] [] h_30 K)) ∧ (¬ ((((gi h_30 a_75 (Int32.toNatClampNeg ((x1 * 3) + x6))) + x3) + (if 0 ≤ (x2 - x6) then (x2 - x6) else 0 - (x2 - x6))) < x5) → (WV T N 71 51 [some (vr (some w)), some (vi x1), some (vi x2), some (vi x3), some (vi x4), some (vi x5), some (vi (x6 + 1)), none, none] [] h_30 K)))))))) ∧ (¬ (((x1 * 3) + x6) < (Int32.ofNat (N a_62))) → (WV T N 71 51 [some (vr (some w)), some (vi x1), some (vi x2), some (vi x3), some (vi x4), some (vi x5), some (vi (x6 + 1)), none, none] [] h_30 K))))))))))))) ∧ (¬ (x6 < 3) → (((((x1 * 3) + x2) < 0 → (K h)) ∧ (¬ (((x1 * 3) + x2) < 0) → (∃ a_6, (gr h w 10) = some a_6 ∧ 21 ≤ T a_6 ∧ ((((x1 * 3) + x2) < (Int32.ofNat (N a_6)) → (∃ a_13, (gr h w 10) = some a_13 ∧ T a_13 = 22 ∧ inb ((x1 * 3) + x2) (N a_13) ∧ ∀ h_15, h_15 = si h a_13 (Int32.toNatClampNeg ((x1 * 3) + x2)) x4 → ∃ a_21, (gr h_15 w 11) = some a_21 ∧ T a_21 = 22 ∧ inb ((x1 * 3) + x2) (N a_21) ∧ ∀ h_23, h_23 = si h_15 a_21 (Int32.toNatClampNeg ((x1 * 3) + x2)) x5 → K h_23)) ∧ (¬ (((x1 * 3) + x2) < (Int32.ofNat (N a_6))) → (K h))))))))))) : WV T N 71 51 [some (vr (some w)), some (vi x1), some (vi x2), some (vi x3), some (vi x4), some (vi x5), some (vi x6), none, none] [] h K := by
  show WP T N 71 51 [some (vr (some w)), some (vi x1), some (vi x2), some (vi x3), some (vi x4), some (vi x5), some (vi x6), none, none] [] h _
  refine R_ps 2 (pc2 := 54) (L2 := [some (vr (some w)), some (vi x1), some (vi x2), some (vi x3), some (vi x4), some (vi x5), some (vi x6), none, none]) (st2 := [vi 3, vi x6]) rfl ?_
  refine R_if rfl (fun c_1 => ?_) (fun c_1 => ?_)
  · have k := k.2 (i32_nlt c_1)
    refine R_ps 7 (pc2 := 159) (L2 := [some (vr (some w)), some (vi x1), some (vi x2), some (vi x3), some (vi x4), some (vi x5), some (vi ((x1 * 3) + x2)), none, none]) (st2 := [vi ((x1 * 3) + x2)]) rfl ?_
    refine R_if0 rfl (fun c_2 => ?_) (fun c_2 => ?_)
    · have k := k.1 c_2
      exact R_ret rfl rfl ⟨rfl, k⟩
    · have k := k.2 c_2
      refine R_ps 2 (pc2 := 165) (L2 := [some (vr (some w)), some (vi x1), some (vi x2), some (vi x3), some (vi x4), some (vi x5), some (vi ((x1 * 3) + x2)), none, none]) (st2 := [vr (some w), vi ((x1 * 3) + x2)]) rfl ?_
      refine R_getR rfl t0 ?_
      obtain ⟨a_6, e_7, k⟩ := k
      rw [e_7]
      obtain ⟨t_8, k⟩ := k
      refine R_alen rfl t_8 ?_
      refine R_if rfl (fun c_9 => ?_) (fun c_9 => ?_)
      · have k := k.2 (i32_nlt c_9)
        exact R_ret rfl rfl ⟨rfl, k⟩
      · have k := k.1 (i32_lt c_9)
        refine R_ps 1 (pc2 := 173) (L2 := [some (vr (some w)), some (vi x1), some (vi x2), some (vi x3), some (vi x4), some (vi x5), some (vi ((x1 * 3) + x2)), none, none]) (st2 := [vr (some w)]) rfl ?_
        refine R_getR rfl t0 ?_
        refine R_ps 2 (pc2 := 180) (L2 := [some (vr (some w)), some (vi x1), some (vi x2), some (vi x3), some (vi x4), some (vi x5), some (vi ((x1 * 3) + x2)), none, none]) (st2 := [vi x4, vi ((x1 * 3) + x2), vr (gr h w 10)]) rfl ?_
        obtain ⟨a_13, e_14, k⟩ := k
        rw [e_14]
        obtain ⟨t_17, k⟩ := k
        obtain ⟨t_18, k⟩ := k
        refine R_iast rfl t_17 t_18  ?_
        show WP T N _ _ _ _ (si h a_13 (Int32.toNatClampNeg ((x1 * 3) + x2)) x4) _
        generalize e_16 : si h a_13 (Int32.toNatClampNeg ((x1 * 3) + x2)) x4 = h_15
        replace k := k h_15 e_16.symm
        refine R_ps 1 (pc2 := 182) (L2 := [some (vr (some w)), some (vi x1), some (vi x2), some (vi x3), some (vi x4), some (vi x5), some (vi ((x1 * 3) + x2)), none, none]) (st2 := [vr (some w)]) rfl ?_
        refine R_getR rfl t0 ?_
        refine R_ps 2 (pc2 := 189) (L2 := [some (vr (some w)), some (vi x1), some (vi x2), some (vi x3), some (vi x4), some (vi x5), some (vi ((x1 * 3) + x2)), none, none]) (st2 := [vi x5, vi ((x1 * 3) + x2), vr (gr h_15 w 11)]) rfl ?_
        obtain ⟨a_21, e_22, k⟩ := k
        rw [e_22]
        obtain ⟨t_25, k⟩ := k
        obtain ⟨t_26, k⟩ := k
        refine R_iast rfl t_25 t_26  ?_
        show WP T N _ _ _ _ (si h_15 a_21 (Int32.toNatClampNeg ((x1 * 3) + x2)) x5) _
        generalize e_24 : si h_15 a_21 (Int32.toNatClampNeg ((x1 * 3) + x2)) x5 = h_23
        replace k := k h_23 e_24.symm
        exact R_ret rfl rfl ⟨rfl, k⟩
  · have k := k.1 (i32_lt c_1)
    refine R_ps 1 (pc2 := 58) (L2 := [some (vr (some w)), some (vi x1), some (vi x2), some (vi x3), some (vi x4), some (vi x5), some (vi x6), none, none]) (st2 := [vr (some w)]) rfl ?_
    refine R_getI rfl t0 ?_
    refine R_ps 1 (pc2 := 62) (L2 := [some (vr (some w)), some (vi x1), some (vi x2), some (vi x3), some (vi x4), some (vi x5), some (vi x6), none, none]) (st2 := [vi x1, vi (gi h w 12)]) rfl ?_
    refine R_cI (as := [vi (gi h w 12), vi x1]) rfl rfl ⟨Nat.le_of_ble_eq_true rfl, Nat.le_of_ble_eq_true rfl, rfl, (Or.inl rfl)⟩ rfl rfl k (fun x_31 h_30 k => ?_)
    refine R_if0 rfl (fun c_32 => ?_) (fun c_32 => ?_)
    · have k := k.1 c_32
      refine R_ps 7 (pc2 := 159) (L2 := [some (vr (some w)), some (vi x1), some (vi x2), some (vi x3), some (vi x4), some (vi x5), some (vi ((x1 * 3) + x2)), none, none]) (st2 := [vi ((x1 * 3) + x2)]) rfl ?_
      refine R_if0 rfl (fun c_33 => ?_) (fun c_33 => ?_)
      · have k := k.1 c_33
        exact R_ret rfl rfl ⟨rfl, k⟩
      · have k := k.2 c_33
        refine R_ps 2 (pc2 := 165) (L2 := [some (vr (some w)), some (vi x1), some (vi x2), some (vi x3), some (vi x4), some (vi x5), some (vi ((x1 * 3) + x2)), none, none]) (st2 := [vr (some w), vi ((x1 * 3) + x2)]) rfl ?_
        refine R_getR rfl t0 ?_
        obtain ⟨a_37, e_38, k⟩ := k
        rw [e_38]
        obtain ⟨t_39, k⟩ := k
        refine R_alen rfl t_39 ?_
        refine R_if rfl (fun c_40 => ?_) (fun c_40 => ?_)
        · have k := k.2 (i32_nlt c_40)
          exact R_ret rfl rfl ⟨rfl, k⟩
        · have k := k.1 (i32_lt c_40)
          refine R_ps 1 (pc2 := 173) (L2 := [some (vr (some w)), some (vi x1), some (vi x2), some (vi x3), some (vi x4), some (vi x5), some (vi ((x1 * 3) + x2)), none, none]) (st2 := [vr (some w)]) rfl ?_
          refine R_getR rfl t0 ?_
          refine R_ps 2 (pc2 := 180) (L2 := [some (vr (some w)), some (vi x1), some (vi x2), some (vi x3), some (vi x4), some (vi x5), some (vi ((x1 * 3) + x2)), none, none]) (st2 := [vi x4, vi ((x1 * 3) + x2), vr (gr h_30 w 10)]) rfl ?_
          obtain ⟨a_44, e_45, k⟩ := k
          rw [e_45]
          obtain ⟨t_48, k⟩ := k
          obtain ⟨t_49, k⟩ := k
          refine R_iast rfl t_48 t_49  ?_
          show WP T N _ _ _ _ (si h_30 a_44 (Int32.toNatClampNeg ((x1 * 3) + x2)) x4) _
          generalize e_47 : si h_30 a_44 (Int32.toNatClampNeg ((x1 * 3) + x2)) x4 = h_46
          replace k := k h_46 e_47.symm
          refine R_ps 1 (pc2 := 182) (L2 := [some (vr (some w)), some (vi x1), some (vi x2), some (vi x3), some (vi x4), some (vi x5), some (vi ((x1 * 3) + x2)), none, none]) (st2 := [vr (some w)]) rfl ?_
          refine R_getR rfl t0 ?_
          refine R_ps 2 (pc2 := 189) (L2 := [some (vr (some w)), some (vi x1), some (vi x2), some (vi x3), some (vi x4), some (vi x5), some (vi ((x1 * 3) + x2)), none, none]) (st2 := [vi x5, vi ((x1 * 3) + x2), vr (gr h_46 w 11)]) rfl ?_
          obtain ⟨a_52, e_53, k⟩ := k
          rw [e_53]
          obtain ⟨t_56, k⟩ := k
          obtain ⟨t_57, k⟩ := k
          refine R_iast rfl t_56 t_57  ?_
          show WP T N _ _ _ _ (si h_46 a_52 (Int32.toNatClampNeg ((x1 * 3) + x2)) x5) _
          generalize e_55 : si h_46 a_52 (Int32.toNatClampNeg ((x1 * 3) + x2)) x5 = h_54
          replace k := k h_54 e_55.symm
          exact R_ret rfl rfl ⟨rfl, k⟩
    · have k := k.2 c_32
      refine R_ps 7 (pc2 := 78) (L2 := [some (vr (some w)), some (vi x1), some (vi x2), some (vi x3), some (vi x4), some (vi x5), some (vi x6), some (vi ((x1 * 3) + x6)), none]) (st2 := [vi ((x1 * 3) + x6)]) rfl ?_
      refine R_if0 rfl (fun c_59 => ?_) (fun c_59 => ?_)
      · have k := k.1 c_59
        refine R_ps 2 (pc2 := 51) (L2 := [some (vr (some w)), some (vi x1), some (vi x2), some (vi x3), some (vi x4), some (vi x5), some (vi (x6 + 1)), some (vi ((x1 * 3) + x6)), none]) (st2 := []) rfl ?_
        exact R_drop k (LE_of (L := [some (vr (some w)), some (vi x1), some (vi x2), some (vi x3), some (vi x4), some (vi x5), some (vi (x6 + 1)), none, none]) (L2 := [some (vr (some w)), some (vi x1), some (vi x2), some (vi x3), some (vi x4), some (vi x5), some (vi (x6 + 1)), some (vi ((x1 * 3) + x6)), none]) ⟨rfl, rfl, rfl, rfl, rfl, rfl, rfl, trivial⟩)
      · have k := k.2 c_59
        refine R_ps 2 (pc2 := 84) (L2 := [some (vr (some w)), some (vi x1), some (vi x2), some (vi x3), some (vi x4), some (vi x5), some (vi x6), some (vi ((x1 * 3) + x6)), none]) (st2 := [vr (some w), vi ((x1 * 3) + x6)]) rfl ?_
        refine R_getR rfl t0 ?_
        obtain ⟨a_62, e_63, k⟩ := k
        rw [e_63]
        obtain ⟨t_64, k⟩ := k
        refine R_alen rfl t_64 ?_
        refine R_if rfl (fun c_65 => ?_) (fun c_65 => ?_)
        · have k := k.2 (i32_nlt c_65)
          refine R_ps 2 (pc2 := 51) (L2 := [some (vr (some w)), some (vi x1), some (vi x2), some (vi x3), some (vi x4), some (vi x5), some (vi (x6 + 1)), some (vi ((x1 * 3) + x6)), none]) (st2 := []) rfl ?_
          exact R_drop k (LE_of (L := [some (vr (some w)), some (vi x1), some (vi x2), some (vi x3), some (vi x4), some (vi x5), some (vi (x6 + 1)), none, none]) (L2 := [some (vr (some w)), some (vi x1), some (vi x2), some (vi x3), some (vi x4), some (vi x5), some (vi (x6 + 1)), some (vi ((x1 * 3) + x6)), none]) ⟨rfl, rfl, rfl, rfl, rfl, rfl, rfl, trivial⟩)
        · have k := k.1 (i32_lt c_65)
          refine R_ps 1 (pc2 := 92) (L2 := [some (vr (some w)), some (vi x1), some (vi x2), some (vi x3), some (vi x4), some (vi x5), some (vi x6), some (vi ((x1 * 3) + x6)), none]) (st2 := [vr (some w)]) rfl ?_
          refine R_getR rfl t0 ?_
          refine R_ps 1 (pc2 := 97) (L2 := [some (vr (some w)), some (vi x1), some (vi x2), some (vi x3), some (vi x4), some (vi x5), some (vi x6), some (vi ((x1 * 3) + x6)), none]) (st2 := [vi ((x1 * 3) + x6), vr (gr h_30 w 8)]) rfl ?_
          obtain ⟨a_68, e_69, k⟩ := k
          rw [e_69]
          obtain ⟨t_70, k⟩ := k
          obtain ⟨t_71, k⟩ := k
          refine R_iald rfl (Or.inl t_70) t_71 ?_
          refine R_ps 1 (pc2 := 99) (L2 := [some (vr (some w)), some (vi x1), some (vi x2), some (vi x3), some (vi x4), some (vi x5), some (vi x6), some (vi ((x1 * 3) + x6)), none]) (st2 := [vi (-1), vi (gi h_30 a_68 (Int32.toNatClampNeg ((x1 * 3) + x6)))]) rfl ?_
          refine R_if rfl (fun c_72 => ?_) (fun c_72 => ?_)
          · have k := k.2 c_72
            refine R_ps 1 (pc2 := 106) (L2 := [some (vr (some w)), some (vi x1), some (vi x2), some (vi x3), some (vi x4), some (vi x5), some (vi x6), some (vi ((x1 * 3) + x6)), none]) (st2 := [vr (some w)]) rfl ?_
            refine R_getR rfl t0 ?_
            refine R_ps 1 (pc2 := 111) (L2 := [some (vr (some w)), some (vi x1), some (vi x2), some (vi x3), some (vi x4), some (vi x5), some (vi x6), some (vi ((x1 * 3) + x6)), none]) (st2 := [vi ((x1 * 3) + x6), vr (gr h_30 w 9)]) rfl ?_
            obtain ⟨a_75, e_76, k⟩ := k
            rw [e_76]
            obtain ⟨t_77, k⟩ := k
            obtain ⟨t_78, k⟩ := k
            refine R_iald rfl (Or.inl t_77) t_78 ?_
            refine R_ps 5 (pc2 := 118) (L2 := [some (vr (some w)), some (vi x1), some (vi x2), some (vi x3), some (vi x4), some (vi x5), some (vi x6), some (vi ((x1 * 3) + x6)), none]) (st2 := [vi (x2 - x6), vi ((gi h_30 a_75 (Int32.toNatClampNeg ((x1 * 3) + x6))) + x3)]) rfl ?_
            refine R_jdk (st2 := [vi (if 0 ≤ (x2 - x6) then (x2 - x6) else 0 - (x2 - x6)), vi ((gi h_30 a_75 (Int32.toNatClampNeg ((x1 * 3) + x6))) + x3)]) rfl rfl rfl rfl rfl rfl rfl rfl ?_
            refine R_ps 4 (pc2 := 128) (L2 := [some (vr (some w)), some (vi x1), some (vi x2), some (vi x3), some (vi x4), some (vi x5), some (vi x6), some (vi ((x1 * 3) + x6)), some (vi (((gi h_30 a_75 (Int32.toNatClampNeg ((x1 * 3) + x6))) + x3) + (if 0 ≤ (x2 - x6) then (x2 - x6) else 0 - (x2 - x6))))]) (st2 := [vi x5, vi (((gi h_30 a_75 (Int32.toNatClampNeg ((x1 * 3) + x6))) + x3) + (if 0 ≤ (x2 - x6) then (x2 - x6) else 0 - (x2 - x6)))]) rfl ?_
            refine R_if rfl (fun c_80 => ?_) (fun c_80 => ?_)
            · have k := k.2 (i32_nlt c_80)
              refine R_ps 2 (pc2 := 51) (L2 := [some (vr (some w)), some (vi x1), some (vi x2), some (vi x3), some (vi x4), some (vi x5), some (vi (x6 + 1)), some (vi ((x1 * 3) + x6)), some (vi (((gi h_30 a_75 (Int32.toNatClampNeg ((x1 * 3) + x6))) + x3) + (if 0 ≤ (x2 - x6) then (x2 - x6) else 0 - (x2 - x6))))]) (st2 := []) rfl ?_
              exact R_drop k (LE_of (L := [some (vr (some w)), some (vi x1), some (vi x2), some (vi x3), some (vi x4), some (vi x5), some (vi (x6 + 1)), none, none]) (L2 := [some (vr (some w)), some (vi x1), some (vi x2), some (vi x3), some (vi x4), some (vi x5), some (vi (x6 + 1)), some (vi ((x1 * 3) + x6)), some (vi (((gi h_30 a_75 (Int32.toNatClampNeg ((x1 * 3) + x6))) + x3) + (if 0 ≤ (x2 - x6) then (x2 - x6) else 0 - (x2 - x6))))]) ⟨rfl, rfl, rfl, rfl, rfl, rfl, rfl, trivial⟩)
            · have k := k.1 (i32_lt c_80)
              refine R_ps 1 (pc2 := 132) (L2 := [some (vr (some w)), some (vi x1), some (vi x2), some (vi x3), some (vi x4), some (vi x5), some (vi x6), some (vi ((x1 * 3) + x6)), some (vi (((gi h_30 a_75 (Int32.toNatClampNeg ((x1 * 3) + x6))) + x3) + (if 0 ≤ (x2 - x6) then (x2 - x6) else 0 - (x2 - x6))))]) (st2 := [vr (some w)]) rfl ?_
              refine R_getR rfl t0 ?_
              refine R_ps 1 (pc2 := 137) (L2 := [some (vr (some w)), some (vi x1), some (vi x2), some (vi x3), some (vi x4), some (vi x5), some (vi x6), some (vi ((x1 * 3) + x6)), some (vi (((gi h_30 a_75 (Int32.toNatClampNeg ((x1 * 3) + x6))) + x3) + (if 0 ≤ (x2 - x6) then (x2 - x6) else 0 - (x2 - x6))))]) (st2 := [vi ((x1 * 3) + x6), vr (gr h_30 w 8)]) rfl ?_
              obtain ⟨a_83, e_84, k⟩ := k
              rw [e_84]
              obtain ⟨t_85, k⟩ := k
              obtain ⟨t_86, k⟩ := k
              refine R_iald rfl (Or.inl t_85) t_86 ?_
              refine R_ps 5 (pc2 := 51) (L2 := [some (vr (some w)), some (vi x1), some (vi x2), some (vi x3), some (vi (gi h_30 a_83 (Int32.toNatClampNeg ((x1 * 3) + x6)))), some (vi (((gi h_30 a_75 (Int32.toNatClampNeg ((x1 * 3) + x6))) + x3) + (if 0 ≤ (x2 - x6) then (x2 - x6) else 0 - (x2 - x6)))), some (vi (x6 + 1)), some (vi ((x1 * 3) + x6)), some (vi (((gi h_30 a_75 (Int32.toNatClampNeg ((x1 * 3) + x6))) + x3) + (if 0 ≤ (x2 - x6) then (x2 - x6) else 0 - (x2 - x6))))]) (st2 := []) rfl ?_
              exact R_drop k (LE_of (L := [some (vr (some w)), some (vi x1), some (vi x2), some (vi x3), some (vi (gi h_30 a_83 (Int32.toNatClampNeg ((x1 * 3) + x6)))), some (vi (((gi h_30 a_75 (Int32.toNatClampNeg ((x1 * 3) + x6))) + x3) + (if 0 ≤ (x2 - x6) then (x2 - x6) else 0 - (x2 - x6)))), some (vi (x6 + 1)), none, none]) (L2 := [some (vr (some w)), some (vi x1), some (vi x2), some (vi x3), some (vi (gi h_30 a_83 (Int32.toNatClampNeg ((x1 * 3) + x6)))), some (vi (((gi h_30 a_75 (Int32.toNatClampNeg ((x1 * 3) + x6))) + x3) + (if 0 ≤ (x2 - x6) then (x2 - x6) else 0 - (x2 - x6)))), some (vi (x6 + 1)), some (vi ((x1 * 3) + x6)), some (vi (((gi h_30 a_75 (Int32.toNatClampNeg ((x1 * 3) + x6))) + x3) + (if 0 ≤ (x2 - x6) then (x2 - x6) else 0 - (x2 - x6))))]) ⟨rfl, rfl, rfl, rfl, rfl, rfl, rfl, trivial⟩)
          · have k := k.1 (Classical.not_not.mp c_72)
            refine R_ps 3 (pc2 := 51) (L2 := [some (vr (some w)), some (vi x1), some (vi x2), some (vi x3), some (vi x4), some (vi x5), some (vi (x6 + 1)), some (vi ((x1 * 3) + x6)), none]) (st2 := []) rfl ?_
            exact R_drop k (LE_of (L := [some (vr (some w)), some (vi x1), some (vi x2), some (vi x3), some (vi x4), some (vi x5), some (vi (x6 + 1)), none, none]) (L2 := [some (vr (some w)), some (vi x1), some (vi x2), some (vi x3), some (vi x4), some (vi x5), some (vi (x6 + 1)), some (vi ((x1 * 3) + x6)), none]) ⟨rfl, rfl, rfl, rfl, rfl, rfl, rfl, trivial⟩)
/-- DroneCorridors$Search.startLegs -/
theorem m72 {T N : Nat → Nat} {h : PH} {w : Nat} {a1 : Nat} {x2 : Int32} {K : PH → Prop} (k : (WV T N 72 2 [some (vr (some w)), some (vr (some a1)), some (vi x2), some (vi 0), none, none, none, none, none, none, none] [] h K)) : CV T N 72 [vr (some w), vr (some a1), vi x2] h K := by
  show WP T N 72 0 [some (vr (some w)), some (vr (some a1)), some (vi x2), none, none, none, none, none, none, none, none] [] h _
  refine R_ps 2 (pc2 := 2) (L2 := [some (vr (some w)), some (vr (some a1)), some (vi x2), some (vi 0), none, none, none, none, none, none, none]) (st2 := []) rfl ?_
  exact k
theorem m72_2 {T N : Nat → Nat} {h : PH} {w : Nat} {a1 : Nat} {x2 : Int32} {x3 : Int32} {K : PH → Prop} (t0 : T a1 = 10) (k : (((x3 < (gi h a1 3) → (CR T N 89 [vr (some a1), vi x3] h (fun x_6 h_5 => (∃ a_7, x_6 = some a_7 ∧ WV T N 72 20 [some (vr (some w)), some (vr (some a1)), some (vi x2), some (vi x3), some (vr (some a_7)), some (vi 0), none, none, none, none, none] [] h_5 K)))) ∧ (¬ (x3 < (gi h a1 3)) → (K h))))) : WV T N 72 2 [some (vr (some w)), some (vr (some a1)), some (vi x2), some (vi x3), none, none, none, none, none, none, none] [] h K := by
  show WP T N 72 2 [some (vr (some w)), some (vr (some a1)), some (vi x2), some (vi x3), none, none, none, none, none, none, none] [] h _
  refine R_ps 2 (pc2 := 4) (L2 := [some (vr (some w)), some (vr (some a1)), some (vi x2), some (vi x3), none, none, none, none, none, none, none]) (st2 := [vr (some a1), vi x3]) rfl ?_
  refine R_getI rfl t0 ?_
  refine R_if rfl (fun c_2 => ?_) (fun c_2 => ?_)
  · have k := k.2 (i32_nlt c_2)
    exact R_ret rfl rfl ⟨rfl, k⟩
  · have k := k.1 (i32_lt c_2)
    refine R_ps 2 (pc2 := 12) (L2 := [some (vr (some w)), some (vr (some a1)), some (vi x2), some (vi x3), none, none, none, none, none, none, none]) (st2 := [vi x3, vr (some a1)]) rfl ?_
    refine R_cR (as := [vr (some a1), vi x3]) rfl rfl ⟨Nat.le_of_ble_eq_true rfl, Nat.le_of_ble_eq_true rfl, rfl, (Or.inr ⟨_, rfl, t0⟩)⟩ rfl rfl k (fun x_6 h_5 k => ?_)
    refine R_ps 3 (pc2 := 20) (L2 := [some (vr (some w)), some (vr (some a1)), some (vi x2), some (vi x3), some (vr x_6), some (vi 0), none, none, none, none, none]) (st2 := []) rfl ?_
    obtain ⟨a_7, e_8, k⟩ := k
    rw [e_8]
    exact k
theorem m72_20 {T N : Nat → Nat} {h : PH} {w : Nat} {a1 : Nat} {x2 : Int32} {x3 : Int32} {a4 : Nat} {x5 : Int32} {K : PH → Prop} (t0 : T w = 8) (t1 : T a4 = 2) (k : (((x5 < 2 → (CI T N 12 [vr (some a4), vi x5] h (fun x_7 h_6 => (∃ a_9, (gr h w 4) = some a_9 ∧ T a_9 = 9 ∧ CI T N 78 [vr (some a_9), vi x_7] h_6 (fun x_13 h_12 => (CI T N 10 [vr (some a4), vi x5] h_12 (fun x_16 h_15 => (WV T N 72 63 [some (vr (some w)), some (vr (some a1)), some (vi x2), some (vi x3), some (vr (some a4)), some (vi x5), some (vi (((gi h w 16) - x_13) - x_16)), some (vi 0), none, none, none] [] h_15 K)))))))) ∧ (¬ (x5 < 2) → (WV T N 72 2 [some (vr (some w)), some (vr (some a1)), some (vi x2), some (vi (x3 + 1)), none, none, none, none, none, none, none] [] h K))))) : WV T N 72 20 [some (vr (some w)), some (vr (some a1)), some (vi x2), some (vi x3), some (vr (some a4)), some (vi x5), none, none, none, none, none] [] h K := by
  show WP T N 72 20 [some (vr (some w)), some (vr (some a1)), some (vi x2), some (vi x3), some (vr (some a4)), some (vi x5), none, none, none, none, none] [] h _
  refine R_ps 1 (pc2 := 22) (L2 := [some (vr (some w)), some (vr (some a1)), some (vi x2), some (vi x3), some (vr (some a4)), some (vi x5), none, none, none, none, none]) (st2 := [vr (some a4)]) rfl ?_
  refine R_null rfl (fun c_1 => nomatch c_1) (fun _ _ => ?_)
  refine R_ps 2 (pc2 := 28) (L2 := [some (vr (some w)), some (vr (some a1)), some (vi x2), some (vi x3), some (vr (some a4)), some (vi x5), none, none, none, none, none]) (st2 := [vi 2, vi x5]) rfl ?_
  refine R_if rfl (fun c_2 => ?_) (fun c_2 => ?_)
  · have k := k.2 (i32_nlt c_2)
    refine R_ps 2 (pc2 := 2) (L2 := [some (vr (some w)), some (vr (some a1)), some (vi x2), some (vi (x3 + 1)), some (vr (some a4)), some (vi x5), none, none, none, none, none]) (st2 := []) rfl ?_
    exact R_drop k (LE_of (L := [some (vr (some w)), some (vr (some a1)), some (vi x2), some (vi (x3 + 1)), none, none, none, none, none, none, none]) (L2 := [some (vr (some w)), some (vr (some a1)), some (vi x2), some (vi (x3 + 1)), some (vr (some a4)), some (vi x5), none, none, none, none, none]) ⟨rfl, rfl, rfl, rfl, trivial⟩)
  · have k := k.1 (i32_lt c_2)
    refine R_ps 1 (pc2 := 32) (L2 := [some (vr (some w)), some (vr (some a1)), some (vi x2), some (vi x3), some (vr (some a4)), some (vi x5), none, none, none, none, none]) (st2 := [vr (some w)]) rfl ?_
    refine R_getI rfl t0 ?_
    refine R_ps 1 (pc2 := 36) (L2 := [some (vr (some w)), some (vr (some a1)), some (vi x2), some (vi x3), some (vr (some a4)), some (vi x5), none, none, none, none, none]) (st2 := [vr (some w), vi (gi h w 16)]) rfl ?_
    refine R_getR rfl t0 ?_
    refine R_ps 2 (pc2 := 43) (L2 := [some (vr (some w)), some (vr (some a1)), some (vi x2), some (vi x3), some (vr (some a4)), some (vi x5), none, none, none, none, none]) (st2 := [vi x5, vr (some a4), vr (gr h w 4), vi (gi h w 16)]) rfl ?_
    refine R_cI (as := [vr (some a4), vi x5]) rfl rfl ⟨Nat.le_of_ble_eq_true rfl, Nat.le_of_ble_eq_true rfl, rfl, (Or.inr ⟨_, rfl, t1⟩)⟩ rfl rfl k (fun x_7 h_6 k => ?_)
    obtain ⟨a_9, e_10, k⟩ := k
    rw [e_10]
    obtain ⟨t_11, k⟩ := k
    refine R_cI (as := [vr (some a_9), vi x_7]) rfl rfl ⟨Nat.le_of_ble_eq_true rfl, Nat.le_of_ble_eq_true rfl, rfl, (Or.inr ⟨_, rfl, t_11⟩)⟩ rfl rfl k (fun x_13 h_12 k => ?_)
    refine R_ps 3 (pc2 := 54) (L2 := [some (vr (some w)), some (vr (some a1)), some (vi x2), some (vi x3), some (vr (some a4)), some (vi x5), none, none, none, none, none]) (st2 := [vi x5, vr (some a4), vi ((gi h w 16) - x_13)]) rfl ?_
    refine R_cI (as := [vr (some a4), vi x5]) rfl rfl ⟨Nat.le_of_ble_eq_true rfl, Nat.le_of_ble_eq_true rfl, rfl, (Or.inr ⟨_, rfl, t1⟩)⟩ rfl rfl k (fun x_16 h_15 k => ?_)
    refine R_ps 4 (pc2 := 63) (L2 := [some (vr (some w)), some (vr (some a1)), some (vi x2), some (vi x3), some (vr (some a4)), some (vi x5), some (vi (((gi h w 16) - x_13) - x_16)), some (vi 0), none, none, none]) (st2 := []) rfl ?_
    exact k
theorem m72_63 {T N : Nat → Nat} {h : PH} {w : Nat} {a1 : Nat} {x2 : Int32} {x3 : Int32} {a4 : Nat} {x5 : Int32} {x6 : Int32} {x7 : Int32} {K : PH → Prop} (t0 : T a4 = 2) (t1 : T w = 8) (k : (((x7 < 3 → (CI T N 8 [vi x3, vi x5, vi x7] h (fun x_4 h_3 => (CI T N 11 [vr (some a4), vi x5] h_3 (fun x_7 h_6 => (∃ a_10, (gr h_6 w 5) = some a_10 ∧ T a_10 = 1 ∧ CI T N 1 [vr (some a_10), vi x_4, vi x2] h_6 (fun x_14 h_13 => (((x_14 = 0 → (CI T N 10 [vr (some a4), vi x5] h_13 (fun x_25 h_24 => (CV T N 73 [vr (some w), vi ((x2 * 96) + x_4), vi ((x_7 * 3) + x7), vi x_25, vi x6] h_24 (fun h_28 => (WV T N 72 63 [some (vr (some w)), some (vr (some a1)), some (vi x2), some (vi x3), some (vr (some a4)), some (vi x5), some (vi x6), some (vi (x7 + 1)), none, none, none] [] h_28 K)))))) ∧ (¬ (x_14 = 0) → (CI T N 10 [vr (some a4), vi x5] h_13 (fun x_18 h_17 => (CV T N 73 [vr (some w), vi ((x2 * 96) + x_4), vi ((x_7 * 3) + x7), vi x_18, vi (-1)] h_17 (fun h_21 => (WV T N 72 63 [some (vr (some w)), some (vr (some a1)), some (vi x2), some (vi x3), some (vr (some a4)), some (vi x5), some (vi x6), some (vi (x7 + 1)), none, none, none] [] h_21 K))))))))))))))) ∧ (¬ (x7 < 3) → (WV T N 72 20 [some (vr (some w)), some (vr (some a1)), some (vi x2), some (vi x3), some (vr (some a4)), some (vi (x5 + 1)), none, none, none, none, none] [] h K))))) : WV T N 72 63 [some (vr (some w)), some (vr (some a1)), some (vi x2), some (vi x3), some (vr (some a4)), some (vi x5), some (vi x6), some (vi x7), none, none, none] [] h K := by
  show WP T N 72 63 [some (vr (some w)), some (vr (some a1)), some (vi x2), some (vi x3), some (vr (some a4)), some (vi x5), some (vi x6), some (vi x7), none, none, none] [] h _
  refine R_ps 2 (pc2 := 66) (L2 := [some (vr (some w)), some (vr (some a1)), some (vi x2), some (vi x3), some (vr (some a4)), some (vi x5), some (vi x6), some (vi x7), none, none, none]) (st2 := [vi 3, vi x7]) rfl ?_
  refine R_if rfl (fun c_1 => ?_) (fun c_1 => ?_)
  · have k := k.2 (i32_nlt c_1)
    refine R_ps 2 (pc2 := 20) (L2 := [some (vr (some w)), some (vr (some a1)), some (vi x2), some (vi x3), some (vr (some a4)), some (vi (x5 + 1)), some (vi x6), some (vi x7), none, none, none]) (st2 := []) rfl ?_
    exact R_drop k (LE_of (L := [some (vr (some w)), some (vr (some a1)), some (vi x2), some (vi x3), some (vr (some a4)), some (vi (x5 + 1)), none, none, none, none, none]) (L2 := [some (vr (some w)), some (vr (some a1)), some (vi x2), some (vi x3), some (vr (some a4)), some (vi (x5 + 1)), some (vi x6), some (vi x7), none, none, none]) ⟨rfl, rfl, rfl, rfl, rfl, rfl, trivial⟩)
  · have k := k.1 (i32_lt c_1)
    refine R_ps 3 (pc2 := 74) (L2 := [some (vr (some w)), some (vr (some a1)), some (vi x2), some (vi x3), some (vr (some a4)), some (vi x5), some (vi x6), some (vi x7), none, none, none]) (st2 := [vi x7, vi x5, vi x3]) rfl ?_
    refine R_cI (as := [vi x3, vi x5, vi x7]) rfl rfl ⟨Nat.le_of_ble_eq_true rfl, Nat.le_of_ble_eq_true rfl, rfl, (Or.inl rfl)⟩ rfl rfl k (fun x_4 h_3 k => ?_)
    refine R_ps 3 (pc2 := 83) (L2 := [some (vr (some w)), some (vr (some a1)), some (vi x2), some (vi x3), some (vr (some a4)), some (vi x5), some (vi x6), some (vi x7), some (vi x_4), none, none]) (st2 := [vi x5, vr (some a4)]) rfl ?_
    refine R_cI (as := [vr (some a4), vi x5]) rfl rfl ⟨Nat.le_of_ble_eq_true rfl, Nat.le_of_ble_eq_true rfl, rfl, (Or.inr ⟨_, rfl, t0⟩)⟩ rfl rfl k (fun x_7 h_6 k => ?_)
    refine R_ps 6 (pc2 := 94) (L2 := [some (vr (some w)), some (vr (some a1)), some (vi x2), some (vi x3), some (vr (some a4)), some (vi x5), some (vi x6), some (vi x7), some (vi x_4), some (vi ((x_7 * 3) + x7)), none]) (st2 := [vr (some w)]) rfl ?_
    refine R_getR rfl t1 ?_
    refine R_ps 2 (pc2 := 100) (L2 := [some (vr (some w)), some (vr (some a1)), some (vi x2), some (vi x3), some (vr (some a4)), some (vi x5), some (vi x6), some (vi x7), some (vi x_4), some (vi ((x_7 * 3) + x7)), none]) (st2 := [vi x2, vi x_4, vr (gr h_6 w 5)]) rfl ?_
    obtain ⟨a_10, e_11, k⟩ := k
    rw [e_11]
    obtain ⟨t_12, k⟩ := k
    refine R_cI (as := [vr (some a_10), vi x_4, vi x2]) rfl rfl ⟨Nat.le_of_ble_eq_true rfl, Nat.le_of_ble_eq_true rfl, rfl, (Or.inr ⟨_, rfl, t_12⟩)⟩ rfl rfl k (fun x_14 h_13 k => ?_)
    refine R_if0 rfl (fun c_15 => ?_) (fun c_15 => ?_)
    · have k := k.2 c_15
      refine R_ps 11 (pc2 := 127) (L2 := [some (vr (some w)), some (vr (some a1)), some (vi x2), some (vi x3), some (vr (some a4)), some (vi x5), some (vi x6), some (vi x7), some (vi x_4), some (vi ((x_7 * 3) + x7)), some (vi 0)]) (st2 := [vi x5, vr (some a4), vi ((x_7 * 3) + x7), vi ((x2 * 96) + x_4), vr (some w)]) rfl ?_
      refine R_cI (as := [vr (some a4), vi x5]) rfl rfl ⟨Nat.le_of_ble_eq_true rfl, Nat.le_of_ble_eq_true rfl, rfl, (Or.inr ⟨_, rfl, t0⟩)⟩ rfl rfl k (fun x_18 h_17 k => ?_)
      refine R_ps 1 (pc2 := 132) (L2 := [some (vr (some w)), some (vr (some a1)), some (vi x2), some (vi x3), some (vr (some a4)), some (vi x5), some (vi x6), some (vi x7), some (vi x_4), some (vi ((x_7 * 3) + x7)), some (vi 0)]) (st2 := [vi 0, vi x_18, vi ((x_7 * 3) + x7), vi ((x2 * 96) + x_4), vr (some w)]) rfl ?_
      refine R_if0 rfl (fun _ => ?_) (fun c_19 => absurd (show (0 : Int32) = (0 : Int32) by decide) c_19)
      refine R_ps 1 (pc2 := 141) (L2 := [some (vr (some w)), some (vr (some a1)), some (vi x2), some (vi x3), some (vr (some a4)), some (vi x5), some (vi x6), some (vi x7), some (vi x_4), some (vi ((x_7 * 3) + x7)), some (vi 0)]) (st2 := [vi (-1), vi x_18, vi ((x_7 * 3) + x7), vi ((x2 * 96) + x_4), vr (some w)]) rfl ?_
      refine R_cV (as := [vr (some w), vi ((x2 * 96) + x_4), vi ((x_7 * 3) + x7), vi x_18, vi (-1)]) rfl rfl ⟨Nat.le_of_ble_eq_true rfl, Nat.le_of_ble_eq_true rfl, rfl, (Or.inr ⟨_, rfl, t1⟩)⟩ rfl rfl k (fun h_21 k => ?_)
      refine R_ps 2 (pc2 := 63) (L2 := [some (vr (some w)), some (vr (some a1)), some (vi x2), some (vi x3), some (vr (some a4)), some (vi x5), some (vi x6), some (vi (x7 + 1)), some (vi x_4), some (vi ((x_7 * 3) + x7)), some (vi 0)]) (st2 := []) rfl ?_
      exact R_drop k (LE_of (L := [some (vr (some w)), some (vr (some a1)), some (vi x2), some (vi x3), some (vr (some a4)), some (vi x5), some (vi x6), some (vi (x7 + 1)), none, none, none]) (L2 := [some (vr (some w)), some (vr (some a1)), some (vi x2), some (vi x3), some (vr (some a4)), some (vi x5), some (vi x6), some (vi (x7 + 1)), some (vi x_4), some (vi ((x_7 * 3) + x7)), some (vi 0)]) ⟨rfl, rfl, rfl, rfl, rfl, rfl, rfl, rfl, trivial⟩)
    · have k := k.1 (Classical.not_not.mp c_15)
      refine R_ps 12 (pc2 := 127) (L2 := [some (vr (some w)), some (vr (some a1)), some (vi x2), some (vi x3), some (vr (some a4)), some (vi x5), some (vi x6), some (vi x7), some (vi x_4), some (vi ((x_7 * 3) + x7)), some (vi 1)]) (st2 := [vi x5, vr (some a4), vi ((x_7 * 3) + x7), vi ((x2 * 96) + x_4), vr (some w)]) rfl ?_
      refine R_cI (as := [vr (some a4), vi x5]) rfl rfl ⟨Nat.le_of_ble_eq_true rfl, Nat.le_of_ble_eq_true rfl, rfl, (Or.inr ⟨_, rfl, t0⟩)⟩ rfl rfl k (fun x_25 h_24 k => ?_)
      refine R_ps 1 (pc2 := 132) (L2 := [some (vr (some w)), some (vr (some a1)), some (vi x2), some (vi x3), some (vr (some a4)), some (vi x5), some (vi x6), some (vi x7), some (vi x_4), some (vi ((x_7 * 3) + x7)), some (vi 1)]) (st2 := [vi 1, vi x_25, vi ((x_7 * 3) + x7), vi ((x2 * 96) + x_4), vr (some w)]) rfl ?_
      refine R_if0 rfl (fun c_26 => absurd (show (1 : Int32) = (0 : Int32) from c_26) (by decide)) (fun _ => ?_)
      refine R_ps 2 (pc2 := 141) (L2 := [some (vr (some w)), some (vr (some a1)), some (vi x2), some (vi x3), some (vr (some a4)), some (vi x5), some (vi x6), some (vi x7), some (vi x_4), some (vi ((x_7 * 3) + x7)), some (vi 1)]) (st2 := [vi x6, vi x_25, vi ((x_7 * 3) + x7), vi ((x2 * 96) + x_4), vr (some w)]) rfl ?_
      refine R_cV (as := [vr (some w), vi ((x2 * 96) + x_4), vi ((x_7 * 3) + x7), vi x_25, vi x6]) rfl rfl ⟨Nat.le_of_ble_eq_true rfl, Nat.le_of_ble_eq_true rfl, rfl, (Or.inr ⟨_, rfl, t1⟩)⟩ rfl rfl k (fun h_28 k => ?_)
      refine R_ps 2 (pc2 := 63) (L2 := [some (vr (some w)), some (vr (some a1)), some (vi x2), some (vi x3), some (vr (some a4)), some (vi x5), some (vi x6), some (vi (x7 + 1)), some (vi x_4), some (vi ((x_7 * 3) + x7)), some (vi 1)]) (st2 := []) rfl ?_
      exact R_drop k (LE_of (L := [some (vr (some w)), some (vr (some a1)), some (vi x2), some (vi x3), some (vr (some a4)), some (vi x5), some (vi x6), some (vi (x7 + 1)), none, none, none]) (L2 := [some (vr (some w)), some (vr (some a1)), some (vi x2), some (vi x3), some (vr (some a4)), some (vi x5), some (vi x6), some (vi (x7 + 1)), some (vi x_4), some (vi ((x_7 * 3) + x7)), some (vi 1)]) ⟨rfl, rfl, rfl, rfl, rfl, rfl, rfl, rfl, trivial⟩)
/-- DroneCorridors$Search.startLeg -/
theorem m73 {T N : Nat → Nat} {h : PH} {w : Nat} {x1 : Int32} {x2 : Int32} {x3 : Int32} {x4 : Int32} {K : PH → Prop} (t0 : T w = 8) (k : (((x1 < 0 → (K h)) ∧ (¬ (x1 < 0) → (∃ a_5, (gr h w 6) = some a_5 ∧ 21 ≤ T a_5 ∧ ((x1 < (Int32.ofNat (N a_5)) → (((x2 < 0 → (K h)) ∧ (¬ (x2 < 0) → (∃ a_14, (gr h w 10) = some a_14 ∧ 21 ≤ T a_14 ∧ ((x2 < (Int32.ofNat (N a_14)) → (∃ a_20, (gr h w 10) = some a_20 ∧ T a_20 = 22 ∧ inb x2 (N a_20) ∧ (((gi h a_20 (Int32.toNatClampNeg x2)) = (-2) → (∃ a_27, (gr h w 6) = some a_27 ∧ T a_27 = 22 ∧ inb x1 (N a_27) ∧ ∀ h_29, h_29 = si h a_27 (Int32.toNatClampNeg x1) (-1) → K h_29)) ∧ (¬ ((gi h a_20 (Int32.toNatClampNeg x2)) = (-2)) → (∃ a_36, (gr h w 11) = some a_36 ∧ T a_36 = 22 ∧ inb x2 (N a_36) ∧ ((x4 < (gi h a_36 (Int32.toNatClampNeg x2)) → (∃ a_72, (gr h w 6) = some a_72 ∧ T a_72 = 22 ∧ inb x1 (N a_72) ∧ ∀ h_74, h_74 = si h a_72 (Int32.toNatClampNeg x1) (-1) → K h_74)) ∧ (¬ (x4 < (gi h a_36 (Int32.toNatClampNeg x2))) → (∃ a_44, (gr h w 11) = some a_44 ∧ T a_44 = 22 ∧ inb x2 (N a_44) ∧ ∃ a_49, (gr h w 6) = some a_49 ∧ T a_49 = 22 ∧ inb x1 (N a_49) ∧ ∀ h_51, h_51 = si h a_49 (Int32.toNatClampNeg x1) ((gi h a_44 (Int32.toNatClampNeg x2)) + x3) → ∃ a_58, (gr h_51 w 10) = some a_58 ∧ T a_58 = 22 ∧ inb x2 (N a_58) ∧ ∃ a_63, (gr h_51 w 7) = some a_63 ∧ T a_63 = 22 ∧ inb x1 (N a_63) ∧ ∀ h_65, h_65 = si h_51 a_63 (Int32.toNatClampNeg x1) (gi h_51 a_58 (Int32.toNatClampNeg x2)) → K h_65)))))))) ∧ (¬ (x2 < (Int32.ofNat (N a_14))) → (K h)))))))) ∧ (¬ (x1 < (Int32.ofNat (N a_5))) → (K h)))))))) : CV T N 73 [vr (some w), vi x1, vi x2, vi x3, vi x4] h K := by
  show WP T N 73 0 [some (vr (some w)), some (vi x1), some (vi x2), some (vi x3), some (vi x4)] [] h _
  refine R_ps 1 (pc2 := 1) (L2 := [some (vr (some w)), some (vi x1), some (vi x2), some (vi x3), some (vi x4)]) (st2 := [vi x1]) rfl ?_
  refine R_if0 rfl (fun c_1 => ?_) (fun c_1 => ?_)
  · have k := k.1 c_1
    exact R_ret rfl rfl ⟨rfl, k⟩
  · have k := k.2 c_1
    refine R_ps 2 (pc2 := 6) (L2 := [some (vr (some w)), some (vi x1), some (vi x2), some (vi x3), some (vi x4)]) (st2 := [vr (some w), vi x1]) rfl ?_
    refine R_getR rfl t0 ?_
    obtain ⟨a_5, e_6, k⟩ := k
    rw [e_6]
    obtain ⟨t_7, k⟩ := k
    refine R_alen rfl t_7 ?_
    refine R_if rfl (fun c_8 => ?_) (fun c_8 => ?_)
    · have k := k.2 (i32_nlt c_8)
      exact R_ret rfl rfl ⟨rfl, k⟩
    · have k := k.1 (i32_lt c_8)
      refine R_ps 1 (pc2 := 14) (L2 := [some (vr (some w)), some (vi x1), some (vi x2), some (vi x3), some (vi x4)]) (st2 := [vi x2]) rfl ?_
      refine R_if0 rfl (fun c_10 => ?_) (fun c_10 => ?_)
      · have k := k.1 c_10
        exact R_ret rfl rfl ⟨rfl, k⟩
      · have k := k.2 c_10
        refine R_ps 2 (pc2 := 19) (L2 := [some (vr (some w)), some (vi x1), some (vi x2), some (vi x3), some (vi x4)]) (st2 := [vr (some w), vi x2]) rfl ?_
        refine R_getR rfl t0 ?_
        obtain ⟨a_14, e_15, k⟩ := k
        rw [e_15]
        obtain ⟨t_16, k⟩ := k
        refine R_alen rfl t_16 ?_
        refine R_if rfl (fun c_17 => ?_) (fun c_17 => ?_)
        · have k := k.1 c_17
          refine R_ps 1 (pc2 := 28) (L2 := [some (vr (some w)), some (vi x1), some (vi x2), some (vi x3), some (vi x4)]) (st2 := [vr (some w)]) rfl ?_
          refine R_getR rfl t0 ?_
          refine R_ps 1 (pc2 := 32) (L2 := [some (vr (some w)), some (vi x1), some (vi x2), some (vi x3), some (vi x4)]) (st2 := [vi x2, vr (gr h w 10)]) rfl ?_
          obtain ⟨a_20, e_21, k⟩ := k
          rw [e_21]
          obtain ⟨t_22, k⟩ := k
          obtain ⟨t_23, k⟩ := k
          refine R_iald rfl (Or.inl t_22) t_23 ?_
          refine R_ps 1 (pc2 := 35) (L2 := [some (vr (some w)), some (vi x1), some (vi x2), some (vi x3), some (vi x4)]) (st2 := [vi (-2), vi (gi h a_20 (Int32.toNatClampNeg x2))]) rfl ?_
          refine R_if rfl (fun c_24 => ?_) (fun c_24 => ?_)
          · have k := k.1 c_24
            refine R_ps 1 (pc2 := 50) (L2 := [some (vr (some w)), some (vi x1), some (vi x2), some (vi x3), some (vi x4)]) (st2 := [vr (some w)]) rfl ?_
            refine R_getR rfl t0 ?_
            refine R_ps 2 (pc2 := 55) (L2 := [some (vr (some w)), some (vi x1), some (vi x2), some (vi x3), some (vi x4)]) (st2 := [vi (-1), vi x1, vr (gr h w 6)]) rfl ?_
            obtain ⟨a_27, e_28, k⟩ := k
            rw [e_28]
            obtain ⟨t_31, k⟩ := k
            obtain ⟨t_32, k⟩ := k
            refine R_iast rfl t_31 t_32  ?_
            show WP T N _ _ _ _ (si h a_27 (Int32.toNatClampNeg x1) (-1)) _
            generalize e_30 : si h a_27 (Int32.toNatClampNeg x1) (-1) = h_29
            replace k := k h_29 e_30.symm
            exact R_ret rfl rfl ⟨rfl, k⟩
          · have k := k.2 c_24
            refine R_ps 1 (pc2 := 39) (L2 := [some (vr (some w)), some (vi x1), some (vi x2), some (vi x3), some (vi x4)]) (st2 := [vr (some w)]) rfl ?_
            refine R_getR rfl t0 ?_
            refine R_ps 1 (pc2 := 43) (L2 := [some (vr (some w)), some (vi x1), some (vi x2), some (vi x3), some (vi x4)]) (st2 := [vi x2, vr (gr h w 11)]) rfl ?_
            obtain ⟨a_36, e_37, k⟩ := k
            rw [e_37]
            obtain ⟨t_38, k⟩ := k
            obtain ⟨t_39, k⟩ := k
            refine R_iald rfl (Or.inl t_38) t_39 ?_
            refine R_ps 1 (pc2 := 46) (L2 := [some (vr (some w)), some (vi x1), some (vi x2), some (vi x3), some (vi x4)]) (st2 := [vi x4, vi (gi h a_36 (Int32.toNatClampNeg x2))]) rfl ?_
            refine R_if rfl (fun c_40 => ?_) (fun c_40 => ?_)
            · have k := k.2 (i32_nlt c_40)
              refine R_ps 1 (pc2 := 58) (L2 := [some (vr (some w)), some (vi x1), some (vi x2), some (vi x3), some (vi x4)]) (st2 := [vr (some w)]) rfl ?_
              refine R_getR rfl t0 ?_
              refine R_ps 2 (pc2 := 63) (L2 := [some (vr (some w)), some (vi x1), some (vi x2), some (vi x3), some (vi x4)]) (st2 := [vr (some w), vi x1, vr (gr h w 6)]) rfl ?_
              refine R_getR rfl t0 ?_
              refine R_ps 1 (pc2 := 67) (L2 := [some (vr (some w)), some (vi x1), some (vi x2), some (vi x3), some (vi x4)]) (st2 := [vi x2, vr (gr h w 11), vi x1, vr (gr h w 6)]) rfl ?_
              obtain ⟨a_44, e_45, k⟩ := k
              rw [e_45]
              obtain ⟨t_46, k⟩ := k
              obtain ⟨t_47, k⟩ := k
              refine R_iald rfl (Or.inl t_46) t_47 ?_
              refine R_ps 2 (pc2 := 70) (L2 := [some (vr (some w)), some (vi x1), some (vi x2), some (vi x3), some (vi x4)]) (st2 := [vi ((gi h a_44 (Int32.toNatClampNeg x2)) + x3), vi x1, vr (gr h w 6)]) rfl ?_
              obtain ⟨a_49, e_50, k⟩ := k
              rw [e_50]
              obtain ⟨t_53, k⟩ := k
              obtain ⟨t_54, k⟩ := k
              refine R_iast rfl t_53 t_54  ?_
              show WP T N _ _ _ _ (si h a_49 (Int32.toNatClampNeg x1) ((gi h a_44 (Int32.toNatClampNeg x2)) + x3)) _
              generalize e_52 : si h a_49 (Int32.toNatClampNeg x1) ((gi h a_44 (Int32.toNatClampNeg x2)) + x3) = h_51
              replace k := k h_51 e_52.symm
              refine R_ps 1 (pc2 := 72) (L2 := [some (vr (some w)), some (vi x1), some (vi x2), some (vi x3), some (vi x4)]) (st2 := [vr (some w)]) rfl ?_
              refine R_getR rfl t0 ?_
              refine R_ps 2 (pc2 := 77) (L2 := [some (vr (some w)), some (vi x1), some (vi x2), some (vi x3), some (vi x4)]) (st2 := [vr (some w), vi x1, vr (gr h_51 w 7)]) rfl ?_
              refine R_getR rfl t0 ?_
              refine R_ps 1 (pc2 := 81) (L2 := [some (vr (some w)), some (vi x1), some (vi x2), some (vi x3), some (vi x4)]) (st2 := [vi x2, vr (gr h_51 w 10), vi x1, vr (gr h_51 w 7)]) rfl ?_
              obtain ⟨a_58, e_59, k⟩ := k
              rw [e_59]
              obtain ⟨t_60, k⟩ := k
              obtain ⟨t_61, k⟩ := k
              refine R_iald rfl (Or.inl t_60) t_61 ?_
              obtain ⟨a_63, e_64, k⟩ := k
              rw [e_64]
              obtain ⟨t_67, k⟩ := k
              obtain ⟨t_68, k⟩ := k
              refine R_iast rfl t_67 t_68  ?_
              show WP T N _ _ _ _ (si h_51 a_63 (Int32.toNatClampNeg x1) (gi h_51 a_58 (Int32.toNatClampNeg x2))) _
              generalize e_66 : si h_51 a_63 (Int32.toNatClampNeg x1) (gi h_51 a_58 (Int32.toNatClampNeg x2)) = h_65
              replace k := k h_65 e_66.symm
              exact R_ret rfl rfl ⟨rfl, k⟩
            · have k := k.1 (i32_lt c_40)
              refine R_ps 1 (pc2 := 50) (L2 := [some (vr (some w)), some (vi x1), some (vi x2), some (vi x3), some (vi x4)]) (st2 := [vr (some w)]) rfl ?_
              refine R_getR rfl t0 ?_
              refine R_ps 2 (pc2 := 55) (L2 := [some (vr (some w)), some (vi x1), some (vi x2), some (vi x3), some (vi x4)]) (st2 := [vi (-1), vi x1, vr (gr h w 6)]) rfl ?_
              obtain ⟨a_72, e_73, k⟩ := k
              rw [e_73]
              obtain ⟨t_76, k⟩ := k
              obtain ⟨t_77, k⟩ := k
              refine R_iast rfl t_76 t_77  ?_
              show WP T N _ _ _ _ (si h a_72 (Int32.toNatClampNeg x1) (-1)) _
              generalize e_75 : si h a_72 (Int32.toNatClampNeg x1) (-1) = h_74
              replace k := k h_74 e_75.symm
              exact R_ret rfl rfl ⟨rfl, k⟩
        · have k := k.2 c_17
          exact R_ret rfl rfl ⟨rfl, k⟩
/-- DroneCorridors$Search.legBefore -/
theorem m74 {T N : Nat → Nat} {h : PH} {w : Nat} {x1 : Int32} {K : Int32 → PH → Prop} (t0 : T w = 8) (k : (((x1 < 0 → (K (-1) h)) ∧ (¬ (x1 < 0) → (∃ a_5, (gr h w 7) = some a_5 ∧ 21 ≤ T a_5 ∧ ((x1 < (Int32.ofNat (N a_5)) → (∃ a_12, (gr h w 7) = some a_12 ∧ T a_12 = 22 ∧ inb x1 (N a_12) ∧ K (gi h a_12 (Int32.toNatClampNeg x1)) h)) ∧ (¬ (x1 < (Int32.ofNat (N a_5))) → (K (-1) h)))))))) : CI T N 74 [vr (some w), vi x1] h K := by
  show WP T N 74 0 [some (vr (some w)), some (vi x1)] [] h _
  refine R_ps 1 (pc2 := 1) (L2 := [some (vr (some w)), some (vi x1)]) (st2 := [vi x1]) rfl ?_
  refine R_if0 rfl (fun c_1 => ?_) (fun c_1 => ?_)
  · have k := k.1 c_1
    refine R_ps 1 (pc2 := 23) (L2 := [some (vr (some w)), some (vi x1)]) (st2 := [vi (-1)]) rfl ?_
    exact R_iret rfl rfl ⟨_, rfl, k⟩
  · have k := k.2 c_1
    refine R_ps 2 (pc2 := 6) (L2 := [some (vr (some w)), some (vi x1)]) (st2 := [vr (some w), vi x1]) rfl ?_
    refine R_getR rfl t0 ?_
    obtain ⟨a_5, e_6, k⟩ := k
    rw [e_6]
    obtain ⟨t_7, k⟩ := k
    refine R_alen rfl t_7 ?_
    refine R_if rfl (fun c_8 => ?_) (fun c_8 => ?_)
    · have k := k.2 (i32_nlt c_8)
      refine R_ps 1 (pc2 := 23) (L2 := [some (vr (some w)), some (vi x1)]) (st2 := [vi (-1)]) rfl ?_
      exact R_iret rfl rfl ⟨_, rfl, k⟩
    · have k := k.1 (i32_lt c_8)
      refine R_ps 1 (pc2 := 14) (L2 := [some (vr (some w)), some (vi x1)]) (st2 := [vr (some w)]) rfl ?_
      refine R_getR rfl t0 ?_
      refine R_ps 1 (pc2 := 18) (L2 := [some (vr (some w)), some (vi x1)]) (st2 := [vi x1, vr (gr h w 7)]) rfl ?_
      obtain ⟨a_12, e_13, k⟩ := k
      rw [e_13]
      obtain ⟨t_14, k⟩ := k
      obtain ⟨t_15, k⟩ := k
      refine R_iald rfl (Or.inl t_14) t_15 ?_
      refine R_ps 1 (pc2 := 23) (L2 := [some (vr (some w)), some (vi x1)]) (st2 := [vi (gi h a_12 (Int32.toNatClampNeg x1))]) rfl ?_
      exact R_iret rfl rfl ⟨_, rfl, k⟩
/-- DroneCorridors$Search.writeLegs -/
theorem m75 {T N : Nat → Nat} {h : PH} {w : Nat} {a1 : Nat} {a2 : Nat} {K : PH → Prop} (t0 : T w = 8) (k : (WV T N 75 8 [some (vr (some w)), some (vr (some a1)), some (vr (some a2)), some (vi 0), some (vi (gi h w 3)), none, none] [] h K)) : CV T N 75 [vr (some w), vr (some a1), vr (some a2)] h K := by
  show WP T N 75 0 [some (vr (some w)), some (vr (some a1)), some (vr (some a2)), none, none, none, none] [] h _
  refine R_ps 3 (pc2 := 3) (L2 := [some (vr (some w)), some (vr (some a1)), some (vr (some a2)), some (vi 0), none, none, none]) (st2 := [vr (some w)]) rfl ?_
  refine R_getI rfl t0 ?_
  refine R_ps 1 (pc2 := 8) (L2 := [some (vr (some w)), some (vr (some a1)), some (vr (some a2)), some (vi 0), some (vi (gi h w 3)), none, none]) (st2 := []) rfl ?_
  exact k
theorem m75_8 {T N : Nat → Nat} {h : PH} {w : Nat} {a1 : Nat} {a2 : Nat} {x3 : Int32} {x4 : Int32} {K : PH → Prop} (t0 : T a2 = 3) (t1 : T w = 8) (k : (((x4 < 0 → (CV T N 23 [vr (some a2), vi x3] h (fun h_4 => (WV T N 75 58 [some (vr (some w)), some (vr (some a1)), some (vr (some a2)), none, some (vi (gi h a2 8)), some (vi (gi h_4 w 3)), some (vi (((gi h a2 8) + x3) - 1))] [] h_4 K)))) ∧ (¬ (x4 < 0) → (((x3 < 40 → (CI T N 74 [vr (some w), vi x4] h (fun x_15 h_14 => (WV T N 75 8 [some (vr (some w)), some (vr (some a1)), some (vr (some a2)), some (vi (x3 + 1)), some (vi x_15), none, none] [] h_14 K)))) ∧ (¬ (x3 < 40) → (CV T N 23 [vr (some a2), vi x3] h (fun h_10 => (WV T N 75 58 [some (vr (some w)), some (vr (some a1)), some (vr (some a2)), none, some (vi (gi h a2 8)), some (vi (gi h_10 w 3)), some (vi (((gi h a2 8) + x3) - 1))] [] h_10 K)))))))))) : WV T N 75 8 [some (vr (some w)), some (vr (some a1)), some (vr (some a2)), some (vi x3), some (vi x4), none, none] [] h K := by
  show WP T N 75 8 [some (vr (some w)), some (vr (some a1)), some (vr (some a2)), some (vi x3), some (vi x4), none, none] [] h _
  refine R_ps 1 (pc2 := 10) (L2 := [some (vr (some w)), some (vr (some a1)), some (vr (some a2)), some (vi x3), some (vi x4), none, none]) (st2 := [vi x4]) rfl ?_
  refine R_if0 rfl (fun c_1 => ?_) (fun c_1 => ?_)
  · have k := k.1 c_1
    refine R_ps 1 (pc2 := 34) (L2 := [some (vr (some w)), some (vr (some a1)), some (vr (some a2)), some (vi x3), some (vi x4), none, none]) (st2 := [vr (some a2)]) rfl ?_
    refine R_getI rfl t0 ?_
    refine R_ps 3 (pc2 := 41) (L2 := [some (vr (some w)), some (vr (some a1)), some (vr (some a2)), some (vi x3), some (vi (gi h a2 8)), none, none]) (st2 := [vi x3, vr (some a2)]) rfl ?_
    refine R_cV (as := [vr (some a2), vi x3]) rfl rfl ⟨Nat.le_of_ble_eq_true rfl, Nat.le_of_ble_eq_true rfl, rfl, (Or.inr ⟨_, rfl, t0⟩)⟩ rfl rfl k (fun h_4 k => ?_)
    refine R_ps 1 (pc2 := 45) (L2 := [some (vr (some w)), some (vr (some a1)), some (vr (some a2)), some (vi x3), some (vi (gi h a2 8)), none, none]) (st2 := [vr (some w)]) rfl ?_
    refine R_getI rfl t1 ?_
    refine R_ps 7 (pc2 := 58) (L2 := [some (vr (some w)), some (vr (some a1)), some (vr (some a2)), some (vi x3), some (vi (gi h a2 8)), some (vi (gi h_4 w 3)), some (vi (((gi h a2 8) + x3) - 1))]) (st2 := []) rfl ?_
    exact R_drop k (LE_of (L := [some (vr (some w)), some (vr (some a1)), some (vr (some a2)), none, some (vi (gi h a2 8)), some (vi (gi h_4 w 3)), some (vi (((gi h a2 8) + x3) - 1))]) (L2 := [some (vr (some w)), some (vr (some a1)), some (vr (some a2)), some (vi x3), some (vi (gi h a2 8)), some (vi (gi h_4 w 3)), some (vi (((gi h a2 8) + x3) - 1))]) ⟨rfl, rfl, rfl, rfl, rfl, rfl, trivial⟩)
  · have k := k.2 c_1
    refine R_ps 2 (pc2 := 16) (L2 := [some (vr (some w)), some (vr (some a1)), some (vr (some a2)), some (vi x3), some (vi x4), none, none]) (st2 := [vi 40, vi x3]) rfl ?_
    refine R_if rfl (fun c_7 => ?_) (fun c_7 => ?_)
    · have k := k.2 (i32_nlt c_7)
      refine R_ps 1 (pc2 := 34) (L2 := [some (vr (some w)), some (vr (some a1)), some (vr (some a2)), some (vi x3), some (vi x4), none, none]) (st2 := [vr (some a2)]) rfl ?_
      refine R_getI rfl t0 ?_
      refine R_ps 3 (pc2 := 41) (L2 := [some (vr (some w)), some (vr (some a1)), some (vr (some a2)), some (vi x3), some (vi (gi h a2 8)), none, none]) (st2 := [vi x3, vr (some a2)]) rfl ?_
      refine R_cV (as := [vr (some a2), vi x3]) rfl rfl ⟨Nat.le_of_ble_eq_true rfl, Nat.le_of_ble_eq_true rfl, rfl, (Or.inr ⟨_, rfl, t0⟩)⟩ rfl rfl k (fun h_10 k => ?_)
      refine R_ps 1 (pc2 := 45) (L2 := [some (vr (some w)), some (vr (some a1)), some (vr (some a2)), some (vi x3), some (vi (gi h a2 8)), none, none]) (st2 := [vr (some w)]) rfl ?_
      refine R_getI rfl t1 ?_
      refine R_ps 7 (pc2 := 58) (L2 := [some (vr (some w)), some (vr (some a1)), some (vr (some a2)), some (vi x3), some (vi (gi h a2 8)), some (vi (gi h_10 w 3)), some (vi (((gi h a2 8) + x3) - 1))]) (st2 := []) rfl ?_
      exact R_drop k (LE_of (L := [some (vr (some w)), some (vr (some a1)), some (vr (some a2)), none, some (vi (gi h a2 8)), some (vi (gi h_10 w 3)), some (vi (((gi h a2 8) + x3) - 1))]) (L2 := [some (vr (some w)), some (vr (some a1)), some (vr (some a2)), some (vi x3), some (vi (gi h a2 8)), some (vi (gi h_10 w 3)), some (vi (((gi h a2 8) + x3) - 1))]) ⟨rfl, rfl, rfl, rfl, rfl, rfl, trivial⟩)
    · have k := k.1 (i32_lt c_7)
      refine R_ps 3 (pc2 := 25) (L2 := [some (vr (some w)), some (vr (some a1)), some (vr (some a2)), some (vi (x3 + 1)), some (vi x4), none, none]) (st2 := [vi x4, vr (some w)]) rfl ?_
      refine R_cI (as := [vr (some w), vi x4]) rfl rfl ⟨Nat.le_of_ble_eq_true rfl, Nat.le_of_ble_eq_true rfl, rfl, (Or.inr ⟨_, rfl, t1⟩)⟩ rfl rfl k (fun x_15 h_14 k => ?_)
      refine R_ps 2 (pc2 := 8) (L2 := [some (vr (some w)), some (vr (some a1)), some (vr (some a2)), some (vi (x3 + 1)), some (vi x_15), none, none]) (st2 := []) rfl ?_
      exact k
theorem m75_58 {T N : Nat → Nat} {h : PH} {w : Nat} {a1 : Nat} {a2 : Nat} {x4 : Int32} {x5 : Int32} {x6 : Int32} {K : PH → Prop} (t0 : T a2 = 3) (t1 : T w = 8) (k : (((x6 < x4 → (K h)) ∧ (¬ (x6 < x4) → (CR T N 17 [vr (some a2), vi x6] h (fun x_5 h_4 => (CV T N 76 [vi x5, vr (some a1), vr x_5] h_4 (fun h_7 => (CI T N 74 [vr (some w), vi x5] h_7 (fun x_11 h_10 => (WV T N 75 58 [some (vr (some w)), some (vr (some a1)), some (vr (some a2)), none, some (vi x4), some (vi x_11), some (vi (x6 + (-1)))] [] h_10 K))))))))))) : WV T N 75 58 [some (vr (some w)), some (vr (some a1)), some (vr (some a2)), none, some (vi x4), some (vi x5), some (vi x6)] [] h K := by
  show WP T N 75 58 [some (vr (some w)), some (vr (some a1)), some (vr (some a2)), none, some (vi x4), some (vi x5), some (vi x6)] [] h _
  refine R_ps 2 (pc2 := 62) (L2 := [some (vr (some w)), some (vr (some a1)), some (vr (some a2)), none, some (vi x4), some (vi x5), some (vi x6)]) (st2 := [vi x4, vi x6]) rfl ?_
  refine R_if rfl (fun c_1 => ?_) (fun c_1 => ?_)
  · have k := k.1 c_1
    exact R_ret rfl rfl ⟨rfl, k⟩
  · have k := k.2 c_1
    refine R_ps 4 (pc2 := 71) (L2 := [some (vr (some w)), some (vr (some a1)), some (vr (some a2)), none, some (vi x4), some (vi x5), some (vi x6)]) (st2 := [vi x6, vr (some a2), vr (some a1), vi x5]) rfl ?_
    refine R_cR (as := [vr (some a2), vi x6]) rfl rfl ⟨Nat.le_of_ble_eq_true rfl, Nat.le_of_ble_eq_true rfl, rfl, (Or.inr ⟨_, rfl, t0⟩)⟩ rfl rfl k (fun x_5 h_4 k => ?_)
    refine R_cV (as := [vi x5, vr (some a1), vr x_5]) rfl rfl ⟨Nat.le_of_ble_eq_true rfl, Nat.le_of_ble_eq_true rfl, rfl, (Or.inl rfl)⟩ rfl rfl k (fun h_7 k => ?_)
    refine R_ps 2 (pc2 := 80) (L2 := [some (vr (some w)), some (vr (some a1)), some (vr (some a2)), none, some (vi x4), some (vi x5), some (vi x6)]) (st2 := [vi x5, vr (some w)]) rfl ?_
    refine R_cI (as := [vr (some w), vi x5]) rfl rfl ⟨Nat.le_of_ble_eq_true rfl, Nat.le_of_ble_eq_true rfl, rfl, (Or.inr ⟨_, rfl, t1⟩)⟩ rfl rfl k (fun x_11 h_10 k => ?_)
    refine R_ps 3 (pc2 := 58) (L2 := [some (vr (some w)), some (vr (some a1)), some (vr (some a2)), none, some (vi x4), some (vi x_11), some (vi (x6 + (-1)))]) (st2 := []) rfl ?_
    exact k
/-- DroneCorridors$Search.writeLeg -/
theorem m76 {T N : Nat → Nat} {h : PH} {x0 : Int32} {a1 : Nat} {a2 : Nat} {K : PH → Prop} (t0 : T a1 = 10) (t1 : T a2 = 7) (k : (CR T N 89 [vr (some a1), vi ((x0 - x0 / 96 * 96) / 6)] h (fun x_5 h_4 => (((x_5 = none → (K h_4)) ∧ (∀ a_8, x_5 = some a_8 → (∀ h_13, h_13 = si h_4 a2 0 ((x0 - x0 / 96 * 96) / 6) → ∀ h_18, h_18 = si h_13 a2 1 (((x0 - x0 / 96 * 96) / 3) - ((x0 - x0 / 96 * 96) / 3) / 2 * 2) → ∀ h_22, h_22 = si h_18 a2 2 ((x0 - x0 / 96 * 96) - (x0 - x0 / 96 * 96) / 3 * 3) → ∀ h_27, h_27 = si h_22 a2 3 ((gi h_22 a1 0) + (x0 / 96)) → T a_8 = 2 ∧ ∀ h_33, h_33 = si h_27 a2 4 ((gi h_27 a2 3) + (gi h_27 a_8 2)) → K h_33))))))) : CV T N 76 [vi x0, vr (some a1), vr (some a2)] h K := by
  show WP T N 76 0 [some (vi x0), some (vr (some a1)), some (vr (some a2)), none, none] [] h _
  refine R_ps 2 (pc2 := 3) (L2 := [some (vi x0), some (vr (some a1)), some (vr (some a2)), none, none]) (st2 := [vi 96, vi x0]) rfl ?_
  refine R_rem rfl (by decide) ?_
  refine R_ps 4 (pc2 := 9) (L2 := [some (vi x0), some (vr (some a1)), some (vr (some a2)), some (vi (x0 - x0 / 96 * 96)), none]) (st2 := [vi 6, vi (x0 - x0 / 96 * 96), vr (some a1)]) rfl ?_
  refine R_div rfl (by decide) ?_
  refine R_cR (as := [vr (some a1), vi ((x0 - x0 / 96 * 96) / 6)]) rfl rfl ⟨Nat.le_of_ble_eq_true rfl, Nat.le_of_ble_eq_true rfl, rfl, (Or.inr ⟨_, rfl, t0⟩)⟩ rfl rfl k (fun x_5 h_4 k => ?_)
  refine R_ps 2 (pc2 := 16) (L2 := [some (vi x0), some (vr (some a1)), some (vr (some a2)), some (vi (x0 - x0 / 96 * 96)), some (vr x_5)]) (st2 := [vr (some a2)]) rfl ?_
  refine R_null rfl (fun c_6 => nomatch c_6) (fun _ _ => ?_)
  refine R_ps 1 (pc2 := 21) (L2 := [some (vi x0), some (vr (some a1)), some (vr (some a2)), some (vi (x0 - x0 / 96 * 96)), some (vr x_5)]) (st2 := [vr x_5]) rfl ?_
  rcases null_or (x_5) with e_9 | ⟨a_8, e_9⟩
  · have k := k.1 e_9
    rw [e_9]
    refine R_nonnull rfl (fun _ => ?_) (fun _ c_7 => nomatch c_7)
    exact R_ret rfl rfl ⟨rfl, k⟩
  · have k := k.2 a_8 e_9
    rw [e_9]
    refine R_nonnull rfl (fun c_7 => nomatch c_7) (fun _ _ => ?_)
    refine R_ps 3 (pc2 := 29) (L2 := [some (vi x0), some (vr (some a1)), some (vr (some a2)), some (vi (x0 - x0 / 96 * 96)), some (vr (some a_8))]) (st2 := [vi 6, vi (x0 - x0 / 96 * 96), vr (some a2)]) rfl ?_
    refine R_div rfl (by decide) ?_
    refine R_putI rfl t1 ?_
    show WP T N _ _ _ _ (si h_4 a2 0 ((x0 - x0 / 96 * 96) / 6)) _
    generalize e_14 : si h_4 a2 0 ((x0 - x0 / 96 * 96) / 6) = h_13
    replace k := k h_13 e_14.symm
    refine R_ps 3 (pc2 := 36) (L2 := [some (vi x0), some (vr (some a1)), some (vr (some a2)), some (vi (x0 - x0 / 96 * 96)), some (vr (some a_8))]) (st2 := [vi 3, vi (x0 - x0 / 96 * 96), vr (some a2)]) rfl ?_
    refine R_div rfl (by decide) ?_
    refine R_ps 1 (pc2 := 38) (L2 := [some (vi x0), some (vr (some a1)), some (vr (some a2)), some (vi (x0 - x0 / 96 * 96)), some (vr (some a_8))]) (st2 := [vi 2, vi ((x0 - x0 / 96 * 96) / 3), vr (some a2)]) rfl ?_
    refine R_rem rfl (by decide) ?_
    refine R_putI rfl t1 ?_
    show WP T N _ _ _ _ (si h_13 a2 1 (((x0 - x0 / 96 * 96) / 3) - ((x0 - x0 / 96 * 96) / 3) / 2 * 2)) _
    generalize e_19 : si h_13 a2 1 (((x0 - x0 / 96 * 96) / 3) - ((x0 - x0 / 96 * 96) / 3) / 2 * 2) = h_18
    replace k := k h_18 e_19.symm
    refine R_ps 3 (pc2 := 45) (L2 := [some (vi x0), some (vr (some a1)), some (vr (some a2)), some (vi (x0 - x0 / 96 * 96)), some (vr (some a_8))]) (st2 := [vi 3, vi (x0 - x0 / 96 * 96), vr (some a2)]) rfl ?_
    refine R_rem rfl (by decide) ?_
    refine R_putI rfl t1 ?_
    show WP T N _ _ _ _ (si h_18 a2 2 ((x0 - x0 / 96 * 96) - (x0 - x0 / 96 * 96) / 3 * 3)) _
    generalize e_23 : si h_18 a2 2 ((x0 - x0 / 96 * 96) - (x0 - x0 / 96 * 96) / 3 * 3) = h_22
    replace k := k h_22 e_23.symm
    refine R_ps 2 (pc2 := 51) (L2 := [some (vi x0), some (vr (some a1)), some (vr (some a2)), some (vi (x0 - x0 / 96 * 96)), some (vr (some a_8))]) (st2 := [vr (some a1), vr (some a2)]) rfl ?_
    refine R_getI rfl t0 ?_
    refine R_ps 2 (pc2 := 57) (L2 := [some (vi x0), some (vr (some a1)), some (vr (some a2)), some (vi (x0 - x0 / 96 * 96)), some (vr (some a_8))]) (st2 := [vi 96, vi x0, vi (gi h_22 a1 0), vr (some a2)]) rfl ?_
    refine R_div rfl (by decide) ?_
    refine R_ps 1 (pc2 := 59) (L2 := [some (vi x0), some (vr (some a1)), some (vr (some a2)), some (vi (x0 - x0 / 96 * 96)), some (vr (some a_8))]) (st2 := [vi ((gi h_22 a1 0) + (x0 / 96)), vr (some a2)]) rfl ?_
    refine R_putI rfl t1 ?_
    show WP T N _ _ _ _ (si h_22 a2 3 ((gi h_22 a1 0) + (x0 / 96))) _
    generalize e_28 : si h_22 a2 3 ((gi h_22 a1 0) + (x0 / 96)) = h_27
    replace k := k h_27 e_28.symm
    refine R_ps 2 (pc2 := 64) (L2 := [some (vi x0), some (vr (some a1)), some (vr (some a2)), some (vi (x0 - x0 / 96 * 96)), some (vr (some a_8))]) (st2 := [vr (some a2), vr (some a2)]) rfl ?_
    refine R_getI rfl t1 ?_
    refine R_ps 1 (pc2 := 69) (L2 := [some (vi x0), some (vr (some a1)), some (vr (some a2)), some (vi (x0 - x0 / 96 * 96)), some (vr (some a_8))]) (st2 := [vr (some a_8), vi (gi h_27 a2 3), vr (some a2)]) rfl ?_
    obtain ⟨t_31, k⟩ := k
    refine R_getI rfl t_31 ?_
    refine R_ps 1 (pc2 := 73) (L2 := [some (vi x0), some (vr (some a1)), some (vr (some a2)), some (vi (x0 - x0 / 96 * 96)), some (vr (some a_8))]) (st2 := [vi ((gi h_27 a2 3) + (gi h_27 a_8 2)), vr (some a2)]) rfl ?_
    refine R_putI rfl t1 ?_
    show WP T N _ _ _ _ (si h_27 a2 4 ((gi h_27 a2 3) + (gi h_27 a_8 2))) _
    generalize e_34 : si h_27 a2 4 ((gi h_27 a2 3) + (gi h_27 a_8 2)) = h_33
    replace k := k h_33 e_34.symm
    exact R_ret rfl rfl ⟨rfl, k⟩
/-- DroneCorridors$Ways.<init> -/
theorem m77 {T N : Nat → Nat} {h : PH} {w : Nat} {K : PH → Prop} (t0 : T w = 9) (k : ((T (nx h) = 22 ∧ 0 ≤ Int32.toInt 10 ∧ Int32.toInt 10 = N (nx h) ∧ N (nx h) ≤ 65536) ∧ ∀ a_3 h_4, a_3 = nx h → h_4 = grow h (N (nx h)) → ∀ h_9, h_9 = sr h_4 w 0 (some a_3) → K h_9)) : CV T N 77 [vr (some w)] h K := by
  show WP T N 77 0 [some (vr (some w))] [] h _
  refine R_ps 1 (pc2 := 1) (L2 := [some (vr (some w))]) (st2 := [vr (some w)]) rfl ?_
  refine R_jdk (st2 := []) rfl rfl rfl rfl rfl rfl rfl rfl ?_
  refine R_ps 2 (pc2 := 7) (L2 := [some (vr (some w))]) (st2 := [vi 10, vr (some w)]) rfl ?_
  obtain ⟨t_7, k⟩ := k
  refine R_newa rfl t_7 ?_
  generalize e_6 : grow h (N (nx h)) = h_4
  generalize e_5 : nx h = a_3
  replace k := k a_3 h_4 e_5.symm e_6.symm
  refine R_putR rfl t0 ?_
  show WP T N _ _ _ _ (sr h_4 w 0 (some a_3)) _
  generalize e_10 : sr h_4 w 0 (some a_3) = h_9
  replace k := k h_9 e_10.symm
  exact R_ret rfl rfl ⟨rfl, k⟩
/-- DroneCorridors$Ways.leastFrom -/
theorem m78 {T N : Nat → Nat} {h : PH} {w : Nat} {x1 : Int32} {K : Int32 → PH → Prop} (t0 : T w = 9) (k : (((x1 < 0 → (K 1000000 h)) ∧ (¬ (x1 < 0) → (∃ a_5, (gr h w 0) = some a_5 ∧ 21 ≤ T a_5 ∧ ((x1 < (Int32.ofNat (N a_5)) → (∃ a_12, (gr h w 0) = some a_12 ∧ T a_12 = 22 ∧ inb x1 (N a_12) ∧ K (gi h a_12 (Int32.toNatClampNeg x1)) h)) ∧ (¬ (x1 < (Int32.ofNat (N a_5))) → (K 1000000 h)))))))) : CI T N 78 [vr (some w), vi x1] h K := by
  show WP T N 78 0 [some (vr (some w)), some (vi x1)] [] h _
  refine R_ps 1 (pc2 := 1) (L2 := [some (vr (some w)), some (vi x1)]) (st2 := [vi x1]) rfl ?_
  refine R_if0 rfl (fun c_1 => ?_) (fun c_1 => ?_)
  · have k := k.1 c_1
    refine R_ps 1 (pc2 := 24) (L2 := [some (vr (some w)), some (vi x1)]) (st2 := [vi 1000000]) rfl ?_
    exact R_iret rfl rfl ⟨_, rfl, k⟩
  · have k := k.2 c_1
    refine R_ps 2 (pc2 := 6) (L2 := [some (vr (some w)), some (vi x1)]) (st2 := [vr (some w), vi x1]) rfl ?_
    refine R_getR rfl t0 ?_
    obtain ⟨a_5, e_6, k⟩ := k
    rw [e_6]
    obtain ⟨t_7, k⟩ := k
    refine R_alen rfl t_7 ?_
    refine R_if rfl (fun c_8 => ?_) (fun c_8 => ?_)
    · have k := k.2 (i32_nlt c_8)
      refine R_ps 1 (pc2 := 24) (L2 := [some (vr (some w)), some (vi x1)]) (st2 := [vi 1000000]) rfl ?_
      exact R_iret rfl rfl ⟨_, rfl, k⟩
    · have k := k.1 (i32_lt c_8)
      refine R_ps 1 (pc2 := 14) (L2 := [some (vr (some w)), some (vi x1)]) (st2 := [vr (some w)]) rfl ?_
      refine R_getR rfl t0 ?_
      refine R_ps 1 (pc2 := 18) (L2 := [some (vr (some w)), some (vi x1)]) (st2 := [vi x1, vr (gr h w 0)]) rfl ?_
      obtain ⟨a_12, e_13, k⟩ := k
      rw [e_13]
      obtain ⟨t_14, k⟩ := k
      obtain ⟨t_15, k⟩ := k
      refine R_iald rfl (Or.inl t_14) t_15 ?_
      refine R_ps 1 (pc2 := 24) (L2 := [some (vr (some w)), some (vi x1)]) (st2 := [vi (gi h a_12 (Int32.toNatClampNeg x1))]) rfl ?_
      exact R_iret rfl rfl ⟨_, rfl, k⟩
/-- DroneCorridors$Ways.measure -/
theorem m79 {T N : Nat → Nat} {h : PH} {w : Nat} {a1 : Nat} {x2 : Int32} {x3 : Int32} {K : PH → Prop} (k : (WV T N 79 3 [some (vr (some w)), some (vr (some a1)), some (vi x2), some (vi x3), some (vi 0), none] [] h K)) : CV T N 79 [vr (some w), vr (some a1), vi x2, vi x3] h K := by
  show WP T N 79 0 [some (vr (some w)), some (vr (some a1)), some (vi x2), some (vi x3), none, none] [] h _
  refine R_ps 2 (pc2 := 3) (L2 := [some (vr (some w)), some (vr (some a1)), some (vi x2), some (vi x3), some (vi 0), none]) (st2 := []) rfl ?_
  exact k
theorem m79_3 {T N : Nat → Nat} {h : PH} {w : Nat} {a1 : Nat} {x2 : Int32} {x3 : Int32} {x4 : Int32} {K : PH → Prop} (t0 : T w = 9) (k : (∃ a_3, (gr h w 0) = some a_3 ∧ 21 ≤ T a_3 ∧ ((x4 < (Int32.ofNat (N a_3)) → (CI T N 145 [vi x2, vi x4] h (fun x_10 h_9 => (((x_10 = 0 → (∃ a_13, (gr h w 0) = some a_13 ∧ T a_13 = 22 ∧ inb x4 (N a_13) ∧ ∀ h_15, h_15 = si h_9 a_13 (Int32.toNatClampNeg x4) 1000000 → WV T N 79 3 [some (vr (some w)), some (vr (some a1)), some (vi x2), some (vi x3), some (vi (x4 + 1)), none] [] h_15 K)) ∧ (¬ (x_10 = 0) → (∃ a_20, (gr h w 0) = some a_20 ∧ T a_20 = 22 ∧ inb x4 (N a_20) ∧ ∀ h_22, h_22 = si h_9 a_20 (Int32.toNatClampNeg x4) 0 → WV T N 79 3 [some (vr (some w)), some (vr (some a1)), some (vi x2), some (vi x3), some (vi (x4 + 1)), none] [] h_22 K))))))) ∧ (¬ (x4 < (Int32.ofNat (N a_3))) → (WV T N 79 47 [some (vr (some w)), some (vr (some a1)), none, some (vi x3), some (vi 1), some (vi 0)] [] h K))))) : WV T N 79 3 [some (vr (some w)), some (vr (some a1)), some (vi x2), some (vi x3), some (vi x4), none] [] h K := by
  show WP T N 79 3 [some (vr (some w)), some (vr (some a1)), some (vi x2), some (vi x3), some (vi x4), none] [] h _
  refine R_ps 2 (pc2 := 6) (L2 := [some (vr (some w)), some (vr (some a1)), some (vi x2), some (vi x3), some (vi x4), none]) (st2 := [vr (some w), vi x4]) rfl ?_
  refine R_getR rfl t0 ?_
  obtain ⟨a_3, e_4, k⟩ := k
  rw [e_4]
  obtain ⟨t_5, k⟩ := k
  refine R_alen rfl t_5 ?_
  refine R_if rfl (fun c_6 => ?_) (fun c_6 => ?_)
  · have k := k.2 (i32_nlt c_6)
    refine R_ps 4 (pc2 := 47) (L2 := [some (vr (some w)), some (vr (some a1)), some (vi x2), some (vi x3), some (vi 1), some (vi 0)]) (st2 := []) rfl ?_
    exact R_drop k (LE_of (L := [some (vr (some w)), some (vr (some a1)), none, some (vi x3), some (vi 1), some (vi 0)]) (L2 := [some (vr (some w)), some (vr (some a1)), some (vi x2), some (vi x3), some (vi 1), some (vi 0)]) ⟨rfl, rfl, rfl, rfl, rfl, trivial⟩)
  · have k := k.1 (i32_lt c_6)
    refine R_ps 1 (pc2 := 14) (L2 := [some (vr (some w)), some (vr (some a1)), some (vi x2), some (vi x3), some (vi x4), none]) (st2 := [vr (some w)]) rfl ?_
    refine R_getR rfl t0 ?_
    refine R_ps 3 (pc2 := 22) (L2 := [some (vr (some w)), some (vr (some a1)), some (vi x2), some (vi x3), some (vi x4), none]) (st2 := [vi x4, vi x2, vi x4, vr (gr h w 0)]) rfl ?_
    refine R_cI (as := [vi x2, vi x4]) rfl rfl ⟨Nat.le_of_ble_eq_true rfl, Nat.le_of_ble_eq_true rfl, rfl, (Or.inl rfl)⟩ rfl rfl k (fun x_10 h_9 k => ?_)
    refine R_if0 rfl (fun c_11 => ?_) (fun c_11 => ?_)
    · have k := k.1 c_11
      refine R_ps 1 (pc2 := 34) (L2 := [some (vr (some w)), some (vr (some a1)), some (vi x2), some (vi x3), some (vi x4), none]) (st2 := [vi 1000000, vi x4, vr (gr h w 0)]) rfl ?_
      obtain ⟨a_13, e_14, k⟩ := k
      rw [e_14]
      obtain ⟨t_17, k⟩ := k
      obtain ⟨t_18, k⟩ := k
      refine R_iast rfl t_17 t_18  ?_
      show WP T N _ _ _ _ (si h_9 a_13 (Int32.toNatClampNeg x4) 1000000) _
      generalize e_16 : si h_9 a_13 (Int32.toNatClampNeg x4) 1000000 = h_15
      replace k := k h_15 e_16.symm
      refine R_ps 2 (pc2 := 3) (L2 := [some (vr (some w)), some (vr (some a1)), some (vi x2), some (vi x3), some (vi (x4 + 1)), none]) (st2 := []) rfl ?_
      exact k
    · have k := k.2 c_11
      refine R_ps 2 (pc2 := 34) (L2 := [some (vr (some w)), some (vr (some a1)), some (vi x2), some (vi x3), some (vi x4), none]) (st2 := [vi 0, vi x4, vr (gr h w 0)]) rfl ?_
      obtain ⟨a_20, e_21, k⟩ := k
      rw [e_21]
      obtain ⟨t_24, k⟩ := k
      obtain ⟨t_25, k⟩ := k
      refine R_iast rfl t_24 t_25  ?_
      show WP T N _ _ _ _ (si h_9 a_20 (Int32.toNatClampNeg x4) 0) _
      generalize e_23 : si h_9 a_20 (Int32.toNatClampNeg x4) 0 = h_22
      replace k := k h_22 e_23.symm
      refine R_ps 2 (pc2 := 3) (L2 := [some (vr (some w)), some (vr (some a1)), some (vi x2), some (vi x3), some (vi (x4 + 1)), none]) (st2 := []) rfl ?_
      exact k
theorem m79_47 {T N : Nat → Nat} {h : PH} {w : Nat} {a1 : Nat} {x3 : Int32} {x4 : Int32} {x5 : Int32} {K : PH → Prop} (t0 : T w = 9) (k : (((x5 < 10 → (((x4 = 0 → (K h)) ∧ (¬ (x4 = 0) → (CI T N 80 [vr (some w), vr (some a1), vi x3] h (fun x_7 h_6 => (WV T N 79 47 [some (vr (some w)), some (vr (some a1)), none, some (vi x3), some (vi x_7), some (vi (x5 + 1))] [] h_6 K))))))) ∧ (¬ (x5 < 10) → (K h))))) : WV T N 79 47 [some (vr (some w)), some (vr (some a1)), none, some (vi x3), some (vi x4), some (vi x5)] [] h K := by
  show WP T N 79 47 [some (vr (some w)), some (vr (some a1)), none, some (vi x3), some (vi x4), some (vi x5)] [] h _
  refine R_ps 2 (pc2 := 51) (L2 := [some (vr (some w)), some (vr (some a1)), none, some (vi x3), some (vi x4), some (vi x5)]) (st2 := [vi 10, vi x5]) rfl ?_
  refine R_if rfl (fun c_1 => ?_) (fun c_1 => ?_)
  · have k := k.2 (i32_nlt c_1)
    exact R_ret rfl rfl ⟨rfl, k⟩
  · have k := k.1 (i32_lt c_1)
    refine R_ps 1 (pc2 := 56) (L2 := [some (vr (some w)), some (vr (some a1)), none, some (vi x3), some (vi x4), some (vi x5)]) (st2 := [vi x4]) rfl ?_
    refine R_if0 rfl (fun c_3 => ?_) (fun c_3 => ?_)
    · have k := k.1 c_3
      exact R_ret rfl rfl ⟨rfl, k⟩
    · have k := k.2 c_3
      refine R_ps 3 (pc2 := 62) (L2 := [some (vr (some w)), some (vr (some a1)), none, some (vi x3), some (vi x4), some (vi x5)]) (st2 := [vi x3, vr (some a1), vr (some w)]) rfl ?_
      refine R_cI (as := [vr (some w), vr (some a1), vi x3]) rfl rfl ⟨Nat.le_of_ble_eq_true rfl, Nat.le_of_ble_eq_true rfl, rfl, (Or.inr ⟨_, rfl, t0⟩)⟩ rfl rfl k (fun x_7 h_6 k => ?_)
      refine R_ps 3 (pc2 := 47) (L2 := [some (vr (some w)), some (vr (some a1)), none, some (vi x3), some (vi x_7), some (vi (x5 + 1))]) (st2 := []) rfl ?_
      exact k
/-- DroneCorridors$Ways.shortenAll -/
theorem m80 {T N : Nat → Nat} {h : PH} {w : Nat} {a1 : Nat} {x2 : Int32} {K : Int32 → PH → Prop} (k : (WI T N 80 5 [some (vr (some w)), some (vr (some a1)), some (vi x2), some (vi 0), some (vi 0), none, none, none] [] h K)) : CI T N 80 [vr (some w), vr (some a1), vi x2] h K := by
  show WP T N 80 0 [some (vr (some w)), some (vr (some a1)), some (vi x2), none, none, none, none, none] [] h _
  refine R_ps 4 (pc2 := 5) (L2 := [some (vr (some w)), some (vr (some a1)), some (vi x2), some (vi 0), some (vi 0), none, none, none]) (st2 := []) rfl ?_
  exact k
theorem m80_5 {T N : Nat → Nat} {h : PH} {w : Nat} {a1 : Nat} {x2 : Int32} {x3 : Int32} {x4 : Int32} {K : Int32 → PH → Prop} (t0 : T a1 = 10) (k : (((x4 < (gi h a1 3) → (CR T N 89 [vr (some a1), vi x4] h (fun x_7 h_6 => (∃ a_8, x_7 = some a_8 ∧ WI T N 80 25 [some (vr (some w)), some (vr (some a1)), some (vi x2), some (vi x3), some (vi x4), some (vr (some a_8)), some (vi 0), none] [] h_6 K)))) ∧ (¬ (x4 < (gi h a1 3)) → ((x3 = 0 ∨ x3 = 1) ∧ K x3 h))))) : WI T N 80 5 [some (vr (some w)), some (vr (some a1)), some (vi x2), some (vi x3), some (vi x4), none, none, none] [] h K := by
  show WP T N 80 5 [some (vr (some w)), some (vr (some a1)), some (vi x2), some (vi x3), some (vi x4), none, none, none] [] h _
  refine R_ps 2 (pc2 := 8) (L2 := [some (vr (some w)), some (vr (some a1)), some (vi x2), some (vi x3), some (vi x4), none, none, none]) (st2 := [vr (some a1), vi x4]) rfl ?_
  refine R_getI rfl t0 ?_
  refine R_if rfl (fun c_2 => ?_) (fun c_2 => ?_)
  · have k := k.2 (i32_nlt c_2)
    refine R_ps 1 (pc2 := 100) (L2 := [some (vr (some w)), some (vr (some a1)), some (vi x2), some (vi x3), some (vi x4), none, none, none]) (st2 := [vi x3]) rfl ?_
    obtain ⟨t_4, k⟩ := k
    exact R_zret rfl rfl t_4 ⟨_, rfl, k⟩
  · have k := k.1 (i32_lt c_2)
    refine R_ps 2 (pc2 := 17) (L2 := [some (vr (some w)), some (vr (some a1)), some (vi x2), some (vi x3), some (vi x4), none, none, none]) (st2 := [vi x4, vr (some a1)]) rfl ?_
    refine R_cR (as := [vr (some a1), vi x4]) rfl rfl ⟨Nat.le_of_ble_eq_true rfl, Nat.le_of_ble_eq_true rfl, rfl, (Or.inr ⟨_, rfl, t0⟩)⟩ rfl rfl k (fun x_7 h_6 k => ?_)
    refine R_ps 3 (pc2 := 25) (L2 := [some (vr (some w)), some (vr (some a1)), some (vi x2), some (vi x3), some (vi x4), some (vr x_7), some (vi 0), none]) (st2 := []) rfl ?_
    obtain ⟨a_8, e_9, k⟩ := k
    rw [e_9]
    exact k
theorem m80_25 {T N : Nat → Nat} {h : PH} {w : Nat} {a1 : Nat} {x2 : Int32} {x3 : Int32} {x4 : Int32} {a5 : Nat} {x6 : Int32} {K : Int32 → PH → Prop} (t0 : T a5 = 2) (t1 : T w = 9) (k : (((x6 < 2 → (((x2 = 0 → (CI T N 10 [vr (some a5), vi x6] h (fun x_6 h_5 => (CI T N 11 [vr (some a5), vi x6] h_5 (fun x_9 h_8 => (CI T N 12 [vr (some a5), vi x6] h_8 (fun x_12 h_11 => (CI T N 78 [vr (some w), vi x_12] h_11 (fun x_15 h_14 => (CI T N 81 [vr (some w), vi x_9, vi (x_15 + x_6)] h_14 (fun x_18 h_17 => (((x_18 = 0 → (WI T N 80 25 [some (vr (some w)), some (vr (some a1)), some (vi x2), some (vi x3), some (vi x4), some (vr (some a5)), some (vi (x6 + 1)), none] [] h_17 K)) ∧ (¬ (x_18 = 0) → (WI T N 80 25 [some (vr (some w)), some (vr (some a1)), some (vi x2), some (vi 1), some (vi x4), some (vr (some a5)), some (vi (x6 + 1)), none] [] h_17 K))))))))))))))) ∧ (¬ (x2 = 0) → (CI T N 11 [vr (some a5), vi x6] h (fun x_23 h_22 => (CI T N 12 [vr (some a5), vi x6] h_22 (fun x_26 h_25 => (CI T N 78 [vr (some w), vi x_26] h_25 (fun x_29 h_28 => (CI T N 81 [vr (some w), vi x_23, vi (x_29 + (gi h a5 2))] h_28 (fun x_32 h_31 => (((x_32 = 0 → (WI T N 80 25 [some (vr (some w)), some (vr (some a1)), some (vi x2), some (vi x3), some (vi x4), some (vr (some a5)), some (vi (x6 + 1)), none] [] h_31 K)) ∧ (¬ (x_32 = 0) → (WI T N 80 25 [some (vr (some w)), some (vr (some a1)), some (vi x2), some (vi 1), some (vi x4), some (vr (some a5)), some (vi (x6 + 1)), none] [] h_31 K)))))))))))))))) ∧ (¬ (x6 < 2) → (WI T N 80 5 [some (vr (some w)), some (vr (some a1)), some (vi x2), some (vi x3), some (vi (x4 + 1)), none, none, none] [] h K))))) : WI T N 80 25 [some (vr (some w)), some (vr (some a1)), some (vi x2), some (vi x3), some (vi x4), some (vr (some a5)), some (vi x6), none] [] h K := by
  show WP T N 80 25 [some (vr (some w)), some (vr (some a1)), some (vi x2), some (vi x3), some (vi x4), some (vr (some a5)), some (vi x6), none] [] h _
  refine R_ps 1 (pc2 := 27) (L2 := [some (vr (some w)), some (vr (some a1)), some (vi x2), some (vi x3), some (vi x4), some (vr (some a5)), some (vi x6), none]) (st2 := [vr (some a5)]) rfl ?_
  refine R_null rfl (fun c_1 => nomatch c_1) (fun _ _ => ?_)
  refine R_ps 2 (pc2 := 33) (L2 := [some (vr (some w)), some (vr (some a1)), some (vi x2), some (vi x3), some (vi x4), some (vr (some a5)), some (vi x6), none]) (st2 := [vi 2, vi x6]) rfl ?_
  refine R_if rfl (fun c_2 => ?_) (fun c_2 => ?_)
  · have k := k.2 (i32_nlt c_2)
    refine R_ps 2 (pc2 := 5) (L2 := [some (vr (some w)), some (vr (some a1)), some (vi x2), some (vi x3), some (vi (x4 + 1)), some (vr (some a5)), some (vi x6), none]) (st2 := []) rfl ?_
    exact R_drop k (LE_of (L := [some (vr (some w)), some (vr (some a1)), some (vi x2), some (vi x3), some (vi (x4 + 1)), none, none, none]) (L2 := [some (vr (some w)), some (vr (some a1)), some (vi x2), some (vi x3), some (vi (x4 + 1)), some (vr (some a5)), some (vi x6), none]) ⟨rfl, rfl, rfl, rfl, rfl, trivial⟩)
  · have k := k.1 (i32_lt c_2)
    refine R_ps 1 (pc2 := 37) (L2 := [some (vr (some w)), some (vr (some a1)), some (vi x2), some (vi x3), some (vi x4), some (vr (some a5)), some (vi x6), none]) (st2 := [vi x2]) rfl ?_
    refine R_if0 rfl (fun c_3 => ?_) (fun c_3 => ?_)
    · have k := k.1 c_3
      refine R_ps 2 (pc2 := 52) (L2 := [some (vr (some w)), some (vr (some a1)), some (vi x2), some (vi x3), some (vi x4), some (vr (some a5)), some (vi x6), none]) (st2 := [vi x6, vr (some a5)]) rfl ?_
      refine R_cI (as := [vr (some a5), vi x6]) rfl rfl ⟨Nat.le_of_ble_eq_true rfl, Nat.le_of_ble_eq_true rfl, rfl, (Or.inr ⟨_, rfl, t0⟩)⟩ rfl rfl k (fun x_6 h_5 k => ?_)
      refine R_ps 4 (pc2 := 62) (L2 := [some (vr (some w)), some (vr (some a1)), some (vi x2), some (vi x3), some (vi x4), some (vr (some a5)), some (vi x6), some (vi x_6)]) (st2 := [vi x6, vr (some a5), vr (some w)]) rfl ?_
      refine R_cI (as := [vr (some a5), vi x6]) rfl rfl ⟨Nat.le_of_ble_eq_true rfl, Nat.le_of_ble_eq_true rfl, rfl, (Or.inr ⟨_, rfl, t0⟩)⟩ rfl rfl k (fun x_9 h_8 k => ?_)
      refine R_ps 3 (pc2 := 70) (L2 := [some (vr (some w)), some (vr (some a1)), some (vi x2), some (vi x3), some (vi x4), some (vr (some a5)), some (vi x6), some (vi x_6)]) (st2 := [vi x6, vr (some a5), vr (some w), vi x_9, vr (some w)]) rfl ?_
      refine R_cI (as := [vr (some a5), vi x6]) rfl rfl ⟨Nat.le_of_ble_eq_true rfl, Nat.le_of_ble_eq_true rfl, rfl, (Or.inr ⟨_, rfl, t0⟩)⟩ rfl rfl k (fun x_12 h_11 k => ?_)
      refine R_cI (as := [vr (some w), vi x_12]) rfl rfl ⟨Nat.le_of_ble_eq_true rfl, Nat.le_of_ble_eq_true rfl, rfl, (Or.inr ⟨_, rfl, t1⟩)⟩ rfl rfl k (fun x_15 h_14 k => ?_)
      refine R_ps 2 (pc2 := 79) (L2 := [some (vr (some w)), some (vr (some a1)), some (vi x2), some (vi x3), some (vi x4), some (vr (some a5)), some (vi x6), some (vi x_6)]) (st2 := [vi (x_15 + x_6), vi x_9, vr (some w)]) rfl ?_
      refine R_cI (as := [vr (some w), vi x_9, vi (x_15 + x_6)]) rfl rfl ⟨Nat.le_of_ble_eq_true rfl, Nat.le_of_ble_eq_true rfl, rfl, (Or.inr ⟨_, rfl, t1⟩)⟩ rfl rfl k (fun x_18 h_17 k => ?_)
      refine R_if0 rfl (fun c_19 => ?_) (fun c_19 => ?_)
      · have k := k.1 c_19
        refine R_ps 2 (pc2 := 25) (L2 := [some (vr (some w)), some (vr (some a1)), some (vi x2), some (vi x3), some (vi x4), some (vr (some a5)), some (vi (x6 + 1)), some (vi x_6)]) (st2 := []) rfl ?_
        exact R_drop k (LE_of (L := [some (vr (some w)), some (vr (some a1)), some (vi x2), some (vi x3), some (vi x4), some (vr (some a5)), some (vi (x6 + 1)), none]) (L2 := [some (vr (some w)), some (vr (some a1)), some (vi x2), some (vi x3), some (vi x4), some (vr (some a5)), some (vi (x6 + 1)), some (vi x_6)]) ⟨rfl, rfl, rfl, rfl, rfl, rfl, rfl, trivial⟩)
      · have k := k.2 c_19
        refine R_ps 4 (pc2 := 25) (L2 := [some (vr (some w)), some (vr (some a1)), some (vi x2), some (vi 1), some (vi x4), some (vr (some a5)), some (vi (x6 + 1)), some (vi x_6)]) (st2 := []) rfl ?_
        exact R_drop k (LE_of (L := [some (vr (some w)), some (vr (some a1)), some (vi x2), some (vi 1), some (vi x4), some (vr (some a5)), some (vi (x6 + 1)), none]) (L2 := [some (vr (some w)), some (vr (some a1)), some (vi x2), some (vi 1), some (vi x4), some (vr (some a5)), some (vi (x6 + 1)), some (vi x_6)]) ⟨rfl, rfl, rfl, rfl, rfl, rfl, rfl, trivial⟩)
    · have k := k.2 c_3
      refine R_ps 1 (pc2 := 42) (L2 := [some (vr (some w)), some (vr (some a1)), some (vi x2), some (vi x3), some (vi x4), some (vr (some a5)), some (vi x6), none]) (st2 := [vr (some a5)]) rfl ?_
      refine R_getI rfl t0 ?_
      refine R_ps 5 (pc2 := 62) (L2 := [some (vr (some w)), some (vr (some a1)), some (vi x2), some (vi x3), some (vi x4), some (vr (some a5)), some (vi x6), some (vi (gi h a5 2))]) (st2 := [vi x6, vr (some a5), vr (some w)]) rfl ?_
      refine R_cI (as := [vr (some a5), vi x6]) rfl rfl ⟨Nat.le_of_ble_eq_true rfl, Nat.le_of_ble_eq_true rfl, rfl, (Or.inr ⟨_, rfl, t0⟩)⟩ rfl rfl k (fun x_23 h_22 k => ?_)
      refine R_ps 3 (pc2 := 70) (L2 := [some (vr (some w)), some (vr (some a1)), some (vi x2), some (vi x3), some (vi x4), some (vr (some a5)), some (vi x6), some (vi (gi h a5 2))]) (st2 := [vi x6, vr (some a5), vr (some w), vi x_23, vr (some w)]) rfl ?_
      refine R_cI (as := [vr (some a5), vi x6]) rfl rfl ⟨Nat.le_of_ble_eq_true rfl, Nat.le_of_ble_eq_true rfl, rfl, (Or.inr ⟨_, rfl, t0⟩)⟩ rfl rfl k (fun x_26 h_25 k => ?_)
      refine R_cI (as := [vr (some w), vi x_26]) rfl rfl ⟨Nat.le_of_ble_eq_true rfl, Nat.le_of_ble_eq_true rfl, rfl, (Or.inr ⟨_, rfl, t1⟩)⟩ rfl rfl k (fun x_29 h_28 k => ?_)
      refine R_ps 2 (pc2 := 79) (L2 := [some (vr (some w)), some (vr (some a1)), some (vi x2), some (vi x3), some (vi x4), some (vr (some a5)), some (vi x6), some (vi (gi h a5 2))]) (st2 := [vi (x_29 + (gi h a5 2)), vi x_23, vr (some w)]) rfl ?_
      refine R_cI (as := [vr (some w), vi x_23, vi (x_29 + (gi h a5 2))]) rfl rfl ⟨Nat.le_of_ble_eq_true rfl, Nat.le_of_ble_eq_true rfl, rfl, (Or.inr ⟨_, rfl, t1⟩)⟩ rfl rfl k (fun x_32 h_31 k => ?_)
      refine R_if0 rfl (fun c_33 => ?_) (fun c_33 => ?_)
      · have k := k.1 c_33
        refine R_ps 2 (pc2 := 25) (L2 := [some (vr (some w)), some (vr (some a1)), some (vi x2), some (vi x3), some (vi x4), some (vr (some a5)), some (vi (x6 + 1)), some (vi (gi h a5 2))]) (st2 := []) rfl ?_
        exact R_drop k (LE_of (L := [some (vr (some w)), some (vr (some a1)), some (vi x2), some (vi x3), some (vi x4), some (vr (some a5)), some (vi (x6 + 1)), none]) (L2 := [some (vr (some w)), some (vr (some a1)), some (vi x2), some (vi x3), some (vi x4), some (vr (some a5)), some (vi (x6 + 1)), some (vi (gi h a5 2))]) ⟨rfl, rfl, rfl, rfl, rfl, rfl, rfl, trivial⟩)
      · have k := k.2 c_33
        refine R_ps 4 (pc2 := 25) (L2 := [some (vr (some w)), some (vr (some a1)), some (vi x2), some (vi 1), some (vi x4), some (vr (some a5)), some (vi (x6 + 1)), some (vi (gi h a5 2))]) (st2 := []) rfl ?_
        exact R_drop k (LE_of (L := [some (vr (some w)), some (vr (some a1)), some (vi x2), some (vi 1), some (vi x4), some (vr (some a5)), some (vi (x6 + 1)), none]) (L2 := [some (vr (some w)), some (vr (some a1)), some (vi x2), some (vi 1), some (vi x4), some (vr (some a5)), some (vi (x6 + 1)), some (vi (gi h a5 2))]) ⟨rfl, rfl, rfl, rfl, rfl, rfl, rfl, trivial⟩)
/-- DroneCorridors$Ways.shorten -/
theorem m81 {T N : Nat → Nat} {h : PH} {w : Nat} {x1 : Int32} {x2 : Int32} {K : Int32 → PH → Prop} (t0 : T w = 9) (k : (((x1 < 0 → (K 0 h)) ∧ (¬ (x1 < 0) → (∃ a_5, (gr h w 0) = some a_5 ∧ 21 ≤ T a_5 ∧ ((x1 < (Int32.ofNat (N a_5)) → (∃ a_12, (gr h w 0) = some a_12 ∧ T a_12 = 22 ∧ inb x1 (N a_12) ∧ ((x2 < (gi h a_12 (Int32.toNatClampNeg x1)) → (∃ a_19, (gr h w 0) = some a_19 ∧ T a_19 = 22 ∧ inb x1 (N a_19) ∧ ∀ h_21, h_21 = si h a_19 (Int32.toNatClampNeg x1) x2 → K 1 h_21)) ∧ (¬ (x2 < (gi h a_12 (Int32.toNatClampNeg x1))) → (K 0 h))))) ∧ (¬ (x1 < (Int32.ofNat (N a_5))) → (K 0 h)))))))) : CI T N 81 [vr (some w), vi x1, vi x2] h K := by
  show WP T N 81 0 [some (vr (some w)), some (vi x1), some (vi x2)] [] h _
  refine R_ps 1 (pc2 := 1) (L2 := [some (vr (some w)), some (vi x1), some (vi x2)]) (st2 := [vi x1]) rfl ?_
  refine R_if0 rfl (fun c_1 => ?_) (fun c_1 => ?_)
  · have k := k.1 c_1
    refine R_ps 1 (pc2 := 24) (L2 := [some (vr (some w)), some (vi x1), some (vi x2)]) (st2 := [vi 0]) rfl ?_
    exact R_zret rfl rfl (Or.inl rfl) ⟨_, rfl, k⟩
  · have k := k.2 c_1
    refine R_ps 2 (pc2 := 6) (L2 := [some (vr (some w)), some (vi x1), some (vi x2)]) (st2 := [vr (some w), vi x1]) rfl ?_
    refine R_getR rfl t0 ?_
    obtain ⟨a_5, e_6, k⟩ := k
    rw [e_6]
    obtain ⟨t_7, k⟩ := k
    refine R_alen rfl t_7 ?_
    refine R_if rfl (fun c_8 => ?_) (fun c_8 => ?_)
    · have k := k.2 (i32_nlt c_8)
      refine R_ps 1 (pc2 := 24) (L2 := [some (vr (some w)), some (vi x1), some (vi x2)]) (st2 := [vi 0]) rfl ?_
      exact R_zret rfl rfl (Or.inl rfl) ⟨_, rfl, k⟩
    · have k := k.1 (i32_lt c_8)
      refine R_ps 2 (pc2 := 15) (L2 := [some (vr (some w)), some (vi x1), some (vi x2)]) (st2 := [vr (some w), vi x2]) rfl ?_
      refine R_getR rfl t0 ?_
      refine R_ps 1 (pc2 := 19) (L2 := [some (vr (some w)), some (vi x1), some (vi x2)]) (st2 := [vi x1, vr (gr h w 0), vi x2]) rfl ?_
      obtain ⟨a_12, e_13, k⟩ := k
      rw [e_13]
      obtain ⟨t_14, k⟩ := k
      obtain ⟨t_15, k⟩ := k
      refine R_iald rfl (Or.inl t_14) t_15 ?_
      refine R_if rfl (fun c_16 => ?_) (fun c_16 => ?_)
      · have k := k.1 c_16
        refine R_ps 1 (pc2 := 26) (L2 := [some (vr (some w)), some (vi x1), some (vi x2)]) (st2 := [vr (some w)]) rfl ?_
        refine R_getR rfl t0 ?_
        refine R_ps 2 (pc2 := 31) (L2 := [some (vr (some w)), some (vi x1), some (vi x2)]) (st2 := [vi x2, vi x1, vr (gr h w 0)]) rfl ?_
        obtain ⟨a_19, e_20, k⟩ := k
        rw [e_20]
        obtain ⟨t_23, k⟩ := k
        obtain ⟨t_24, k⟩ := k
        refine R_iast rfl t_23 t_24  ?_
        show WP T N _ _ _ _ (si h a_19 (Int32.toNatClampNeg x1) x2) _
        generalize e_22 : si h a_19 (Int32.toNatClampNeg x1) x2 = h_21
        replace k := k h_21 e_22.symm
        refine R_ps 1 (pc2 := 33) (L2 := [some (vr (some w)), some (vi x1), some (vi x2)]) (st2 := [vi 1]) rfl ?_
        exact R_zret rfl rfl (Or.inr rfl) ⟨_, rfl, k⟩
      · have k := k.2 c_16
        refine R_ps 1 (pc2 := 24) (L2 := [some (vr (some w)), some (vi x1), some (vi x2)]) (st2 := [vi 0]) rfl ?_
        exact R_zret rfl rfl (Or.inl rfl) ⟨_, rfl, k⟩
/-- DroneCorridors$World.<init> -/
theorem m82 {T N : Nat → Nat} {h : PH} {w : Nat} {K : PH → Prop} (t0 : T w = 10) (k : ((T (nx h) = 32 ∧ 0 ≤ Int32.toInt 16 ∧ Int32.toInt 16 = N (nx h) ∧ N (nx h) ≤ 65536) ∧ ∀ a_3 h_4, a_3 = nx h → h_4 = grow h (N (nx h)) → ∀ h_9, h_9 = sr h_4 w 6 (some a_3) → (T (nx h_9) = 34 ∧ 0 ≤ Int32.toInt 10 ∧ Int32.toInt 10 = N (nx h_9) ∧ N (nx h_9) ≤ 65536) ∧ ∀ a_12 h_13, a_12 = nx h_9 → h_13 = grow h_9 (N (nx h_9)) → ∀ h_18, h_18 = sr h_13 w 7 (some a_12) → (T (nx h_18) = 33 ∧ 0 ≤ Int32.toInt 6 ∧ Int32.toInt 6 = N (nx h_18) ∧ N (nx h_18) ≤ 65536) ∧ ∀ a_21 h_22, a_21 = nx h_18 → h_22 = grow h_18 (N (nx h_18)) → ∀ h_27, h_27 = sr h_22 w 8 (some a_21) → WV T N 82 33 [some (vr (some w)), some (vi 0)] [] h_27 K)) : CV T N 82 [vr (some w)] h K := by
  show WP T N 82 0 [some (vr (some w)), none] [] h _
  refine R_ps 1 (pc2 := 1) (L2 := [some (vr (some w)), none]) (st2 := [vr (some w)]) rfl ?_
  refine R_jdk (st2 := []) rfl rfl rfl rfl rfl rfl rfl rfl ?_
  refine R_ps 2 (pc2 := 7) (L2 := [some (vr (some w)), none]) (st2 := [vi 16, vr (some w)]) rfl ?_
  obtain ⟨t_7, k⟩ := k
  refine R_anew rfl t_7 ?_
  generalize e_6 : grow h (N (nx h)) = h_4
  generalize e_5 : nx h = a_3
  replace k := k a_3 h_4 e_5.symm e_6.symm
  refine R_putR rfl t0 ?_
  show WP T N _ _ _ _ (sr h_4 w 6 (some a_3)) _
  generalize e_10 : sr h_4 w 6 (some a_3) = h_9
  replace k := k h_9 e_10.symm
  refine R_ps 2 (pc2 := 16) (L2 := [some (vr (some w)), none]) (st2 := [vi 10, vr (some w)]) rfl ?_
  obtain ⟨t_16, k⟩ := k
  refine R_anew rfl t_16 ?_
  generalize e_15 : grow h_9 (N (nx h_9)) = h_13
  generalize e_14 : nx h_9 = a_12
  replace k := k a_12 h_13 e_14.symm e_15.symm
  refine R_putR rfl t0 ?_
  show WP T N _ _ _ _ (sr h_13 w 7 (some a_12)) _
  generalize e_19 : sr h_13 w 7 (some a_12) = h_18
  replace k := k h_18 e_19.symm
  refine R_ps 2 (pc2 := 25) (L2 := [some (vr (some w)), none]) (st2 := [vi 6, vr (some w)]) rfl ?_
  obtain ⟨t_25, k⟩ := k
  refine R_anew rfl t_25 ?_
  generalize e_24 : grow h_18 (N (nx h_18)) = h_22
  generalize e_23 : nx h_18 = a_21
  replace k := k a_21 h_22 e_23.symm e_24.symm
  refine R_putR rfl t0 ?_
  show WP T N _ _ _ _ (sr h_22 w 8 (some a_21)) _
  generalize e_28 : sr h_22 w 8 (some a_21) = h_27
  replace k := k h_27 e_28.symm
  refine R_ps 2 (pc2 := 33) (L2 := [some (vr (some w)), some (vi 0)]) (st2 := []) rfl ?_
  exact k
theorem m82_33 {T N : Nat → Nat} {h : PH} {w : Nat} {x1 : Int32} {K : PH → Prop} (t0 : T w = 10) (k : (∃ a_3, (gr h w 6) = some a_3 ∧ 21 ≤ T a_3 ∧ ((x1 < (Int32.ofNat (N a_3)) → (T (nx h) = 2 ∧ ∀ a_9 h_10, a_9 = nx h → h_10 = grow h 4 → CV T N 9 [vr (some a_9)] h_10 (fun h_15 => (∃ a_18, (gr h w 6) = some a_18 ∧ (1 ≤ T a_9 ∧ T a_9 ≤ 12 ∧ T a_9 + 30 = T a_18) ∧ inb x1 (N a_18) ∧ ∀ h_20, h_20 = sr h_15 a_18 (Int32.toNatClampNeg x1) (some a_9) → WV T N 82 33 [some (vr (some w)), some (vi (x1 + 1))] [] h_20 K)))) ∧ (¬ (x1 < (Int32.ofNat (N a_3))) → (WV T N 82 63 [some (vr (some w)), some (vi 0)] [] h K))))) : WV T N 82 33 [some (vr (some w)), some (vi x1)] [] h K := by
  show WP T N 82 33 [some (vr (some w)), some (vi x1)] [] h _
  refine R_ps 2 (pc2 := 35) (L2 := [some (vr (some w)), some (vi x1)]) (st2 := [vr (some w), vi x1]) rfl ?_
  refine R_getR rfl t0 ?_
  obtain ⟨a_3, e_4, k⟩ := k
  rw [e_4]
  obtain ⟨t_5, k⟩ := k
  refine R_alen rfl t_5 ?_
  refine R_if rfl (fun c_6 => ?_) (fun c_6 => ?_)
  · have k := k.2 (i32_nlt c_6)
    refine R_ps 2 (pc2 := 63) (L2 := [some (vr (some w)), some (vi 0)]) (st2 := []) rfl ?_
    exact k
  · have k := k.1 (i32_lt c_6)
    refine R_ps 1 (pc2 := 43) (L2 := [some (vr (some w)), some (vi x1)]) (st2 := [vr (some w)]) rfl ?_
    refine R_getR rfl t0 ?_
    refine R_ps 1 (pc2 := 47) (L2 := [some (vr (some w)), some (vi x1)]) (st2 := [vi x1, vr (gr h w 6)]) rfl ?_
    obtain ⟨t_13, k⟩ := k
    refine R_new rfl ⟨by decide, t_13⟩ ?_
    show WP T N _ _ _ _ (grow h 4) _
    generalize e_11 : nx h = a_9
    generalize e_12 : grow h 4 = h_10
    replace k := k a_9 h_10 e_11.symm e_12.symm
    refine R_ps 1 (pc2 := 51) (L2 := [some (vr (some w)), some (vi x1)]) (st2 := [vr (some a_9), vr (some a_9), vi x1, vr (gr h w 6)]) rfl ?_
    refine R_cV (as := [vr (some a_9)]) rfl rfl ⟨Nat.le_of_ble_eq_true rfl, Nat.le_of_ble_eq_true rfl, rfl, (Or.inr ⟨_, rfl, (e_11 ▸ t_13)⟩)⟩ rfl rfl k (fun h_15 k => ?_)
    obtain ⟨a_18, e_19, k⟩ := k
    rw [e_19]
    obtain ⟨t_22, k⟩ := k
    obtain ⟨t_23, k⟩ := k
    refine R_aast rfl t_22 t_23  ?_
    show WP T N _ _ _ _ (sr h_15 a_18 (Int32.toNatClampNeg x1) (some a_9)) _
    generalize e_21 : sr h_15 a_18 (Int32.toNatClampNeg x1) (some a_9) = h_20
    replace k := k h_20 e_21.symm
    refine R_ps 2 (pc2 := 33) (L2 := [some (vr (some w)), some (vi (x1 + 1))]) (st2 := []) rfl ?_
    exact k
theorem m82_63 {T N : Nat → Nat} {h : PH} {w : Nat} {x1 : Int32} {K : PH → Prop} (t0 : T w = 10) (k : (∃ a_3, (gr h w 7) = some a_3 ∧ 21 ≤ T a_3 ∧ ((x1 < (Int32.ofNat (N a_3)) → (T (nx h) = 4 ∧ ∀ a_9 h_10, a_9 = nx h → h_10 = grow h 4 → CV T N 36 [vr (some a_9)] h_10 (fun h_15 => (∃ a_18, (gr h w 7) = some a_18 ∧ (1 ≤ T a_9 ∧ T a_9 ≤ 12 ∧ T a_9 + 30 = T a_18) ∧ inb x1 (N a_18) ∧ ∀ h_20, h_20 = sr h_15 a_18 (Int32.toNatClampNeg x1) (some a_9) → WV T N 82 63 [some (vr (some w)), some (vi (x1 + 1))] [] h_20 K)))) ∧ (¬ (x1 < (Int32.ofNat (N a_3))) → (WV T N 82 93 [some (vr (some w)), some (vi 0)] [] h K))))) : WV T N 82 63 [some (vr (some w)), some (vi x1)] [] h K := by
  show WP T N 82 63 [some (vr (some w)), some (vi x1)] [] h _
  refine R_ps 2 (pc2 := 65) (L2 := [some (vr (some w)), some (vi x1)]) (st2 := [vr (some w), vi x1]) rfl ?_
  refine R_getR rfl t0 ?_
  obtain ⟨a_3, e_4, k⟩ := k
  rw [e_4]
  obtain ⟨t_5, k⟩ := k
  refine R_alen rfl t_5 ?_
  refine R_if rfl (fun c_6 => ?_) (fun c_6 => ?_)
  · have k := k.2 (i32_nlt c_6)
    refine R_ps 2 (pc2 := 93) (L2 := [some (vr (some w)), some (vi 0)]) (st2 := []) rfl ?_
    exact k
  · have k := k.1 (i32_lt c_6)
    refine R_ps 1 (pc2 := 73) (L2 := [some (vr (some w)), some (vi x1)]) (st2 := [vr (some w)]) rfl ?_
    refine R_getR rfl t0 ?_
    refine R_ps 1 (pc2 := 77) (L2 := [some (vr (some w)), some (vi x1)]) (st2 := [vi x1, vr (gr h w 7)]) rfl ?_
    obtain ⟨t_13, k⟩ := k
    refine R_new rfl ⟨by decide, t_13⟩ ?_
    show WP T N _ _ _ _ (grow h 4) _
    generalize e_11 : nx h = a_9
    generalize e_12 : grow h 4 = h_10
    replace k := k a_9 h_10 e_11.symm e_12.symm
    refine R_ps 1 (pc2 := 81) (L2 := [some (vr (some w)), some (vi x1)]) (st2 := [vr (some a_9), vr (some a_9), vi x1, vr (gr h w 7)]) rfl ?_
    refine R_cV (as := [vr (some a_9)]) rfl rfl ⟨Nat.le_of_ble_eq_true rfl, Nat.le_of_ble_eq_true rfl, rfl, (Or.inr ⟨_, rfl, (e_11 ▸ t_13)⟩)⟩ rfl rfl k (fun h_15 k => ?_)
    obtain ⟨a_18, e_19, k⟩ := k
    rw [e_19]
    obtain ⟨t_22, k⟩ := k
    obtain ⟨t_23, k⟩ := k
    refine R_aast rfl t_22 t_23  ?_
    show WP T N _ _ _ _ (sr h_15 a_18 (Int32.toNatClampNeg x1) (some a_9)) _
    generalize e_21 : sr h_15 a_18 (Int32.toNatClampNeg x1) (some a_9) = h_20
    replace k := k h_20 e_21.symm
    refine R_ps 2 (pc2 := 63) (L2 := [some (vr (some w)), some (vi (x1 + 1))]) (st2 := []) rfl ?_
    exact k
theorem m82_93 {T N : Nat → Nat} {h : PH} {w : Nat} {x1 : Int32} {K : PH → Prop} (t0 : T w = 10) (k : (∃ a_3, (gr h w 8) = some a_3 ∧ 21 ≤ T a_3 ∧ ((x1 < (Int32.ofNat (N a_3)) → (T (nx h) = 3 ∧ ∀ a_10 h_11, a_10 = nx h → h_11 = grow h 10 → CV T N 14 [vr (some a_10)] h_11 (fun h_16 => (∃ a_19, (gr h w 8) = some a_19 ∧ (1 ≤ T a_10 ∧ T a_10 ≤ 12 ∧ T a_10 + 30 = T a_19) ∧ inb x1 (N a_19) ∧ ∀ h_21, h_21 = sr h_16 a_19 (Int32.toNatClampNeg x1) (some a_10) → WV T N 82 93 [some (vr (some w)), some (vi (x1 + 1))] [] h_21 K)))) ∧ (¬ (x1 < (Int32.ofNat (N a_3))) → (K h))))) : WV T N 82 93 [some (vr (some w)), some (vi x1)] [] h K := by
  show WP T N 82 93 [some (vr (some w)), some (vi x1)] [] h _
  refine R_ps 2 (pc2 := 95) (L2 := [some (vr (some w)), some (vi x1)]) (st2 := [vr (some w), vi x1]) rfl ?_
  refine R_getR rfl t0 ?_
  obtain ⟨a_3, e_4, k⟩ := k
  rw [e_4]
  obtain ⟨t_5, k⟩ := k
  refine R_alen rfl t_5 ?_
  refine R_if rfl (fun c_6 => ?_) (fun c_6 => ?_)
  · have k := k.2 (i32_nlt c_6)
    exact R_ret rfl rfl ⟨rfl, k⟩
  · have k := k.1 (i32_lt c_6)
    refine R_ps 1 (pc2 := 103) (L2 := [some (vr (some w)), some (vi x1)]) (st2 := [vr (some w)]) rfl ?_
    refine R_getR rfl t0 ?_
    refine R_ps 1 (pc2 := 107) (L2 := [some (vr (some w)), some (vi x1)]) (st2 := [vi x1, vr (gr h w 8)]) rfl ?_
    obtain ⟨t_14, k⟩ := k
    refine R_new rfl ⟨by decide, t_14⟩ ?_
    show WP T N _ _ _ _ (grow h 10) _
    generalize e_12 : nx h = a_10
    generalize e_13 : grow h 10 = h_11
    replace k := k a_10 h_11 e_12.symm e_13.symm
    refine R_ps 1 (pc2 := 111) (L2 := [some (vr (some w)), some (vi x1)]) (st2 := [vr (some a_10), vr (some a_10), vi x1, vr (gr h w 8)]) rfl ?_
    refine R_cV (as := [vr (some a_10)]) rfl rfl ⟨Nat.le_of_ble_eq_true rfl, Nat.le_of_ble_eq_true rfl, rfl, (Or.inr ⟨_, rfl, (e_12 ▸ t_14)⟩)⟩ rfl rfl k (fun h_16 k => ?_)
    obtain ⟨a_19, e_20, k⟩ := k
    rw [e_20]
    obtain ⟨t_23, k⟩ := k
    obtain ⟨t_24, k⟩ := k
    refine R_aast rfl t_23 t_24  ?_
    show WP T N _ _ _ _ (sr h_16 a_19 (Int32.toNatClampNeg x1) (some a_10)) _
    generalize e_22 : sr h_16 a_19 (Int32.toNatClampNeg x1) (some a_10) = h_21
    replace k := k h_21 e_22.symm
    refine R_ps 2 (pc2 := 93) (L2 := [some (vr (some w)), some (vi (x1 + 1))]) (st2 := []) rfl ?_
    exact k
/-- DroneCorridors$World.empty -/
theorem m83 {T N : Nat → Nat} {h : PH} {w : Nat} {K : PH → Prop} (t0 : T w = 10) (k : (∀ h_2, h_2 = si h w 0 0 → ∀ h_5, h_5 = si h_2 w 1 0 → ∀ h_8, h_8 = si h_5 w 2 0 → ∀ h_11, h_11 = si h_8 w 3 0 → ∀ h_14, h_14 = si h_11 w 4 0 → ∀ h_17, h_17 = si h_14 w 5 0 → K h_17)) : CV T N 83 [vr (some w)] h K := by
  show WP T N 83 0 [some (vr (some w))] [] h _
  refine R_ps 2 (pc2 := 2) (L2 := [some (vr (some w))]) (st2 := [vi 0, vr (some w)]) rfl ?_
  refine R_putI rfl t0 ?_
  show WP T N _ _ _ _ (si h w 0 0) _
  generalize e_3 : si h w 0 0 = h_2
  replace k := k h_2 e_3.symm
  refine R_ps 2 (pc2 := 7) (L2 := [some (vr (some w))]) (st2 := [vi 0, vr (some w)]) rfl ?_
  refine R_putI rfl t0 ?_
  show WP T N _ _ _ _ (si h_2 w 1 0) _
  generalize e_6 : si h_2 w 1 0 = h_5
  replace k := k h_5 e_6.symm
  refine R_ps 2 (pc2 := 12) (L2 := [some (vr (some w))]) (st2 := [vi 0, vr (some w)]) rfl ?_
  refine R_putI rfl t0 ?_
  show WP T N _ _ _ _ (si h_5 w 2 0) _
  generalize e_9 : si h_5 w 2 0 = h_8
  replace k := k h_8 e_9.symm
  refine R_ps 2 (pc2 := 17) (L2 := [some (vr (some w))]) (st2 := [vi 0, vr (some w)]) rfl ?_
  refine R_putI rfl t0 ?_
  show WP T N _ _ _ _ (si h_8 w 3 0) _
  generalize e_12 : si h_8 w 3 0 = h_11
  replace k := k h_11 e_12.symm
  refine R_ps 2 (pc2 := 22) (L2 := [some (vr (some w))]) (st2 := [vi 0, vr (some w)]) rfl ?_
  refine R_putI rfl t0 ?_
  show WP T N _ _ _ _ (si h_11 w 4 0) _
  generalize e_15 : si h_11 w 4 0 = h_14
  replace k := k h_14 e_15.symm
  refine R_ps 2 (pc2 := 27) (L2 := [some (vr (some w))]) (st2 := [vi 0, vr (some w)]) rfl ?_
  refine R_putI rfl t0 ?_
  show WP T N _ _ _ _ (si h_14 w 5 0) _
  generalize e_18 : si h_14 w 5 0 = h_17
  replace k := k h_17 e_18.symm
  exact R_ret rfl rfl ⟨rfl, k⟩
/-- DroneCorridors$World.copy -/
theorem m84 {T N : Nat → Nat} {h : PH} {w : Nat} {a1 : Nat} {K : PH → Prop} (t0 : T a1 = 10) (t1 : T w = 10) (k : (∀ h_3, h_3 = si h w 0 (gi h a1 0) → ∀ h_7, h_7 = si h_3 w 1 (gi h_3 a1 1) → ∀ h_11, h_11 = si h_7 w 2 (gi h_7 a1 2) → CV T N 85 [vr (some w), vr (some a1)] h_11 (fun h_14 => (CV T N 86 [vr (some w), vr (some a1)] h_14 (fun h_17 => (CV T N 87 [vr (some w), vr (some a1)] h_17 (fun h_20 => (K h_20)))))))) : CV T N 84 [vr (some w), vr (some a1)] h K := by
  show WP T N 84 0 [some (vr (some w)), some (vr (some a1))] [] h _
  refine R_ps 2 (pc2 := 2) (L2 := [some (vr (some w)), some (vr (some a1))]) (st2 := [vr (some a1), vr (some w)]) rfl ?_
  refine R_getI rfl t0 ?_
  refine R_putI rfl t1 ?_
  show WP T N _ _ _ _ (si h w 0 (gi h a1 0)) _
  generalize e_4 : si h w 0 (gi h a1 0) = h_3
  replace k := k h_3 e_4.symm
  refine R_ps 2 (pc2 := 10) (L2 := [some (vr (some w)), some (vr (some a1))]) (st2 := [vr (some a1), vr (some w)]) rfl ?_
  refine R_getI rfl t0 ?_
  refine R_putI rfl t1 ?_
  show WP T N _ _ _ _ (si h_3 w 1 (gi h_3 a1 1)) _
  generalize e_8 : si h_3 w 1 (gi h_3 a1 1) = h_7
  replace k := k h_7 e_8.symm
  refine R_ps 2 (pc2 := 18) (L2 := [some (vr (some w)), some (vr (some a1))]) (st2 := [vr (some a1), vr (some w)]) rfl ?_
  refine R_getI rfl t0 ?_
  refine R_putI rfl t1 ?_
  show WP T N _ _ _ _ (si h_7 w 2 (gi h_7 a1 2)) _
  generalize e_12 : si h_7 w 2 (gi h_7 a1 2) = h_11
  replace k := k h_11 e_12.symm
  refine R_ps 2 (pc2 := 26) (L2 := [some (vr (some w)), some (vr (some a1))]) (st2 := [vr (some a1), vr (some w)]) rfl ?_
  refine R_cV (as := [vr (some w), vr (some a1)]) rfl rfl ⟨Nat.le_of_ble_eq_true rfl, Nat.le_of_ble_eq_true rfl, rfl, (Or.inr ⟨_, rfl, t1⟩)⟩ rfl rfl k (fun h_14 k => ?_)
  refine R_ps 2 (pc2 := 31) (L2 := [some (vr (some w)), some (vr (some a1))]) (st2 := [vr (some a1), vr (some w)]) rfl ?_
  refine R_cV (as := [vr (some w), vr (some a1)]) rfl rfl ⟨Nat.le_of_ble_eq_true rfl, Nat.le_of_ble_eq_true rfl, rfl, (Or.inr ⟨_, rfl, t1⟩)⟩ rfl rfl k (fun h_17 k => ?_)
  refine R_ps 2 (pc2 := 36) (L2 := [some (vr (some w)), some (vr (some a1))]) (st2 := [vr (some a1), vr (some w)]) rfl ?_
  refine R_cV (as := [vr (some w), vr (some a1)]) rfl rfl ⟨Nat.le_of_ble_eq_true rfl, Nat.le_of_ble_eq_true rfl, rfl, (Or.inr ⟨_, rfl, t1⟩)⟩ rfl rfl k (fun h_20 k => ?_)
  exact R_ret rfl rfl ⟨rfl, k⟩
/-- DroneCorridors$World.copyCorridors -/
theorem m85 {T N : Nat → Nat} {h : PH} {w : Nat} {a1 : Nat} {K : PH → Prop} (t0 : T a1 = 10) (t1 : T w = 10) (k : (∀ h_3, h_3 = si h w 3 (gi h a1 3) → WV T N 85 10 [some (vr (some w)), some (vr (some a1)), some (vi 0), none, none] [] h_3 K)) : CV T N 85 [vr (some w), vr (some a1)] h K := by
  show WP T N 85 0 [some (vr (some w)), some (vr (some a1)), none, none, none] [] h _
  refine R_ps 2 (pc2 := 2) (L2 := [some (vr (some w)), some (vr (some a1)), none, none, none]) (st2 := [vr (some a1), vr (some w)]) rfl ?_
  refine R_getI rfl t0 ?_
  refine R_putI rfl t1 ?_
  show WP T N _ _ _ _ (si h w 3 (gi h a1 3)) _
  generalize e_4 : si h w 3 (gi h a1 3) = h_3
  replace k := k h_3 e_4.symm
  refine R_ps 2 (pc2 := 10) (L2 := [some (vr (some w)), some (vr (some a1)), some (vi 0), none, none]) (st2 := []) rfl ?_
  exact k
theorem m85_10 {T N : Nat → Nat} {h : PH} {w : Nat} {a1 : Nat} {x2 : Int32} {K : PH → Prop} (t0 : T w = 10) (t1 : T a1 = 10) (k : (((x2 < (gi h w 3) → (CR T N 89 [vr (some w), vi x2] h (fun x_6 h_5 => (CR T N 89 [vr (some a1), vi x2] h_5 (fun x_9 h_8 => (((x_6 = none → (WV T N 85 10 [some (vr (some w)), some (vr (some a1)), some (vi (x2 + 1)), none, none] [] h_8 K)) ∧ (∀ a_11, x_6 = some a_11 → (((x_9 = none → (WV T N 85 10 [some (vr (some w)), some (vr (some a1)), some (vi (x2 + 1)), none, none] [] h_8 K)) ∧ (∀ a_14, x_9 = some a_14 → (T a_11 = 2 ∧ CV T N 13 [vr (some a_11), vr (some a_14)] h_8 (fun h_18 => (WV T N 85 10 [some (vr (some w)), some (vr (some a1)), some (vi (x2 + 1)), none, none] [] h_18 K)))))))))))))) ∧ (¬ (x2 < (gi h w 3)) → (K h))))) : WV T N 85 10 [some (vr (some w)), some (vr (some a1)), some (vi x2), none, none] [] h K := by
  show WP T N 85 10 [some (vr (some w)), some (vr (some a1)), some (vi x2), none, none] [] h _
  refine R_ps 2 (pc2 := 12) (L2 := [some (vr (some w)), some (vr (some a1)), some (vi x2), none, none]) (st2 := [vr (some w), vi x2]) rfl ?_
  refine R_getI rfl t0 ?_
  refine R_if rfl (fun c_2 => ?_) (fun c_2 => ?_)
  · have k := k.2 (i32_nlt c_2)
    exact R_ret rfl rfl ⟨rfl, k⟩
  · have k := k.1 (i32_lt c_2)
    refine R_ps 2 (pc2 := 20) (L2 := [some (vr (some w)), some (vr (some a1)), some (vi x2), none, none]) (st2 := [vi x2, vr (some w)]) rfl ?_
    refine R_cR (as := [vr (some w), vi x2]) rfl rfl ⟨Nat.le_of_ble_eq_true rfl, Nat.le_of_ble_eq_true rfl, rfl, (Or.inr ⟨_, rfl, t0⟩)⟩ rfl rfl k (fun x_6 h_5 k => ?_)
    refine R_ps 3 (pc2 := 26) (L2 := [some (vr (some w)), some (vr (some a1)), some (vi x2), some (vr x_6), none]) (st2 := [vi x2, vr (some a1)]) rfl ?_
    refine R_cR (as := [vr (some a1), vi x2]) rfl rfl ⟨Nat.le_of_ble_eq_true rfl, Nat.le_of_ble_eq_true rfl, rfl, (Or.inr ⟨_, rfl, t1⟩)⟩ rfl rfl k (fun x_9 h_8 k => ?_)
    refine R_ps 2 (pc2 := 32) (L2 := [some (vr (some w)), some (vr (some a1)), some (vi x2), some (vr x_6), some (vr x_9)]) (st2 := [vr x_6]) rfl ?_
    rcases null_or (x_6) with e_12 | ⟨a_11, e_12⟩
    · have k := k.1 e_12
      rw [e_12]
      refine R_null rfl (fun _ => ?_) (fun _ c_10 => nomatch c_10)
      refine R_ps 2 (pc2 := 10) (L2 := [some (vr (some w)), some (vr (some a1)), some (vi (x2 + 1)), some (vr none), some (vr x_9)]) (st2 := []) rfl ?_
      exact R_drop k (LE_of (L := [some (vr (some w)), some (vr (some a1)), some (vi (x2 + 1)), none, none]) (L2 := [some (vr (some w)), some (vr (some a1)), some (vi (x2 + 1)), some (vr none), some (vr x_9)]) ⟨rfl, rfl, rfl, trivial⟩)
    · have k := k.2 a_11 e_12
      rw [e_12]
      refine R_null rfl (fun c_10 => nomatch c_10) (fun _ _ => ?_)
      refine R_ps 1 (pc2 := 37) (L2 := [some (vr (some w)), some (vr (some a1)), some (vi x2), some (vr (some a_11)), some (vr x_9)]) (st2 := [vr x_9]) rfl ?_
      rcases null_or (x_9) with e_15 | ⟨a_14, e_15⟩
      · have k := k.1 e_15
        rw [e_15]
        refine R_null rfl (fun _ => ?_) (fun _ c_13 => nomatch c_13)
        refine R_ps 2 (pc2 := 10) (L2 := [some (vr (some w)), some (vr (some a1)), some (vi (x2 + 1)), some (vr (some a_11)), some (vr none)]) (st2 := []) rfl ?_
        exact R_drop k (LE_of (L := [some (vr (some w)), some (vr (some a1)), some (vi (x2 + 1)), none, none]) (L2 := [some (vr (some w)), some (vr (some a1)), some (vi (x2 + 1)), some (vr (some a_11)), some (vr none)]) ⟨rfl, rfl, rfl, trivial⟩)
      · have k := k.2 a_14 e_15
        rw [e_15]
        refine R_null rfl (fun c_13 => nomatch c_13) (fun _ _ => ?_)
        refine R_ps 2 (pc2 := 43) (L2 := [some (vr (some w)), some (vr (some a1)), some (vi x2), some (vr (some a_11)), some (vr (some a_14))]) (st2 := [vr (some a_14), vr (some a_11)]) rfl ?_
        obtain ⟨t_17, k⟩ := k
        refine R_cV (as := [vr (some a_11), vr (some a_14)]) rfl rfl ⟨Nat.le_of_ble_eq_true rfl, Nat.le_of_ble_eq_true rfl, rfl, (Or.inr ⟨_, rfl, t_17⟩)⟩ rfl rfl k (fun h_18 k => ?_)
        refine R_ps 2 (pc2 := 10) (L2 := [some (vr (some w)), some (vr (some a1)), some (vi (x2 + 1)), some (vr (some a_11)), some (vr (some a_14))]) (st2 := []) rfl ?_
        exact R_drop k (LE_of (L := [some (vr (some w)), some (vr (some a1)), some (vi (x2 + 1)), none, none]) (L2 := [some (vr (some w)), some (vr (some a1)), some (vi (x2 + 1)), some (vr (some a_11)), some (vr (some a_14))]) ⟨rfl, rfl, rfl, trivial⟩)
/-- DroneCorridors$World.copyFences -/
theorem m86 {T N : Nat → Nat} {h : PH} {w : Nat} {a1 : Nat} {K : PH → Prop} (t0 : T a1 = 10) (t1 : T w = 10) (k : (∀ h_3, h_3 = si h w 4 (gi h a1 4) → WV T N 86 10 [some (vr (some w)), some (vr (some a1)), some (vi 0), none, none] [] h_3 K)) : CV T N 86 [vr (some w), vr (some a1)] h K := by
  show WP T N 86 0 [some (vr (some w)), some (vr (some a1)), none, none, none] [] h _
  refine R_ps 2 (pc2 := 2) (L2 := [some (vr (some w)), some (vr (some a1)), none, none, none]) (st2 := [vr (some a1), vr (some w)]) rfl ?_
  refine R_getI rfl t0 ?_
  refine R_putI rfl t1 ?_
  show WP T N _ _ _ _ (si h w 4 (gi h a1 4)) _
  generalize e_4 : si h w 4 (gi h a1 4) = h_3
  replace k := k h_3 e_4.symm
  refine R_ps 2 (pc2 := 10) (L2 := [some (vr (some w)), some (vr (some a1)), some (vi 0), none, none]) (st2 := []) rfl ?_
  exact k
theorem m86_10 {T N : Nat → Nat} {h : PH} {w : Nat} {a1 : Nat} {x2 : Int32} {K : PH → Prop} (t0 : T w = 10) (t1 : T a1 = 10) (k : (((x2 < (gi h w 4) → (CR T N 90 [vr (some w), vi x2] h (fun x_6 h_5 => (CR T N 90 [vr (some a1), vi x2] h_5 (fun x_9 h_8 => (((x_6 = none → (WV T N 86 10 [some (vr (some w)), some (vr (some a1)), some (vi (x2 + 1)), none, none] [] h_8 K)) ∧ (∀ a_11, x_6 = some a_11 → (((x_9 = none → (WV T N 86 10 [some (vr (some w)), some (vr (some a1)), some (vi (x2 + 1)), none, none] [] h_8 K)) ∧ (∀ a_14, x_9 = some a_14 → (T a_11 = 4 ∧ CV T N 38 [vr (some a_11), vr (some a_14)] h_8 (fun h_18 => (WV T N 86 10 [some (vr (some w)), some (vr (some a1)), some (vi (x2 + 1)), none, none] [] h_18 K)))))))))))))) ∧ (¬ (x2 < (gi h w 4)) → (K h))))) : WV T N 86 10 [some (vr (some w)), some (vr (some a1)), some (vi x2), none, none] [] h K := by
  show WP T N 86 10 [some (vr (some w)), some (vr (some a1)), some (vi x2), none, none] [] h _
  refine R_ps 2 (pc2 := 12) (L2 := [some (vr (some w)), some (vr (some a1)), some (vi x2), none, none]) (st2 := [vr (some w), vi x2]) rfl ?_
  refine R_getI rfl t0 ?_
  refine R_if rfl (fun c_2 => ?_) (fun c_2 => ?_)
  · have k := k.2 (i32_nlt c_2)
    exact R_ret rfl rfl ⟨rfl, k⟩
  · have k := k.1 (i32_lt c_2)
    refine R_ps 2 (pc2 := 20) (L2 := [some (vr (some w)), some (vr (some a1)), some (vi x2), none, none]) (st2 := [vi x2, vr (some w)]) rfl ?_
    refine R_cR (as := [vr (some w), vi x2]) rfl rfl ⟨Nat.le_of_ble_eq_true rfl, Nat.le_of_ble_eq_true rfl, rfl, (Or.inr ⟨_, rfl, t0⟩)⟩ rfl rfl k (fun x_6 h_5 k => ?_)
    refine R_ps 3 (pc2 := 26) (L2 := [some (vr (some w)), some (vr (some a1)), some (vi x2), some (vr x_6), none]) (st2 := [vi x2, vr (some a1)]) rfl ?_
    refine R_cR (as := [vr (some a1), vi x2]) rfl rfl ⟨Nat.le_of_ble_eq_true rfl, Nat.le_of_ble_eq_true rfl, rfl, (Or.inr ⟨_, rfl, t1⟩)⟩ rfl rfl k (fun x_9 h_8 k => ?_)
    refine R_ps 2 (pc2 := 32) (L2 := [some (vr (some w)), some (vr (some a1)), some (vi x2), some (vr x_6), some (vr x_9)]) (st2 := [vr x_6]) rfl ?_
    rcases null_or (x_6) with e_12 | ⟨a_11, e_12⟩
    · have k := k.1 e_12
      rw [e_12]
      refine R_null rfl (fun _ => ?_) (fun _ c_10 => nomatch c_10)
      refine R_ps 2 (pc2 := 10) (L2 := [some (vr (some w)), some (vr (some a1)), some (vi (x2 + 1)), some (vr none), some (vr x_9)]) (st2 := []) rfl ?_
      exact R_drop k (LE_of (L := [some (vr (some w)), some (vr (some a1)), some (vi (x2 + 1)), none, none]) (L2 := [some (vr (some w)), some (vr (some a1)), some (vi (x2 + 1)), some (vr none), some (vr x_9)]) ⟨rfl, rfl, rfl, trivial⟩)
    · have k := k.2 a_11 e_12
      rw [e_12]
      refine R_null rfl (fun c_10 => nomatch c_10) (fun _ _ => ?_)
      refine R_ps 1 (pc2 := 37) (L2 := [some (vr (some w)), some (vr (some a1)), some (vi x2), some (vr (some a_11)), some (vr x_9)]) (st2 := [vr x_9]) rfl ?_
      rcases null_or (x_9) with e_15 | ⟨a_14, e_15⟩
      · have k := k.1 e_15
        rw [e_15]
        refine R_null rfl (fun _ => ?_) (fun _ c_13 => nomatch c_13)
        refine R_ps 2 (pc2 := 10) (L2 := [some (vr (some w)), some (vr (some a1)), some (vi (x2 + 1)), some (vr (some a_11)), some (vr none)]) (st2 := []) rfl ?_
        exact R_drop k (LE_of (L := [some (vr (some w)), some (vr (some a1)), some (vi (x2 + 1)), none, none]) (L2 := [some (vr (some w)), some (vr (some a1)), some (vi (x2 + 1)), some (vr (some a_11)), some (vr none)]) ⟨rfl, rfl, rfl, trivial⟩)
      · have k := k.2 a_14 e_15
        rw [e_15]
        refine R_null rfl (fun c_13 => nomatch c_13) (fun _ _ => ?_)
        refine R_ps 2 (pc2 := 43) (L2 := [some (vr (some w)), some (vr (some a1)), some (vi x2), some (vr (some a_11)), some (vr (some a_14))]) (st2 := [vr (some a_14), vr (some a_11)]) rfl ?_
        obtain ⟨t_17, k⟩ := k
        refine R_cV (as := [vr (some a_11), vr (some a_14)]) rfl rfl ⟨Nat.le_of_ble_eq_true rfl, Nat.le_of_ble_eq_true rfl, rfl, (Or.inr ⟨_, rfl, t_17⟩)⟩ rfl rfl k (fun h_18 k => ?_)
        refine R_ps 2 (pc2 := 10) (L2 := [some (vr (some w)), some (vr (some a1)), some (vi (x2 + 1)), some (vr (some a_11)), some (vr (some a_14))]) (st2 := []) rfl ?_
        exact R_drop k (LE_of (L := [some (vr (some w)), some (vr (some a1)), some (vi (x2 + 1)), none, none]) (L2 := [some (vr (some w)), some (vr (some a1)), some (vi (x2 + 1)), some (vr (some a_11)), some (vr (some a_14))]) ⟨rfl, rfl, rfl, trivial⟩)
/-- DroneCorridors$World.copyDrones -/
theorem m87 {T N : Nat → Nat} {h : PH} {w : Nat} {a1 : Nat} {K : PH → Prop} (t0 : T a1 = 10) (t1 : T w = 10) (k : (∀ h_3, h_3 = si h w 5 (gi h a1 5) → WV T N 87 10 [some (vr (some w)), some (vr (some a1)), some (vi 0), none, none] [] h_3 K)) : CV T N 87 [vr (some w), vr (some a1)] h K := by
  show WP T N 87 0 [some (vr (some w)), some (vr (some a1)), none, none, none] [] h _
  refine R_ps 2 (pc2 := 2) (L2 := [some (vr (some w)), some (vr (some a1)), none, none, none]) (st2 := [vr (some a1), vr (some w)]) rfl ?_
  refine R_getI rfl t0 ?_
  refine R_putI rfl t1 ?_
  show WP T N _ _ _ _ (si h w 5 (gi h a1 5)) _
  generalize e_4 : si h w 5 (gi h a1 5) = h_3
  replace k := k h_3 e_4.symm
  refine R_ps 2 (pc2 := 10) (L2 := [some (vr (some w)), some (vr (some a1)), some (vi 0), none, none]) (st2 := []) rfl ?_
  exact k
theorem m87_10 {T N : Nat → Nat} {h : PH} {w : Nat} {a1 : Nat} {x2 : Int32} {K : PH → Prop} (t0 : T w = 10) (t1 : T a1 = 10) (k : (((x2 < (gi h w 5) → (CR T N 91 [vr (some w), vi x2] h (fun x_6 h_5 => (CR T N 91 [vr (some a1), vi x2] h_5 (fun x_9 h_8 => (((x_6 = none → (WV T N 87 10 [some (vr (some w)), some (vr (some a1)), some (vi (x2 + 1)), none, none] [] h_8 K)) ∧ (∀ a_11, x_6 = some a_11 → (((x_9 = none → (WV T N 87 10 [some (vr (some w)), some (vr (some a1)), some (vi (x2 + 1)), none, none] [] h_8 K)) ∧ (∀ a_14, x_9 = some a_14 → (T a_11 = 3 ∧ CV T N 16 [vr (some a_11), vr (some a_14)] h_8 (fun h_18 => (WV T N 87 10 [some (vr (some w)), some (vr (some a1)), some (vi (x2 + 1)), none, none] [] h_18 K)))))))))))))) ∧ (¬ (x2 < (gi h w 5)) → (K h))))) : WV T N 87 10 [some (vr (some w)), some (vr (some a1)), some (vi x2), none, none] [] h K := by
  show WP T N 87 10 [some (vr (some w)), some (vr (some a1)), some (vi x2), none, none] [] h _
  refine R_ps 2 (pc2 := 12) (L2 := [some (vr (some w)), some (vr (some a1)), some (vi x2), none, none]) (st2 := [vr (some w), vi x2]) rfl ?_
  refine R_getI rfl t0 ?_
  refine R_if rfl (fun c_2 => ?_) (fun c_2 => ?_)
  · have k := k.2 (i32_nlt c_2)
    exact R_ret rfl rfl ⟨rfl, k⟩
  · have k := k.1 (i32_lt c_2)
    refine R_ps 2 (pc2 := 20) (L2 := [some (vr (some w)), some (vr (some a1)), some (vi x2), none, none]) (st2 := [vi x2, vr (some w)]) rfl ?_
    refine R_cR (as := [vr (some w), vi x2]) rfl rfl ⟨Nat.le_of_ble_eq_true rfl, Nat.le_of_ble_eq_true rfl, rfl, (Or.inr ⟨_, rfl, t0⟩)⟩ rfl rfl k (fun x_6 h_5 k => ?_)
    refine R_ps 3 (pc2 := 26) (L2 := [some (vr (some w)), some (vr (some a1)), some (vi x2), some (vr x_6), none]) (st2 := [vi x2, vr (some a1)]) rfl ?_
    refine R_cR (as := [vr (some a1), vi x2]) rfl rfl ⟨Nat.le_of_ble_eq_true rfl, Nat.le_of_ble_eq_true rfl, rfl, (Or.inr ⟨_, rfl, t1⟩)⟩ rfl rfl k (fun x_9 h_8 k => ?_)
    refine R_ps 2 (pc2 := 32) (L2 := [some (vr (some w)), some (vr (some a1)), some (vi x2), some (vr x_6), some (vr x_9)]) (st2 := [vr x_6]) rfl ?_
    rcases null_or (x_6) with e_12 | ⟨a_11, e_12⟩
    · have k := k.1 e_12
      rw [e_12]
      refine R_null rfl (fun _ => ?_) (fun _ c_10 => nomatch c_10)
      refine R_ps 2 (pc2 := 10) (L2 := [some (vr (some w)), some (vr (some a1)), some (vi (x2 + 1)), some (vr none), some (vr x_9)]) (st2 := []) rfl ?_
      exact R_drop k (LE_of (L := [some (vr (some w)), some (vr (some a1)), some (vi (x2 + 1)), none, none]) (L2 := [some (vr (some w)), some (vr (some a1)), some (vi (x2 + 1)), some (vr none), some (vr x_9)]) ⟨rfl, rfl, rfl, trivial⟩)
    · have k := k.2 a_11 e_12
      rw [e_12]
      refine R_null rfl (fun c_10 => nomatch c_10) (fun _ _ => ?_)
      refine R_ps 1 (pc2 := 37) (L2 := [some (vr (some w)), some (vr (some a1)), some (vi x2), some (vr (some a_11)), some (vr x_9)]) (st2 := [vr x_9]) rfl ?_
      rcases null_or (x_9) with e_15 | ⟨a_14, e_15⟩
      · have k := k.1 e_15
        rw [e_15]
        refine R_null rfl (fun _ => ?_) (fun _ c_13 => nomatch c_13)
        refine R_ps 2 (pc2 := 10) (L2 := [some (vr (some w)), some (vr (some a1)), some (vi (x2 + 1)), some (vr (some a_11)), some (vr none)]) (st2 := []) rfl ?_
        exact R_drop k (LE_of (L := [some (vr (some w)), some (vr (some a1)), some (vi (x2 + 1)), none, none]) (L2 := [some (vr (some w)), some (vr (some a1)), some (vi (x2 + 1)), some (vr (some a_11)), some (vr none)]) ⟨rfl, rfl, rfl, trivial⟩)
      · have k := k.2 a_14 e_15
        rw [e_15]
        refine R_null rfl (fun c_13 => nomatch c_13) (fun _ _ => ?_)
        refine R_ps 2 (pc2 := 43) (L2 := [some (vr (some w)), some (vr (some a1)), some (vi x2), some (vr (some a_11)), some (vr (some a_14))]) (st2 := [vr (some a_14), vr (some a_11)]) rfl ?_
        obtain ⟨t_17, k⟩ := k
        refine R_cV (as := [vr (some a_11), vr (some a_14)]) rfl rfl ⟨Nat.le_of_ble_eq_true rfl, Nat.le_of_ble_eq_true rfl, rfl, (Or.inr ⟨_, rfl, t_17⟩)⟩ rfl rfl k (fun h_18 k => ?_)
        refine R_ps 2 (pc2 := 10) (L2 := [some (vr (some w)), some (vr (some a1)), some (vi (x2 + 1)), some (vr (some a_11)), some (vr (some a_14))]) (st2 := []) rfl ?_
        exact R_drop k (LE_of (L := [some (vr (some w)), some (vr (some a1)), some (vi (x2 + 1)), none, none]) (L2 := [some (vr (some w)), some (vr (some a1)), some (vi (x2 + 1)), some (vr (some a_11)), some (vr (some a_14))]) ⟨rfl, rfl, rfl, trivial⟩)
/-- DroneCorridors$World.hasNode -/
theorem m88 {T N : Nat → Nat} {h : PH} {w : Nat} {x1 : Int32} {K : Int32 → PH → Prop} (t0 : T w = 10) (k : (((x1 < 0 → (K 0 h)) ∧ (¬ (x1 < 0) → (((x1 < (gi h w 1) → (K 1 h)) ∧ (¬ (x1 < (gi h w 1)) → (K 0 h)))))))) : CI T N 88 [vr (some w), vi x1] h K := by
  show WP T N 88 0 [some (vr (some w)), some (vi x1)] [] h _
  refine R_ps 1 (pc2 := 1) (L2 := [some (vr (some w)), some (vi x1)]) (st2 := [vi x1]) rfl ?_
  refine R_if0 rfl (fun c_1 => ?_) (fun c_1 => ?_)
  · have k := k.1 c_1
    refine R_ps 1 (pc2 := 17) (L2 := [some (vr (some w)), some (vi x1)]) (st2 := [vi 0]) rfl ?_
    exact R_zret rfl rfl (Or.inl rfl) ⟨_, rfl, k⟩
  · have k := k.2 c_1
    refine R_ps 2 (pc2 := 6) (L2 := [some (vr (some w)), some (vi x1)]) (st2 := [vr (some w), vi x1]) rfl ?_
    refine R_getI rfl t0 ?_
    refine R_if rfl (fun c_4 => ?_) (fun c_4 => ?_)
    · have k := k.2 (i32_nlt c_4)
      refine R_ps 1 (pc2 := 17) (L2 := [some (vr (some w)), some (vi x1)]) (st2 := [vi 0]) rfl ?_
      exact R_zret rfl rfl (Or.inl rfl) ⟨_, rfl, k⟩
    · have k := k.1 (i32_lt c_4)
      refine R_ps 2 (pc2 := 17) (L2 := [some (vr (some w)), some (vi x1)]) (st2 := [vi 1]) rfl ?_
      exact R_zret rfl rfl (Or.inr rfl) ⟨_, rfl, k⟩
/-- DroneCorridors$World.corridorAt -/
theorem m89 {T N : Nat → Nat} {h : PH} {w : Nat} {x1 : Int32} {K : Option Nat → PH → Prop} (t0 : T w = 10) (k : (((x1 < 0 → (K none h)) ∧ (¬ (x1 < 0) → (((x1 < (gi h w 3) → (∃ a_8, (gr h w 6) = some a_8 ∧ 21 ≤ T a_8 ∧ ((x1 < (Int32.ofNat (N a_8)) → (∃ a_15, (gr h w 6) = some a_15 ∧ 30 ≤ T a_15 ∧ inb x1 (N a_15) ∧ K (gr h a_15 (Int32.toNatClampNeg x1)) h)) ∧ (¬ (x1 < (Int32.ofNat (N a_8))) → (K none h))))) ∧ (¬ (x1 < (gi h w 3)) → (K none h)))))))) : CR T N 89 [vr (some w), vi x1] h K := by
  show WP T N 89 0 [some (vr (some w)), some (vi x1)] [] h _
  refine R_ps 1 (pc2 := 1) (L2 := [some (vr (some w)), some (vi x1)]) (st2 := [vi x1]) rfl ?_
  refine R_if0 rfl (fun c_1 => ?_) (fun c_1 => ?_)
  · have k := k.1 c_1
    refine R_ps 1 (pc2 := 31) (L2 := [some (vr (some w)), some (vi x1)]) (st2 := [vr none]) rfl ?_
    exact R_aret rfl rfl ⟨_, rfl, k⟩
  · have k := k.2 c_1
    refine R_ps 2 (pc2 := 6) (L2 := [some (vr (some w)), some (vi x1)]) (st2 := [vr (some w), vi x1]) rfl ?_
    refine R_getI rfl t0 ?_
    refine R_if rfl (fun c_4 => ?_) (fun c_4 => ?_)
    · have k := k.2 (i32_nlt c_4)
      refine R_ps 1 (pc2 := 31) (L2 := [some (vr (some w)), some (vi x1)]) (st2 := [vr none]) rfl ?_
      exact R_aret rfl rfl ⟨_, rfl, k⟩
    · have k := k.1 (i32_lt c_4)
      refine R_ps 2 (pc2 := 14) (L2 := [some (vr (some w)), some (vi x1)]) (st2 := [vr (some w), vi x1]) rfl ?_
      refine R_getR rfl t0 ?_
      obtain ⟨a_8, e_9, k⟩ := k
      rw [e_9]
      obtain ⟨t_10, k⟩ := k
      refine R_alen rfl t_10 ?_
      refine R_if rfl (fun c_11 => ?_) (fun c_11 => ?_)
      · have k := k.2 (i32_nlt c_11)
        refine R_ps 1 (pc2 := 31) (L2 := [some (vr (some w)), some (vi x1)]) (st2 := [vr none]) rfl ?_
        exact R_aret rfl rfl ⟨_, rfl, k⟩
      · have k := k.1 (i32_lt c_11)
        refine R_ps 1 (pc2 := 22) (L2 := [some (vr (some w)), some (vi x1)]) (st2 := [vr (some w)]) rfl ?_
        refine R_getR rfl t0 ?_
        refine R_ps 1 (pc2 := 26) (L2 := [some (vr (some w)), some (vi x1)]) (st2 := [vi x1, vr (gr h w 6)]) rfl ?_
        obtain ⟨a_15, e_16, k⟩ := k
        rw [e_16]
        obtain ⟨t_17, k⟩ := k
        obtain ⟨t_18, k⟩ := k
        refine R_aald rfl t_17 t_18 ?_
        refine R_ps 1 (pc2 := 31) (L2 := [some (vr (some w)), some (vi x1)]) (st2 := [vr (gr h a_15 (Int32.toNatClampNeg x1))]) rfl ?_
        exact R_aret rfl rfl ⟨_, rfl, k⟩
/-- DroneCorridors$World.fenceAt -/
theorem m90 {T N : Nat → Nat} {h : PH} {w : Nat} {x1 : Int32} {K : Option Nat → PH → Prop} (t0 : T w = 10) (k : (((x1 < 0 → (K none h)) ∧ (¬ (x1 < 0) → (((x1 < (gi h w 4) → (∃ a_8, (gr h w 7) = some a_8 ∧ 21 ≤ T a_8 ∧ ((x1 < (Int32.ofNat (N a_8)) → (∃ a_15, (gr h w 7) = some a_15 ∧ 30 ≤ T a_15 ∧ inb x1 (N a_15) ∧ K (gr h a_15 (Int32.toNatClampNeg x1)) h)) ∧ (¬ (x1 < (Int32.ofNat (N a_8))) → (K none h))))) ∧ (¬ (x1 < (gi h w 4)) → (K none h)))))))) : CR T N 90 [vr (some w), vi x1] h K := by
  show WP T N 90 0 [some (vr (some w)), some (vi x1)] [] h _
  refine R_ps 1 (pc2 := 1) (L2 := [some (vr (some w)), some (vi x1)]) (st2 := [vi x1]) rfl ?_
  refine R_if0 rfl (fun c_1 => ?_) (fun c_1 => ?_)
  · have k := k.1 c_1
    refine R_ps 1 (pc2 := 31) (L2 := [some (vr (some w)), some (vi x1)]) (st2 := [vr none]) rfl ?_
    exact R_aret rfl rfl ⟨_, rfl, k⟩
  · have k := k.2 c_1
    refine R_ps 2 (pc2 := 6) (L2 := [some (vr (some w)), some (vi x1)]) (st2 := [vr (some w), vi x1]) rfl ?_
    refine R_getI rfl t0 ?_
    refine R_if rfl (fun c_4 => ?_) (fun c_4 => ?_)
    · have k := k.2 (i32_nlt c_4)
      refine R_ps 1 (pc2 := 31) (L2 := [some (vr (some w)), some (vi x1)]) (st2 := [vr none]) rfl ?_
      exact R_aret rfl rfl ⟨_, rfl, k⟩
    · have k := k.1 (i32_lt c_4)
      refine R_ps 2 (pc2 := 14) (L2 := [some (vr (some w)), some (vi x1)]) (st2 := [vr (some w), vi x1]) rfl ?_
      refine R_getR rfl t0 ?_
      obtain ⟨a_8, e_9, k⟩ := k
      rw [e_9]
      obtain ⟨t_10, k⟩ := k
      refine R_alen rfl t_10 ?_
      refine R_if rfl (fun c_11 => ?_) (fun c_11 => ?_)
      · have k := k.2 (i32_nlt c_11)
        refine R_ps 1 (pc2 := 31) (L2 := [some (vr (some w)), some (vi x1)]) (st2 := [vr none]) rfl ?_
        exact R_aret rfl rfl ⟨_, rfl, k⟩
      · have k := k.1 (i32_lt c_11)
        refine R_ps 1 (pc2 := 22) (L2 := [some (vr (some w)), some (vi x1)]) (st2 := [vr (some w)]) rfl ?_
        refine R_getR rfl t0 ?_
        refine R_ps 1 (pc2 := 26) (L2 := [some (vr (some w)), some (vi x1)]) (st2 := [vi x1, vr (gr h w 7)]) rfl ?_
        obtain ⟨a_15, e_16, k⟩ := k
        rw [e_16]
        obtain ⟨t_17, k⟩ := k
        obtain ⟨t_18, k⟩ := k
        refine R_aald rfl t_17 t_18 ?_
        refine R_ps 1 (pc2 := 31) (L2 := [some (vr (some w)), some (vi x1)]) (st2 := [vr (gr h a_15 (Int32.toNatClampNeg x1))]) rfl ?_
        exact R_aret rfl rfl ⟨_, rfl, k⟩
/-- DroneCorridors$World.droneAt -/
theorem m91 {T N : Nat → Nat} {h : PH} {w : Nat} {x1 : Int32} {K : Option Nat → PH → Prop} (t0 : T w = 10) (k : (((x1 < 0 → (K none h)) ∧ (¬ (x1 < 0) → (((x1 < (gi h w 5) → (∃ a_8, (gr h w 8) = some a_8 ∧ 21 ≤ T a_8 ∧ ((x1 < (Int32.ofNat (N a_8)) → (∃ a_15, (gr h w 8) = some a_15 ∧ 30 ≤ T a_15 ∧ inb x1 (N a_15) ∧ K (gr h a_15 (Int32.toNatClampNeg x1)) h)) ∧ (¬ (x1 < (Int32.ofNat (N a_8))) → (K none h))))) ∧ (¬ (x1 < (gi h w 5)) → (K none h)))))))) : CR T N 91 [vr (some w), vi x1] h K := by
  show WP T N 91 0 [some (vr (some w)), some (vi x1)] [] h _
  refine R_ps 1 (pc2 := 1) (L2 := [some (vr (some w)), some (vi x1)]) (st2 := [vi x1]) rfl ?_
  refine R_if0 rfl (fun c_1 => ?_) (fun c_1 => ?_)
  · have k := k.1 c_1
    refine R_ps 1 (pc2 := 31) (L2 := [some (vr (some w)), some (vi x1)]) (st2 := [vr none]) rfl ?_
    exact R_aret rfl rfl ⟨_, rfl, k⟩
  · have k := k.2 c_1
    refine R_ps 2 (pc2 := 6) (L2 := [some (vr (some w)), some (vi x1)]) (st2 := [vr (some w), vi x1]) rfl ?_
    refine R_getI rfl t0 ?_
    refine R_if rfl (fun c_4 => ?_) (fun c_4 => ?_)
    · have k := k.2 (i32_nlt c_4)
      refine R_ps 1 (pc2 := 31) (L2 := [some (vr (some w)), some (vi x1)]) (st2 := [vr none]) rfl ?_
      exact R_aret rfl rfl ⟨_, rfl, k⟩
    · have k := k.1 (i32_lt c_4)
      refine R_ps 2 (pc2 := 14) (L2 := [some (vr (some w)), some (vi x1)]) (st2 := [vr (some w), vi x1]) rfl ?_
      refine R_getR rfl t0 ?_
      obtain ⟨a_8, e_9, k⟩ := k
      rw [e_9]
      obtain ⟨t_10, k⟩ := k
      refine R_alen rfl t_10 ?_
      refine R_if rfl (fun c_11 => ?_) (fun c_11 => ?_)
      · have k := k.2 (i32_nlt c_11)
        refine R_ps 1 (pc2 := 31) (L2 := [some (vr (some w)), some (vi x1)]) (st2 := [vr none]) rfl ?_
        exact R_aret rfl rfl ⟨_, rfl, k⟩
      · have k := k.1 (i32_lt c_11)
        refine R_ps 1 (pc2 := 22) (L2 := [some (vr (some w)), some (vi x1)]) (st2 := [vr (some w)]) rfl ?_
        refine R_getR rfl t0 ?_
        refine R_ps 1 (pc2 := 26) (L2 := [some (vr (some w)), some (vi x1)]) (st2 := [vi x1, vr (gr h w 8)]) rfl ?_
        obtain ⟨a_15, e_16, k⟩ := k
        rw [e_16]
        obtain ⟨t_17, k⟩ := k
        obtain ⟨t_18, k⟩ := k
        refine R_aald rfl t_17 t_18 ?_
        refine R_ps 1 (pc2 := 31) (L2 := [some (vr (some w)), some (vi x1)]) (st2 := [vr (gr h a_15 (Int32.toNatClampNeg x1))]) rfl ?_
        exact R_aret rfl rfl ⟨_, rfl, k⟩
/-- DroneCorridors$World.newNode -/
theorem m92 {T N : Nat → Nat} {h : PH} {w : Nat} {x1 : Int32} {K : Int32 → PH → Prop} (t0 : T w = 10) (k : ((((gi h w 1) < 10 → (((x1 = 0 → (∀ h_6, h_6 = si h w 1 ((gi h w 1) + 1) → K ((gi h_6 w 1) - 1) h_6)) ∧ (¬ (x1 = 0) → (∀ h_13, h_13 = si h w 2 ((gi h w 2) ||| (1 <<< ((gi h w 1) &&& 31))) → ∀ h_17, h_17 = si h_13 w 1 ((gi h_13 w 1) + 1) → K ((gi h_17 w 1) - 1) h_17))))) ∧ (¬ ((gi h w 1) < 10) → (K (-1) h))))) : CI T N 92 [vr (some w), vi x1] h K := by
  show WP T N 92 0 [some (vr (some w)), some (vi x1)] [] h _
  refine R_ps 1 (pc2 := 1) (L2 := [some (vr (some w)), some (vi x1)]) (st2 := [vr (some w)]) rfl ?_
  refine R_getI rfl t0 ?_
  refine R_ps 1 (pc2 := 6) (L2 := [some (vr (some w)), some (vi x1)]) (st2 := [vi 10, vi (gi h w 1)]) rfl ?_
  refine R_if rfl (fun c_2 => ?_) (fun c_2 => ?_)
  · have k := k.1 c_2
    refine R_ps 1 (pc2 := 12) (L2 := [some (vr (some w)), some (vi x1)]) (st2 := [vi x1]) rfl ?_
    refine R_if0 rfl (fun c_3 => ?_) (fun c_3 => ?_)
    · have k := k.1 c_3
      refine R_ps 2 (pc2 := 32) (L2 := [some (vr (some w)), some (vi x1)]) (st2 := [vr (some w), vr (some w)]) rfl ?_
      refine R_getI rfl t0 ?_
      refine R_ps 2 (pc2 := 37) (L2 := [some (vr (some w)), some (vi x1)]) (st2 := [vi ((gi h w 1) + 1), vr (some w)]) rfl ?_
      refine R_putI rfl t0 ?_
      show WP T N _ _ _ _ (si h w 1 ((gi h w 1) + 1)) _
      generalize e_7 : si h w 1 ((gi h w 1) + 1) = h_6
      replace k := k h_6 e_7.symm
      refine R_ps 1 (pc2 := 41) (L2 := [some (vr (some w)), some (vi x1)]) (st2 := [vr (some w)]) rfl ?_
      refine R_getI rfl t0 ?_
      refine R_ps 2 (pc2 := 46) (L2 := [some (vr (some w)), some (vi x1)]) (st2 := [vi ((gi h_6 w 1) - 1)]) rfl ?_
      exact R_iret rfl rfl ⟨_, rfl, k⟩
    · have k := k.2 c_3
      refine R_ps 2 (pc2 := 17) (L2 := [some (vr (some w)), some (vi x1)]) (st2 := [vr (some w), vr (some w)]) rfl ?_
      refine R_getI rfl t0 ?_
      refine R_ps 2 (pc2 := 22) (L2 := [some (vr (some w)), some (vi x1)]) (st2 := [vr (some w), vi 1, vi (gi h w 2), vr (some w)]) rfl ?_
      refine R_getI rfl t0 ?_
      refine R_ps 2 (pc2 := 27) (L2 := [some (vr (some w)), some (vi x1)]) (st2 := [vi ((gi h w 2) ||| (1 <<< ((gi h w 1) &&& 31))), vr (some w)]) rfl ?_
      refine R_putI rfl t0 ?_
      show WP T N _ _ _ _ (si h w 2 ((gi h w 2) ||| (1 <<< ((gi h w 1) &&& 31)))) _
      generalize e_14 : si h w 2 ((gi h w 2) ||| (1 <<< ((gi h w 1) &&& 31))) = h_13
      replace k := k h_13 e_14.symm
      refine R_ps 2 (pc2 := 32) (L2 := [some (vr (some w)), some (vi x1)]) (st2 := [vr (some w), vr (some w)]) rfl ?_
      refine R_getI rfl t0 ?_
      refine R_ps 2 (pc2 := 37) (L2 := [some (vr (some w)), some (vi x1)]) (st2 := [vi ((gi h_13 w 1) + 1), vr (some w)]) rfl ?_
      refine R_putI rfl t0 ?_
      show WP T N _ _ _ _ (si h_13 w 1 ((gi h_13 w 1) + 1)) _
      generalize e_18 : si h_13 w 1 ((gi h_13 w 1) + 1) = h_17
      replace k := k h_17 e_18.symm
      refine R_ps 1 (pc2 := 41) (L2 := [some (vr (some w)), some (vi x1)]) (st2 := [vr (some w)]) rfl ?_
      refine R_getI rfl t0 ?_
      refine R_ps 2 (pc2 := 46) (L2 := [some (vr (some w)), some (vi x1)]) (st2 := [vi ((gi h_17 w 1) - 1)]) rfl ?_
      exact R_iret rfl rfl ⟨_, rfl, k⟩
  · have k := k.2 c_2
    refine R_ps 1 (pc2 := 10) (L2 := [some (vr (some w)), some (vi x1)]) (st2 := [vi (-1)]) rfl ?_
    exact R_iret rfl rfl ⟨_, rfl, k⟩
/-- DroneCorridors$World.newCorridor -/
theorem m93 {T N : Nat → Nat} {h : PH} {w : Nat} {x1 : Int32} {x2 : Int32} {x3 : Int32} {x4 : Int32} {K : Int32 → PH → Prop} (t0 : T w = 10) (k : ((((gi h w 3) < 16 → (∀ h_5, h_5 = si h w 3 ((gi h w 3) + 1) → CR T N 89 [vr (some w), vi ((gi h_5 w 3) - 1)] h_5 (fun x_10 h_9 => (((x_10 = none → (K ((gi h_9 w 3) - 1) h_9)) ∧ (∀ a_12, x_10 = some a_12 → (T a_12 = 2 ∧ ∀ h_18, h_18 = si h_9 a_12 0 x1 → ∀ h_21, h_21 = si h_18 a_12 1 x2 → ∀ h_24, h_24 = si h_21 a_12 2 x3 → ∀ h_27, h_27 = si h_24 a_12 3 x4 → K ((gi h_27 w 3) - 1) h_27))))))) ∧ (¬ ((gi h w 3) < 16) → (K (-1) h))))) : CI T N 93 [vr (some w), vi x1, vi x2, vi x3, vi x4] h K := by
  show WP T N 93 0 [some (vr (some w)), some (vi x1), some (vi x2), some (vi x3), some (vi x4), none] [] h _
  refine R_ps 1 (pc2 := 1) (L2 := [some (vr (some w)), some (vi x1), some (vi x2), some (vi x3), some (vi x4), none]) (st2 := [vr (some w)]) rfl ?_
  refine R_getI rfl t0 ?_
  refine R_ps 1 (pc2 := 6) (L2 := [some (vr (some w)), some (vi x1), some (vi x2), some (vi x3), some (vi x4), none]) (st2 := [vi 16, vi (gi h w 3)]) rfl ?_
  refine R_if rfl (fun c_2 => ?_) (fun c_2 => ?_)
  · have k := k.1 c_2
    refine R_ps 2 (pc2 := 13) (L2 := [some (vr (some w)), some (vi x1), some (vi x2), some (vi x3), some (vi x4), none]) (st2 := [vr (some w), vr (some w)]) rfl ?_
    refine R_getI rfl t0 ?_
    refine R_ps 2 (pc2 := 18) (L2 := [some (vr (some w)), some (vi x1), some (vi x2), some (vi x3), some (vi x4), none]) (st2 := [vi ((gi h w 3) + 1), vr (some w)]) rfl ?_
    refine R_putI rfl t0 ?_
    show WP T N _ _ _ _ (si h w 3 ((gi h w 3) + 1)) _
    generalize e_6 : si h w 3 ((gi h w 3) + 1) = h_5
    replace k := k h_5 e_6.symm
    refine R_ps 2 (pc2 := 23) (L2 := [some (vr (some w)), some (vi x1), some (vi x2), some (vi x3), some (vi x4), none]) (st2 := [vr (some w), vr (some w)]) rfl ?_
    refine R_getI rfl t0 ?_
    refine R_ps 2 (pc2 := 28) (L2 := [some (vr (some w)), some (vi x1), some (vi x2), some (vi x3), some (vi x4), none]) (st2 := [vi ((gi h_5 w 3) - 1), vr (some w)]) rfl ?_
    refine R_cR (as := [vr (some w), vi ((gi h_5 w 3) - 1)]) rfl rfl ⟨Nat.le_of_ble_eq_true rfl, Nat.le_of_ble_eq_true rfl, rfl, (Or.inr ⟨_, rfl, t0⟩)⟩ rfl rfl k (fun x_10 h_9 k => ?_)
    refine R_ps 2 (pc2 := 35) (L2 := [some (vr (some w)), some (vi x1), some (vi x2), some (vi x3), some (vi x4), some (vr x_10)]) (st2 := [vr x_10]) rfl ?_
    rcases null_or (x_10) with e_13 | ⟨a_12, e_13⟩
    · have k := k.1 e_13
      rw [e_13]
      refine R_null rfl (fun _ => ?_) (fun _ c_11 => nomatch c_11)
      refine R_ps 1 (pc2 := 64) (L2 := [some (vr (some w)), some (vi x1), some (vi x2), some (vi x3), some (vi x4), some (vr none)]) (st2 := [vr (some w)]) rfl ?_
      refine R_getI rfl t0 ?_
      refine R_ps 2 (pc2 := 69) (L2 := [some (vr (some w)), some (vi x1), some (vi x2), some (vi x3), some (vi x4), some (vr none)]) (st2 := [vi ((gi h_9 w 3) - 1)]) rfl ?_
      exact R_iret rfl rfl ⟨_, rfl, k⟩
    · have k := k.2 a_12 e_13
      rw [e_13]
      refine R_null rfl (fun c_11 => nomatch c_11) (fun _ _ => ?_)
      refine R_ps 2 (pc2 := 41) (L2 := [some (vr (some w)), some (vi x1), some (vi x2), some (vi x3), some (vi x4), some (vr (some a_12))]) (st2 := [vi x1, vr (some a_12)]) rfl ?_
      obtain ⟨t_17, k⟩ := k
      refine R_putI rfl t_17 ?_
      show WP T N _ _ _ _ (si h_9 a_12 0 x1) _
      generalize e_19 : si h_9 a_12 0 x1 = h_18
      replace k := k h_18 e_19.symm
      refine R_ps 2 (pc2 := 47) (L2 := [some (vr (some w)), some (vi x1), some (vi x2), some (vi x3), some (vi x4), some (vr (some a_12))]) (st2 := [vi x2, vr (some a_12)]) rfl ?_
      refine R_putI rfl t_17 ?_
      show WP T N _ _ _ _ (si h_18 a_12 1 x2) _
      generalize e_22 : si h_18 a_12 1 x2 = h_21
      replace k := k h_21 e_22.symm
      refine R_ps 2 (pc2 := 53) (L2 := [some (vr (some w)), some (vi x1), some (vi x2), some (vi x3), some (vi x4), some (vr (some a_12))]) (st2 := [vi x3, vr (some a_12)]) rfl ?_
      refine R_putI rfl t_17 ?_
      show WP T N _ _ _ _ (si h_21 a_12 2 x3) _
      generalize e_25 : si h_21 a_12 2 x3 = h_24
      replace k := k h_24 e_25.symm
      refine R_ps 2 (pc2 := 60) (L2 := [some (vr (some w)), some (vi x1), some (vi x2), some (vi x3), some (vi x4), some (vr (some a_12))]) (st2 := [vi x4, vr (some a_12)]) rfl ?_
      refine R_putI rfl t_17 ?_
      show WP T N _ _ _ _ (si h_24 a_12 3 x4) _
      generalize e_28 : si h_24 a_12 3 x4 = h_27
      replace k := k h_27 e_28.symm
      refine R_ps 1 (pc2 := 64) (L2 := [some (vr (some w)), some (vi x1), some (vi x2), some (vi x3), some (vi x4), some (vr (some a_12))]) (st2 := [vr (some w)]) rfl ?_
      refine R_getI rfl t0 ?_
      refine R_ps 2 (pc2 := 69) (L2 := [some (vr (some w)), some (vi x1), some (vi x2), some (vi x3), some (vi x4), some (vr (some a_12))]) (st2 := [vi ((gi h_27 w 3) - 1)]) rfl ?_
      exact R_iret rfl rfl ⟨_, rfl, k⟩
  · have k := k.2 c_2
    refine R_ps 1 (pc2 := 10) (L2 := [some (vr (some w)), some (vi x1), some (vi x2), some (vi x3), some (vi x4), none]) (st2 := [vi (-1)]) rfl ?_
    exact R_iret rfl rfl ⟨_, rfl, k⟩
/-- DroneCorridors$World.newFence -/
theorem m94 {T N : Nat → Nat} {h : PH} {w : Nat} {x1 : Int32} {x2 : Int32} {x3 : Int32} {x4 : Int32} {K : PH → Prop} (t0 : T w = 10) (k : ((((gi h w 4) < 10 → (∀ h_5, h_5 = si h w 4 ((gi h w 4) + 1) → CR T N 90 [vr (some w), vi ((gi h_5 w 4) - 1)] h_5 (fun x_10 h_9 => (((x_10 = none → (K h_9)) ∧ (∀ a_12, x_10 = some a_12 → (T a_12 = 4 ∧ ∀ h_17, h_17 = si h_9 a_12 0 x1 → ∀ h_20, h_20 = si h_17 a_12 1 x2 → ∀ h_23, h_23 = si h_20 a_12 2 x3 → ∀ h_26, h_26 = si h_23 a_12 3 x4 → K h_26))))))) ∧ (¬ ((gi h w 4) < 10) → (K h))))) : CV T N 94 [vr (some w), vi x1, vi x2, vi x3, vi x4] h K := by
  show WP T N 94 0 [some (vr (some w)), some (vi x1), some (vi x2), some (vi x3), some (vi x4), none] [] h _
  refine R_ps 1 (pc2 := 1) (L2 := [some (vr (some w)), some (vi x1), some (vi x2), some (vi x3), some (vi x4), none]) (st2 := [vr (some w)]) rfl ?_
  refine R_getI rfl t0 ?_
  refine R_ps 1 (pc2 := 6) (L2 := [some (vr (some w)), some (vi x1), some (vi x2), some (vi x3), some (vi x4), none]) (st2 := [vi 10, vi (gi h w 4)]) rfl ?_
  refine R_if rfl (fun c_2 => ?_) (fun c_2 => ?_)
  · have k := k.1 c_2
    refine R_ps 2 (pc2 := 12) (L2 := [some (vr (some w)), some (vi x1), some (vi x2), some (vi x3), some (vi x4), none]) (st2 := [vr (some w), vr (some w)]) rfl ?_
    refine R_getI rfl t0 ?_
    refine R_ps 2 (pc2 := 17) (L2 := [some (vr (some w)), some (vi x1), some (vi x2), some (vi x3), some (vi x4), none]) (st2 := [vi ((gi h w 4) + 1), vr (some w)]) rfl ?_
    refine R_putI rfl t0 ?_
    show WP T N _ _ _ _ (si h w 4 ((gi h w 4) + 1)) _
    generalize e_6 : si h w 4 ((gi h w 4) + 1) = h_5
    replace k := k h_5 e_6.symm
    refine R_ps 2 (pc2 := 22) (L2 := [some (vr (some w)), some (vi x1), some (vi x2), some (vi x3), some (vi x4), none]) (st2 := [vr (some w), vr (some w)]) rfl ?_
    refine R_getI rfl t0 ?_
    refine R_ps 2 (pc2 := 27) (L2 := [some (vr (some w)), some (vi x1), some (vi x2), some (vi x3), some (vi x4), none]) (st2 := [vi ((gi h_5 w 4) - 1), vr (some w)]) rfl ?_
    refine R_cR (as := [vr (some w), vi ((gi h_5 w 4) - 1)]) rfl rfl ⟨Nat.le_of_ble_eq_true rfl, Nat.le_of_ble_eq_true rfl, rfl, (Or.inr ⟨_, rfl, t0⟩)⟩ rfl rfl k (fun x_10 h_9 k => ?_)
    refine R_ps 2 (pc2 := 34) (L2 := [some (vr (some w)), some (vi x1), some (vi x2), some (vi x3), some (vi x4), some (vr x_10)]) (st2 := [vr x_10]) rfl ?_
    rcases null_or (x_10) with e_13 | ⟨a_12, e_13⟩
    · have k := k.1 e_13
      rw [e_13]
      refine R_null rfl (fun _ => ?_) (fun _ c_11 => nomatch c_11)
      exact R_ret rfl rfl ⟨rfl, k⟩
    · have k := k.2 a_12 e_13
      rw [e_13]
      refine R_null rfl (fun c_11 => nomatch c_11) (fun _ _ => ?_)
      refine R_ps 2 (pc2 := 40) (L2 := [some (vr (some w)), some (vi x1), some (vi x2), some (vi x3), some (vi x4), some (vr (some a_12))]) (st2 := [vi x1, vr (some a_12)]) rfl ?_
      obtain ⟨t_16, k⟩ := k
      refine R_putI rfl t_16 ?_
      show WP T N _ _ _ _ (si h_9 a_12 0 x1) _
      generalize e_18 : si h_9 a_12 0 x1 = h_17
      replace k := k h_17 e_18.symm
      refine R_ps 2 (pc2 := 46) (L2 := [some (vr (some w)), some (vi x1), some (vi x2), some (vi x3), some (vi x4), some (vr (some a_12))]) (st2 := [vi x2, vr (some a_12)]) rfl ?_
      refine R_putI rfl t_16 ?_
      show WP T N _ _ _ _ (si h_17 a_12 1 x2) _
      generalize e_21 : si h_17 a_12 1 x2 = h_20
      replace k := k h_20 e_21.symm
      refine R_ps 2 (pc2 := 52) (L2 := [some (vr (some w)), some (vi x1), some (vi x2), some (vi x3), some (vi x4), some (vr (some a_12))]) (st2 := [vi x3, vr (some a_12)]) rfl ?_
      refine R_putI rfl t_16 ?_
      show WP T N _ _ _ _ (si h_20 a_12 2 x3) _
      generalize e_24 : si h_20 a_12 2 x3 = h_23
      replace k := k h_23 e_24.symm
      refine R_ps 2 (pc2 := 59) (L2 := [some (vr (some w)), some (vi x1), some (vi x2), some (vi x3), some (vi x4), some (vr (some a_12))]) (st2 := [vi x4, vr (some a_12)]) rfl ?_
      refine R_putI rfl t_16 ?_
      show WP T N _ _ _ _ (si h_23 a_12 3 x4) _
      generalize e_27 : si h_23 a_12 3 x4 = h_26
      replace k := k h_26 e_27.symm
      exact R_ret rfl rfl ⟨rfl, k⟩
  · have k := k.2 c_2
    exact R_ret rfl rfl ⟨rfl, k⟩
/-- DroneCorridors$World.dropFence -/
theorem m95 {T N : Nat → Nat} {h : PH} {w : Nat} {x1 : Int32} {K : PH → Prop} (k : (WV T N 95 2 [some (vr (some w)), none, some (vi x1), none, none] [] h K)) : CV T N 95 [vr (some w), vi x1] h K := by
  show WP T N 95 0 [some (vr (some w)), some (vi x1), none, none, none] [] h _
  refine R_ps 2 (pc2 := 2) (L2 := [some (vr (some w)), some (vi x1), some (vi x1), none, none]) (st2 := []) rfl ?_
  exact R_drop k (LE_of (L := [some (vr (some w)), none, some (vi x1), none, none]) (L2 := [some (vr (some w)), some (vi x1), some (vi x1), none, none]) ⟨rfl, rfl, trivial⟩)
theorem m95_2 {T N : Nat → Nat} {h : PH} {w : Nat} {x2 : Int32} {K : PH → Prop} (t0 : T w = 10) (k : (((x2 < ((gi h w 4) - 1) → (CR T N 90 [vr (some w), vi x2] h (fun x_10 h_9 => (CR T N 90 [vr (some w), vi (x2 + 1)] h_9 (fun x_13 h_12 => (((x_10 = none → (WV T N 95 2 [some (vr (some w)), none, some (vi (x2 + 1)), none, none] [] h_12 K)) ∧ (∀ a_15, x_10 = some a_15 → (((x_13 = none → (WV T N 95 2 [some (vr (some w)), none, some (vi (x2 + 1)), none, none] [] h_12 K)) ∧ (∀ a_18, x_13 = some a_18 → (T a_15 = 4 ∧ CV T N 38 [vr (some a_15), vr (some a_18)] h_12 (fun h_22 => (WV T N 95 2 [some (vr (some w)), none, some (vi (x2 + 1)), none, none] [] h_22 K)))))))))))))) ∧ (¬ (x2 < ((gi h w 4) - 1)) → (∀ h_5, h_5 = si h w 4 ((gi h w 4) - 1) → K h_5))))) : WV T N 95 2 [some (vr (some w)), none, some (vi x2), none, none] [] h K := by
  show WP T N 95 2 [some (vr (some w)), none, some (vi x2), none, none] [] h _
  refine R_ps 2 (pc2 := 4) (L2 := [some (vr (some w)), none, some (vi x2), none, none]) (st2 := [vr (some w), vi x2]) rfl ?_
  refine R_getI rfl t0 ?_
  refine R_ps 2 (pc2 := 9) (L2 := [some (vr (some w)), none, some (vi x2), none, none]) (st2 := [vi ((gi h w 4) - 1), vi x2]) rfl ?_
  refine R_if rfl (fun c_2 => ?_) (fun c_2 => ?_)
  · have k := k.2 (i32_nlt c_2)
    refine R_ps 2 (pc2 := 50) (L2 := [some (vr (some w)), none, some (vi x2), none, none]) (st2 := [vr (some w), vr (some w)]) rfl ?_
    refine R_getI rfl t0 ?_
    refine R_ps 2 (pc2 := 55) (L2 := [some (vr (some w)), none, some (vi x2), none, none]) (st2 := [vi ((gi h w 4) - 1), vr (some w)]) rfl ?_
    refine R_putI rfl t0 ?_
    show WP T N _ _ _ _ (si h w 4 ((gi h w 4) - 1)) _
    generalize e_6 : si h w 4 ((gi h w 4) - 1) = h_5
    replace k := k h_5 e_6.symm
    exact R_ret rfl rfl ⟨rfl, k⟩
  · have k := k.1 (i32_lt c_2)
    refine R_ps 2 (pc2 := 14) (L2 := [some (vr (some w)), none, some (vi x2), none, none]) (st2 := [vi x2, vr (some w)]) rfl ?_
    refine R_cR (as := [vr (some w), vi x2]) rfl rfl ⟨Nat.le_of_ble_eq_true rfl, Nat.le_of_ble_eq_true rfl, rfl, (Or.inr ⟨_, rfl, t0⟩)⟩ rfl rfl k (fun x_10 h_9 k => ?_)
    refine R_ps 5 (pc2 := 22) (L2 := [some (vr (some w)), none, some (vi x2), some (vr x_10), none]) (st2 := [vi (x2 + 1), vr (some w)]) rfl ?_
    refine R_cR (as := [vr (some w), vi (x2 + 1)]) rfl rfl ⟨Nat.le_of_ble_eq_true rfl, Nat.le_of_ble_eq_true rfl, rfl, (Or.inr ⟨_, rfl, t0⟩)⟩ rfl rfl k (fun x_13 h_12 k => ?_)
    refine R_ps 2 (pc2 := 28) (L2 := [some (vr (some w)), none, some (vi x2), some (vr x_10), some (vr x_13)]) (st2 := [vr x_10]) rfl ?_
    rcases null_or (x_10) with e_16 | ⟨a_15, e_16⟩
    · have k := k.1 e_16
      rw [e_16]
      refine R_null rfl (fun _ => ?_) (fun _ c_14 => nomatch c_14)
      refine R_ps 2 (pc2 := 2) (L2 := [some (vr (some w)), none, some (vi (x2 + 1)), some (vr none), some (vr x_13)]) (st2 := []) rfl ?_
      exact R_drop k (LE_of (L := [some (vr (some w)), none, some (vi (x2 + 1)), none, none]) (L2 := [some (vr (some w)), none, some (vi (x2 + 1)), some (vr none), some (vr x_13)]) ⟨rfl, rfl, trivial⟩)
    · have k := k.2 a_15 e_16
      rw [e_16]
      refine R_null rfl (fun c_14 => nomatch c_14) (fun _ _ => ?_)
      refine R_ps 1 (pc2 := 33) (L2 := [some (vr (some w)), none, some (vi x2), some (vr (some a_15)), some (vr x_13)]) (st2 := [vr x_13]) rfl ?_
      rcases null_or (x_13) with e_19 | ⟨a_18, e_19⟩
      · have k := k.1 e_19
        rw [e_19]
        refine R_null rfl (fun _ => ?_) (fun _ c_17 => nomatch c_17)
        refine R_ps 2 (pc2 := 2) (L2 := [some (vr (some w)), none, some (vi (x2 + 1)), some (vr (some a_15)), some (vr none)]) (st2 := []) rfl ?_
        exact R_drop k (LE_of (L := [some (vr (some w)), none, some (vi (x2 + 1)), none, none]) (L2 := [some (vr (some w)), none, some (vi (x2 + 1)), some (vr (some a_15)), some (vr none)]) ⟨rfl, rfl, trivial⟩)
      · have k := k.2 a_18 e_19
        rw [e_19]
        refine R_null rfl (fun c_17 => nomatch c_17) (fun _ _ => ?_)
        refine R_ps 2 (pc2 := 39) (L2 := [some (vr (some w)), none, some (vi x2), some (vr (some a_15)), some (vr (some a_18))]) (st2 := [vr (some a_18), vr (some a_15)]) rfl ?_
        obtain ⟨t_21, k⟩ := k
        refine R_cV (as := [vr (some a_15), vr (some a_18)]) rfl rfl ⟨Nat.le_of_ble_eq_true rfl, Nat.le_of_ble_eq_true rfl, rfl, (Or.inr ⟨_, rfl, t_21⟩)⟩ rfl rfl k (fun h_22 k => ?_)
        refine R_ps 2 (pc2 := 2) (L2 := [some (vr (some w)), none, some (vi (x2 + 1)), some (vr (some a_15)), some (vr (some a_18))]) (st2 := []) rfl ?_
        exact R_drop k (LE_of (L := [some (vr (some w)), none, some (vi (x2 + 1)), none, none]) (L2 := [some (vr (some w)), none, some (vi (x2 + 1)), some (vr (some a_15)), some (vr (some a_18))]) ⟨rfl, rfl, trivial⟩)
/-- DroneCorridors$World.newDrone -/
theorem m96 {T N : Nat → Nat} {h : PH} {w : Nat} {x1 : Int32} {x2 : Int32} {K : Int32 → PH → Prop} (t0 : T w = 10) (k : ((((gi h w 5) < 6 → (∀ h_5, h_5 = si h w 5 ((gi h w 5) + 1) → CR T N 91 [vr (some w), vi ((gi h_5 w 5) - 1)] h_5 (fun x_10 h_9 => (((x_10 = none → (K ((gi h_9 w 5) - 1) h_9)) ∧ (∀ a_12, x_10 = some a_12 → (CI T N 145 [vi (gi h_9 w 2), vi x1] h_9 (fun x_19 h_18 => (T a_12 = 3 ∧ CV T N 15 [vr (some a_12), vi x1, vi x_19, vi x2] h_18 (fun h_22 => (K ((gi h_22 w 5) - 1) h_22))))))))))) ∧ (¬ ((gi h w 5) < 6) → (K (-1) h))))) : CI T N 96 [vr (some w), vi x1, vi x2] h K := by
  show WP T N 96 0 [some (vr (some w)), some (vi x1), some (vi x2), none] [] h _
  refine R_ps 1 (pc2 := 1) (L2 := [some (vr (some w)), some (vi x1), some (vi x2), none]) (st2 := [vr (some w)]) rfl ?_
  refine R_getI rfl t0 ?_
  refine R_ps 1 (pc2 := 6) (L2 := [some (vr (some w)), some (vi x1), some (vi x2), none]) (st2 := [vi 6, vi (gi h w 5)]) rfl ?_
  refine R_if rfl (fun c_2 => ?_) (fun c_2 => ?_)
  · have k := k.1 c_2
    refine R_ps 2 (pc2 := 13) (L2 := [some (vr (some w)), some (vi x1), some (vi x2), none]) (st2 := [vr (some w), vr (some w)]) rfl ?_
    refine R_getI rfl t0 ?_
    refine R_ps 2 (pc2 := 18) (L2 := [some (vr (some w)), some (vi x1), some (vi x2), none]) (st2 := [vi ((gi h w 5) + 1), vr (some w)]) rfl ?_
    refine R_putI rfl t0 ?_
    show WP T N _ _ _ _ (si h w 5 ((gi h w 5) + 1)) _
    generalize e_6 : si h w 5 ((gi h w 5) + 1) = h_5
    replace k := k h_5 e_6.symm
    refine R_ps 2 (pc2 := 23) (L2 := [some (vr (some w)), some (vi x1), some (vi x2), none]) (st2 := [vr (some w), vr (some w)]) rfl ?_
    refine R_getI rfl t0 ?_
    refine R_ps 2 (pc2 := 28) (L2 := [some (vr (some w)), some (vi x1), some (vi x2), none]) (st2 := [vi ((gi h_5 w 5) - 1), vr (some w)]) rfl ?_
    refine R_cR (as := [vr (some w), vi ((gi h_5 w 5) - 1)]) rfl rfl ⟨Nat.le_of_ble_eq_true rfl, Nat.le_of_ble_eq_true rfl, rfl, (Or.inr ⟨_, rfl, t0⟩)⟩ rfl rfl k (fun x_10 h_9 k => ?_)
    refine R_ps 2 (pc2 := 33) (L2 := [some (vr (some w)), some (vi x1), some (vi x2), some (vr x_10)]) (st2 := [vr x_10]) rfl ?_
    rcases null_or (x_10) with e_13 | ⟨a_12, e_13⟩
    · have k := k.1 e_13
      rw [e_13]
      refine R_null rfl (fun _ => ?_) (fun _ c_11 => nomatch c_11)
      refine R_ps 1 (pc2 := 51) (L2 := [some (vr (some w)), some (vi x1), some (vi x2), some (vr none)]) (st2 := [vr (some w)]) rfl ?_
      refine R_getI rfl t0 ?_
      refine R_ps 2 (pc2 := 56) (L2 := [some (vr (some w)), some (vi x1), some (vi x2), some (vr none)]) (st2 := [vi ((gi h_9 w 5) - 1)]) rfl ?_
      exact R_iret rfl rfl ⟨_, rfl, k⟩
    · have k := k.2 a_12 e_13
      rw [e_13]
      refine R_null rfl (fun c_11 => nomatch c_11) (fun _ _ => ?_)
      refine R_ps 3 (pc2 := 39) (L2 := [some (vr (some w)), some (vi x1), some (vi x2), some (vr (some a_12))]) (st2 := [vr (some w), vi x1, vr (some a_12)]) rfl ?_
      refine R_getI rfl t0 ?_
      refine R_ps 1 (pc2 := 43) (L2 := [some (vr (some w)), some (vi x1), some (vi x2), some (vr (some a_12))]) (st2 := [vi x1, vi (gi h_9 w 2), vi x1, vr (some a_12)]) rfl ?_
      refine R_cI (as := [vi (gi h_9 w 2), vi x1]) rfl rfl ⟨Nat.le_of_ble_eq_true rfl, Nat.le_of_ble_eq_true rfl, rfl, (Or.inl rfl)⟩ rfl rfl k (fun x_19 h_18 k => ?_)
      refine R_ps 1 (pc2 := 47) (L2 := [some (vr (some w)), some (vi x1), some (vi x2), some (vr (some a_12))]) (st2 := [vi x2, vi x_19, vi x1, vr (some a_12)]) rfl ?_
      obtain ⟨t_21, k⟩ := k
      refine R_cV (as := [vr (some a_12), vi x1, vi x_19, vi x2]) rfl rfl ⟨Nat.le_of_ble_eq_true rfl, Nat.le_of_ble_eq_true rfl, rfl, (Or.inr ⟨_, rfl, t_21⟩)⟩ rfl rfl k (fun h_22 k => ?_)
      refine R_ps 1 (pc2 := 51) (L2 := [some (vr (some w)), some (vi x1), some (vi x2), some (vr (some a_12))]) (st2 := [vr (some w)]) rfl ?_
      refine R_getI rfl t0 ?_
      refine R_ps 2 (pc2 := 56) (L2 := [some (vr (some w)), some (vi x1), some (vi x2), some (vr (some a_12))]) (st2 := [vi ((gi h_22 w 5) - 1)]) rfl ?_
      exact R_iret rfl rfl ⟨_, rfl, k⟩
  · have k := k.2 c_2
    refine R_ps 1 (pc2 := 10) (L2 := [some (vr (some w)), some (vi x1), some (vi x2), none]) (st2 := [vi (-1)]) rfl ?_
    exact R_iret rfl rfl ⟨_, rfl, k⟩
/-- DroneCorridors$World.dronesInState -/
theorem m97 {T N : Nat → Nat} {h : PH} {w : Nat} {x1 : Int32} {K : Int32 → PH → Prop} (k : (WI T N 97 4 [some (vr (some w)), some (vi x1), some (vi 0), some (vi 0), none] [] h K)) : CI T N 97 [vr (some w), vi x1] h K := by
  show WP T N 97 0 [some (vr (some w)), some (vi x1), none, none, none] [] h _
  refine R_ps 4 (pc2 := 4) (L2 := [some (vr (some w)), some (vi x1), some (vi 0), some (vi 0), none]) (st2 := []) rfl ?_
  exact k
theorem m97_4 {T N : Nat → Nat} {h : PH} {w : Nat} {x1 : Int32} {x2 : Int32} {x3 : Int32} {K : Int32 → PH → Prop} (t0 : T w = 10) (k : (((x3 < (gi h w 5) → (CR T N 91 [vr (some w), vi x3] h (fun x_6 h_5 => (((x_6 = none → (WI T N 97 4 [some (vr (some w)), some (vi x1), some (vi x2), some (vi (x3 + 1)), none] [] h_5 K)) ∧ (∀ a_8, x_6 = some a_8 → (T a_8 = 3 ∧ (((gi h_5 a_8 0) = x1 → (WI T N 97 4 [some (vr (some w)), some (vi x1), some (vi (x2 + 1)), some (vi (x3 + 1)), none] [] h_5 K)) ∧ (¬ ((gi h_5 a_8 0) = x1) → (WI T N 97 4 [some (vr (some w)), some (vi x1), some (vi x2), some (vi (x3 + 1)), none] [] h_5 K)))))))))) ∧ (¬ (x3 < (gi h w 5)) → (K x2 h))))) : WI T N 97 4 [some (vr (some w)), some (vi x1), some (vi x2), some (vi x3), none] [] h K := by
  show WP T N 97 4 [some (vr (some w)), some (vi x1), some (vi x2), some (vi x3), none] [] h _
  refine R_ps 2 (pc2 := 6) (L2 := [some (vr (some w)), some (vi x1), some (vi x2), some (vi x3), none]) (st2 := [vr (some w), vi x3]) rfl ?_
  refine R_getI rfl t0 ?_
  refine R_if rfl (fun c_2 => ?_) (fun c_2 => ?_)
  · have k := k.2 (i32_nlt c_2)
    refine R_ps 1 (pc2 := 43) (L2 := [some (vr (some w)), some (vi x1), some (vi x2), some (vi x3), none]) (st2 := [vi x2]) rfl ?_
    exact R_iret rfl rfl ⟨_, rfl, k⟩
  · have k := k.1 (i32_lt c_2)
    refine R_ps 2 (pc2 := 14) (L2 := [some (vr (some w)), some (vi x1), some (vi x2), some (vi x3), none]) (st2 := [vi x3, vr (some w)]) rfl ?_
    refine R_cR (as := [vr (some w), vi x3]) rfl rfl ⟨Nat.le_of_ble_eq_true rfl, Nat.le_of_ble_eq_true rfl, rfl, (Or.inr ⟨_, rfl, t0⟩)⟩ rfl rfl k (fun x_6 h_5 k => ?_)
    refine R_ps 2 (pc2 := 21) (L2 := [some (vr (some w)), some (vi x1), some (vi x2), some (vi x3), some (vr x_6)]) (st2 := [vr x_6]) rfl ?_
    rcases null_or (x_6) with e_9 | ⟨a_8, e_9⟩
    · have k := k.1 e_9
      rw [e_9]
      refine R_null rfl (fun _ => ?_) (fun _ c_7 => nomatch c_7)
      refine R_ps 2 (pc2 := 4) (L2 := [some (vr (some w)), some (vi x1), some (vi x2), some (vi (x3 + 1)), some (vr none)]) (st2 := []) rfl ?_
      exact R_drop k (LE_of (L := [some (vr (some w)), some (vi x1), some (vi x2), some (vi (x3 + 1)), none]) (L2 := [some (vr (some w)), some (vi x1), some (vi x2), some (vi (x3 + 1)), some (vr none)]) ⟨rfl, rfl, rfl, rfl, trivial⟩)
    · have k := k.2 a_8 e_9
      rw [e_9]
      refine R_null rfl (fun c_7 => nomatch c_7) (fun _ _ => ?_)
      refine R_ps 1 (pc2 := 26) (L2 := [some (vr (some w)), some (vi x1), some (vi x2), some (vi x3), some (vr (some a_8))]) (st2 := [vr (some a_8)]) rfl ?_
      obtain ⟨t_11, k⟩ := k
      refine R_getI rfl t_11 ?_
      refine R_ps 1 (pc2 := 30) (L2 := [some (vr (some w)), some (vi x1), some (vi x2), some (vi x3), some (vr (some a_8))]) (st2 := [vi x1, vi (gi h_5 a_8 0)]) rfl ?_
      refine R_if rfl (fun c_12 => ?_) (fun c_12 => ?_)
      · have k := k.2 c_12
        refine R_ps 2 (pc2 := 4) (L2 := [some (vr (some w)), some (vi x1), some (vi x2), some (vi (x3 + 1)), some (vr (some a_8))]) (st2 := []) rfl ?_
        exact R_drop k (LE_of (L := [some (vr (some w)), some (vi x1), some (vi x2), some (vi (x3 + 1)), none]) (L2 := [some (vr (some w)), some (vi x1), some (vi x2), some (vi (x3 + 1)), some (vr (some a_8))]) ⟨rfl, rfl, rfl, rfl, trivial⟩)
      · have k := k.1 (Classical.not_not.mp c_12)
        refine R_ps 3 (pc2 := 4) (L2 := [some (vr (some w)), some (vi x1), some (vi (x2 + 1)), some (vi (x3 + 1)), some (vr (some a_8))]) (st2 := []) rfl ?_
        exact R_drop k (LE_of (L := [some (vr (some w)), some (vi x1), some (vi (x2 + 1)), some (vi (x3 + 1)), none]) (L2 := [some (vr (some w)), some (vi x1), some (vi (x2 + 1)), some (vi (x3 + 1)), some (vr (some a_8))]) ⟨rfl, rfl, rfl, rfl, trivial⟩)
/-- DroneCorridors$World.dronesFlyingIn -/
theorem m98 {T N : Nat → Nat} {h : PH} {w : Nat} {x1 : Int32} {K : Int32 → PH → Prop} (k : (WI T N 98 4 [some (vr (some w)), some (vi x1), some (vi 0), some (vi 0), none] [] h K)) : CI T N 98 [vr (some w), vi x1] h K := by
  show WP T N 98 0 [some (vr (some w)), some (vi x1), none, none, none] [] h _
  refine R_ps 4 (pc2 := 4) (L2 := [some (vr (some w)), some (vi x1), some (vi 0), some (vi 0), none]) (st2 := []) rfl ?_
  exact k
theorem m98_4 {T N : Nat → Nat} {h : PH} {w : Nat} {x1 : Int32} {x2 : Int32} {x3 : Int32} {K : Int32 → PH → Prop} (t0 : T w = 10) (k : (((x3 < (gi h w 5) → (CR T N 91 [vr (some w), vi x3] h (fun x_6 h_5 => (((x_6 = none → (WI T N 98 4 [some (vr (some w)), some (vi x1), some (vi x2), some (vi (x3 + 1)), none] [] h_5 K)) ∧ (∀ a_8, x_6 = some a_8 → (T a_8 = 3 ∧ CI T N 21 [vr (some a_8)] h_5 (fun x_13 h_12 => (((x_13 = (100 + x1) → (WI T N 98 4 [some (vr (some w)), some (vi x1), some (vi (x2 ||| (1 <<< (x3 &&& 31)))), some (vi (x3 + 1)), none] [] h_12 K)) ∧ (¬ (x_13 = (100 + x1)) → (WI T N 98 4 [some (vr (some w)), some (vi x1), some (vi x2), some (vi (x3 + 1)), none] [] h_12 K)))))))))))) ∧ (¬ (x3 < (gi h w 5)) → (K x2 h))))) : WI T N 98 4 [some (vr (some w)), some (vi x1), some (vi x2), some (vi x3), none] [] h K := by
  show WP T N 98 4 [some (vr (some w)), some (vi x1), some (vi x2), some (vi x3), none] [] h _
  refine R_ps 2 (pc2 := 6) (L2 := [some (vr (some w)), some (vi x1), some (vi x2), some (vi x3), none]) (st2 := [vr (some w), vi x3]) rfl ?_
  refine R_getI rfl t0 ?_
  refine R_if rfl (fun c_2 => ?_) (fun c_2 => ?_)
  · have k := k.2 (i32_nlt c_2)
    refine R_ps 1 (pc2 := 49) (L2 := [some (vr (some w)), some (vi x1), some (vi x2), some (vi x3), none]) (st2 := [vi x2]) rfl ?_
    exact R_iret rfl rfl ⟨_, rfl, k⟩
  · have k := k.1 (i32_lt c_2)
    refine R_ps 2 (pc2 := 14) (L2 := [some (vr (some w)), some (vi x1), some (vi x2), some (vi x3), none]) (st2 := [vi x3, vr (some w)]) rfl ?_
    refine R_cR (as := [vr (some w), vi x3]) rfl rfl ⟨Nat.le_of_ble_eq_true rfl, Nat.le_of_ble_eq_true rfl, rfl, (Or.inr ⟨_, rfl, t0⟩)⟩ rfl rfl k (fun x_6 h_5 k => ?_)
    refine R_ps 2 (pc2 := 21) (L2 := [some (vr (some w)), some (vi x1), some (vi x2), some (vi x3), some (vr x_6)]) (st2 := [vr x_6]) rfl ?_
    rcases null_or (x_6) with e_9 | ⟨a_8, e_9⟩
    · have k := k.1 e_9
      rw [e_9]
      refine R_null rfl (fun _ => ?_) (fun _ c_7 => nomatch c_7)
      refine R_ps 2 (pc2 := 4) (L2 := [some (vr (some w)), some (vi x1), some (vi x2), some (vi (x3 + 1)), some (vr none)]) (st2 := []) rfl ?_
      exact R_drop k (LE_of (L := [some (vr (some w)), some (vi x1), some (vi x2), some (vi (x3 + 1)), none]) (L2 := [some (vr (some w)), some (vi x1), some (vi x2), some (vi (x3 + 1)), some (vr none)]) ⟨rfl, rfl, rfl, rfl, trivial⟩)
    · have k := k.2 a_8 e_9
      rw [e_9]
      refine R_null rfl (fun c_7 => nomatch c_7) (fun _ _ => ?_)
      refine R_ps 1 (pc2 := 26) (L2 := [some (vr (some w)), some (vi x1), some (vi x2), some (vi x3), some (vr (some a_8))]) (st2 := [vr (some a_8)]) rfl ?_
      obtain ⟨t_11, k⟩ := k
      refine R_cI (as := [vr (some a_8)]) rfl rfl ⟨Nat.le_of_ble_eq_true rfl, Nat.le_of_ble_eq_true rfl, rfl, (Or.inr ⟨_, rfl, t_11⟩)⟩ rfl rfl k (fun x_13 h_12 k => ?_)
      refine R_ps 3 (pc2 := 33) (L2 := [some (vr (some w)), some (vi x1), some (vi x2), some (vi x3), some (vr (some a_8))]) (st2 := [vi (100 + x1), vi x_13]) rfl ?_
      refine R_if rfl (fun c_14 => ?_) (fun c_14 => ?_)
      · have k := k.2 c_14
        refine R_ps 2 (pc2 := 4) (L2 := [some (vr (some w)), some (vi x1), some (vi x2), some (vi (x3 + 1)), some (vr (some a_8))]) (st2 := []) rfl ?_
        exact R_drop k (LE_of (L := [some (vr (some w)), some (vi x1), some (vi x2), some (vi (x3 + 1)), none]) (L2 := [some (vr (some w)), some (vi x1), some (vi x2), some (vi (x3 + 1)), some (vr (some a_8))]) ⟨rfl, rfl, rfl, rfl, trivial⟩)
      · have k := k.1 (Classical.not_not.mp c_14)
        refine R_ps 8 (pc2 := 4) (L2 := [some (vr (some w)), some (vi x1), some (vi (x2 ||| (1 <<< (x3 &&& 31)))), some (vi (x3 + 1)), some (vr (some a_8))]) (st2 := []) rfl ?_
        exact R_drop k (LE_of (L := [some (vr (some w)), some (vi x1), some (vi (x2 ||| (1 <<< (x3 &&& 31)))), some (vi (x3 + 1)), none]) (L2 := [some (vr (some w)), some (vi x1), some (vi (x2 ||| (1 <<< (x3 &&& 31)))), some (vi (x3 + 1)), some (vr (some a_8))]) ⟨rfl, rfl, rfl, rfl, trivial⟩)
/-- DroneCorridors$World.struckDrones -/
theorem m99 {T N : Nat → Nat} {h : PH} {w : Nat} {K : Int32 → PH → Prop} (k : (WI T N 99 4 [some (vr (some w)), some (vi 0), some (vi 0), none] [] h K)) : CI T N 99 [vr (some w)] h K := by
  show WP T N 99 0 [some (vr (some w)), none, none, none] [] h _
  refine R_ps 4 (pc2 := 4) (L2 := [some (vr (some w)), some (vi 0), some (vi 0), none]) (st2 := []) rfl ?_
  exact k
theorem m99_4 {T N : Nat → Nat} {h : PH} {w : Nat} {x1 : Int32} {x2 : Int32} {K : Int32 → PH → Prop} (t0 : T w = 10) (k : (((x2 < (gi h w 5) → (CR T N 91 [vr (some w), vi x2] h (fun x_6 h_5 => (((x_6 = none → (WI T N 99 4 [some (vr (some w)), some (vi x1), some (vi (x2 + 1)), none] [] h_5 K)) ∧ (∀ a_8, x_6 = some a_8 → (CI T N 100 [vr (some w), vr (some a_8)] h_5 (fun x_12 h_11 => (((x_12 = 0 → (WI T N 99 4 [some (vr (some w)), some (vi x1), some (vi (x2 + 1)), none] [] h_11 K)) ∧ (¬ (x_12 = 0) → (WI T N 99 4 [some (vr (some w)), some (vi (x1 ||| (1 <<< (x2 &&& 31)))), some (vi (x2 + 1)), none] [] h_11 K)))))))))))) ∧ (¬ (x2 < (gi h w 5)) → (K x1 h))))) : WI T N 99 4 [some (vr (some w)), some (vi x1), some (vi x2), none] [] h K := by
  show WP T N 99 4 [some (vr (some w)), some (vi x1), some (vi x2), none] [] h _
  refine R_ps 2 (pc2 := 6) (L2 := [some (vr (some w)), some (vi x1), some (vi x2), none]) (st2 := [vr (some w), vi x2]) rfl ?_
  refine R_getI rfl t0 ?_
  refine R_if rfl (fun c_2 => ?_) (fun c_2 => ?_)
  · have k := k.2 (i32_nlt c_2)
    refine R_ps 1 (pc2 := 43) (L2 := [some (vr (some w)), some (vi x1), some (vi x2), none]) (st2 := [vi x1]) rfl ?_
    exact R_iret rfl rfl ⟨_, rfl, k⟩
  · have k := k.1 (i32_lt c_2)
    refine R_ps 2 (pc2 := 14) (L2 := [some (vr (some w)), some (vi x1), some (vi x2), none]) (st2 := [vi x2, vr (some w)]) rfl ?_
    refine R_cR (as := [vr (some w), vi x2]) rfl rfl ⟨Nat.le_of_ble_eq_true rfl, Nat.le_of_ble_eq_true rfl, rfl, (Or.inr ⟨_, rfl, t0⟩)⟩ rfl rfl k (fun x_6 h_5 k => ?_)
    refine R_ps 2 (pc2 := 19) (L2 := [some (vr (some w)), some (vi x1), some (vi x2), some (vr x_6)]) (st2 := [vr x_6]) rfl ?_
    rcases null_or (x_6) with e_9 | ⟨a_8, e_9⟩
    · have k := k.1 e_9
      rw [e_9]
      refine R_null rfl (fun _ => ?_) (fun _ c_7 => nomatch c_7)
      refine R_ps 2 (pc2 := 4) (L2 := [some (vr (some w)), some (vi x1), some (vi (x2 + 1)), some (vr none)]) (st2 := []) rfl ?_
      exact R_drop k (LE_of (L := [some (vr (some w)), some (vi x1), some (vi (x2 + 1)), none]) (L2 := [some (vr (some w)), some (vi x1), some (vi (x2 + 1)), some (vr none)]) ⟨rfl, rfl, rfl, trivial⟩)
    · have k := k.2 a_8 e_9
      rw [e_9]
      refine R_null rfl (fun c_7 => nomatch c_7) (fun _ _ => ?_)
      refine R_ps 2 (pc2 := 24) (L2 := [some (vr (some w)), some (vi x1), some (vi x2), some (vr (some a_8))]) (st2 := [vr (some a_8), vr (some w)]) rfl ?_
      refine R_cI (as := [vr (some w), vr (some a_8)]) rfl rfl ⟨Nat.le_of_ble_eq_true rfl, Nat.le_of_ble_eq_true rfl, rfl, (Or.inr ⟨_, rfl, t0⟩)⟩ rfl rfl k (fun x_12 h_11 k => ?_)
      refine R_if0 rfl (fun c_13 => ?_) (fun c_13 => ?_)
      · have k := k.1 c_13
        refine R_ps 2 (pc2 := 4) (L2 := [some (vr (some w)), some (vi x1), some (vi (x2 + 1)), some (vr (some a_8))]) (st2 := []) rfl ?_
        exact R_drop k (LE_of (L := [some (vr (some w)), some (vi x1), some (vi (x2 + 1)), none]) (L2 := [some (vr (some w)), some (vi x1), some (vi (x2 + 1)), some (vr (some a_8))]) ⟨rfl, rfl, rfl, trivial⟩)
      · have k := k.2 c_13
        refine R_ps 8 (pc2 := 4) (L2 := [some (vr (some w)), some (vi (x1 ||| (1 <<< (x2 &&& 31)))), some (vi (x2 + 1)), some (vr (some a_8))]) (st2 := []) rfl ?_
        exact R_drop k (LE_of (L := [some (vr (some w)), some (vi (x1 ||| (1 <<< (x2 &&& 31)))), some (vi (x2 + 1)), none]) (L2 := [some (vr (some w)), some (vi (x1 ||| (1 <<< (x2 &&& 31)))), some (vi (x2 + 1)), some (vr (some a_8))]) ⟨rfl, rfl, rfl, trivial⟩)
/-- DroneCorridors$World.isStruck -/
theorem m100 {T N : Nat → Nat} {h : PH} {w : Nat} {a1 : Nat} {K : Int32 → PH → Prop} (t0 : T a1 = 3) (k : (CI T N 19 [vr (some a1)] h (fun x_3 h_2 => (WI T N 100 5 [some (vr (some w)), some (vr (some a1)), some (vi x_3), none] [] h_2 K)))) : CI T N 100 [vr (some w), vr (some a1)] h K := by
  show WP T N 100 0 [some (vr (some w)), some (vr (some a1)), none, none] [] h _
  refine R_ps 1 (pc2 := 1) (L2 := [some (vr (some w)), some (vr (some a1)), none, none]) (st2 := [vr (some a1)]) rfl ?_
  refine R_cI (as := [vr (some a1)]) rfl rfl ⟨Nat.le_of_ble_eq_true rfl, Nat.le_of_ble_eq_true rfl, rfl, (Or.inr ⟨_, rfl, t0⟩)⟩ rfl rfl k (fun x_3 h_2 k => ?_)
  refine R_ps 1 (pc2 := 5) (L2 := [some (vr (some w)), some (vr (some a1)), some (vi x_3), none]) (st2 := []) rfl ?_
  exact k
theorem m100_5 {T N : Nat → Nat} {h : PH} {w : Nat} {a1 : Nat} {x2 : Int32} {K : Int32 → PH → Prop} (t0 : T a1 = 3) (t1 : T w = 10) (k : (((x2 < (gi h a1 8) → (CR T N 17 [vr (some a1), vi x2] h (fun x_6 h_5 => (((x_6 = none → (WI T N 100 5 [some (vr (some w)), some (vr (some a1)), some (vi (x2 + 1)), none] [] h_5 K)) ∧ (∀ a_8, x_6 = some a_8 → (CI T N 101 [vr (some w), vr (some a_8)] h_5 (fun x_12 h_11 => (((x_12 = 0 → (WI T N 100 5 [some (vr (some w)), some (vr (some a1)), some (vi (x2 + 1)), none] [] h_11 K)) ∧ (¬ (x_12 = 0) → (K 1 h_11)))))))))))) ∧ (¬ (x2 < (gi h a1 8)) → (K 0 h))))) : WI T N 100 5 [some (vr (some w)), some (vr (some a1)), some (vi x2), none] [] h K := by
  show WP T N 100 5 [some (vr (some w)), some (vr (some a1)), some (vi x2), none] [] h _
  refine R_ps 2 (pc2 := 7) (L2 := [some (vr (some w)), some (vr (some a1)), some (vi x2), none]) (st2 := [vr (some a1), vi x2]) rfl ?_
  refine R_getI rfl t0 ?_
  refine R_if rfl (fun c_2 => ?_) (fun c_2 => ?_)
  · have k := k.2 (i32_nlt c_2)
    refine R_ps 1 (pc2 := 40) (L2 := [some (vr (some w)), some (vr (some a1)), some (vi x2), none]) (st2 := [vi 0]) rfl ?_
    exact R_zret rfl rfl (Or.inl rfl) ⟨_, rfl, k⟩
  · have k := k.1 (i32_lt c_2)
    refine R_ps 2 (pc2 := 15) (L2 := [some (vr (some w)), some (vr (some a1)), some (vi x2), none]) (st2 := [vi x2, vr (some a1)]) rfl ?_
    refine R_cR (as := [vr (some a1), vi x2]) rfl rfl ⟨Nat.le_of_ble_eq_true rfl, Nat.le_of_ble_eq_true rfl, rfl, (Or.inr ⟨_, rfl, t0⟩)⟩ rfl rfl k (fun x_6 h_5 k => ?_)
    refine R_ps 2 (pc2 := 20) (L2 := [some (vr (some w)), some (vr (some a1)), some (vi x2), some (vr x_6)]) (st2 := [vr x_6]) rfl ?_
    rcases null_or (x_6) with e_9 | ⟨a_8, e_9⟩
    · have k := k.1 e_9
      rw [e_9]
      refine R_null rfl (fun _ => ?_) (fun _ c_7 => nomatch c_7)
      refine R_ps 2 (pc2 := 5) (L2 := [some (vr (some w)), some (vr (some a1)), some (vi (x2 + 1)), some (vr none)]) (st2 := []) rfl ?_
      exact R_drop k (LE_of (L := [some (vr (some w)), some (vr (some a1)), some (vi (x2 + 1)), none]) (L2 := [some (vr (some w)), some (vr (some a1)), some (vi (x2 + 1)), some (vr none)]) ⟨rfl, rfl, rfl, trivial⟩)
    · have k := k.2 a_8 e_9
      rw [e_9]
      refine R_null rfl (fun c_7 => nomatch c_7) (fun _ _ => ?_)
      refine R_ps 2 (pc2 := 25) (L2 := [some (vr (some w)), some (vr (some a1)), some (vi x2), some (vr (some a_8))]) (st2 := [vr (some a_8), vr (some w)]) rfl ?_
      refine R_cI (as := [vr (some w), vr (some a_8)]) rfl rfl ⟨Nat.le_of_ble_eq_true rfl, Nat.le_of_ble_eq_true rfl, rfl, (Or.inr ⟨_, rfl, t1⟩)⟩ rfl rfl k (fun x_12 h_11 k => ?_)
      refine R_if0 rfl (fun c_13 => ?_) (fun c_13 => ?_)
      · have k := k.1 c_13
        refine R_ps 2 (pc2 := 5) (L2 := [some (vr (some w)), some (vr (some a1)), some (vi (x2 + 1)), some (vr (some a_8))]) (st2 := []) rfl ?_
        exact R_drop k (LE_of (L := [some (vr (some w)), some (vr (some a1)), some (vi (x2 + 1)), none]) (L2 := [some (vr (some w)), some (vr (some a1)), some (vi (x2 + 1)), some (vr (some a_8))]) ⟨rfl, rfl, rfl, trivial⟩)
      · have k := k.2 c_13
        refine R_ps 1 (pc2 := 32) (L2 := [some (vr (some w)), some (vr (some a1)), some (vi x2), some (vr (some a_8))]) (st2 := [vi 1]) rfl ?_
        exact R_zret rfl rfl (Or.inr rfl) ⟨_, rfl, k⟩
/-- DroneCorridors$World.isFenced -/
theorem m101 {T N : Nat → Nat} {h : PH} {w : Nat} {a1 : Nat} {K : Int32 → PH → Prop} (k : (WI T N 101 2 [some (vr (some w)), some (vr (some a1)), some (vi 0), none] [] h K)) : CI T N 101 [vr (some w), vr (some a1)] h K := by
  show WP T N 101 0 [some (vr (some w)), some (vr (some a1)), none, none] [] h _
  refine R_ps 2 (pc2 := 2) (L2 := [some (vr (some w)), some (vr (some a1)), some (vi 0), none]) (st2 := []) rfl ?_
  exact k
theorem m101_2 {T N : Nat → Nat} {h : PH} {w : Nat} {a1 : Nat} {x2 : Int32} {K : Int32 → PH → Prop} (t0 : T w = 10) (k : (((x2 < (gi h w 4) → (CR T N 90 [vr (some w), vi x2] h (fun x_6 h_5 => (((x_6 = none → (WI T N 101 2 [some (vr (some w)), some (vr (some a1)), some (vi (x2 + 1)), none] [] h_5 K)) ∧ (∀ a_8, x_6 = some a_8 → (T a_8 = 4 ∧ CI T N 37 [vr (some a_8), vr (some a1)] h_5 (fun x_13 h_12 => (((x_13 = 0 → (WI T N 101 2 [some (vr (some w)), some (vr (some a1)), some (vi (x2 + 1)), none] [] h_12 K)) ∧ (¬ (x_13 = 0) → (K 1 h_12)))))))))))) ∧ (¬ (x2 < (gi h w 4)) → (K 0 h))))) : WI T N 101 2 [some (vr (some w)), some (vr (some a1)), some (vi x2), none] [] h K := by
  show WP T N 101 2 [some (vr (some w)), some (vr (some a1)), some (vi x2), none] [] h _
  refine R_ps 2 (pc2 := 4) (L2 := [some (vr (some w)), some (vr (some a1)), some (vi x2), none]) (st2 := [vr (some w), vi x2]) rfl ?_
  refine R_getI rfl t0 ?_
  refine R_if rfl (fun c_2 => ?_) (fun c_2 => ?_)
  · have k := k.2 (i32_nlt c_2)
    refine R_ps 1 (pc2 := 37) (L2 := [some (vr (some w)), some (vr (some a1)), some (vi x2), none]) (st2 := [vi 0]) rfl ?_
    exact R_zret rfl rfl (Or.inl rfl) ⟨_, rfl, k⟩
  · have k := k.1 (i32_lt c_2)
    refine R_ps 2 (pc2 := 12) (L2 := [some (vr (some w)), some (vr (some a1)), some (vi x2), none]) (st2 := [vi x2, vr (some w)]) rfl ?_
    refine R_cR (as := [vr (some w), vi x2]) rfl rfl ⟨Nat.le_of_ble_eq_true rfl, Nat.le_of_ble_eq_true rfl, rfl, (Or.inr ⟨_, rfl, t0⟩)⟩ rfl rfl k (fun x_6 h_5 k => ?_)
    refine R_ps 2 (pc2 := 17) (L2 := [some (vr (some w)), some (vr (some a1)), some (vi x2), some (vr x_6)]) (st2 := [vr x_6]) rfl ?_
    rcases null_or (x_6) with e_9 | ⟨a_8, e_9⟩
    · have k := k.1 e_9
      rw [e_9]
      refine R_null rfl (fun _ => ?_) (fun _ c_7 => nomatch c_7)
      refine R_ps 2 (pc2 := 2) (L2 := [some (vr (some w)), some (vr (some a1)), some (vi (x2 + 1)), some (vr none)]) (st2 := []) rfl ?_
      exact R_drop k (LE_of (L := [some (vr (some w)), some (vr (some a1)), some (vi (x2 + 1)), none]) (L2 := [some (vr (some w)), some (vr (some a1)), some (vi (x2 + 1)), some (vr none)]) ⟨rfl, rfl, rfl, trivial⟩)
    · have k := k.2 a_8 e_9
      rw [e_9]
      refine R_null rfl (fun c_7 => nomatch c_7) (fun _ _ => ?_)
      refine R_ps 2 (pc2 := 22) (L2 := [some (vr (some w)), some (vr (some a1)), some (vi x2), some (vr (some a_8))]) (st2 := [vr (some a1), vr (some a_8)]) rfl ?_
      obtain ⟨t_11, k⟩ := k
      refine R_cI (as := [vr (some a_8), vr (some a1)]) rfl rfl ⟨Nat.le_of_ble_eq_true rfl, Nat.le_of_ble_eq_true rfl, rfl, (Or.inr ⟨_, rfl, t_11⟩)⟩ rfl rfl k (fun x_13 h_12 k => ?_)
      refine R_if0 rfl (fun c_14 => ?_) (fun c_14 => ?_)
      · have k := k.1 c_14
        refine R_ps 2 (pc2 := 2) (L2 := [some (vr (some w)), some (vr (some a1)), some (vi (x2 + 1)), some (vr (some a_8))]) (st2 := []) rfl ?_
        exact R_drop k (LE_of (L := [some (vr (some w)), some (vr (some a1)), some (vi (x2 + 1)), none]) (L2 := [some (vr (some w)), some (vr (some a1)), some (vi (x2 + 1)), some (vr (some a_8))]) ⟨rfl, rfl, rfl, trivial⟩)
      · have k := k.2 c_14
        refine R_ps 1 (pc2 := 29) (L2 := [some (vr (some w)), some (vr (some a1)), some (vi x2), some (vr (some a_8))]) (st2 := [vi 1]) rfl ?_
        exact R_zret rfl rfl (Or.inr rfl) ⟨_, rfl, k⟩
/-- DroneCorridors$World.sumOf -/
theorem m102 {T N : Nat → Nat} {h : PH} {w : Nat} {x1 : Int32} {K : Int32 → PH → Prop} (k : (WI T N 102 4 [some (vr (some w)), some (vi x1), some (vi 0), some (vi 0), none] [] h K)) : CI T N 102 [vr (some w), vi x1] h K := by
  show WP T N 102 0 [some (vr (some w)), some (vi x1), none, none, none] [] h _
  refine R_ps 4 (pc2 := 4) (L2 := [some (vr (some w)), some (vi x1), some (vi 0), some (vi 0), none]) (st2 := []) rfl ?_
  exact k
theorem m102_4 {T N : Nat → Nat} {h : PH} {w : Nat} {x1 : Int32} {x2 : Int32} {x3 : Int32} {K : Int32 → PH → Prop} (t0 : T w = 10) (k : (((x3 < (gi h w 5) → (CR T N 91 [vr (some w), vi x3] h (fun x_6 h_5 => (((x_6 = none → (WI T N 102 4 [some (vr (some w)), some (vi x1), some (vi x2), some (vi (x3 + 1)), none] [] h_5 K)) ∧ (∀ a_8, x_6 = some a_8 → (T a_8 = 3 ∧ CI T N 18 [vr (some a_8), vi x1] h_5 (fun x_13 h_12 => (WI T N 102 4 [some (vr (some w)), some (vi x1), some (vi (x2 + x_13)), some (vi (x3 + 1)), none] [] h_12 K))))))))) ∧ (¬ (x3 < (gi h w 5)) → (K x2 h))))) : WI T N 102 4 [some (vr (some w)), some (vi x1), some (vi x2), some (vi x3), none] [] h K := by
  show WP T N 102 4 [some (vr (some w)), some (vi x1), some (vi x2), some (vi x3), none] [] h _
  refine R_ps 2 (pc2 := 6) (L2 := [some (vr (some w)), some (vi x1), some (vi x2), some (vi x3), none]) (st2 := [vr (some w), vi x3]) rfl ?_
  refine R_getI rfl t0 ?_
  refine R_if rfl (fun c_2 => ?_) (fun c_2 => ?_)
  · have k := k.2 (i32_nlt c_2)
    refine R_ps 1 (pc2 := 40) (L2 := [some (vr (some w)), some (vi x1), some (vi x2), some (vi x3), none]) (st2 := [vi x2]) rfl ?_
    exact R_iret rfl rfl ⟨_, rfl, k⟩
  · have k := k.1 (i32_lt c_2)
    refine R_ps 2 (pc2 := 14) (L2 := [some (vr (some w)), some (vi x1), some (vi x2), some (vi x3), none]) (st2 := [vi x3, vr (some w)]) rfl ?_
    refine R_cR (as := [vr (some w), vi x3]) rfl rfl ⟨Nat.le_of_ble_eq_true rfl, Nat.le_of_ble_eq_true rfl, rfl, (Or.inr ⟨_, rfl, t0⟩)⟩ rfl rfl k (fun x_6 h_5 k => ?_)
    refine R_ps 2 (pc2 := 21) (L2 := [some (vr (some w)), some (vi x1), some (vi x2), some (vi x3), some (vr x_6)]) (st2 := [vr x_6]) rfl ?_
    rcases null_or (x_6) with e_9 | ⟨a_8, e_9⟩
    · have k := k.1 e_9
      rw [e_9]
      refine R_null rfl (fun _ => ?_) (fun _ c_7 => nomatch c_7)
      refine R_ps 2 (pc2 := 4) (L2 := [some (vr (some w)), some (vi x1), some (vi x2), some (vi (x3 + 1)), some (vr none)]) (st2 := []) rfl ?_
      exact R_drop k (LE_of (L := [some (vr (some w)), some (vi x1), some (vi x2), some (vi (x3 + 1)), none]) (L2 := [some (vr (some w)), some (vi x1), some (vi x2), some (vi (x3 + 1)), some (vr none)]) ⟨rfl, rfl, rfl, rfl, trivial⟩)
    · have k := k.2 a_8 e_9
      rw [e_9]
      refine R_null rfl (fun c_7 => nomatch c_7) (fun _ _ => ?_)
      refine R_ps 3 (pc2 := 28) (L2 := [some (vr (some w)), some (vi x1), some (vi x2), some (vi x3), some (vr (some a_8))]) (st2 := [vi x1, vr (some a_8), vi x2]) rfl ?_
      obtain ⟨t_11, k⟩ := k
      refine R_cI (as := [vr (some a_8), vi x1]) rfl rfl ⟨Nat.le_of_ble_eq_true rfl, Nat.le_of_ble_eq_true rfl, rfl, (Or.inr ⟨_, rfl, t_11⟩)⟩ rfl rfl k (fun x_13 h_12 k => ?_)
      refine R_ps 4 (pc2 := 4) (L2 := [some (vr (some w)), some (vi x1), some (vi (x2 + x_13)), some (vi (x3 + 1)), some (vr (some a_8))]) (st2 := []) rfl ?_
      exact R_drop k (LE_of (L := [some (vr (some w)), some (vi x1), some (vi (x2 + x_13)), some (vi (x3 + 1)), none]) (L2 := [some (vr (some w)), some (vi x1), some (vi (x2 + x_13)), some (vi (x3 + 1)), some (vr (some a_8))]) ⟨rfl, rfl, rfl, rfl, trivial⟩)
/-- DroneCorridors$World.passTicks -/
theorem m103 {T N : Nat → Nat} {h : PH} {w : Nat} {x1 : Int32} {K : Int32 → PH → Prop} (k : (WI T N 103 4 [some (vr (some w)), some (vi x1), some (vi 0), some (vi 0), none, none] [] h K)) : CI T N 103 [vr (some w), vi x1] h K := by
  show WP T N 103 0 [some (vr (some w)), some (vi x1), none, none, none, none] [] h _
  refine R_ps 4 (pc2 := 4) (L2 := [some (vr (some w)), some (vi x1), some (vi 0), some (vi 0), none, none]) (st2 := []) rfl ?_
  exact k
theorem m103_4 {T N : Nat → Nat} {h : PH} {w : Nat} {x1 : Int32} {x2 : Int32} {x3 : Int32} {K : Int32 → PH → Prop} (k : (((x3 < x1 → (WI T N 103 12 [some (vr (some w)), some (vi x1), some (vi x2), some (vi x3), some (vi 0), none] [] h K)) ∧ (¬ (x3 < x1) → (K x2 h))))) : WI T N 103 4 [some (vr (some w)), some (vi x1), some (vi x2), some (vi x3), none, none] [] h K := by
  show WP T N 103 4 [some (vr (some w)), some (vi x1), some (vi x2), some (vi x3), none, none] [] h _
  refine R_ps 2 (pc2 := 6) (L2 := [some (vr (some w)), some (vi x1), some (vi x2), some (vi x3), none, none]) (st2 := [vi x1, vi x3]) rfl ?_
  refine R_if rfl (fun c_1 => ?_) (fun c_1 => ?_)
  · have k := k.2 (i32_nlt c_1)
    refine R_ps 1 (pc2 := 73) (L2 := [some (vr (some w)), some (vi x1), some (vi x2), some (vi x3), none, none]) (st2 := [vi x2]) rfl ?_
    exact R_iret rfl rfl ⟨_, rfl, k⟩
  · have k := k.1 (i32_lt c_1)
    refine R_ps 2 (pc2 := 12) (L2 := [some (vr (some w)), some (vi x1), some (vi x2), some (vi x3), some (vi 0), none]) (st2 := []) rfl ?_
    exact k
theorem m103_12 {T N : Nat → Nat} {h : PH} {w : Nat} {x1 : Int32} {x2 : Int32} {x3 : Int32} {x4 : Int32} {K : Int32 → PH → Prop} (t0 : T w = 10) (k : (((x4 < (gi h w 5) → (CR T N 91 [vr (some w), vi x4] h (fun x_9 h_8 => (((x_9 = none → (WI T N 103 12 [some (vr (some w)), some (vi x1), some (vi x2), some (vi x3), some (vi (x4 + 1)), none] [] h_8 K)) ∧ (∀ a_11, x_9 = some a_11 → (T a_11 = 3 ∧ CI T N 31 [vr (some a_11), vr (some w), vi (gi h_8 w 0)] h_8 (fun x_17 h_16 => (((x_17 = 0 → (WI T N 103 12 [some (vr (some w)), some (vi x1), some (vi x2), some (vi x3), some (vi (x4 + 1)), none] [] h_16 K)) ∧ (¬ (x_17 = 0) → (WI T N 103 12 [some (vr (some w)), some (vi x1), some (vi (x2 + 1)), some (vi x3), some (vi (x4 + 1)), none] [] h_16 K)))))))))))) ∧ (¬ (x4 < (gi h w 5)) → (∀ h_5, h_5 = si h w 0 ((gi h w 0) + 1) → WI T N 103 4 [some (vr (some w)), some (vi x1), some (vi x2), some (vi (x3 + 1)), none, none] [] h_5 K))))) : WI T N 103 12 [some (vr (some w)), some (vi x1), some (vi x2), some (vi x3), some (vi x4), none] [] h K := by
  show WP T N 103 12 [some (vr (some w)), some (vi x1), some (vi x2), some (vi x3), some (vi x4), none] [] h _
  refine R_ps 2 (pc2 := 15) (L2 := [some (vr (some w)), some (vi x1), some (vi x2), some (vi x3), some (vi x4), none]) (st2 := [vr (some w), vi x4]) rfl ?_
  refine R_getI rfl t0 ?_
  refine R_if rfl (fun c_2 => ?_) (fun c_2 => ?_)
  · have k := k.2 (i32_nlt c_2)
    refine R_ps 2 (pc2 := 58) (L2 := [some (vr (some w)), some (vi x1), some (vi x2), some (vi x3), some (vi x4), none]) (st2 := [vr (some w), vr (some w)]) rfl ?_
    refine R_getI rfl t0 ?_
    refine R_ps 2 (pc2 := 63) (L2 := [some (vr (some w)), some (vi x1), some (vi x2), some (vi x3), some (vi x4), none]) (st2 := [vi ((gi h w 0) + 1), vr (some w)]) rfl ?_
    refine R_putI rfl t0 ?_
    show WP T N _ _ _ _ (si h w 0 ((gi h w 0) + 1)) _
    generalize e_6 : si h w 0 ((gi h w 0) + 1) = h_5
    replace k := k h_5 e_6.symm
    refine R_ps 2 (pc2 := 4) (L2 := [some (vr (some w)), some (vi x1), some (vi x2), some (vi (x3 + 1)), some (vi x4), none]) (st2 := []) rfl ?_
    exact R_drop k (LE_of (L := [some (vr (some w)), some (vi x1), some (vi x2), some (vi (x3 + 1)), none, none]) (L2 := [some (vr (some w)), some (vi x1), some (vi x2), some (vi (x3 + 1)), some (vi x4), none]) ⟨rfl, rfl, rfl, rfl, trivial⟩)
  · have k := k.1 (i32_lt c_2)
    refine R_ps 2 (pc2 := 24) (L2 := [some (vr (some w)), some (vi x1), some (vi x2), some (vi x3), some (vi x4), none]) (st2 := [vi x4, vr (some w)]) rfl ?_
    refine R_cR (as := [vr (some w), vi x4]) rfl rfl ⟨Nat.le_of_ble_eq_true rfl, Nat.le_of_ble_eq_true rfl, rfl, (Or.inr ⟨_, rfl, t0⟩)⟩ rfl rfl k (fun x_9 h_8 k => ?_)
    refine R_ps 2 (pc2 := 31) (L2 := [some (vr (some w)), some (vi x1), some (vi x2), some (vi x3), some (vi x4), some (vr x_9)]) (st2 := [vr x_9]) rfl ?_
    rcases null_or (x_9) with e_12 | ⟨a_11, e_12⟩
    · have k := k.1 e_12
      rw [e_12]
      refine R_null rfl (fun _ => ?_) (fun _ c_10 => nomatch c_10)
      refine R_ps 2 (pc2 := 12) (L2 := [some (vr (some w)), some (vi x1), some (vi x2), some (vi x3), some (vi (x4 + 1)), some (vr none)]) (st2 := []) rfl ?_
      exact R_drop k (LE_of (L := [some (vr (some w)), some (vi x1), some (vi x2), some (vi x3), some (vi (x4 + 1)), none]) (L2 := [some (vr (some w)), some (vi x1), some (vi x2), some (vi x3), some (vi (x4 + 1)), some (vr none)]) ⟨rfl, rfl, rfl, rfl, rfl, trivial⟩)
    · have k := k.2 a_11 e_12
      rw [e_12]
      refine R_null rfl (fun c_10 => nomatch c_10) (fun _ _ => ?_)
      refine R_ps 3 (pc2 := 38) (L2 := [some (vr (some w)), some (vi x1), some (vi x2), some (vi x3), some (vi x4), some (vr (some a_11))]) (st2 := [vr (some w), vr (some w), vr (some a_11)]) rfl ?_
      refine R_getI rfl t0 ?_
      obtain ⟨t_15, k⟩ := k
      refine R_cI (as := [vr (some a_11), vr (some w), vi (gi h_8 w 0)]) rfl rfl ⟨Nat.le_of_ble_eq_true rfl, Nat.le_of_ble_eq_true rfl, rfl, (Or.inr ⟨_, rfl, t_15⟩)⟩ rfl rfl k (fun x_17 h_16 k => ?_)
      refine R_if0 rfl (fun c_18 => ?_) (fun c_18 => ?_)
      · have k := k.1 c_18
        refine R_ps 2 (pc2 := 12) (L2 := [some (vr (some w)), some (vi x1), some (vi x2), some (vi x3), some (vi (x4 + 1)), some (vr (some a_11))]) (st2 := []) rfl ?_
        exact R_drop k (LE_of (L := [some (vr (some w)), some (vi x1), some (vi x2), some (vi x3), some (vi (x4 + 1)), none]) (L2 := [some (vr (some w)), some (vi x1), some (vi x2), some (vi x3), some (vi (x4 + 1)), some (vr (some a_11))]) ⟨rfl, rfl, rfl, rfl, rfl, trivial⟩)
      · have k := k.2 c_18
        refine R_ps 3 (pc2 := 12) (L2 := [some (vr (some w)), some (vi x1), some (vi (x2 + 1)), some (vi x3), some (vi (x4 + 1)), some (vr (some a_11))]) (st2 := []) rfl ?_
        exact R_drop k (LE_of (L := [some (vr (some w)), some (vi x1), some (vi (x2 + 1)), some (vi x3), some (vi (x4 + 1)), none]) (L2 := [some (vr (some w)), some (vi x1), some (vi (x2 + 1)), some (vi x3), some (vi (x4 + 1)), some (vr (some a_11))]) ⟨rfl, rfl, rfl, rfl, rfl, trivial⟩)
