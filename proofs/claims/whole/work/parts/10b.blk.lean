/-! WHAT IS TO BE SHOWN OF EACH METHOD, by program (gen_z.py): 58 to 104 -/
/-- DroneCorridors$Search.<init> -/
theorem z58 {T N : Nat → Nat} {h : PH} {w : Nat} {K : PH → Prop} (t0 : T w = 8) (k : (T (nx h) = 9 ∧ ∀ a_3 h_4, a_3 = nx h → h_4 = grow h 1 → CV T N 77 [vr (some a_3)] h_4 (fun h_9 => (∀ h_12, h_12 = sr h_9 w 4 (some a_3) → T (nx h_12) = 1 ∧ ∀ a_15 h_16, a_15 = nx h_12 → h_16 = grow h_12 1 → CV T N 0 [vr (some a_15)] h_16 (fun h_21 => (∀ h_24, h_24 = sr h_21 w 5 (some a_15) → (T (nx h_24) = 22 ∧ 3840 = (N (nx h_24) : Int) ∧ N (nx h_24) ≤ 65536) ∧ ∀ a_27 h_28, a_27 = nx h_24 → h_28 = grow h_24 (N (nx h_24)) → ∀ h_33, h_33 = sr h_28 w 6 (some a_27) → (T (nx h_33) = 22 ∧ 3840 = (N (nx h_33) : Int) ∧ N (nx h_33) ≤ 65536) ∧ ∀ a_36 h_37, a_36 = nx h_33 → h_37 = grow h_33 (N (nx h_33)) → ∀ h_42, h_42 = sr h_37 w 7 (some a_36) → (T (nx h_42) = 22 ∧ 30 = (N (nx h_42) : Int) ∧ N (nx h_42) ≤ 65536) ∧ ∀ a_45 h_46, a_45 = nx h_42 → h_46 = grow h_42 (N (nx h_42)) → ∀ h_51, h_51 = sr h_46 w 8 (some a_45) → (T (nx h_51) = 22 ∧ 30 = (N (nx h_51) : Int) ∧ N (nx h_51) ≤ 65536) ∧ ∀ a_54 h_55, a_54 = nx h_51 → h_55 = grow h_51 (N (nx h_51)) → ∀ h_60, h_60 = sr h_55 w 9 (some a_54) → (T (nx h_60) = 22 ∧ 30 = (N (nx h_60) : Int) ∧ N (nx h_60) ≤ 65536) ∧ ∀ a_63 h_64, a_63 = nx h_60 → h_64 = grow h_60 (N (nx h_60)) → ∀ h_69, h_69 = sr h_64 w 10 (some a_63) → (T (nx h_69) = 22 ∧ 30 = (N (nx h_69) : Int) ∧ N (nx h_69) ≤ 65536) ∧ ∀ a_72 h_73, a_72 = nx h_69 → h_73 = grow h_69 (N (nx h_69)) → ∀ h_78, h_78 = sr h_73 w 11 (some a_72) → K h_78)))))) : CV T N 58 [vr (some w)] h K := by
  show WP T N 58 0 [some (vr (some w))] [] h _
  refine R_ps 1 (pc2 := 1) (L2 := [some (vr (some w))]) (st2 := [vr (some w)]) rfl ?_
  refine R_jdk (st2 := []) rfl rfl rfl rfl rfl rfl rfl rfl ?_
  refine R_ps 1 (pc2 := 5) (L2 := [some (vr (some w))]) (st2 := [vr (some w)]) rfl ?_
  obtain ⟨t_7, k⟩ := k
  refine R_new rfl ⟨by decide, t_7⟩ ?_
  show WP T N _ _ _ _ (grow h 1) _
  generalize e_5 : nx h = a_3
  generalize e_6 : grow h 1 = h_4
  replace k := k a_3 h_4 e_5.symm e_6.symm
  refine R_ps 1 (pc2 := 9) (L2 := [some (vr (some w))]) (st2 := [vr (some a_3), vr (some a_3), vr (some w)]) rfl ?_
  refine R_cV (as := [vr (some a_3)]) rfl rfl ⟨Nat.le_of_ble_eq_true rfl, Nat.le_of_ble_eq_true rfl, rfl, (Or.inr ⟨_, rfl, (e_5 ▸ t_7)⟩)⟩ rfl rfl k (fun h_9 k => ?_)
  refine R_putR rfl t0 ?_
  show WP T N _ _ _ _ (sr h_9 w 4 (some a_3)) _
  generalize e_13 : sr h_9 w 4 (some a_3) = h_12
  replace k := k h_12 e_13.symm
  refine R_ps 1 (pc2 := 16) (L2 := [some (vr (some w))]) (st2 := [vr (some w)]) rfl ?_
  obtain ⟨t_19, k⟩ := k
  refine R_new rfl ⟨by decide, t_19⟩ ?_
  show WP T N _ _ _ _ (grow h_12 1) _
  generalize e_17 : nx h_12 = a_15
  generalize e_18 : grow h_12 1 = h_16
  replace k := k a_15 h_16 e_17.symm e_18.symm
  refine R_ps 1 (pc2 := 20) (L2 := [some (vr (some w))]) (st2 := [vr (some a_15), vr (some a_15), vr (some w)]) rfl ?_
  refine R_cV (as := [vr (some a_15)]) rfl rfl ⟨Nat.le_of_ble_eq_true rfl, Nat.le_of_ble_eq_true rfl, rfl, (Or.inr ⟨_, rfl, (e_17 ▸ t_19)⟩)⟩ rfl rfl k (fun h_21 k => ?_)
  refine R_putR rfl t0 ?_
  show WP T N _ _ _ _ (sr h_21 w 5 (some a_15)) _
  generalize e_25 : sr h_21 w 5 (some a_15) = h_24
  replace k := k h_24 e_25.symm
  refine R_ps 2 (pc2 := 30) (L2 := [some (vr (some w))]) (st2 := [vi (J 3840), vr (some w)]) rfl ?_
  obtain ⟨t_31, k⟩ := k
  refine R_znewa (n := 3840) rfl t_31 ?_
  generalize e_30 : grow h_24 (N (nx h_24)) = h_28
  generalize e_29 : nx h_24 = a_27
  replace k := k a_27 h_28 e_29.symm e_30.symm
  refine R_putR rfl t0 ?_
  show WP T N _ _ _ _ (sr h_28 w 6 (some a_27)) _
  generalize e_34 : sr h_28 w 6 (some a_27) = h_33
  replace k := k h_33 e_34.symm
  refine R_ps 2 (pc2 := 39) (L2 := [some (vr (some w))]) (st2 := [vi (J 3840), vr (some w)]) rfl ?_
  obtain ⟨t_40, k⟩ := k
  refine R_znewa (n := 3840) rfl t_40 ?_
  generalize e_39 : grow h_33 (N (nx h_33)) = h_37
  generalize e_38 : nx h_33 = a_36
  replace k := k a_36 h_37 e_38.symm e_39.symm
  refine R_putR rfl t0 ?_
  show WP T N _ _ _ _ (sr h_37 w 7 (some a_36)) _
  generalize e_43 : sr h_37 w 7 (some a_36) = h_42
  replace k := k h_42 e_43.symm
  refine R_ps 2 (pc2 := 47) (L2 := [some (vr (some w))]) (st2 := [vi (J 30), vr (some w)]) rfl ?_
  obtain ⟨t_49, k⟩ := k
  refine R_znewa (n := 30) rfl t_49 ?_
  generalize e_48 : grow h_42 (N (nx h_42)) = h_46
  generalize e_47 : nx h_42 = a_45
  replace k := k a_45 h_46 e_47.symm e_48.symm
  refine R_putR rfl t0 ?_
  show WP T N _ _ _ _ (sr h_46 w 8 (some a_45)) _
  generalize e_52 : sr h_46 w 8 (some a_45) = h_51
  replace k := k h_51 e_52.symm
  refine R_ps 2 (pc2 := 55) (L2 := [some (vr (some w))]) (st2 := [vi (J 30), vr (some w)]) rfl ?_
  obtain ⟨t_58, k⟩ := k
  refine R_znewa (n := 30) rfl t_58 ?_
  generalize e_57 : grow h_51 (N (nx h_51)) = h_55
  generalize e_56 : nx h_51 = a_54
  replace k := k a_54 h_55 e_56.symm e_57.symm
  refine R_putR rfl t0 ?_
  show WP T N _ _ _ _ (sr h_55 w 9 (some a_54)) _
  generalize e_61 : sr h_55 w 9 (some a_54) = h_60
  replace k := k h_60 e_61.symm
  refine R_ps 2 (pc2 := 63) (L2 := [some (vr (some w))]) (st2 := [vi (J 30), vr (some w)]) rfl ?_
  obtain ⟨t_67, k⟩ := k
  refine R_znewa (n := 30) rfl t_67 ?_
  generalize e_66 : grow h_60 (N (nx h_60)) = h_64
  generalize e_65 : nx h_60 = a_63
  replace k := k a_63 h_64 e_65.symm e_66.symm
  refine R_putR rfl t0 ?_
  show WP T N _ _ _ _ (sr h_64 w 10 (some a_63)) _
  generalize e_70 : sr h_64 w 10 (some a_63) = h_69
  replace k := k h_69 e_70.symm
  refine R_ps 2 (pc2 := 71) (L2 := [some (vr (some w))]) (st2 := [vi (J 30), vr (some w)]) rfl ?_
  obtain ⟨t_76, k⟩ := k
  refine R_znewa (n := 30) rfl t_76 ?_
  generalize e_75 : grow h_69 (N (nx h_69)) = h_73
  generalize e_74 : nx h_69 = a_72
  replace k := k a_72 h_73 e_74.symm e_75.symm
  refine R_putR rfl t0 ?_
  show WP T N _ _ _ _ (sr h_73 w 11 (some a_72)) _
  generalize e_79 : sr h_73 w 11 (some a_72) = h_78
  replace k := k h_78 e_79.symm
  exact R_ret rfl rfl ⟨rfl, k⟩
/-- DroneCorridors$Search.find -/
theorem z59 {T N : Nat → Nat} {h : PH} {w : Nat} {a1 : Nat} {x2 : Int} {x3 : Int} {x4 : Int} {K : Int → PH → Prop} (t0 : T a1 = 10) (t1 : T w = 8) (r2 : In x2) (r3 : In x3) (r4 : In x4) (k : (CR T N 91 [vr (some a1), vi (J x2)] h (fun x_3 h_2 => (((x_3 = none → (K 0 h_2)) ∧ (∀ a_5, x_3 = some a_5 → (T a_5 = 3 ∧ (((ai h_2 a_5 0) = 3 → (K 0 h_2)) ∧ (¬ ((ai h_2 a_5 0) = 3) → (CV T N 61 [vr (some w), vr (some a_5), vi (J (ai h_2 a1 0))] h_2 (fun h_13 => (ZI T N 145 [vi (J x3), vi (J (ai h_13 w 14))] h_13 (fun x_18 h_17 => (((x_18 = 0 → (∃ a_24, (gr h_17 w 4) = some a_24 ∧ T a_24 = 9 ∧ CV T N 79 [vr (some a_24), vr (some a1), vi (J (ai h_17 a1 2)), vi (J 0)] h_17 (fun h_27 => (∃ a_31, (gr h_27 w 5) = some a_31 ∧ T a_31 = 1 ∧ CV T N 2 [vr (some a_31)] h_27 (fun h_34 => (((x4 < 1 → (((x4 < 2 → (ZI T N 63 [vr (some w), vr (some a1), vi (J x3)] h_34 (fun x_40 h_39 => ((x_40 = 0 ∨ x_40 = 1) ∧ K x_40 h_39)))) ∧ (¬ (x4 < 2) → (∃ a_46, (gr h_34 w 5) = some a_46 ∧ T a_46 = 1 ∧ CV T N 4 [vr (some a_46), vr (some a1), vi (J x2)] h_34 (fun h_49 => (ZI T N 63 [vr (some w), vr (some a1), vi (J x3)] h_49 (fun x_53 h_52 => ((x_53 = 0 ∨ x_53 = 1) ∧ K x_53 h_52))))))))) ∧ (¬ (x4 < 1) → (∃ a_59, (gr h_34 w 5) = some a_59 ∧ T a_59 = 1 ∧ CV T N 3 [vr (some a_59), vr (some a1)] h_34 (fun h_62 => (((x4 < 2 → (ZI T N 63 [vr (some w), vr (some a1), vi (J x3)] h_62 (fun x_67 h_66 => ((x_67 = 0 ∨ x_67 = 1) ∧ K x_67 h_66)))) ∧ (¬ (x4 < 2) → (∃ a_73, (gr h_62 w 5) = some a_73 ∧ T a_73 = 1 ∧ CV T N 4 [vr (some a_73), vr (some a1), vi (J x2)] h_62 (fun h_76 => (ZI T N 63 [vr (some w), vr (some a1), vi (J x3)] h_76 (fun x_80 h_79 => ((x_80 = 0 ∨ x_80 = 1) ∧ K x_80 h_79)))))))))))))))))) ∧ (¬ (x_18 = 0) → (CV T N 62 [vr (some w), vi (J (-1)), vi (J ((ai h_17 a1 0) + (ai h_17 w 13))), vi (J 0), vi (J (ai h_17 w 14))] h_17 (fun h_88 => (K 1 h_88))))))))))))))))))) : ZI T N 59 [vr (some w), vr (some a1), vi (J x2), vi (J x3), vi (J x4)] h K := by
  show WP T N 59 0 [some (vr (some w)), some (vr (some a1)), some (vi (J x2)), some (vi (J x3)), some (vi (J x4)), none] [] h _
  refine R_ps 2 (pc2 := 2) (L2 := [some (vr (some w)), some (vr (some a1)), some (vi (J x2)), some (vi (J x3)), some (vi (J x4)), none]) (st2 := [vi (J x2), vr (some a1)]) rfl ?_
  refine R_cR (as := [vr (some a1), vi (J x2)]) rfl rfl ⟨Nat.le_of_ble_eq_true rfl, Nat.le_of_ble_eq_true rfl, rfl, (Or.inr ⟨_, rfl, t0⟩)⟩ rfl rfl k (fun x_3 h_2 k => ?_)
  refine R_ps 2 (pc2 := 9) (L2 := [some (vr (some w)), some (vr (some a1)), some (vi (J x2)), some (vi (J x3)), some (vi (J x4)), some (vr x_3)]) (st2 := [vr x_3]) rfl ?_
  rcases null_or (x_3) with e_6 | ⟨a_5, e_6⟩
  · have k := k.1 e_6
    rw [e_6]
    refine R_null rfl (fun _ => ?_) (fun _ c_4 => nomatch c_4)
    refine R_ps 1 (pc2 := 22) (L2 := [some (vr (some w)), some (vr (some a1)), some (vi (J x2)), some (vi (J x3)), some (vi (J x4)), some (vr none)]) (st2 := [vi (J 0)]) rfl ?_
    exact R_zzret (x := 0) rfl rfl (Or.inl rfl) (R_zr (x := 0) (K := K) (by decide) k)
  · have k := k.2 a_5 e_6
    rw [e_6]
    refine R_null rfl (fun c_4 => nomatch c_4) (fun _ _ => ?_)
    refine R_ps 1 (pc2 := 14) (L2 := [some (vr (some w)), some (vr (some a1)), some (vi (J x2)), some (vi (J x3)), some (vi (J x4)), some (vr (some a_5))]) (st2 := [vr (some a_5)]) rfl ?_
    obtain ⟨t_9, k⟩ := k
    refine R_zgetI (z := 0) rfl t_9 rfl ?_
    refine R_ps 1 (pc2 := 18) (L2 := [some (vr (some w)), some (vr (some a1)), some (vi (J x2)), some (vi (J x3)), some (vi (J x4)), some (vr (some a_5))]) (st2 := [vi (J 3), vi (J (ai h_2 a_5 0))]) rfl ?_
    refine R_zif (x := ai h_2 a_5 0) (z := 3) rfl (ai_in _ _ _) (by decide) (fun c_10 => ?_) (fun c_10 => ?_)
    · have k := k.2 c_10
      refine R_ps 3 (pc2 := 27) (L2 := [some (vr (some w)), some (vr (some a1)), some (vi (J x2)), some (vi (J x3)), some (vi (J x4)), some (vr (some a_5))]) (st2 := [vr (some a1), vr (some a_5), vr (some w)]) rfl ?_
      refine R_zgetI (z := 0) rfl t0 rfl ?_
      refine R_cV (as := [vr (some w), vr (some a_5), vi (J (ai h_2 a1 0))]) rfl rfl ⟨Nat.le_of_ble_eq_true rfl, Nat.le_of_ble_eq_true rfl, rfl, (Or.inr ⟨_, rfl, t1⟩)⟩ rfl rfl k (fun h_13 k => ?_)
      refine R_ps 2 (pc2 := 35) (L2 := [some (vr (some w)), some (vr (some a1)), some (vi (J x2)), some (vi (J x3)), some (vi (J x4)), some (vr (some a_5))]) (st2 := [vr (some w), vi (J x3)]) rfl ?_
      refine R_zgetI (z := 14) rfl t1 rfl ?_
      refine R_zcI (as := [vi (J x3), vi (J (ai h_13 w 14))]) rfl rfl ⟨Nat.le_of_ble_eq_true rfl, Nat.le_of_ble_eq_true rfl, rfl, (Or.inl rfl)⟩ rfl rfl k (fun x_18 h_17 r_19 k => ?_)
      refine R_zif0 (x := x_18) rfl r_19 (fun c_20 => ?_) (fun c_20 => ?_)
      · have k := k.1 c_20
        refine R_ps 1 (pc2 := 66) (L2 := [some (vr (some w)), some (vr (some a1)), some (vi (J x2)), some (vi (J x3)), some (vi (J x4)), some (vr (some a_5))]) (st2 := [vr (some w)]) rfl ?_
        refine R_getR rfl t1 ?_
        refine R_ps 2 (pc2 := 71) (L2 := [some (vr (some w)), some (vr (some a1)), some (vi (J x2)), some (vi (J x3)), some (vi (J x4)), some (vr (some a_5))]) (st2 := [vr (some a1), vr (some a1), vr (gr h_17 w 4)]) rfl ?_
        refine R_zgetI (z := 2) rfl t0 rfl ?_
        refine R_ps 1 (pc2 := 75) (L2 := [some (vr (some w)), some (vr (some a1)), some (vi (J x2)), some (vi (J x3)), some (vi (J x4)), some (vr (some a_5))]) (st2 := [vi (J 0), vi (J (ai h_17 a1 2)), vr (some a1), vr (gr h_17 w 4)]) rfl ?_
        obtain ⟨a_24, e_25, k⟩ := k
        rw [e_25]
        obtain ⟨t_26, k⟩ := k
        refine R_cV (as := [vr (some a_24), vr (some a1), vi (J (ai h_17 a1 2)), vi (J 0)]) rfl rfl ⟨Nat.le_of_ble_eq_true rfl, Nat.le_of_ble_eq_true rfl, rfl, (Or.inr ⟨_, rfl, t_26⟩)⟩ rfl rfl k (fun h_27 k => ?_)
        refine R_ps 1 (pc2 := 79) (L2 := [some (vr (some w)), some (vr (some a1)), some (vi (J x2)), some (vi (J x3)), some (vi (J x4)), some (vr (some a_5))]) (st2 := [vr (some w)]) rfl ?_
        refine R_getR rfl t1 ?_
        obtain ⟨a_31, e_32, k⟩ := k
        rw [e_32]
        obtain ⟨t_33, k⟩ := k
        refine R_cV (as := [vr (some a_31)]) rfl rfl ⟨Nat.le_of_ble_eq_true rfl, Nat.le_of_ble_eq_true rfl, rfl, (Or.inr ⟨_, rfl, t_33⟩)⟩ rfl rfl k (fun h_34 k => ?_)
        refine R_ps 2 (pc2 := 88) (L2 := [some (vr (some w)), some (vr (some a1)), some (vi (J x2)), some (vi (J x3)), some (vi (J x4)), some (vr (some a_5))]) (st2 := [vi (J 1), vi (J x4)]) rfl ?_
        refine R_zif (x := x4) (z := 1) rfl r4 (by decide) (fun c_36 => ?_) (fun c_36 => ?_)
        · have k := k.1 c_36
          refine R_ps 2 (pc2 := 102) (L2 := [some (vr (some w)), some (vr (some a1)), some (vi (J x2)), some (vi (J x3)), some (vi (J x4)), some (vr (some a_5))]) (st2 := [vi (J 2), vi (J x4)]) rfl ?_
          refine R_zif (x := x4) (z := 2) rfl r4 (by decide) (fun c_37 => ?_) (fun c_37 => ?_)
          · have k := k.1 c_37
            refine R_ps 3 (pc2 := 117) (L2 := [some (vr (some w)), some (vr (some a1)), some (vi (J x2)), some (vi (J x3)), some (vi (J x4)), some (vr (some a_5))]) (st2 := [vi (J x3), vr (some a1), vr (some w)]) rfl ?_
            refine R_zcI (as := [vr (some w), vr (some a1), vi (J x3)]) rfl rfl ⟨Nat.le_of_ble_eq_true rfl, Nat.le_of_ble_eq_true rfl, rfl, (Or.inr ⟨_, rfl, t1⟩)⟩ rfl rfl k (fun x_40 h_39 r_41 k => ?_)
            obtain ⟨t_43, k⟩ := k
            exact R_zzret (x := x_40) rfl rfl t_43 (R_zr (x := x_40) (K := K) r_41 k)
          · have k := k.2 c_37
            refine R_ps 1 (pc2 := 106) (L2 := [some (vr (some w)), some (vr (some a1)), some (vi (J x2)), some (vi (J x3)), some (vi (J x4)), some (vr (some a_5))]) (st2 := [vr (some w)]) rfl ?_
            refine R_getR rfl t1 ?_
            refine R_ps 2 (pc2 := 111) (L2 := [some (vr (some w)), some (vr (some a1)), some (vi (J x2)), some (vi (J x3)), some (vi (J x4)), some (vr (some a_5))]) (st2 := [vi (J x2), vr (some a1), vr (gr h_34 w 5)]) rfl ?_
            obtain ⟨a_46, e_47, k⟩ := k
            rw [e_47]
            obtain ⟨t_48, k⟩ := k
            refine R_cV (as := [vr (some a_46), vr (some a1), vi (J x2)]) rfl rfl ⟨Nat.le_of_ble_eq_true rfl, Nat.le_of_ble_eq_true rfl, rfl, (Or.inr ⟨_, rfl, t_48⟩)⟩ rfl rfl k (fun h_49 k => ?_)
            refine R_ps 3 (pc2 := 117) (L2 := [some (vr (some w)), some (vr (some a1)), some (vi (J x2)), some (vi (J x3)), some (vi (J x4)), some (vr (some a_5))]) (st2 := [vi (J x3), vr (some a1), vr (some w)]) rfl ?_
            refine R_zcI (as := [vr (some w), vr (some a1), vi (J x3)]) rfl rfl ⟨Nat.le_of_ble_eq_true rfl, Nat.le_of_ble_eq_true rfl, rfl, (Or.inr ⟨_, rfl, t1⟩)⟩ rfl rfl k (fun x_53 h_52 r_54 k => ?_)
            obtain ⟨t_56, k⟩ := k
            exact R_zzret (x := x_53) rfl rfl t_56 (R_zr (x := x_53) (K := K) r_54 k)
        · have k := k.2 c_36
          refine R_ps 1 (pc2 := 92) (L2 := [some (vr (some w)), some (vr (some a1)), some (vi (J x2)), some (vi (J x3)), some (vi (J x4)), some (vr (some a_5))]) (st2 := [vr (some w)]) rfl ?_
          refine R_getR rfl t1 ?_
          refine R_ps 1 (pc2 := 96) (L2 := [some (vr (some w)), some (vr (some a1)), some (vi (J x2)), some (vi (J x3)), some (vi (J x4)), some (vr (some a_5))]) (st2 := [vr (some a1), vr (gr h_34 w 5)]) rfl ?_
          obtain ⟨a_59, e_60, k⟩ := k
          rw [e_60]
          obtain ⟨t_61, k⟩ := k
          refine R_cV (as := [vr (some a_59), vr (some a1)]) rfl rfl ⟨Nat.le_of_ble_eq_true rfl, Nat.le_of_ble_eq_true rfl, rfl, (Or.inr ⟨_, rfl, t_61⟩)⟩ rfl rfl k (fun h_62 k => ?_)
          refine R_ps 2 (pc2 := 102) (L2 := [some (vr (some w)), some (vr (some a1)), some (vi (J x2)), some (vi (J x3)), some (vi (J x4)), some (vr (some a_5))]) (st2 := [vi (J 2), vi (J x4)]) rfl ?_
          refine R_zif (x := x4) (z := 2) rfl r4 (by decide) (fun c_64 => ?_) (fun c_64 => ?_)
          · have k := k.1 c_64
            refine R_ps 3 (pc2 := 117) (L2 := [some (vr (some w)), some (vr (some a1)), some (vi (J x2)), some (vi (J x3)), some (vi (J x4)), some (vr (some a_5))]) (st2 := [vi (J x3), vr (some a1), vr (some w)]) rfl ?_
            refine R_zcI (as := [vr (some w), vr (some a1), vi (J x3)]) rfl rfl ⟨Nat.le_of_ble_eq_true rfl, Nat.le_of_ble_eq_true rfl, rfl, (Or.inr ⟨_, rfl, t1⟩)⟩ rfl rfl k (fun x_67 h_66 r_68 k => ?_)
            obtain ⟨t_70, k⟩ := k
            exact R_zzret (x := x_67) rfl rfl t_70 (R_zr (x := x_67) (K := K) r_68 k)
          · have k := k.2 c_64
            refine R_ps 1 (pc2 := 106) (L2 := [some (vr (some w)), some (vr (some a1)), some (vi (J x2)), some (vi (J x3)), some (vi (J x4)), some (vr (some a_5))]) (st2 := [vr (some w)]) rfl ?_
            refine R_getR rfl t1 ?_
            refine R_ps 2 (pc2 := 111) (L2 := [some (vr (some w)), some (vr (some a1)), some (vi (J x2)), some (vi (J x3)), some (vi (J x4)), some (vr (some a_5))]) (st2 := [vi (J x2), vr (some a1), vr (gr h_62 w 5)]) rfl ?_
            obtain ⟨a_73, e_74, k⟩ := k
            rw [e_74]
            obtain ⟨t_75, k⟩ := k
            refine R_cV (as := [vr (some a_73), vr (some a1), vi (J x2)]) rfl rfl ⟨Nat.le_of_ble_eq_true rfl, Nat.le_of_ble_eq_true rfl, rfl, (Or.inr ⟨_, rfl, t_75⟩)⟩ rfl rfl k (fun h_76 k => ?_)
            refine R_ps 3 (pc2 := 117) (L2 := [some (vr (some w)), some (vr (some a1)), some (vi (J x2)), some (vi (J x3)), some (vi (J x4)), some (vr (some a_5))]) (st2 := [vi (J x3), vr (some a1), vr (some w)]) rfl ?_
            refine R_zcI (as := [vr (some w), vr (some a1), vi (J x3)]) rfl rfl ⟨Nat.le_of_ble_eq_true rfl, Nat.le_of_ble_eq_true rfl, rfl, (Or.inr ⟨_, rfl, t1⟩)⟩ rfl rfl k (fun x_80 h_79 r_81 k => ?_)
            obtain ⟨t_83, k⟩ := k
            exact R_zzret (x := x_80) rfl rfl t_83 (R_zr (x := x_80) (K := K) r_81 k)
      · have k := k.2 c_20
        refine R_ps 3 (pc2 := 47) (L2 := [some (vr (some w)), some (vr (some a1)), some (vi (J x2)), some (vi (J x3)), some (vi (J x4)), some (vr (some a_5))]) (st2 := [vr (some a1), vi (J (-1)), vr (some w)]) rfl ?_
        refine R_zgetI (z := 0) rfl t0 rfl ?_
        refine R_ps 1 (pc2 := 51) (L2 := [some (vr (some w)), some (vr (some a1)), some (vi (J x2)), some (vi (J x3)), some (vi (J x4)), some (vr (some a_5))]) (st2 := [vr (some w), vi (J (ai h_17 a1 0)), vi (J (-1)), vr (some w)]) rfl ?_
        refine R_zgetI (z := 13) rfl t1 rfl ?_
        refine R_ps 3 (pc2 := 57) (L2 := [some (vr (some w)), some (vr (some a1)), some (vi (J x2)), some (vi (J x3)), some (vi (J x4)), some (vr (some a_5))]) (st2 := [vr (some w), vi (J 0), vi ((J (ai h_17 a1 0)) + (J (ai h_17 w 13))), vi (J (-1)), vr (some w)]) rfl ?_
        rw [show ((J (ai h_17 a1 0)) + (J (ai h_17 w 13))) = J ((ai h_17 a1 0) + (ai h_17 w 13)) from J_add' rfl rfl]
        refine R_zgetI (z := 14) rfl t1 rfl ?_
        refine R_cV (as := [vr (some w), vi (J (-1)), vi (J ((ai h_17 a1 0) + (ai h_17 w 13))), vi (J 0), vi (J (ai h_17 w 14))]) rfl rfl ⟨Nat.le_of_ble_eq_true rfl, Nat.le_of_ble_eq_true rfl, rfl, (Or.inr ⟨_, rfl, t1⟩)⟩ rfl rfl k (fun h_88 k => ?_)
        refine R_ps 1 (pc2 := 64) (L2 := [some (vr (some w)), some (vr (some a1)), some (vi (J x2)), some (vi (J x3)), some (vi (J x4)), some (vr (some a_5))]) (st2 := [vi (J 1)]) rfl ?_
        exact R_zzret (x := 1) rfl rfl (Or.inr rfl) (R_zr (x := 1) (K := K) (by decide) k)
    · have k := k.1 (Classical.not_not.mp c_10)
      refine R_ps 1 (pc2 := 22) (L2 := [some (vr (some w)), some (vr (some a1)), some (vi (J x2)), some (vi (J x3)), some (vi (J x4)), some (vr (some a_5))]) (st2 := [vi (J 0)]) rfl ?_
      exact R_zzret (x := 0) rfl rfl (Or.inl rfl) (R_zr (x := 0) (K := K) (by decide) k)
/-- DroneCorridors$Search.applyTo -/
theorem z60 {T N : Nat → Nat} {h : PH} {w : Nat} {a1 : Nat} {a2 : Nat} {K : PH → Prop} (t0 : T a2 = 3) (t1 : T w = 8) (t2 : T a1 = 10) (k : (ZI T N 22 [vr (some a2)] h (fun x_3 h_2 => (CV T N 75 [vr (some w), vr (some a1), vr (some a2)] h_2 (fun h_6 => (∀ h_10, h_10 = wi h_6 a2 4 (ai h_6 w 2) → (((ai h_10 w 3) = (-1) → ((((ai h_10 a2 0) = 1 → (ZI T N 145 [vi (J (ai h_10 a1 2)), vi (J (ai h_10 w 2))] h_10 (fun x_22 h_21 => (((x_22 = 0 → (K h_21)) ∧ (¬ (x_22 = 0) → (CV T N 28 [vr (some a2)] h_21 (fun h_27 => (K h_27))))))))) ∧ (¬ ((ai h_10 a2 0) = 1) → (K h_10))))) ∧ (¬ ((ai h_10 w 3) = (-1)) → (K h_10))))))))) : CV T N 60 [vr (some w), vr (some a1), vr (some a2)] h K := by
  show WP T N 60 0 [some (vr (some w)), some (vr (some a1)), some (vr (some a2))] [] h _
  refine R_ps 1 (pc2 := 1) (L2 := [some (vr (some w)), some (vr (some a1)), some (vr (some a2))]) (st2 := [vr (some a2)]) rfl ?_
  refine R_zcI (as := [vr (some a2)]) rfl rfl ⟨Nat.le_of_ble_eq_true rfl, Nat.le_of_ble_eq_true rfl, rfl, (Or.inr ⟨_, rfl, t0⟩)⟩ rfl rfl k (fun x_3 h_2 r_4 k => ?_)
  refine R_ps 4 (pc2 := 8) (L2 := [some (vr (some w)), some (vr (some a1)), some (vr (some a2))]) (st2 := [vr (some a2), vr (some a1), vr (some w)]) rfl ?_
  refine R_cV (as := [vr (some w), vr (some a1), vr (some a2)]) rfl rfl ⟨Nat.le_of_ble_eq_true rfl, Nat.le_of_ble_eq_true rfl, rfl, (Or.inr ⟨_, rfl, t1⟩)⟩ rfl rfl k (fun h_6 k => ?_)
  refine R_ps 2 (pc2 := 13) (L2 := [some (vr (some w)), some (vr (some a1)), some (vr (some a2))]) (st2 := [vr (some w), vr (some a2)]) rfl ?_
  refine R_zgetI (z := 2) rfl t1 rfl ?_
  refine R_zputI (x := ai h_6 w 2) (z := 4) rfl t0 rfl ?_
  show WP T N _ _ _ _ (wi h_6 a2 4 (ai h_6 w 2)) _
  generalize e_11 : wi h_6 a2 4 (ai h_6 w 2) = h_10
  replace k := k h_10 e_11.symm
  refine R_ps 1 (pc2 := 20) (L2 := [some (vr (some w)), some (vr (some a1)), some (vr (some a2))]) (st2 := [vr (some w)]) rfl ?_
  refine R_zgetI (z := 3) rfl t1 rfl ?_
  refine R_ps 1 (pc2 := 24) (L2 := [some (vr (some w)), some (vr (some a1)), some (vr (some a2))]) (st2 := [vi (J (-1)), vi (J (ai h_10 w 3))]) rfl ?_
  refine R_zif (x := ai h_10 w 3) (z := (-1)) rfl (ai_in _ _ _) (by decide) (fun c_13 => ?_) (fun c_13 => ?_)
  · have k := k.2 c_13
    exact R_ret rfl rfl ⟨rfl, k⟩
  · have k := k.1 (Classical.not_not.mp c_13)
    refine R_ps 1 (pc2 := 28) (L2 := [some (vr (some w)), some (vr (some a1)), some (vr (some a2))]) (st2 := [vr (some a2)]) rfl ?_
    refine R_zgetI (z := 0) rfl t0 rfl ?_
    refine R_ps 1 (pc2 := 32) (L2 := [some (vr (some w)), some (vr (some a1)), some (vr (some a2))]) (st2 := [vi (J 1), vi (J (ai h_10 a2 0))]) rfl ?_
    refine R_zif (x := ai h_10 a2 0) (z := 1) rfl (ai_in _ _ _) (by decide) (fun c_16 => ?_) (fun c_16 => ?_)
    · have k := k.2 c_16
      exact R_ret rfl rfl ⟨rfl, k⟩
    · have k := k.1 (Classical.not_not.mp c_16)
      refine R_ps 1 (pc2 := 36) (L2 := [some (vr (some w)), some (vr (some a1)), some (vr (some a2))]) (st2 := [vr (some a1)]) rfl ?_
      refine R_zgetI (z := 2) rfl t2 rfl ?_
      refine R_ps 1 (pc2 := 40) (L2 := [some (vr (some w)), some (vr (some a1)), some (vr (some a2))]) (st2 := [vr (some w), vi (J (ai h_10 a1 2))]) rfl ?_
      refine R_zgetI (z := 2) rfl t1 rfl ?_
      refine R_zcI (as := [vi (J (ai h_10 a1 2)), vi (J (ai h_10 w 2))]) rfl rfl ⟨Nat.le_of_ble_eq_true rfl, Nat.le_of_ble_eq_true rfl, rfl, (Or.inl rfl)⟩ rfl rfl k (fun x_22 h_21 r_23 k => ?_)
      refine R_zif0 (x := x_22) rfl r_23 (fun c_24 => ?_) (fun c_24 => ?_)
      · have k := k.1 c_24
        exact R_ret rfl rfl ⟨rfl, k⟩
      · have k := k.2 c_24
        refine R_ps 1 (pc2 := 50) (L2 := [some (vr (some w)), some (vr (some a1)), some (vr (some a2))]) (st2 := [vr (some a2)]) rfl ?_
        refine R_cV (as := [vr (some a2)]) rfl rfl ⟨Nat.le_of_ble_eq_true rfl, Nat.le_of_ble_eq_true rfl, rfl, (Or.inr ⟨_, rfl, t0⟩)⟩ rfl rfl k (fun h_27 k => ?_)
        exact R_ret rfl rfl ⟨rfl, k⟩
/-- DroneCorridors$Search.setOut -/
theorem z61 {T N : Nat → Nat} {h : PH} {w : Nat} {a1 : Nat} {x2 : Int} {K : PH → Prop} (t0 : T a1 = 3) (t1 : T w = 8) (r2 : In x2) (k : ((((ai h a1 0) = 2 → (CR T N 17 [vr (some a1), vi (J 0)] h (fun x_31 h_30 => (((x_31 = none → (∀ h_36, h_36 = wi h_30 w 13 0 → ∀ h_40, h_40 = wi h_36 w 14 (ai h_36 a1 3) → ∀ h_44, h_44 = wi h_40 w 15 (ai h_40 a1 2) → ∀ h_48, h_48 = wi h_44 w 16 (ai h_44 a1 1) → (((ai h_48 a1 0) = 0 → (∀ h_57, h_57 = wi h_48 w 17 1 → K h_57)) ∧ (¬ ((ai h_48 a1 0) = 0) → (∀ h_53, h_53 = wi h_48 w 17 0 → K h_53))))) ∧ (∀ a_33, x_31 = some a_33 → (T a_33 = 7 ∧ ∀ h_63, h_63 = wi h_30 w 13 ((ai h_30 a_33 4) - x2) → ∀ h_67, h_67 = wi h_63 w 14 (ai h_63 a1 3) → ∀ h_71, h_71 = wi h_67 w 15 (ai h_67 a1 2) → ∀ h_75, h_75 = wi h_71 w 16 (ai h_71 a1 1) → (((ai h_75 a1 0) = 0 → (∀ h_84, h_84 = wi h_75 w 17 1 → K h_84)) ∧ (¬ ((ai h_75 a1 0) = 0) → (∀ h_80, h_80 = wi h_75 w 17 0 → K h_80)))))))))) ∧ (¬ ((ai h a1 0) = 2) → (∀ h_5, h_5 = wi h w 13 0 → ∀ h_9, h_9 = wi h_5 w 14 (ai h_5 a1 3) → ∀ h_13, h_13 = wi h_9 w 15 (ai h_9 a1 2) → ∀ h_17, h_17 = wi h_13 w 16 (ai h_13 a1 1) → (((ai h_17 a1 0) = 0 → (∀ h_26, h_26 = wi h_17 w 17 1 → K h_26)) ∧ (¬ ((ai h_17 a1 0) = 0) → (∀ h_22, h_22 = wi h_17 w 17 0 → K h_22)))))))) : CV T N 61 [vr (some w), vr (some a1), vi (J x2)] h K := by
  show WP T N 61 0 [some (vr (some w)), some (vr (some a1)), some (vi (J x2)), none] [] h _
  refine R_ps 1 (pc2 := 1) (L2 := [some (vr (some w)), some (vr (some a1)), some (vi (J x2)), none]) (st2 := [vr (some a1)]) rfl ?_
  refine R_zgetI (z := 0) rfl t0 rfl ?_
  refine R_ps 1 (pc2 := 5) (L2 := [some (vr (some w)), some (vr (some a1)), some (vi (J x2)), none]) (st2 := [vi (J 2), vi (J (ai h a1 0))]) rfl ?_
  refine R_zif (x := ai h a1 0) (z := 2) rfl (ai_in _ _ _) (by decide) (fun c_2 => ?_) (fun c_2 => ?_)
  · have k := k.2 c_2
    refine R_ps 4 (pc2 := 20) (L2 := [some (vr (some w)), some (vr (some a1)), some (vi (J x2)), some (vr none)]) (st2 := [vr none, vr (some w)]) rfl ?_
    refine R_nonnull rfl (fun _ => ?_) (fun _ c_3 => nomatch c_3)
    refine R_ps 2 (pc2 := 33) (L2 := [some (vr (some w)), some (vr (some a1)), some (vi (J x2)), some (vr none)]) (st2 := [vi (J 0), vr (some w)]) rfl ?_
    refine R_zputI (x := 0) (z := 13) rfl t1 rfl ?_
    show WP T N _ _ _ _ (wi h w 13 0) _
    generalize e_6 : wi h w 13 0 = h_5
    replace k := k h_5 e_6.symm
    refine R_ps 2 (pc2 := 38) (L2 := [some (vr (some w)), some (vr (some a1)), some (vi (J x2)), some (vr none)]) (st2 := [vr (some a1), vr (some w)]) rfl ?_
    refine R_zgetI (z := 3) rfl t0 rfl ?_
    refine R_zputI (x := ai h_5 a1 3) (z := 14) rfl t1 rfl ?_
    show WP T N _ _ _ _ (wi h_5 w 14 (ai h_5 a1 3)) _
    generalize e_10 : wi h_5 w 14 (ai h_5 a1 3) = h_9
    replace k := k h_9 e_10.symm
    refine R_ps 2 (pc2 := 46) (L2 := [some (vr (some w)), some (vr (some a1)), some (vi (J x2)), some (vr none)]) (st2 := [vr (some a1), vr (some w)]) rfl ?_
    refine R_zgetI (z := 2) rfl t0 rfl ?_
    refine R_zputI (x := ai h_9 a1 2) (z := 15) rfl t1 rfl ?_
    show WP T N _ _ _ _ (wi h_9 w 15 (ai h_9 a1 2)) _
    generalize e_14 : wi h_9 w 15 (ai h_9 a1 2) = h_13
    replace k := k h_13 e_14.symm
    refine R_ps 2 (pc2 := 54) (L2 := [some (vr (some w)), some (vr (some a1)), some (vi (J x2)), some (vr none)]) (st2 := [vr (some a1), vr (some w)]) rfl ?_
    refine R_zgetI (z := 1) rfl t0 rfl ?_
    refine R_zputI (x := ai h_13 a1 1) (z := 16) rfl t1 rfl ?_
    show WP T N _ _ _ _ (wi h_13 w 16 (ai h_13 a1 1)) _
    generalize e_18 : wi h_13 w 16 (ai h_13 a1 1) = h_17
    replace k := k h_17 e_18.symm
    refine R_ps 2 (pc2 := 62) (L2 := [some (vr (some w)), some (vr (some a1)), some (vi (J x2)), some (vr none)]) (st2 := [vr (some a1), vr (some w)]) rfl ?_
    refine R_zgetI (z := 0) rfl t0 rfl ?_
    refine R_zif0 (x := ai h_17 a1 0) rfl (ai_in _ _ _) (fun c_20 => ?_) (fun c_20 => ?_)
    · have k := k.2 c_20
      refine R_ps 1 (pc2 := 73) (L2 := [some (vr (some w)), some (vr (some a1)), some (vi (J x2)), some (vr none)]) (st2 := [vi (J 0), vr (some w)]) rfl ?_
      refine R_zputZ (x := 0) (z := 17) rfl t1 (Or.inl rfl) rfl ?_
      show WP T N _ _ _ _ (wi h_17 w 17 0) _
      generalize e_23 : wi h_17 w 17 0 = h_22
      replace k := k h_22 e_23.symm
      exact R_ret rfl rfl ⟨rfl, k⟩
    · have k := k.1 (Classical.not_not.mp c_20)
      refine R_ps 2 (pc2 := 73) (L2 := [some (vr (some w)), some (vr (some a1)), some (vi (J x2)), some (vr none)]) (st2 := [vi (J 1), vr (some w)]) rfl ?_
      refine R_zputZ (x := 1) (z := 17) rfl t1 (Or.inr rfl) rfl ?_
      show WP T N _ _ _ _ (wi h_17 w 17 1) _
      generalize e_27 : wi h_17 w 17 1 = h_26
      replace k := k h_26 e_27.symm
      exact R_ret rfl rfl ⟨rfl, k⟩
  · have k := k.1 (Classical.not_not.mp c_2)
    refine R_ps 2 (pc2 := 10) (L2 := [some (vr (some w)), some (vr (some a1)), some (vi (J x2)), none]) (st2 := [vi (J 0), vr (some a1)]) rfl ?_
    refine R_cR (as := [vr (some a1), vi (J 0)]) rfl rfl ⟨Nat.le_of_ble_eq_true rfl, Nat.le_of_ble_eq_true rfl, rfl, (Or.inr ⟨_, rfl, t0⟩)⟩ rfl rfl k (fun x_31 h_30 k => ?_)
    refine R_ps 4 (pc2 := 20) (L2 := [some (vr (some w)), some (vr (some a1)), some (vi (J x2)), some (vr x_31)]) (st2 := [vr x_31, vr (some w)]) rfl ?_
    rcases null_or (x_31) with e_34 | ⟨a_33, e_34⟩
    · have k := k.1 e_34
      rw [e_34]
      refine R_nonnull rfl (fun _ => ?_) (fun _ c_32 => nomatch c_32)
      refine R_ps 2 (pc2 := 33) (L2 := [some (vr (some w)), some (vr (some a1)), some (vi (J x2)), some (vr none)]) (st2 := [vi (J 0), vr (some w)]) rfl ?_
      refine R_zputI (x := 0) (z := 13) rfl t1 rfl ?_
      show WP T N _ _ _ _ (wi h_30 w 13 0) _
      generalize e_37 : wi h_30 w 13 0 = h_36
      replace k := k h_36 e_37.symm
      refine R_ps 2 (pc2 := 38) (L2 := [some (vr (some w)), some (vr (some a1)), some (vi (J x2)), some (vr none)]) (st2 := [vr (some a1), vr (some w)]) rfl ?_
      refine R_zgetI (z := 3) rfl t0 rfl ?_
      refine R_zputI (x := ai h_36 a1 3) (z := 14) rfl t1 rfl ?_
      show WP T N _ _ _ _ (wi h_36 w 14 (ai h_36 a1 3)) _
      generalize e_41 : wi h_36 w 14 (ai h_36 a1 3) = h_40
      replace k := k h_40 e_41.symm
      refine R_ps 2 (pc2 := 46) (L2 := [some (vr (some w)), some (vr (some a1)), some (vi (J x2)), some (vr none)]) (st2 := [vr (some a1), vr (some w)]) rfl ?_
      refine R_zgetI (z := 2) rfl t0 rfl ?_
      refine R_zputI (x := ai h_40 a1 2) (z := 15) rfl t1 rfl ?_
      show WP T N _ _ _ _ (wi h_40 w 15 (ai h_40 a1 2)) _
      generalize e_45 : wi h_40 w 15 (ai h_40 a1 2) = h_44
      replace k := k h_44 e_45.symm
      refine R_ps 2 (pc2 := 54) (L2 := [some (vr (some w)), some (vr (some a1)), some (vi (J x2)), some (vr none)]) (st2 := [vr (some a1), vr (some w)]) rfl ?_
      refine R_zgetI (z := 1) rfl t0 rfl ?_
      refine R_zputI (x := ai h_44 a1 1) (z := 16) rfl t1 rfl ?_
      show WP T N _ _ _ _ (wi h_44 w 16 (ai h_44 a1 1)) _
      generalize e_49 : wi h_44 w 16 (ai h_44 a1 1) = h_48
      replace k := k h_48 e_49.symm
      refine R_ps 2 (pc2 := 62) (L2 := [some (vr (some w)), some (vr (some a1)), some (vi (J x2)), some (vr none)]) (st2 := [vr (some a1), vr (some w)]) rfl ?_
      refine R_zgetI (z := 0) rfl t0 rfl ?_
      refine R_zif0 (x := ai h_48 a1 0) rfl (ai_in _ _ _) (fun c_51 => ?_) (fun c_51 => ?_)
      · have k := k.2 c_51
        refine R_ps 1 (pc2 := 73) (L2 := [some (vr (some w)), some (vr (some a1)), some (vi (J x2)), some (vr none)]) (st2 := [vi (J 0), vr (some w)]) rfl ?_
        refine R_zputZ (x := 0) (z := 17) rfl t1 (Or.inl rfl) rfl ?_
        show WP T N _ _ _ _ (wi h_48 w 17 0) _
        generalize e_54 : wi h_48 w 17 0 = h_53
        replace k := k h_53 e_54.symm
        exact R_ret rfl rfl ⟨rfl, k⟩
      · have k := k.1 (Classical.not_not.mp c_51)
        refine R_ps 2 (pc2 := 73) (L2 := [some (vr (some w)), some (vr (some a1)), some (vi (J x2)), some (vr none)]) (st2 := [vi (J 1), vr (some w)]) rfl ?_
        refine R_zputZ (x := 1) (z := 17) rfl t1 (Or.inr rfl) rfl ?_
        show WP T N _ _ _ _ (wi h_48 w 17 1) _
        generalize e_58 : wi h_48 w 17 1 = h_57
        replace k := k h_57 e_58.symm
        exact R_ret rfl rfl ⟨rfl, k⟩
    · have k := k.2 a_33 e_34
      rw [e_34]
      refine R_nonnull rfl (fun c_32 => nomatch c_32) (fun _ _ => ?_)
      refine R_ps 1 (pc2 := 28) (L2 := [some (vr (some w)), some (vr (some a1)), some (vi (J x2)), some (vr (some a_33))]) (st2 := [vr (some a_33), vr (some w)]) rfl ?_
      obtain ⟨t_61, k⟩ := k
      refine R_zgetI (z := 4) rfl t_61 rfl ?_
      refine R_ps 2 (pc2 := 33) (L2 := [some (vr (some w)), some (vr (some a1)), some (vi (J x2)), some (vr (some a_33))]) (st2 := [vi ((J (ai h_30 a_33 4)) - (J x2)), vr (some w)]) rfl ?_
      rw [show ((J (ai h_30 a_33 4)) - (J x2)) = J ((ai h_30 a_33 4) - x2) from J_sub' rfl rfl]
      refine R_zputI (x := (ai h_30 a_33 4) - x2) (z := 13) rfl t1 rfl ?_
      show WP T N _ _ _ _ (wi h_30 w 13 ((ai h_30 a_33 4) - x2)) _
      generalize e_64 : wi h_30 w 13 ((ai h_30 a_33 4) - x2) = h_63
      replace k := k h_63 e_64.symm
      refine R_ps 2 (pc2 := 38) (L2 := [some (vr (some w)), some (vr (some a1)), some (vi (J x2)), some (vr (some a_33))]) (st2 := [vr (some a1), vr (some w)]) rfl ?_
      refine R_zgetI (z := 3) rfl t0 rfl ?_
      refine R_zputI (x := ai h_63 a1 3) (z := 14) rfl t1 rfl ?_
      show WP T N _ _ _ _ (wi h_63 w 14 (ai h_63 a1 3)) _
      generalize e_68 : wi h_63 w 14 (ai h_63 a1 3) = h_67
      replace k := k h_67 e_68.symm
      refine R_ps 2 (pc2 := 46) (L2 := [some (vr (some w)), some (vr (some a1)), some (vi (J x2)), some (vr (some a_33))]) (st2 := [vr (some a1), vr (some w)]) rfl ?_
      refine R_zgetI (z := 2) rfl t0 rfl ?_
      refine R_zputI (x := ai h_67 a1 2) (z := 15) rfl t1 rfl ?_
      show WP T N _ _ _ _ (wi h_67 w 15 (ai h_67 a1 2)) _
      generalize e_72 : wi h_67 w 15 (ai h_67 a1 2) = h_71
      replace k := k h_71 e_72.symm
      refine R_ps 2 (pc2 := 54) (L2 := [some (vr (some w)), some (vr (some a1)), some (vi (J x2)), some (vr (some a_33))]) (st2 := [vr (some a1), vr (some w)]) rfl ?_
      refine R_zgetI (z := 1) rfl t0 rfl ?_
      refine R_zputI (x := ai h_71 a1 1) (z := 16) rfl t1 rfl ?_
      show WP T N _ _ _ _ (wi h_71 w 16 (ai h_71 a1 1)) _
      generalize e_76 : wi h_71 w 16 (ai h_71 a1 1) = h_75
      replace k := k h_75 e_76.symm
      refine R_ps 2 (pc2 := 62) (L2 := [some (vr (some w)), some (vr (some a1)), some (vi (J x2)), some (vr (some a_33))]) (st2 := [vr (some a1), vr (some w)]) rfl ?_
      refine R_zgetI (z := 0) rfl t0 rfl ?_
      refine R_zif0 (x := ai h_75 a1 0) rfl (ai_in _ _ _) (fun c_78 => ?_) (fun c_78 => ?_)
      · have k := k.2 c_78
        refine R_ps 1 (pc2 := 73) (L2 := [some (vr (some w)), some (vr (some a1)), some (vi (J x2)), some (vr (some a_33))]) (st2 := [vi (J 0), vr (some w)]) rfl ?_
        refine R_zputZ (x := 0) (z := 17) rfl t1 (Or.inl rfl) rfl ?_
        show WP T N _ _ _ _ (wi h_75 w 17 0) _
        generalize e_81 : wi h_75 w 17 0 = h_80
        replace k := k h_80 e_81.symm
        exact R_ret rfl rfl ⟨rfl, k⟩
      · have k := k.1 (Classical.not_not.mp c_78)
        refine R_ps 2 (pc2 := 73) (L2 := [some (vr (some w)), some (vr (some a1)), some (vi (J x2)), some (vr (some a_33))]) (st2 := [vi (J 1), vr (some w)]) rfl ?_
        refine R_zputZ (x := 1) (z := 17) rfl t1 (Or.inr rfl) rfl ?_
        show WP T N _ _ _ _ (wi h_75 w 17 1) _
        generalize e_85 : wi h_75 w 17 1 = h_84
        replace k := k h_84 e_85.symm
        exact R_ret rfl rfl ⟨rfl, k⟩
/-- DroneCorridors$Search.note -/
theorem z62 {T N : Nat → Nat} {h : PH} {w : Nat} {x1 : Int} {x2 : Int} {x3 : Int} {x4 : Int} {K : PH → Prop} (t0 : T w = 8) (r1 : In x1) (r2 : In x2) (r3 : In x3) (r4 : In x4) (k : (∀ h_2, h_2 = wi h w 3 x1 → ∀ h_5, h_5 = wi h_2 w 0 x2 → ∀ h_8, h_8 = wi h_5 w 1 x3 → ∀ h_11, h_11 = wi h_8 w 2 x4 → K h_11)) : CV T N 62 [vr (some w), vi (J x1), vi (J x2), vi (J x3), vi (J x4)] h K := by
  show WP T N 62 0 [some (vr (some w)), some (vi (J x1)), some (vi (J x2)), some (vi (J x3)), some (vi (J x4))] [] h _
  refine R_ps 2 (pc2 := 2) (L2 := [some (vr (some w)), some (vi (J x1)), some (vi (J x2)), some (vi (J x3)), some (vi (J x4))]) (st2 := [vi (J x1), vr (some w)]) rfl ?_
  refine R_zputI (x := x1) (z := 3) rfl t0 rfl ?_
  show WP T N _ _ _ _ (wi h w 3 x1) _
  generalize e_3 : wi h w 3 x1 = h_2
  replace k := k h_2 e_3.symm
  refine R_ps 2 (pc2 := 7) (L2 := [some (vr (some w)), some (vi (J x1)), some (vi (J x2)), some (vi (J x3)), some (vi (J x4))]) (st2 := [vi (J x2), vr (some w)]) rfl ?_
  refine R_zputI (x := x2) (z := 0) rfl t0 rfl ?_
  show WP T N _ _ _ _ (wi h_2 w 0 x2) _
  generalize e_6 : wi h_2 w 0 x2 = h_5
  replace k := k h_5 e_6.symm
  refine R_ps 2 (pc2 := 12) (L2 := [some (vr (some w)), some (vi (J x1)), some (vi (J x2)), some (vi (J x3)), some (vi (J x4))]) (st2 := [vi (J x3), vr (some w)]) rfl ?_
  refine R_zputI (x := x3) (z := 1) rfl t0 rfl ?_
  show WP T N _ _ _ _ (wi h_5 w 1 x3) _
  generalize e_9 : wi h_5 w 1 x3 = h_8
  replace k := k h_8 e_9.symm
  refine R_ps 2 (pc2 := 18) (L2 := [some (vr (some w)), some (vi (J x1)), some (vi (J x2)), some (vi (J x3)), some (vi (J x4))]) (st2 := [vi (J x4), vr (some w)]) rfl ?_
  refine R_zputI (x := x4) (z := 2) rfl t0 rfl ?_
  show WP T N _ _ _ _ (wi h_8 w 2 x4) _
  generalize e_12 : wi h_8 w 2 x4 = h_11
  replace k := k h_11 e_12.symm
  exact R_ret rfl rfl ⟨rfl, k⟩
/-- DroneCorridors$Search.searchFor -/
theorem z63 {T N : Nat → Nat} {h : PH} {w : Nat} {a1 : Nat} {x2 : Int} {K : Int → PH → Prop} (t0 : T w = 8) (r2 : In x2) (k : (CV T N 254 [vr (gr h w 8), vi (J (-1))] h (fun h_3 => (∀ h_6, h_6 = wi h_3 w 12 0 → ZW T N 63 22 [some (vr (some w)), some (vr (some a1)), some (vi (J x2)), some (vi (J (if (ai h_6 w 13) < 0 then 0 else (ai h_6 w 13)))), none] [] h_6 K)))) : ZI T N 63 [vr (some w), vr (some a1), vi (J x2)] h K := by
  show WP T N 63 0 [some (vr (some w)), some (vr (some a1)), some (vi (J x2)), none, none] [] h _
  refine R_ps 1 (pc2 := 1) (L2 := [some (vr (some w)), some (vr (some a1)), some (vi (J x2)), none, none]) (st2 := [vr (some w)]) rfl ?_
  refine R_getR rfl t0 ?_
  refine R_ps 1 (pc2 := 5) (L2 := [some (vr (some w)), some (vr (some a1)), some (vi (J x2)), none, none]) (st2 := [vi (J (-1)), vr (gr h w 8)]) rfl ?_
  refine R_cV (as := [vr (gr h w 8), vi (J (-1))]) rfl rfl ⟨Nat.le_of_ble_eq_true rfl, Nat.le_of_ble_eq_true rfl, rfl, (Or.inl rfl)⟩ rfl rfl k (fun h_3 k => ?_)
  refine R_ps 2 (pc2 := 10) (L2 := [some (vr (some w)), some (vr (some a1)), some (vi (J x2)), none, none]) (st2 := [vi (J 0), vr (some w)]) rfl ?_
  refine R_zputI (x := 0) (z := 12) rfl t0 rfl ?_
  show WP T N _ _ _ _ (wi h_3 w 12 0) _
  generalize e_7 : wi h_3 w 12 0 = h_6
  replace k := k h_6 e_7.symm
  refine R_ps 1 (pc2 := 14) (L2 := [some (vr (some w)), some (vr (some a1)), some (vi (J x2)), none, none]) (st2 := [vr (some w)]) rfl ?_
  refine R_zgetI (z := 13) rfl t0 rfl ?_
  refine R_ps 1 (pc2 := 18) (L2 := [some (vr (some w)), some (vr (some a1)), some (vi (J x2)), none, none]) (st2 := [vi (J 0), vi (J (ai h_6 w 13))]) rfl ?_
  refine R_jdkz (st2 := [vi (if (J (ai h_6 w 13)) < (J 0) then (J 0) else (J (ai h_6 w 13)))]) (st3 := [vi (J (if (ai h_6 w 13) < 0 then 0 else (ai h_6 w 13)))]) rfl rfl rfl rfl rfl rfl rfl rfl (congrArg (fun q => vi q :: []) (J_max' (ai_in _ _ _) (by decide))) ?_
  refine R_ps 1 (pc2 := 22) (L2 := [some (vr (some w)), some (vr (some a1)), some (vi (J x2)), some (vi (J (if (ai h_6 w 13) < 0 then 0 else (ai h_6 w 13)))), none]) (st2 := []) rfl ?_
  exact k
theorem z63_22 {T N : Nat → Nat} {h : PH} {w : Nat} {a1 : Nat} {x2 : Int} {x3 : Int} {K : Int → PH → Prop} (t0 : T w = 8) (t1 : T a1 = 10) (r2 : In x2) (r3 : In x3) (k : (((40 < x3 → (K 0 h)) ∧ (¬ (40 < x3) → (ZI T N 66 [vr (some w), vr (some a1), vi (J x3)] h (fun x_5 h_4 => ((((zand x_5 x2) = 0 → (∀ h_10, h_10 = wi h_4 w 12 (zor (ai h_4 w 12) x_5) → ((x3 < 40 → (CV T N 70 [vr (some w), vi (J (ai h_10 a1 1)), vi (J x3)] h_10 (fun h_15 => (CV T N 72 [vr (some w), vr (some a1), vi (J x3)] h_15 (fun h_18 => (ZW T N 63 22 [some (vr (some w)), some (vr (some a1)), some (vi (J x2)), some (vi (J (x3 + 1))), none] [] h_18 K)))))) ∧ (¬ (x3 < 40) → (ZW T N 63 22 [some (vr (some w)), some (vr (some a1)), some (vi (J x2)), some (vi (J (x3 + 1))), none] [] h_10 K))))) ∧ (¬ ((zand x_5 x2) = 0) → (ZI T N 146 [vi (J (zand x_5 x2))] h_4 (fun x_22 h_21 => (CV T N 69 [vr (some w), vr (some a1), vi (J x3), vi (J x_22)] h_21 (fun h_25 => (K 1 h_25)))))))))))))) : ZW T N 63 22 [some (vr (some w)), some (vr (some a1)), some (vi (J x2)), some (vi (J x3)), none] [] h K := by
  show WP T N 63 22 [some (vr (some w)), some (vr (some a1)), some (vi (J x2)), some (vi (J x3)), none] [] h _
  refine R_ps 2 (pc2 := 25) (L2 := [some (vr (some w)), some (vr (some a1)), some (vi (J x2)), some (vi (J x3)), none]) (st2 := [vi (J 40), vi (J x3)]) rfl ?_
  refine R_zif (x := x3) (z := 40) rfl r3 (by decide) (fun c_1 => ?_) (fun c_1 => ?_)
  · have k := k.1 c_1
    refine R_ps 1 (pc2 := 97) (L2 := [some (vr (some w)), some (vr (some a1)), some (vi (J x2)), some (vi (J x3)), none]) (st2 := [vi (J 0)]) rfl ?_
    exact R_zzret (x := 0) rfl rfl (Or.inl rfl) (R_zr (x := 0) (K := K) (by decide) k)
  · have k := k.2 c_1
    refine R_ps 3 (pc2 := 31) (L2 := [some (vr (some w)), some (vr (some a1)), some (vi (J x2)), some (vi (J x3)), none]) (st2 := [vi (J x3), vr (some a1), vr (some w)]) rfl ?_
    refine R_zcI (as := [vr (some w), vr (some a1), vi (J x3)]) rfl rfl ⟨Nat.le_of_ble_eq_true rfl, Nat.le_of_ble_eq_true rfl, rfl, (Or.inr ⟨_, rfl, t0⟩)⟩ rfl rfl k (fun x_5 h_4 r_6 k => ?_)
    refine R_ps 4 (pc2 := 40) (L2 := [some (vr (some w)), some (vr (some a1)), some (vi (J x2)), some (vi (J x3)), some (vi (J x_5))]) (st2 := [vi ((J x_5) &&& (J x2))]) rfl ?_
    rw [show ((J x_5) &&& (J x2)) = J (zand x_5 x2) from J_and' rfl rfl]
    refine R_zif0 (x := zand x_5 x2) rfl (zand_in _ _) (fun c_7 => ?_) (fun c_7 => ?_)
    · have k := k.1 c_7
      refine R_ps 2 (pc2 := 60) (L2 := [some (vr (some w)), some (vr (some a1)), some (vi (J x2)), some (vi (J x3)), some (vi (J x_5))]) (st2 := [vr (some w), vr (some w)]) rfl ?_
      refine R_zgetI (z := 12) rfl t0 rfl ?_
      refine R_ps 2 (pc2 := 66) (L2 := [some (vr (some w)), some (vr (some a1)), some (vi (J x2)), some (vi (J x3)), some (vi (J x_5))]) (st2 := [vi ((J (ai h_4 w 12)) ||| (J x_5)), vr (some w)]) rfl ?_
      rw [show ((J (ai h_4 w 12)) ||| (J x_5)) = J (zor (ai h_4 w 12) x_5) from J_or' rfl rfl]
      refine R_zputI (x := zor (ai h_4 w 12) x_5) (z := 12) rfl t0 rfl ?_
      show WP T N _ _ _ _ (wi h_4 w 12 (zor (ai h_4 w 12) x_5)) _
      generalize e_11 : wi h_4 w 12 (zor (ai h_4 w 12) x_5) = h_10
      replace k := k h_10 e_11.symm
      refine R_ps 2 (pc2 := 72) (L2 := [some (vr (some w)), some (vr (some a1)), some (vi (J x2)), some (vi (J x3)), some (vi (J x_5))]) (st2 := [vi (J 40), vi (J x3)]) rfl ?_
      refine R_zif (x := x3) (z := 40) rfl r3 (by decide) (fun c_12 => ?_) (fun c_12 => ?_)
      · have k := k.2 c_12
        refine R_ps 2 (pc2 := 22) (L2 := [some (vr (some w)), some (vr (some a1)), some (vi (J x2)), some (vi ((J x3) + J 1)), some (vi (J x_5))]) (st2 := []) rfl ?_
        rw [show ((J x3) + J 1) = J (x3 + 1) from J_add' rfl rfl]
        exact R_drop k (LE_of (L := [some (vr (some w)), some (vr (some a1)), some (vi (J x2)), some (vi (J (x3 + 1))), none]) (L2 := [some (vr (some w)), some (vr (some a1)), some (vi (J x2)), some (vi (J (x3 + 1))), some (vi (J x_5))]) ⟨rfl, rfl, rfl, rfl, trivial⟩)
      · have k := k.1 (Classical.not_not.mp c_12)
        refine R_ps 2 (pc2 := 77) (L2 := [some (vr (some w)), some (vr (some a1)), some (vi (J x2)), some (vi (J x3)), some (vi (J x_5))]) (st2 := [vr (some a1), vr (some w)]) rfl ?_
        refine R_zgetI (z := 1) rfl t1 rfl ?_
        refine R_ps 1 (pc2 := 81) (L2 := [some (vr (some w)), some (vr (some a1)), some (vi (J x2)), some (vi (J x3)), some (vi (J x_5))]) (st2 := [vi (J x3), vi (J (ai h_10 a1 1)), vr (some w)]) rfl ?_
        refine R_cV (as := [vr (some w), vi (J (ai h_10 a1 1)), vi (J x3)]) rfl rfl ⟨Nat.le_of_ble_eq_true rfl, Nat.le_of_ble_eq_true rfl, rfl, (Or.inr ⟨_, rfl, t0⟩)⟩ rfl rfl k (fun h_15 k => ?_)
        refine R_ps 3 (pc2 := 87) (L2 := [some (vr (some w)), some (vr (some a1)), some (vi (J x2)), some (vi (J x3)), some (vi (J x_5))]) (st2 := [vi (J x3), vr (some a1), vr (some w)]) rfl ?_
        refine R_cV (as := [vr (some w), vr (some a1), vi (J x3)]) rfl rfl ⟨Nat.le_of_ble_eq_true rfl, Nat.le_of_ble_eq_true rfl, rfl, (Or.inr ⟨_, rfl, t0⟩)⟩ rfl rfl k (fun h_18 k => ?_)
        refine R_ps 2 (pc2 := 22) (L2 := [some (vr (some w)), some (vr (some a1)), some (vi (J x2)), some (vi ((J x3) + J 1)), some (vi (J x_5))]) (st2 := []) rfl ?_
        rw [show ((J x3) + J 1) = J (x3 + 1) from J_add' rfl rfl]
        exact R_drop k (LE_of (L := [some (vr (some w)), some (vr (some a1)), some (vi (J x2)), some (vi (J (x3 + 1))), none]) (L2 := [some (vr (some w)), some (vr (some a1)), some (vi (J x2)), some (vi (J (x3 + 1))), some (vi (J x_5))]) ⟨rfl, rfl, rfl, rfl, trivial⟩)
    · have k := k.2 c_7
      refine R_ps 6 (pc2 := 50) (L2 := [some (vr (some w)), some (vr (some a1)), some (vi (J x2)), some (vi (J x3)), some (vi (J x_5))]) (st2 := [vi ((J x_5) &&& (J x2)), vi (J x3), vr (some a1), vr (some w)]) rfl ?_
      rw [show ((J x_5) &&& (J x2)) = J (zand x_5 x2) from J_and' rfl rfl]
      refine R_zcI (as := [vi (J (zand x_5 x2))]) rfl rfl ⟨Nat.le_of_ble_eq_true rfl, Nat.le_of_ble_eq_true rfl, rfl, (Or.inl rfl)⟩ rfl rfl k (fun x_22 h_21 r_23 k => ?_)
      refine R_cV (as := [vr (some w), vr (some a1), vi (J x3), vi (J x_22)]) rfl rfl ⟨Nat.le_of_ble_eq_true rfl, Nat.le_of_ble_eq_true rfl, rfl, (Or.inr ⟨_, rfl, t0⟩)⟩ rfl rfl k (fun h_25 k => ?_)
      refine R_ps 1 (pc2 := 57) (L2 := [some (vr (some w)), some (vr (some a1)), some (vi (J x2)), some (vi (J x3)), some (vi (J x_5))]) (st2 := [vi (J 1)]) rfl ?_
      exact R_zzret (x := 1) rfl rfl (Or.inr rfl) (R_zr (x := 1) (K := K) (by decide) k)
/-- DroneCorridors$Search.energyOfLeg -/
theorem z64 {T N : Nat → Nat} {h : PH} {w : Nat} {x1 : Int} {K : Int → PH → Prop} (t0 : T w = 8) (r1 : In x1) (k : (((x1 < 0 → (K (-1) h)) ∧ (¬ (x1 < 0) → (∃ a_5, (gr h w 6) = some a_5 ∧ 21 ≤ T a_5 ∧ In (N a_5 : Int) ∧ ((x1 < (N a_5 : Int) → (∃ a_13, (gr h w 6) = some a_13 ∧ T a_13 = 22 ∧ (0 ≤ x1 ∧ x1 < (N a_13 : Int) ∧ x1 < 2147483648) ∧ K (ai h a_13 x1) h)) ∧ (¬ (x1 < (N a_5 : Int)) → (K (-1) h)))))))) : ZI T N 64 [vr (some w), vi (J x1)] h K := by
  show WP T N 64 0 [some (vr (some w)), some (vi (J x1))] [] h _
  refine R_ps 1 (pc2 := 1) (L2 := [some (vr (some w)), some (vi (J x1))]) (st2 := [vi (J x1)]) rfl ?_
  refine R_zif0 (x := x1) rfl r1 (fun c_1 => ?_) (fun c_1 => ?_)
  · have k := k.1 c_1
    refine R_ps 1 (pc2 := 23) (L2 := [some (vr (some w)), some (vi (J x1))]) (st2 := [vi (J (-1))]) rfl ?_
    exact R_iret rfl rfl (R_zr (x := (-1)) (K := K) (by decide) k)
  · have k := k.2 c_1
    refine R_ps 2 (pc2 := 6) (L2 := [some (vr (some w)), some (vi (J x1))]) (st2 := [vr (some w), vi (J x1)]) rfl ?_
    refine R_getR rfl t0 ?_
    obtain ⟨a_5, e_6, k⟩ := k
    rw [e_6]
    obtain ⟨t_7, k⟩ := k
    refine R_zalen rfl t_7 ?_
    obtain ⟨t_9, k⟩ := k
    refine R_zif (x := x1) (z := (N a_5 : Int)) rfl r1 t_9 (fun c_8 => ?_) (fun c_8 => ?_)
    · have k := k.2 c_8
      refine R_ps 1 (pc2 := 23) (L2 := [some (vr (some w)), some (vi (J x1))]) (st2 := [vi (J (-1))]) rfl ?_
      exact R_iret rfl rfl (R_zr (x := (-1)) (K := K) (by decide) k)
    · have k := k.1 (Classical.not_not.mp c_8)
      refine R_ps 1 (pc2 := 14) (L2 := [some (vr (some w)), some (vi (J x1))]) (st2 := [vr (some w)]) rfl ?_
      refine R_getR rfl t0 ?_
      refine R_ps 1 (pc2 := 18) (L2 := [some (vr (some w)), some (vi (J x1))]) (st2 := [vi (J x1), vr (gr h w 6)]) rfl ?_
      obtain ⟨a_13, e_14, k⟩ := k
      rw [e_14]
      obtain ⟨t_15, k⟩ := k
      obtain ⟨t_16, k⟩ := k
      refine R_ziald (i := x1) rfl (Or.inl t_15) t_16 ?_
      refine R_ps 1 (pc2 := 23) (L2 := [some (vr (some w)), some (vi (J x1))]) (st2 := [vi (J (ai h a_13 x1))]) rfl ?_
      exact R_iret rfl rfl (R_zr (x := ai h a_13 x1) (K := K) (ai_in _ _ _) k)
/-- DroneCorridors$Search.legEndingAt -/
theorem z65 {T N : Nat → Nat} {h : PH} {w : Nat} {x1 : Int} {x2 : Int} {x3 : Int} {K : Int → PH → Prop} (t0 : T w = 8) (r1 : In x1) (r2 : In x2) (r3 : In x3) (k : (In (x1 - x2) ∧ (((x1 - x2) < (ai h w 13) → (K (-1) h)) ∧ (¬ ((x1 - x2) < (ai h w 13)) → (ZI T N 64 [vr (some w), vi (J (((x1 - x2) * 96) + x3))] h (fun x_6 h_5 => (((x_6 = (-1) → (K (-1) h_5)) ∧ (¬ (x_6 = (-1)) → (In (((x1 - x2) * 96) + x3) ∧ K (((x1 - x2) * 96) + x3) h_5)))))))))) : ZI T N 65 [vr (some w), vi (J x1), vi (J x2), vi (J x3)] h K := by
  show WP T N 65 0 [some (vr (some w)), some (vi (J x1)), some (vi (J x2)), some (vi (J x3)), none, none] [] h _
  refine R_ps 6 (pc2 := 8) (L2 := [some (vr (some w)), some (vi (J x1)), some (vi (J x2)), some (vi (J x3)), some (vi ((J x1) - (J x2))), none]) (st2 := [vr (some w), vi ((J x1) - (J x2))]) rfl ?_
  rw [show ((J x1) - (J x2)) = J (x1 - x2) from J_sub' rfl rfl]
  refine R_zgetI (z := 13) rfl t0 rfl ?_
  obtain ⟨t_3, k⟩ := k
  refine R_zif (x := x1 - x2) (z := ai h w 13) rfl t_3 (ai_in _ _ _) (fun c_2 => ?_) (fun c_2 => ?_)
  · have k := k.2 c_2
    refine R_ps 8 (pc2 := 28) (L2 := [some (vr (some w)), some (vi (J x1)), some (vi (J x2)), some (vi (J x3)), some (vi (J (x1 - x2))), some (vi (((J (x1 - x2)) * (J 96)) + (J x3)))]) (st2 := [vi (((J (x1 - x2)) * (J 96)) + (J x3)), vr (some w)]) rfl ?_
    rw [show (((J (x1 - x2)) * (J 96)) + (J x3)) = J (((x1 - x2) * 96) + x3) from J_add' (J_mul' rfl rfl) rfl]
    refine R_zcI (as := [vr (some w), vi (J (((x1 - x2) * 96) + x3))]) rfl rfl ⟨Nat.le_of_ble_eq_true rfl, Nat.le_of_ble_eq_true rfl, rfl, (Or.inr ⟨_, rfl, t0⟩)⟩ rfl rfl k (fun x_6 h_5 r_7 k => ?_)
    refine R_ps 1 (pc2 := 32) (L2 := [some (vr (some w)), some (vi (J x1)), some (vi (J x2)), some (vi (J x3)), some (vi (J (x1 - x2))), some (vi (J (((x1 - x2) * 96) + x3)))]) (st2 := [vi (J (-1)), vi (J x_6)]) rfl ?_
    refine R_zif (x := x_6) (z := (-1)) rfl r_7 (by decide) (fun c_8 => ?_) (fun c_8 => ?_)
    · have k := k.2 c_8
      refine R_ps 1 (pc2 := 41) (L2 := [some (vr (some w)), some (vi (J x1)), some (vi (J x2)), some (vi (J x3)), some (vi (J (x1 - x2))), some (vi (J (((x1 - x2) * 96) + x3)))]) (st2 := [vi (J (((x1 - x2) * 96) + x3))]) rfl ?_
      obtain ⟨t_10, k⟩ := k
      exact R_iret rfl rfl (R_zr (x := ((x1 - x2) * 96) + x3) (K := K) t_10 k)
    · have k := k.1 (Classical.not_not.mp c_8)
      refine R_ps 2 (pc2 := 41) (L2 := [some (vr (some w)), some (vi (J x1)), some (vi (J x2)), some (vi (J x3)), some (vi (J (x1 - x2))), some (vi (J (((x1 - x2) * 96) + x3)))]) (st2 := [vi (J (-1))]) rfl ?_
      exact R_iret rfl rfl (R_zr (x := (-1)) (K := K) (by decide) k)
  · have k := k.1 (Classical.not_not.mp c_2)
    refine R_ps 1 (pc2 := 15) (L2 := [some (vr (some w)), some (vi (J x1)), some (vi (J x2)), some (vi (J x3)), some (vi (J (x1 - x2))), none]) (st2 := [vi (J (-1))]) rfl ?_
    exact R_iret rfl rfl (R_zr (x := (-1)) (K := K) (by decide) k)
/-- DroneCorridors$Search.endLegs -/
theorem z66 {T N : Nat → Nat} {h : PH} {w : Nat} {a1 : Nat} {x2 : Int} {K : Int → PH → Prop} (r2 : In x2) (k : (ZW T N 66 5 [some (vr (some w)), some (vr (some a1)), some (vi (J x2)), some (vi (J 0)), some (vi (J 0)), none, none, none, none, none] [] h K)) : ZI T N 66 [vr (some w), vr (some a1), vi (J x2)] h K := by
  show WP T N 66 0 [some (vr (some w)), some (vr (some a1)), some (vi (J x2)), none, none, none, none, none, none, none] [] h _
  refine R_ps 4 (pc2 := 5) (L2 := [some (vr (some w)), some (vr (some a1)), some (vi (J x2)), some (vi (J 0)), some (vi (J 0)), none, none, none, none, none]) (st2 := []) rfl ?_
  exact k
theorem z66_5 {T N : Nat → Nat} {h : PH} {w : Nat} {a1 : Nat} {x2 : Int} {x3 : Int} {x4 : Int} {K : Int → PH → Prop} (t0 : T a1 = 10) (r2 : In x2) (r3 : In x3) (r4 : In x4) (k : (((x4 < (ai h a1 3) → (CR T N 89 [vr (some a1), vi (J x4)] h (fun x_6 h_5 => (((x_6 = none → (ZW T N 66 5 [some (vr (some w)), some (vr (some a1)), some (vi (J x2)), some (vi (J x3)), some (vi (J (x4 + 1))), none, none, none, none, none] [] h_5 K)) ∧ (∀ a_8, x_6 = some a_8 → (ZW T N 66 33 [some (vr (some w)), some (vr (some a1)), some (vi (J x2)), some (vi (J x3)), some (vi (J x4)), some (vr (some a_8)), some (vi (J 0)), none, none, none] [] h_5 K))))))) ∧ (¬ (x4 < (ai h a1 3)) → (K x3 h))))) : ZW T N 66 5 [some (vr (some w)), some (vr (some a1)), some (vi (J x2)), some (vi (J x3)), some (vi (J x4)), none, none, none, none, none] [] h K := by
  show WP T N 66 5 [some (vr (some w)), some (vr (some a1)), some (vi (J x2)), some (vi (J x3)), some (vi (J x4)), none, none, none, none, none] [] h _
  refine R_ps 2 (pc2 := 8) (L2 := [some (vr (some w)), some (vr (some a1)), some (vi (J x2)), some (vi (J x3)), some (vi (J x4)), none, none, none, none, none]) (st2 := [vr (some a1), vi (J x4)]) rfl ?_
  refine R_zgetI (z := 3) rfl t0 rfl ?_
  refine R_zif (x := x4) (z := ai h a1 3) rfl r4 (ai_in _ _ _) (fun c_2 => ?_) (fun c_2 => ?_)
  · have k := k.2 c_2
    refine R_ps 1 (pc2 := 136) (L2 := [some (vr (some w)), some (vr (some a1)), some (vi (J x2)), some (vi (J x3)), some (vi (J x4)), none, none, none, none, none]) (st2 := [vi (J x3)]) rfl ?_
    exact R_iret rfl rfl (R_zr (x := x3) (K := K) r3 k)
  · have k := k.1 (Classical.not_not.mp c_2)
    refine R_ps 2 (pc2 := 17) (L2 := [some (vr (some w)), some (vr (some a1)), some (vi (J x2)), some (vi (J x3)), some (vi (J x4)), none, none, none, none, none]) (st2 := [vi (J x4), vr (some a1)]) rfl ?_
    refine R_cR (as := [vr (some a1), vi (J x4)]) rfl rfl ⟨Nat.le_of_ble_eq_true rfl, Nat.le_of_ble_eq_true rfl, rfl, (Or.inr ⟨_, rfl, t0⟩)⟩ rfl rfl k (fun x_6 h_5 k => ?_)
    refine R_ps 2 (pc2 := 24) (L2 := [some (vr (some w)), some (vr (some a1)), some (vi (J x2)), some (vi (J x3)), some (vi (J x4)), some (vr x_6), none, none, none, none]) (st2 := [vr x_6]) rfl ?_
    rcases null_or (x_6) with e_9 | ⟨a_8, e_9⟩
    · have k := k.1 e_9
      rw [e_9]
      refine R_nonnull rfl (fun _ => ?_) (fun _ c_7 => nomatch c_7)
      refine R_ps 3 (pc2 := 5) (L2 := [some (vr (some w)), some (vr (some a1)), some (vi (J x2)), some (vi (J x3)), some (vi ((J x4) + J 1)), some (vr none), none, none, none, none]) (st2 := []) rfl ?_
      rw [show ((J x4) + J 1) = J (x4 + 1) from J_add' rfl rfl]
      exact R_drop k (LE_of (L := [some (vr (some w)), some (vr (some a1)), some (vi (J x2)), some (vi (J x3)), some (vi (J (x4 + 1))), none, none, none, none, none]) (L2 := [some (vr (some w)), some (vr (some a1)), some (vi (J x2)), some (vi (J x3)), some (vi (J (x4 + 1))), some (vr none), none, none, none, none]) ⟨rfl, rfl, rfl, rfl, rfl, trivial⟩)
    · have k := k.2 a_8 e_9
      rw [e_9]
      refine R_nonnull rfl (fun c_7 => nomatch c_7) (fun _ _ => ?_)
      refine R_ps 2 (pc2 := 33) (L2 := [some (vr (some w)), some (vr (some a1)), some (vi (J x2)), some (vi (J x3)), some (vi (J x4)), some (vr (some a_8)), some (vi (J 0)), none, none, none]) (st2 := []) rfl ?_
      exact k
theorem z66_33 {T N : Nat → Nat} {h : PH} {w : Nat} {a1 : Nat} {x2 : Int} {x3 : Int} {x4 : Int} {a5 : Nat} {x6 : Int} {K : Int → PH → Prop} (t0 : T a5 = 2) (r2 : In x2) (r3 : In x3) (r4 : In x4) (r6 : In x6) (k : (((x6 < 2 → (ZI T N 12 [vr (some a5), vi (J x6)] h (fun x_4 h_3 => (ZW T N 66 53 [some (vr (some w)), some (vr (some a1)), some (vi (J x2)), some (vi (J x3)), some (vi (J x4)), some (vr (some a5)), some (vi (J x6)), some (vi (J (x_4 * 3))), some (vi (J 0)), none] [] h_3 K)))) ∧ (¬ (x6 < 2) → (ZW T N 66 5 [some (vr (some w)), some (vr (some a1)), some (vi (J x2)), some (vi (J x3)), some (vi (J (x4 + 1))), none, none, none, none, none] [] h K))))) : ZW T N 66 33 [some (vr (some w)), some (vr (some a1)), some (vi (J x2)), some (vi (J x3)), some (vi (J x4)), some (vr (some a5)), some (vi (J x6)), none, none, none] [] h K := by
  show WP T N 66 33 [some (vr (some w)), some (vr (some a1)), some (vi (J x2)), some (vi (J x3)), some (vi (J x4)), some (vr (some a5)), some (vi (J x6)), none, none, none] [] h _
  refine R_ps 2 (pc2 := 36) (L2 := [some (vr (some w)), some (vr (some a1)), some (vi (J x2)), some (vi (J x3)), some (vi (J x4)), some (vr (some a5)), some (vi (J x6)), none, none, none]) (st2 := [vi (J 2), vi (J x6)]) rfl ?_
  refine R_zif (x := x6) (z := 2) rfl r6 (by decide) (fun c_1 => ?_) (fun c_1 => ?_)
  · have k := k.2 c_1
    refine R_ps 2 (pc2 := 5) (L2 := [some (vr (some w)), some (vr (some a1)), some (vi (J x2)), some (vi (J x3)), some (vi ((J x4) + J 1)), some (vr (some a5)), some (vi (J x6)), none, none, none]) (st2 := []) rfl ?_
    rw [show ((J x4) + J 1) = J (x4 + 1) from J_add' rfl rfl]
    exact R_drop k (LE_of (L := [some (vr (some w)), some (vr (some a1)), some (vi (J x2)), some (vi (J x3)), some (vi (J (x4 + 1))), none, none, none, none, none]) (L2 := [some (vr (some w)), some (vr (some a1)), some (vi (J x2)), some (vi (J x3)), some (vi (J (x4 + 1))), some (vr (some a5)), some (vi (J x6)), none, none, none]) ⟨rfl, rfl, rfl, rfl, rfl, trivial⟩)
  · have k := k.1 (Classical.not_not.mp c_1)
    refine R_ps 2 (pc2 := 43) (L2 := [some (vr (some w)), some (vr (some a1)), some (vi (J x2)), some (vi (J x3)), some (vi (J x4)), some (vr (some a5)), some (vi (J x6)), none, none, none]) (st2 := [vi (J x6), vr (some a5)]) rfl ?_
    refine R_zcI (as := [vr (some a5), vi (J x6)]) rfl rfl ⟨Nat.le_of_ble_eq_true rfl, Nat.le_of_ble_eq_true rfl, rfl, (Or.inr ⟨_, rfl, t0⟩)⟩ rfl rfl k (fun x_4 h_3 r_5 k => ?_)
    refine R_ps 5 (pc2 := 53) (L2 := [some (vr (some w)), some (vr (some a1)), some (vi (J x2)), some (vi (J x3)), some (vi (J x4)), some (vr (some a5)), some (vi (J x6)), some (vi ((J x_4) * (J 3))), some (vi (J 0)), none]) (st2 := []) rfl ?_
    rw [show ((J x_4) * (J 3)) = J (x_4 * 3) from J_mul' rfl rfl]
    exact k
theorem z66_53 {T N : Nat → Nat} {h : PH} {w : Nat} {a1 : Nat} {x2 : Int} {x3 : Int} {x4 : Int} {a5 : Nat} {x6 : Int} {x7 : Int} {x8 : Int} {K : Int → PH → Prop} (t0 : T a5 = 2) (t1 : T w = 8) (r2 : In x2) (r3 : In x3) (r4 : In x4) (r6 : In x6) (r7 : In x7) (r8 : In x8) (k : (((x8 < 3 → (ZI T N 8 [vi (J x4), vi (J x6), vi (J x8)] h (fun x_5 h_4 => (ZI T N 65 [vr (some w), vi (J x2), vi (J (ai h a5 2)), vi (J x_5)] h_4 (fun x_9 h_8 => (((x_9 = (-1) → (ZW T N 66 53 [some (vr (some w)), some (vr (some a1)), some (vi (J x2)), some (vi (J x3)), some (vi (J x4)), some (vr (some a5)), some (vi (J x6)), some (vi (J x7)), some (vi (J (x8 + 1))), none] [] h_8 K)) ∧ (¬ (x_9 = (-1)) → (ZI T N 64 [vr (some w), vi (J x_9)] h_8 (fun x_14 h_13 => (CV T N 67 [vr (some w), vi (J x_9), vi (J (x7 + x8)), vi (J (x_14 - x2))] h_13 (fun h_17 => (ZI T N 12 [vr (some a5), vi (J x6)] h_17 (fun x_21 h_20 => (ZW T N 66 53 [some (vr (some w)), some (vr (some a1)), some (vi (J x2)), some (vi (J (zor x3 (zshl 1 x_21)))), some (vi (J x4)), some (vr (some a5)), some (vi (J x6)), some (vi (J x7)), some (vi (J (x8 + 1))), none] [] h_20 K))))))))))))))) ∧ (¬ (x8 < 3) → (ZW T N 66 33 [some (vr (some w)), some (vr (some a1)), some (vi (J x2)), some (vi (J x3)), some (vi (J x4)), some (vr (some a5)), some (vi (J (x6 + 1))), none, none, none] [] h K))))) : ZW T N 66 53 [some (vr (some w)), some (vr (some a1)), some (vi (J x2)), some (vi (J x3)), some (vi (J x4)), some (vr (some a5)), some (vi (J x6)), some (vi (J x7)), some (vi (J x8)), none] [] h K := by
  show WP T N 66 53 [some (vr (some w)), some (vr (some a1)), some (vi (J x2)), some (vi (J x3)), some (vi (J x4)), some (vr (some a5)), some (vi (J x6)), some (vi (J x7)), some (vi (J x8)), none] [] h _
  refine R_ps 2 (pc2 := 56) (L2 := [some (vr (some w)), some (vr (some a1)), some (vi (J x2)), some (vi (J x3)), some (vi (J x4)), some (vr (some a5)), some (vi (J x6)), some (vi (J x7)), some (vi (J x8)), none]) (st2 := [vi (J 3), vi (J x8)]) rfl ?_
  refine R_zif (x := x8) (z := 3) rfl r8 (by decide) (fun c_1 => ?_) (fun c_1 => ?_)
  · have k := k.2 c_1
    refine R_ps 2 (pc2 := 33) (L2 := [some (vr (some w)), some (vr (some a1)), some (vi (J x2)), some (vi (J x3)), some (vi (J x4)), some (vr (some a5)), some (vi ((J x6) + J 1)), some (vi (J x7)), some (vi (J x8)), none]) (st2 := []) rfl ?_
    rw [show ((J x6) + J 1) = J (x6 + 1) from J_add' rfl rfl]
    exact R_drop k (LE_of (L := [some (vr (some w)), some (vr (some a1)), some (vi (J x2)), some (vi (J x3)), some (vi (J x4)), some (vr (some a5)), some (vi (J (x6 + 1))), none, none, none]) (L2 := [some (vr (some w)), some (vr (some a1)), some (vi (J x2)), some (vi (J x3)), some (vi (J x4)), some (vr (some a5)), some (vi (J (x6 + 1))), some (vi (J x7)), some (vi (J x8)), none]) ⟨rfl, rfl, rfl, rfl, rfl, rfl, rfl, trivial⟩)
  · have k := k.1 (Classical.not_not.mp c_1)
    refine R_ps 3 (pc2 := 63) (L2 := [some (vr (some w)), some (vr (some a1)), some (vi (J x2)), some (vi (J x3)), some (vi (J x4)), some (vr (some a5)), some (vi (J x6)), some (vi (J x7)), some (vi (J x8)), none]) (st2 := [vr (some a5), vi (J x2), vr (some w)]) rfl ?_
    refine R_zgetI (z := 2) rfl t0 rfl ?_
    refine R_ps 3 (pc2 := 72) (L2 := [some (vr (some w)), some (vr (some a1)), some (vi (J x2)), some (vi (J x3)), some (vi (J x4)), some (vr (some a5)), some (vi (J x6)), some (vi (J x7)), some (vi (J x8)), none]) (st2 := [vi (J x8), vi (J x6), vi (J x4), vi (J (ai h a5 2)), vi (J x2), vr (some w)]) rfl ?_
    refine R_zcI (as := [vi (J x4), vi (J x6), vi (J x8)]) rfl rfl ⟨Nat.le_of_ble_eq_true rfl, Nat.le_of_ble_eq_true rfl, rfl, (Or.inl rfl)⟩ rfl rfl k (fun x_5 h_4 r_6 k => ?_)
    refine R_zcI (as := [vr (some w), vi (J x2), vi (J (ai h a5 2)), vi (J x_5)]) rfl rfl ⟨Nat.le_of_ble_eq_true rfl, Nat.le_of_ble_eq_true rfl, rfl, (Or.inr ⟨_, rfl, t1⟩)⟩ rfl rfl k (fun x_9 h_8 r_10 k => ?_)
    refine R_ps 3 (pc2 := 83) (L2 := [some (vr (some w)), some (vr (some a1)), some (vi (J x2)), some (vi (J x3)), some (vi (J x4)), some (vr (some a5)), some (vi (J x6)), some (vi (J x7)), some (vi (J x8)), some (vi (J x_9))]) (st2 := [vi (J (-1)), vi (J x_9)]) rfl ?_
    refine R_zif (x := x_9) (z := (-1)) rfl r_10 (by decide) (fun c_11 => ?_) (fun c_11 => ?_)
    · have k := k.1 c_11
      refine R_ps 2 (pc2 := 53) (L2 := [some (vr (some w)), some (vr (some a1)), some (vi (J x2)), some (vi (J x3)), some (vi (J x4)), some (vr (some a5)), some (vi (J x6)), some (vi (J x7)), some (vi ((J x8) + J 1)), some (vi (J x_9))]) (st2 := []) rfl ?_
      rw [show ((J x8) + J 1) = J (x8 + 1) from J_add' rfl rfl]
      exact R_drop k (LE_of (L := [some (vr (some w)), some (vr (some a1)), some (vi (J x2)), some (vi (J x3)), some (vi (J x4)), some (vr (some a5)), some (vi (J x6)), some (vi (J x7)), some (vi (J (x8 + 1))), none]) (L2 := [some (vr (some w)), some (vr (some a1)), some (vi (J x2)), some (vi (J x3)), some (vi (J x4)), some (vr (some a5)), some (vi (J x6)), some (vi (J x7)), some (vi (J (x8 + 1))), some (vi (J x_9))]) ⟨rfl, rfl, rfl, rfl, rfl, rfl, rfl, rfl, rfl, trivial⟩)
    · have k := k.2 c_11
      refine R_ps 7 (pc2 := 97) (L2 := [some (vr (some w)), some (vr (some a1)), some (vi (J x2)), some (vi (J x3)), some (vi (J x4)), some (vr (some a5)), some (vi (J x6)), some (vi (J x7)), some (vi (J x8)), some (vi (J x_9))]) (st2 := [vi (J x_9), vr (some w), vi ((J x7) + (J x8)), vi (J x_9), vr (some w)]) rfl ?_
      rw [show ((J x7) + (J x8)) = J (x7 + x8) from J_add' rfl rfl]
      refine R_zcI (as := [vr (some w), vi (J x_9)]) rfl rfl ⟨Nat.le_of_ble_eq_true rfl, Nat.le_of_ble_eq_true rfl, rfl, (Or.inr ⟨_, rfl, t1⟩)⟩ rfl rfl k (fun x_14 h_13 r_15 k => ?_)
      refine R_ps 2 (pc2 := 102) (L2 := [some (vr (some w)), some (vr (some a1)), some (vi (J x2)), some (vi (J x3)), some (vi (J x4)), some (vr (some a5)), some (vi (J x6)), some (vi (J x7)), some (vi (J x8)), some (vi (J x_9))]) (st2 := [vi ((J x_14) - (J x2)), vi (J (x7 + x8)), vi (J x_9), vr (some w)]) rfl ?_
      rw [show ((J x_14) - (J x2)) = J (x_14 - x2) from J_sub' rfl rfl]
      refine R_cV (as := [vr (some w), vi (J x_9), vi (J (x7 + x8)), vi (J (x_14 - x2))]) rfl rfl ⟨Nat.le_of_ble_eq_true rfl, Nat.le_of_ble_eq_true rfl, rfl, (Or.inr ⟨_, rfl, t1⟩)⟩ rfl rfl k (fun h_17 k => ?_)
      refine R_ps 4 (pc2 := 111) (L2 := [some (vr (some w)), some (vr (some a1)), some (vi (J x2)), some (vi (J x3)), some (vi (J x4)), some (vr (some a5)), some (vi (J x6)), some (vi (J x7)), some (vi (J x8)), some (vi (J x_9))]) (st2 := [vi (J x6), vr (some a5), vi (J 1), vi (J x3)]) rfl ?_
      refine R_zcI (as := [vr (some a5), vi (J x6)]) rfl rfl ⟨Nat.le_of_ble_eq_true rfl, Nat.le_of_ble_eq_true rfl, rfl, (Or.inr ⟨_, rfl, t0⟩)⟩ rfl rfl k (fun x_21 h_20 r_22 k => ?_)
      refine R_ps 5 (pc2 := 53) (L2 := [some (vr (some w)), some (vr (some a1)), some (vi (J x2)), some (vi ((J x3) ||| ((J 1) <<< ((J x_21) &&& 31)))), some (vi (J x4)), some (vr (some a5)), some (vi (J x6)), some (vi (J x7)), some (vi ((J x8) + J 1)), some (vi (J x_9))]) (st2 := []) rfl ?_
      rw [show ((J x3) ||| ((J 1) <<< ((J x_21) &&& 31))) = J (zor x3 (zshl 1 x_21)) from J_or' rfl (J_shl' rfl rfl)]
      rw [show ((J x8) + J 1) = J (x8 + 1) from J_add' rfl rfl]
      exact R_drop k (LE_of (L := [some (vr (some w)), some (vr (some a1)), some (vi (J x2)), some (vi (J (zor x3 (zshl 1 x_21)))), some (vi (J x4)), some (vr (some a5)), some (vi (J x6)), some (vi (J x7)), some (vi (J (x8 + 1))), none]) (L2 := [some (vr (some w)), some (vr (some a1)), some (vi (J x2)), some (vi (J (zor x3 (zshl 1 x_21)))), some (vi (J x4)), some (vr (some a5)), some (vi (J x6)), some (vi (J x7)), some (vi (J (x8 + 1))), some (vi (J x_9))]) ⟨rfl, rfl, rfl, rfl, rfl, rfl, rfl, rfl, rfl, trivial⟩)
/-- DroneCorridors$Search.letWait -/
theorem z67 {T N : Nat → Nat} {h : PH} {w : Nat} {x1 : Int} {x2 : Int} {x3 : Int} {K : PH → Prop} (t0 : T w = 8) (r1 : In x1) (r2 : In x2) (r3 : In x3) (k : (((x2 < 0 → (K h)) ∧ (¬ (x2 < 0) → (∃ a_5, (gr h w 8) = some a_5 ∧ 21 ≤ T a_5 ∧ In (N a_5 : Int) ∧ ((x2 < (N a_5 : Int) → (∃ a_12, (gr h w 8) = some a_12 ∧ T a_12 = 22 ∧ (0 ≤ x2 ∧ x2 < (N a_12 : Int) ∧ x2 < 2147483648) ∧ (((ai h a_12 x2) = (-1) → (∃ a_19, (gr h w 8) = some a_19 ∧ T a_19 = 22 ∧ (0 ≤ x2 ∧ x2 < (N a_19 : Int) ∧ x2 < 2147483648) ∧ ∀ h_21, h_21 = wi h a_19 x2 x1 → ∃ a_27, (gr h_21 w 9) = some a_27 ∧ T a_27 = 22 ∧ (0 ≤ x2 ∧ x2 < (N a_27 : Int) ∧ x2 < 2147483648) ∧ ∀ h_29, h_29 = wi h_21 a_27 x2 x3 → K h_29)) ∧ (¬ ((ai h a_12 x2) = (-1)) → (∃ a_36, (gr h w 9) = some a_36 ∧ T a_36 = 22 ∧ (0 ≤ x2 ∧ x2 < (N a_36 : Int) ∧ x2 < 2147483648) ∧ (((ai h a_36 x2) < x3 → (K h)) ∧ (¬ ((ai h a_36 x2) < x3) → (∃ a_44, (gr h w 9) = some a_44 ∧ T a_44 = 22 ∧ (0 ≤ x2 ∧ x2 < (N a_44 : Int) ∧ x2 < 2147483648) ∧ ((x3 = (ai h a_44 x2) → (ZI T N 68 [vi (J x1), vi (J (ai h a_12 x2))] h (fun x_68 h_67 => (((x_68 = 0 → (K h_67)) ∧ (¬ (x_68 = 0) → (∃ a_73, (gr h_67 w 8) = some a_73 ∧ T a_73 = 22 ∧ (0 ≤ x2 ∧ x2 < (N a_73 : Int) ∧ x2 < 2147483648) ∧ ∀ h_75, h_75 = wi h_67 a_73 x2 x1 → ∃ a_81, (gr h_75 w 9) = some a_81 ∧ T a_81 = 22 ∧ (0 ≤ x2 ∧ x2 < (N a_81 : Int) ∧ x2 < 2147483648) ∧ ∀ h_83, h_83 = wi h_75 a_81 x2 x3 → K h_83))))))) ∧ (¬ (x3 = (ai h a_44 x2)) → (∃ a_51, (gr h w 8) = some a_51 ∧ T a_51 = 22 ∧ (0 ≤ x2 ∧ x2 < (N a_51 : Int) ∧ x2 < 2147483648) ∧ ∀ h_53, h_53 = wi h a_51 x2 x1 → ∃ a_59, (gr h_53 w 9) = some a_59 ∧ T a_59 = 22 ∧ (0 ≤ x2 ∧ x2 < (N a_59 : Int) ∧ x2 < 2147483648) ∧ ∀ h_61, h_61 = wi h_53 a_59 x2 x3 → K h_61))))))))))) ∧ (¬ (x2 < (N a_5 : Int)) → (K h)))))))) : CV T N 67 [vr (some w), vi (J x1), vi (J x2), vi (J x3)] h K := by
  show WP T N 67 0 [some (vr (some w)), some (vi (J x1)), some (vi (J x2)), some (vi (J x3)), none] [] h _
  refine R_ps 1 (pc2 := 1) (L2 := [some (vr (some w)), some (vi (J x1)), some (vi (J x2)), some (vi (J x3)), none]) (st2 := [vi (J x2)]) rfl ?_
  refine R_zif0 (x := x2) rfl r2 (fun c_1 => ?_) (fun c_1 => ?_)
  · have k := k.1 c_1
    exact R_ret rfl rfl ⟨rfl, k⟩
  · have k := k.2 c_1
    refine R_ps 2 (pc2 := 6) (L2 := [some (vr (some w)), some (vi (J x1)), some (vi (J x2)), some (vi (J x3)), none]) (st2 := [vr (some w), vi (J x2)]) rfl ?_
    refine R_getR rfl t0 ?_
    obtain ⟨a_5, e_6, k⟩ := k
    rw [e_6]
    obtain ⟨t_7, k⟩ := k
    refine R_zalen rfl t_7 ?_
    obtain ⟨t_9, k⟩ := k
    refine R_zif (x := x2) (z := (N a_5 : Int)) rfl r2 t_9 (fun c_8 => ?_) (fun c_8 => ?_)
    · have k := k.1 c_8
      refine R_ps 1 (pc2 := 15) (L2 := [some (vr (some w)), some (vi (J x1)), some (vi (J x2)), some (vi (J x3)), none]) (st2 := [vr (some w)]) rfl ?_
      refine R_getR rfl t0 ?_
      refine R_ps 1 (pc2 := 19) (L2 := [some (vr (some w)), some (vi (J x1)), some (vi (J x2)), some (vi (J x3)), none]) (st2 := [vi (J x2), vr (gr h w 8)]) rfl ?_
      obtain ⟨a_12, e_13, k⟩ := k
      rw [e_13]
      obtain ⟨t_14, k⟩ := k
      obtain ⟨t_15, k⟩ := k
      refine R_ziald (i := x2) rfl (Or.inl t_14) t_15 ?_
      refine R_ps 3 (pc2 := 25) (L2 := [some (vr (some w)), some (vi (J x1)), some (vi (J x2)), some (vi (J x3)), some (vi (J (ai h a_12 x2)))]) (st2 := [vi (J (-1)), vi (J (ai h a_12 x2))]) rfl ?_
      refine R_zif (x := ai h a_12 x2) (z := (-1)) rfl (ai_in _ _ _) (by decide) (fun c_16 => ?_) (fun c_16 => ?_)
      · have k := k.1 c_16
        refine R_ps 1 (pc2 := 59) (L2 := [some (vr (some w)), some (vi (J x1)), some (vi (J x2)), some (vi (J x3)), some (vi (J (ai h a_12 x2)))]) (st2 := [vr (some w)]) rfl ?_
        refine R_getR rfl t0 ?_
        refine R_ps 2 (pc2 := 64) (L2 := [some (vr (some w)), some (vi (J x1)), some (vi (J x2)), some (vi (J x3)), some (vi (J (ai h a_12 x2)))]) (st2 := [vi (J x1), vi (J x2), vr (gr h w 8)]) rfl ?_
        obtain ⟨a_19, e_20, k⟩ := k
        rw [e_20]
        obtain ⟨t_23, k⟩ := k
        obtain ⟨t_24, k⟩ := k
        refine R_ziast (i := x2) (x := x1) rfl t_23 t_24  ?_
        show WP T N _ _ _ _ (wi h a_19 x2 x1) _
        generalize e_22 : wi h a_19 x2 x1 = h_21
        replace k := k h_21 e_22.symm
        refine R_ps 1 (pc2 := 66) (L2 := [some (vr (some w)), some (vi (J x1)), some (vi (J x2)), some (vi (J x3)), some (vi (J (ai h a_12 x2)))]) (st2 := [vr (some w)]) rfl ?_
        refine R_getR rfl t0 ?_
        refine R_ps 2 (pc2 := 71) (L2 := [some (vr (some w)), some (vi (J x1)), some (vi (J x2)), some (vi (J x3)), some (vi (J (ai h a_12 x2)))]) (st2 := [vi (J x3), vi (J x2), vr (gr h_21 w 9)]) rfl ?_
        obtain ⟨a_27, e_28, k⟩ := k
        rw [e_28]
        obtain ⟨t_31, k⟩ := k
        obtain ⟨t_32, k⟩ := k
        refine R_ziast (i := x2) (x := x3) rfl t_31 t_32  ?_
        show WP T N _ _ _ _ (wi h_21 a_27 x2 x3) _
        generalize e_30 : wi h_21 a_27 x2 x3 = h_29
        replace k := k h_29 e_30.symm
        exact R_ret rfl rfl ⟨rfl, k⟩
      · have k := k.2 c_16
        refine R_ps 2 (pc2 := 30) (L2 := [some (vr (some w)), some (vi (J x1)), some (vi (J x2)), some (vi (J x3)), some (vi (J (ai h a_12 x2)))]) (st2 := [vr (some w), vi (J x3)]) rfl ?_
        refine R_getR rfl t0 ?_
        refine R_ps 1 (pc2 := 34) (L2 := [some (vr (some w)), some (vi (J x1)), some (vi (J x2)), some (vi (J x3)), some (vi (J (ai h a_12 x2)))]) (st2 := [vi (J x2), vr (gr h w 9), vi (J x3)]) rfl ?_
        obtain ⟨a_36, e_37, k⟩ := k
        rw [e_37]
        obtain ⟨t_38, k⟩ := k
        obtain ⟨t_39, k⟩ := k
        refine R_ziald (i := x2) rfl (Or.inl t_38) t_39 ?_
        refine R_zif (x := x3) (z := ai h a_36 x2) rfl r3 (ai_in _ _ _) (fun c_40 => ?_) (fun c_40 => ?_)
        · have k := k.1 c_40
          exact R_ret rfl rfl ⟨rfl, k⟩
        · have k := k.2 c_40
          refine R_ps 2 (pc2 := 40) (L2 := [some (vr (some w)), some (vi (J x1)), some (vi (J x2)), some (vi (J x3)), some (vi (J (ai h a_12 x2)))]) (st2 := [vr (some w), vi (J x3)]) rfl ?_
          refine R_getR rfl t0 ?_
          refine R_ps 1 (pc2 := 44) (L2 := [some (vr (some w)), some (vi (J x1)), some (vi (J x2)), some (vi (J x3)), some (vi (J (ai h a_12 x2)))]) (st2 := [vi (J x2), vr (gr h w 9), vi (J x3)]) rfl ?_
          obtain ⟨a_44, e_45, k⟩ := k
          rw [e_45]
          obtain ⟨t_46, k⟩ := k
          obtain ⟨t_47, k⟩ := k
          refine R_ziald (i := x2) rfl (Or.inl t_46) t_47 ?_
          refine R_zif (x := x3) (z := ai h a_44 x2) rfl r3 (ai_in _ _ _) (fun c_48 => ?_) (fun c_48 => ?_)
          · have k := k.2 c_48
            refine R_ps 1 (pc2 := 59) (L2 := [some (vr (some w)), some (vi (J x1)), some (vi (J x2)), some (vi (J x3)), some (vi (J (ai h a_12 x2)))]) (st2 := [vr (some w)]) rfl ?_
            refine R_getR rfl t0 ?_
            refine R_ps 2 (pc2 := 64) (L2 := [some (vr (some w)), some (vi (J x1)), some (vi (J x2)), some (vi (J x3)), some (vi (J (ai h a_12 x2)))]) (st2 := [vi (J x1), vi (J x2), vr (gr h w 8)]) rfl ?_
            obtain ⟨a_51, e_52, k⟩ := k
            rw [e_52]
            obtain ⟨t_55, k⟩ := k
            obtain ⟨t_56, k⟩ := k
            refine R_ziast (i := x2) (x := x1) rfl t_55 t_56  ?_
            show WP T N _ _ _ _ (wi h a_51 x2 x1) _
            generalize e_54 : wi h a_51 x2 x1 = h_53
            replace k := k h_53 e_54.symm
            refine R_ps 1 (pc2 := 66) (L2 := [some (vr (some w)), some (vi (J x1)), some (vi (J x2)), some (vi (J x3)), some (vi (J (ai h a_12 x2)))]) (st2 := [vr (some w)]) rfl ?_
            refine R_getR rfl t0 ?_
            refine R_ps 2 (pc2 := 71) (L2 := [some (vr (some w)), some (vi (J x1)), some (vi (J x2)), some (vi (J x3)), some (vi (J (ai h a_12 x2)))]) (st2 := [vi (J x3), vi (J x2), vr (gr h_53 w 9)]) rfl ?_
            obtain ⟨a_59, e_60, k⟩ := k
            rw [e_60]
            obtain ⟨t_63, k⟩ := k
            obtain ⟨t_64, k⟩ := k
            refine R_ziast (i := x2) (x := x3) rfl t_63 t_64  ?_
            show WP T N _ _ _ _ (wi h_53 a_59 x2 x3) _
            generalize e_62 : wi h_53 a_59 x2 x3 = h_61
            replace k := k h_61 e_62.symm
            exact R_ret rfl rfl ⟨rfl, k⟩
          · have k := k.1 (Classical.not_not.mp c_48)
            refine R_ps 2 (pc2 := 51) (L2 := [some (vr (some w)), some (vi (J x1)), some (vi (J x2)), some (vi (J x3)), some (vi (J (ai h a_12 x2)))]) (st2 := [vi (J (ai h a_12 x2)), vi (J x1)]) rfl ?_
            refine R_zcI (as := [vi (J x1), vi (J (ai h a_12 x2))]) rfl rfl ⟨Nat.le_of_ble_eq_true rfl, Nat.le_of_ble_eq_true rfl, rfl, (Or.inl rfl)⟩ rfl rfl k (fun x_68 h_67 r_69 k => ?_)
            refine R_zif0 (x := x_68) rfl r_69 (fun c_70 => ?_) (fun c_70 => ?_)
            · have k := k.2 c_70
              refine R_ps 1 (pc2 := 59) (L2 := [some (vr (some w)), some (vi (J x1)), some (vi (J x2)), some (vi (J x3)), some (vi (J (ai h a_12 x2)))]) (st2 := [vr (some w)]) rfl ?_
              refine R_getR rfl t0 ?_
              refine R_ps 2 (pc2 := 64) (L2 := [some (vr (some w)), some (vi (J x1)), some (vi (J x2)), some (vi (J x3)), some (vi (J (ai h a_12 x2)))]) (st2 := [vi (J x1), vi (J x2), vr (gr h_67 w 8)]) rfl ?_
              obtain ⟨a_73, e_74, k⟩ := k
              rw [e_74]
              obtain ⟨t_77, k⟩ := k
              obtain ⟨t_78, k⟩ := k
              refine R_ziast (i := x2) (x := x1) rfl t_77 t_78  ?_
              show WP T N _ _ _ _ (wi h_67 a_73 x2 x1) _
              generalize e_76 : wi h_67 a_73 x2 x1 = h_75
              replace k := k h_75 e_76.symm
              refine R_ps 1 (pc2 := 66) (L2 := [some (vr (some w)), some (vi (J x1)), some (vi (J x2)), some (vi (J x3)), some (vi (J (ai h a_12 x2)))]) (st2 := [vr (some w)]) rfl ?_
              refine R_getR rfl t0 ?_
              refine R_ps 2 (pc2 := 71) (L2 := [some (vr (some w)), some (vi (J x1)), some (vi (J x2)), some (vi (J x3)), some (vi (J (ai h a_12 x2)))]) (st2 := [vi (J x3), vi (J x2), vr (gr h_75 w 9)]) rfl ?_
              obtain ⟨a_81, e_82, k⟩ := k
              rw [e_82]
              obtain ⟨t_85, k⟩ := k
              obtain ⟨t_86, k⟩ := k
              refine R_ziast (i := x2) (x := x3) rfl t_85 t_86  ?_
              show WP T N _ _ _ _ (wi h_75 a_81 x2 x3) _
              generalize e_84 : wi h_75 a_81 x2 x3 = h_83
              replace k := k h_83 e_84.symm
              exact R_ret rfl rfl ⟨rfl, k⟩
            · have k := k.1 (Classical.not_not.mp c_70)
              exact R_ret rfl rfl ⟨rfl, k⟩
    · have k := k.2 c_8
      exact R_ret rfl rfl ⟨rfl, k⟩
/-- DroneCorridors$Search.isBetterBefore -/
theorem z68 {T N : Nat → Nat} {h : PH} {x0 : Int} {x1 : Int} {K : Int → PH → Prop} (r0 : In x0) (r1 : In x1) (k : ((0 ≤ x0 ∧ x0 < 2147483648) ∧ (0 ≤ (x0 % 96) ∧ (x0 % 96) < 2147483648) ∧ (0 ≤ x1 ∧ x1 < 2147483648) ∧ (0 ≤ (x1 % 96) ∧ (x1 % 96) < 2147483648) ∧ In ((x0 % 96) / 6) ∧ In ((x1 % 96) / 6) ∧ ((((x0 % 96) / 6) < ((x1 % 96) / 6) → (K 1 h)) ∧ (¬ (((x0 % 96) / 6) < ((x1 % 96) / 6)) → (((((x0 % 96) / 6) = ((x1 % 96) / 6) → (In (x0 / 96) ∧ In (x1 / 96) ∧ (((x1 / 96) < (x0 / 96) → (K 1 h)) ∧ (¬ ((x1 / 96) < (x0 / 96)) → (K 0 h))))) ∧ (¬ (((x0 % 96) / 6) = ((x1 % 96) / 6)) → (K 0 h)))))))) : ZI T N 68 [vi (J x0), vi (J x1)] h K := by
  show WP T N 68 0 [some (vi (J x0)), some (vi (J x1)), none, none] [] h _
  refine R_ps 2 (pc2 := 3) (L2 := [some (vi (J x0)), some (vi (J x1)), none, none]) (st2 := [vi (J 96), vi (J x0)]) rfl ?_
  obtain ⟨t_2, k⟩ := k
  refine R_zrem (x := x0) (z := 96) rfl (by decide) t_2 ?_
  refine R_ps 1 (pc2 := 6) (L2 := [some (vi (J x0)), some (vi (J x1)), none, none]) (st2 := [vi (J 6), vi (J (x0 % 96))]) rfl ?_
  obtain ⟨t_4, k⟩ := k
  refine R_zdiv (x := x0 % 96) (z := 6) rfl (by decide) t_4 ?_
  refine R_ps 3 (pc2 := 11) (L2 := [some (vi (J x0)), some (vi (J x1)), some (vi (J ((x0 % 96) / 6))), none]) (st2 := [vi (J 96), vi (J x1)]) rfl ?_
  obtain ⟨t_6, k⟩ := k
  refine R_zrem (x := x1) (z := 96) rfl (by decide) t_6 ?_
  refine R_ps 1 (pc2 := 14) (L2 := [some (vi (J x0)), some (vi (J x1)), some (vi (J ((x0 % 96) / 6))), none]) (st2 := [vi (J 6), vi (J (x1 % 96))]) rfl ?_
  obtain ⟨t_8, k⟩ := k
  refine R_zdiv (x := x1 % 96) (z := 6) rfl (by decide) t_8 ?_
  refine R_ps 3 (pc2 := 18) (L2 := [some (vi (J x0)), some (vi (J x1)), some (vi (J ((x0 % 96) / 6))), some (vi (J ((x1 % 96) / 6)))]) (st2 := [vi (J ((x1 % 96) / 6)), vi (J ((x0 % 96) / 6))]) rfl ?_
  obtain ⟨t_10, k⟩ := k
  obtain ⟨t_11, k⟩ := k
  refine R_zif (x := (x0 % 96) / 6) (z := (x1 % 96) / 6) rfl t_10 t_11 (fun c_9 => ?_) (fun c_9 => ?_)
  · have k := k.1 c_9
    refine R_ps 2 (pc2 := 42) (L2 := [some (vi (J x0)), some (vi (J x1)), some (vi (J ((x0 % 96) / 6))), some (vi (J ((x1 % 96) / 6)))]) (st2 := [vi (J 1)]) rfl ?_
    exact R_zzret (x := 1) rfl rfl (Or.inr rfl) (R_zr (x := 1) (K := K) (by decide) k)
  · have k := k.2 c_9
    refine R_ps 2 (pc2 := 23) (L2 := [some (vi (J x0)), some (vi (J x1)), some (vi (J ((x0 % 96) / 6))), some (vi (J ((x1 % 96) / 6)))]) (st2 := [vi (J ((x1 % 96) / 6)), vi (J ((x0 % 96) / 6))]) rfl ?_
    refine R_zif (x := (x0 % 96) / 6) (z := (x1 % 96) / 6) rfl t_10 t_11 (fun c_13 => ?_) (fun c_13 => ?_)
    · have k := k.2 c_13
      refine R_ps 1 (pc2 := 42) (L2 := [some (vi (J x0)), some (vi (J x1)), some (vi (J ((x0 % 96) / 6))), some (vi (J ((x1 % 96) / 6)))]) (st2 := [vi (J 0)]) rfl ?_
      exact R_zzret (x := 0) rfl rfl (Or.inl rfl) (R_zr (x := 0) (K := K) (by decide) k)
    · have k := k.1 (Classical.not_not.mp c_13)
      refine R_ps 2 (pc2 := 29) (L2 := [some (vi (J x0)), some (vi (J x1)), some (vi (J ((x0 % 96) / 6))), some (vi (J ((x1 % 96) / 6)))]) (st2 := [vi (J 96), vi (J x0)]) rfl ?_
      refine R_zdiv (x := x0) (z := 96) rfl (by decide) t_2 ?_
      refine R_ps 2 (pc2 := 33) (L2 := [some (vi (J x0)), some (vi (J x1)), some (vi (J ((x0 % 96) / 6))), some (vi (J ((x1 % 96) / 6)))]) (st2 := [vi (J 96), vi (J x1), vi (J (x0 / 96))]) rfl ?_
      refine R_zdiv (x := x1) (z := 96) rfl (by decide) t_6 ?_
      obtain ⟨t_18, k⟩ := k
      obtain ⟨t_19, k⟩ := k
      refine R_zif (x := x0 / 96) (z := x1 / 96) rfl t_18 t_19 (fun c_17 => ?_) (fun c_17 => ?_)
      · have k := k.2 c_17
        refine R_ps 1 (pc2 := 42) (L2 := [some (vi (J x0)), some (vi (J x1)), some (vi (J ((x0 % 96) / 6))), some (vi (J ((x1 % 96) / 6)))]) (st2 := [vi (J 0)]) rfl ?_
        exact R_zzret (x := 0) rfl rfl (Or.inl rfl) (R_zr (x := 0) (K := K) (by decide) k)
      · have k := k.1 (Classical.not_not.mp c_17)
        refine R_ps 2 (pc2 := 42) (L2 := [some (vi (J x0)), some (vi (J x1)), some (vi (J ((x0 % 96) / 6))), some (vi (J ((x1 % 96) / 6)))]) (st2 := [vi (J 1)]) rfl ?_
        exact R_zzret (x := 1) rfl rfl (Or.inr rfl) (R_zr (x := 1) (K := K) (by decide) k)
/-- DroneCorridors$Search.arriveAt -/
theorem z69 {T N : Nat → Nat} {h : PH} {w : Nat} {a1 : Nat} {x2 : Int} {x3 : Int} {K : PH → Prop} (r2 : In x2) (r3 : In x3) (k : (WV T N 69 6 [some (vr (some w)), some (vr (some a1)), some (vi (J x2)), some (vi (J x3)), some (vi (J (-1))), some (vi (J 0)), none, none, none, none] [] h K)) : CV T N 69 [vr (some w), vr (some a1), vi (J x2), vi (J x3)] h K := by
  show WP T N 69 0 [some (vr (some w)), some (vr (some a1)), some (vi (J x2)), some (vi (J x3)), none, none, none, none, none, none] [] h _
  refine R_ps 4 (pc2 := 6) (L2 := [some (vr (some w)), some (vr (some a1)), some (vi (J x2)), some (vi (J x3)), some (vi (J (-1))), some (vi (J 0)), none, none, none, none]) (st2 := []) rfl ?_
  exact k
theorem z69_6 {T N : Nat → Nat} {h : PH} {w : Nat} {a1 : Nat} {x2 : Int} {x3 : Int} {x4 : Int} {x5 : Int} {K : PH → Prop} (t0 : T a1 = 10) (t1 : T w = 8) (r2 : In x2) (r3 : In x3) (r4 : In x4) (r5 : In x5) (k : (((x5 < 3 → (WV T N 69 15 [some (vr (some w)), some (vr (some a1)), some (vi (J x2)), some (vi (J x3)), some (vi (J x4)), some (vi (J x5)), some (vi (J 0)), none, none, none] [] h K)) ∧ (¬ (x5 < 3) → (ZI T N 64 [vr (some w), vi (J x4)] h (fun x_5 h_4 => (CV T N 62 [vr (some w), vi (J x4), vi (J ((ai h a1 0) + x2)), vi (J x_5), vi (J x3)] h_4 (fun h_8 => (K h_8))))))))) : WV T N 69 6 [some (vr (some w)), some (vr (some a1)), some (vi (J x2)), some (vi (J x3)), some (vi (J x4)), some (vi (J x5)), none, none, none, none] [] h K := by
  show WP T N 69 6 [some (vr (some w)), some (vr (some a1)), some (vi (J x2)), some (vi (J x3)), some (vi (J x4)), some (vi (J x5)), none, none, none, none] [] h _
  refine R_ps 2 (pc2 := 9) (L2 := [some (vr (some w)), some (vr (some a1)), some (vi (J x2)), some (vi (J x3)), some (vi (J x4)), some (vi (J x5)), none, none, none, none]) (st2 := [vi (J 3), vi (J x5)]) rfl ?_
  refine R_zif (x := x5) (z := 3) rfl r5 (by decide) (fun c_1 => ?_) (fun c_1 => ?_)
  · have k := k.2 c_1
    refine R_ps 3 (pc2 := 142) (L2 := [some (vr (some w)), some (vr (some a1)), some (vi (J x2)), some (vi (J x3)), some (vi (J x4)), some (vi (J x5)), none, none, none, none]) (st2 := [vr (some a1), vi (J x4), vr (some w)]) rfl ?_
    refine R_zgetI (z := 0) rfl t0 rfl ?_
    refine R_ps 4 (pc2 := 150) (L2 := [some (vr (some w)), some (vr (some a1)), some (vi (J x2)), some (vi (J x3)), some (vi (J x4)), some (vi (J x5)), none, none, none, none]) (st2 := [vi (J x4), vr (some w), vi ((J (ai h a1 0)) + (J x2)), vi (J x4), vr (some w)]) rfl ?_
    rw [show ((J (ai h a1 0)) + (J x2)) = J ((ai h a1 0) + x2) from J_add' rfl rfl]
    refine R_zcI (as := [vr (some w), vi (J x4)]) rfl rfl ⟨Nat.le_of_ble_eq_true rfl, Nat.le_of_ble_eq_true rfl, rfl, (Or.inr ⟨_, rfl, t1⟩)⟩ rfl rfl k (fun x_5 h_4 r_6 k => ?_)
    refine R_ps 1 (pc2 := 154) (L2 := [some (vr (some w)), some (vr (some a1)), some (vi (J x2)), some (vi (J x3)), some (vi (J x4)), some (vi (J x5)), none, none, none, none]) (st2 := [vi (J x3), vi (J x_5), vi (J ((ai h a1 0) + x2)), vi (J x4), vr (some w)]) rfl ?_
    refine R_cV (as := [vr (some w), vi (J x4), vi (J ((ai h a1 0) + x2)), vi (J x_5), vi (J x3)]) rfl rfl ⟨Nat.le_of_ble_eq_true rfl, Nat.le_of_ble_eq_true rfl, rfl, (Or.inr ⟨_, rfl, t1⟩)⟩ rfl rfl k (fun h_8 k => ?_)
    exact R_ret rfl rfl ⟨rfl, k⟩
  · have k := k.1 (Classical.not_not.mp c_1)
    refine R_ps 2 (pc2 := 15) (L2 := [some (vr (some w)), some (vr (some a1)), some (vi (J x2)), some (vi (J x3)), some (vi (J x4)), some (vi (J x5)), some (vi (J 0)), none, none, none]) (st2 := []) rfl ?_
    exact k
theorem z69_15 {T N : Nat → Nat} {h : PH} {w : Nat} {a1 : Nat} {x2 : Int} {x3 : Int} {x4 : Int} {x5 : Int} {x6 : Int} {K : PH → Prop} (t0 : T a1 = 10) (t1 : T w = 8) (r2 : In x2) (r3 : In x3) (r4 : In x4) (r5 : In x5) (r6 : In x6) (k : (((x6 < (ai h a1 3) → (CR T N 89 [vr (some a1), vi (J x6)] h (fun x_5 h_4 => (((x_5 = none → (WV T N 69 15 [some (vr (some w)), some (vr (some a1)), some (vi (J x2)), some (vi (J x3)), some (vi (J x4)), some (vi (J x5)), some (vi (J (x6 + 1))), none, none, none] [] h_4 K)) ∧ (∀ a_7, x_5 = some a_7 → (T a_7 = 2 ∧ (((ai h_4 a_7 0) = x3 → ((((ai h_4 a_7 1) = x3 → (ZI T N 8 [vi (J x6), vi (J 0), vi (J x5)] h_4 (fun x_37 h_36 => (ZI T N 65 [vr (some w), vi (J x2), vi (J (ai h_4 a_7 2)), vi (J x_37)] h_36 (fun x_41 h_40 => (((x_41 = (-1) → (WV T N 69 15 [some (vr (some w)), some (vr (some a1)), some (vi (J x2)), some (vi (J x3)), some (vi (J x4)), some (vi (J x5)), some (vi (J (x6 + 1))), none, none, none] [] h_40 K)) ∧ (¬ (x_41 = (-1)) → (((x4 = (-1) → (WV T N 69 15 [some (vr (some w)), some (vr (some a1)), some (vi (J x2)), some (vi (J x3)), some (vi (J x_41)), some (vi (J x5)), some (vi (J (x6 + 1))), none, none, none] [] h_40 K)) ∧ (¬ (x4 = (-1)) → (ZI T N 64 [vr (some w), vi (J x_41)] h_40 (fun x_47 h_46 => (ZI T N 64 [vr (some w), vi (J x4)] h_46 (fun x_51 h_50 => (((x_47 < x_51 → (WV T N 69 15 [some (vr (some w)), some (vr (some a1)), some (vi (J x2)), some (vi (J x3)), some (vi (J x_41)), some (vi (J x5)), some (vi (J (x6 + 1))), none, none, none] [] h_50 K)) ∧ (¬ (x_47 < x_51) → (WV T N 69 15 [some (vr (some w)), some (vr (some a1)), some (vi (J x2)), some (vi (J x3)), some (vi (J x4)), some (vi (J x5)), some (vi (J (x6 + 1))), none, none, none] [] h_50 K))))))))))))))))))) ∧ (¬ ((ai h_4 a_7 1) = x3) → (ZI T N 8 [vi (J x6), vi (J 1), vi (J x5)] h_4 (fun x_17 h_16 => (ZI T N 65 [vr (some w), vi (J x2), vi (J (ai h_4 a_7 2)), vi (J x_17)] h_16 (fun x_21 h_20 => (((x_21 = (-1) → (WV T N 69 15 [some (vr (some w)), some (vr (some a1)), some (vi (J x2)), some (vi (J x3)), some (vi (J x4)), some (vi (J x5)), some (vi (J (x6 + 1))), none, none, none] [] h_20 K)) ∧ (¬ (x_21 = (-1)) → (((x4 = (-1) → (WV T N 69 15 [some (vr (some w)), some (vr (some a1)), some (vi (J x2)), some (vi (J x3)), some (vi (J x_21)), some (vi (J x5)), some (vi (J (x6 + 1))), none, none, none] [] h_20 K)) ∧ (¬ (x4 = (-1)) → (ZI T N 64 [vr (some w), vi (J x_21)] h_20 (fun x_27 h_26 => (ZI T N 64 [vr (some w), vi (J x4)] h_26 (fun x_31 h_30 => (((x_27 < x_31 → (WV T N 69 15 [some (vr (some w)), some (vr (some a1)), some (vi (J x2)), some (vi (J x3)), some (vi (J x_21)), some (vi (J x5)), some (vi (J (x6 + 1))), none, none, none] [] h_30 K)) ∧ (¬ (x_27 < x_31) → (WV T N 69 15 [some (vr (some w)), some (vr (some a1)), some (vi (J x2)), some (vi (J x3)), some (vi (J x4)), some (vi (J x5)), some (vi (J (x6 + 1))), none, none, none] [] h_30 K)))))))))))))))))))))) ∧ (¬ ((ai h_4 a_7 0) = x3) → ((((ai h_4 a_7 1) = x3 → ((((ai h_4 a_7 1) = x3 → (ZI T N 8 [vi (J x6), vi (J 0), vi (J x5)] h_4 (fun x_81 h_80 => (ZI T N 65 [vr (some w), vi (J x2), vi (J (ai h_4 a_7 2)), vi (J x_81)] h_80 (fun x_85 h_84 => (((x_85 = (-1) → (WV T N 69 15 [some (vr (some w)), some (vr (some a1)), some (vi (J x2)), some (vi (J x3)), some (vi (J x4)), some (vi (J x5)), some (vi (J (x6 + 1))), none, none, none] [] h_84 K)) ∧ (¬ (x_85 = (-1)) → (((x4 = (-1) → (WV T N 69 15 [some (vr (some w)), some (vr (some a1)), some (vi (J x2)), some (vi (J x3)), some (vi (J x_85)), some (vi (J x5)), some (vi (J (x6 + 1))), none, none, none] [] h_84 K)) ∧ (¬ (x4 = (-1)) → (ZI T N 64 [vr (some w), vi (J x_85)] h_84 (fun x_91 h_90 => (ZI T N 64 [vr (some w), vi (J x4)] h_90 (fun x_95 h_94 => (((x_91 < x_95 → (WV T N 69 15 [some (vr (some w)), some (vr (some a1)), some (vi (J x2)), some (vi (J x3)), some (vi (J x_85)), some (vi (J x5)), some (vi (J (x6 + 1))), none, none, none] [] h_94 K)) ∧ (¬ (x_91 < x_95) → (WV T N 69 15 [some (vr (some w)), some (vr (some a1)), some (vi (J x2)), some (vi (J x3)), some (vi (J x4)), some (vi (J x5)), some (vi (J (x6 + 1))), none, none, none] [] h_94 K))))))))))))))))))) ∧ (¬ ((ai h_4 a_7 1) = x3) → (ZI T N 8 [vi (J x6), vi (J 1), vi (J x5)] h_4 (fun x_61 h_60 => (ZI T N 65 [vr (some w), vi (J x2), vi (J (ai h_4 a_7 2)), vi (J x_61)] h_60 (fun x_65 h_64 => (((x_65 = (-1) → (WV T N 69 15 [some (vr (some w)), some (vr (some a1)), some (vi (J x2)), some (vi (J x3)), some (vi (J x4)), some (vi (J x5)), some (vi (J (x6 + 1))), none, none, none] [] h_64 K)) ∧ (¬ (x_65 = (-1)) → (((x4 = (-1) → (WV T N 69 15 [some (vr (some w)), some (vr (some a1)), some (vi (J x2)), some (vi (J x3)), some (vi (J x_65)), some (vi (J x5)), some (vi (J (x6 + 1))), none, none, none] [] h_64 K)) ∧ (¬ (x4 = (-1)) → (ZI T N 64 [vr (some w), vi (J x_65)] h_64 (fun x_71 h_70 => (ZI T N 64 [vr (some w), vi (J x4)] h_70 (fun x_75 h_74 => (((x_71 < x_75 → (WV T N 69 15 [some (vr (some w)), some (vr (some a1)), some (vi (J x2)), some (vi (J x3)), some (vi (J x_65)), some (vi (J x5)), some (vi (J (x6 + 1))), none, none, none] [] h_74 K)) ∧ (¬ (x_71 < x_75) → (WV T N 69 15 [some (vr (some w)), some (vr (some a1)), some (vi (J x2)), some (vi (J x3)), some (vi (J x4)), some (vi (J x5)), some (vi (J (x6 + 1))), none, none, none] [] h_74 K)))))))))))))))))))))) ∧ (¬ ((ai h_4 a_7 1) = x3) → (WV T N 69 15 [some (vr (some w)), some (vr (some a1)), some (vi (J x2)), some (vi (J x3)), some (vi (J x4)), some (vi (J x5)), some (vi (J (x6 + 1))), none, none, none] [] h_4 K))))))))))))) ∧ (¬ (x6 < (ai h a1 3)) → (WV T N 69 6 [some (vr (some w)), some (vr (some a1)), some (vi (J x2)), some (vi (J x3)), some (vi (J x4)), some (vi (J (x5 + 1))), none, none, none, none] [] h K))))) : WV T N 69 15 [some (vr (some w)), some (vr (some a1)), some (vi (J x2)), some (vi (J x3)), some (vi (J x4)), some (vi (J x5)), some (vi (J x6)), none, none, none] [] h K := by
  show WP T N 69 15 [some (vr (some w)), some (vr (some a1)), some (vi (J x2)), some (vi (J x3)), some (vi (J x4)), some (vi (J x5)), some (vi (J x6)), none, none, none] [] h _
  refine R_ps 2 (pc2 := 18) (L2 := [some (vr (some w)), some (vr (some a1)), some (vi (J x2)), some (vi (J x3)), some (vi (J x4)), some (vi (J x5)), some (vi (J x6)), none, none, none]) (st2 := [vr (some a1), vi (J x6)]) rfl ?_
  refine R_zgetI (z := 3) rfl t0 rfl ?_
  refine R_zif (x := x6) (z := ai h a1 3) rfl r6 (ai_in _ _ _) (fun c_2 => ?_) (fun c_2 => ?_)
  · have k := k.2 c_2
    refine R_ps 2 (pc2 := 6) (L2 := [some (vr (some w)), some (vr (some a1)), some (vi (J x2)), some (vi (J x3)), some (vi (J x4)), some (vi ((J x5) + J 1)), some (vi (J x6)), none, none, none]) (st2 := []) rfl ?_
    rw [show ((J x5) + J 1) = J (x5 + 1) from J_add' rfl rfl]
    exact R_drop k (LE_of (L := [some (vr (some w)), some (vr (some a1)), some (vi (J x2)), some (vi (J x3)), some (vi (J x4)), some (vi (J (x5 + 1))), none, none, none, none]) (L2 := [some (vr (some w)), some (vr (some a1)), some (vi (J x2)), some (vi (J x3)), some (vi (J x4)), some (vi (J (x5 + 1))), some (vi (J x6)), none, none, none]) ⟨rfl, rfl, rfl, rfl, rfl, rfl, trivial⟩)
  · have k := k.1 (Classical.not_not.mp c_2)
    refine R_ps 2 (pc2 := 27) (L2 := [some (vr (some w)), some (vr (some a1)), some (vi (J x2)), some (vi (J x3)), some (vi (J x4)), some (vi (J x5)), some (vi (J x6)), none, none, none]) (st2 := [vi (J x6), vr (some a1)]) rfl ?_
    refine R_cR (as := [vr (some a1), vi (J x6)]) rfl rfl ⟨Nat.le_of_ble_eq_true rfl, Nat.le_of_ble_eq_true rfl, rfl, (Or.inr ⟨_, rfl, t0⟩)⟩ rfl rfl k (fun x_5 h_4 k => ?_)
    refine R_ps 2 (pc2 := 34) (L2 := [some (vr (some w)), some (vr (some a1)), some (vi (J x2)), some (vi (J x3)), some (vi (J x4)), some (vi (J x5)), some (vi (J x6)), some (vr x_5), none, none]) (st2 := [vr x_5]) rfl ?_
    rcases null_or (x_5) with e_8 | ⟨a_7, e_8⟩
    · have k := k.1 e_8
      rw [e_8]
      refine R_null rfl (fun _ => ?_) (fun _ c_6 => nomatch c_6)
      refine R_ps 2 (pc2 := 15) (L2 := [some (vr (some w)), some (vr (some a1)), some (vi (J x2)), some (vi (J x3)), some (vi (J x4)), some (vi (J x5)), some (vi ((J x6) + J 1)), some (vr none), none, none]) (st2 := []) rfl ?_
      rw [show ((J x6) + J 1) = J (x6 + 1) from J_add' rfl rfl]
      exact R_drop k (LE_of (L := [some (vr (some w)), some (vr (some a1)), some (vi (J x2)), some (vi (J x3)), some (vi (J x4)), some (vi (J x5)), some (vi (J (x6 + 1))), none, none, none]) (L2 := [some (vr (some w)), some (vr (some a1)), some (vi (J x2)), some (vi (J x3)), some (vi (J x4)), some (vi (J x5)), some (vi (J (x6 + 1))), some (vr none), none, none]) ⟨rfl, rfl, rfl, rfl, rfl, rfl, rfl, trivial⟩)
    · have k := k.2 a_7 e_8
      rw [e_8]
      refine R_null rfl (fun c_6 => nomatch c_6) (fun _ _ => ?_)
      refine R_ps 1 (pc2 := 39) (L2 := [some (vr (some w)), some (vr (some a1)), some (vi (J x2)), some (vi (J x3)), some (vi (J x4)), some (vi (J x5)), some (vi (J x6)), some (vr (some a_7)), none, none]) (st2 := [vr (some a_7)]) rfl ?_
      obtain ⟨t_10, k⟩ := k
      refine R_zgetI (z := 0) rfl t_10 rfl ?_
      refine R_ps 1 (pc2 := 43) (L2 := [some (vr (some w)), some (vr (some a1)), some (vi (J x2)), some (vi (J x3)), some (vi (J x4)), some (vi (J x5)), some (vi (J x6)), some (vr (some a_7)), none, none]) (st2 := [vi (J x3), vi (J (ai h_4 a_7 0))]) rfl ?_
      refine R_zif (x := ai h_4 a_7 0) (z := x3) rfl (ai_in _ _ _) r3 (fun c_11 => ?_) (fun c_11 => ?_)
      · have k := k.1 c_11
        refine R_ps 1 (pc2 := 60) (L2 := [some (vr (some w)), some (vr (some a1)), some (vi (J x2)), some (vi (J x3)), some (vi (J x4)), some (vi (J x5)), some (vi (J x6)), some (vr (some a_7)), none, none]) (st2 := [vr (some a_7)]) rfl ?_
        refine R_zgetI (z := 1) rfl t_10 rfl ?_
        refine R_ps 1 (pc2 := 64) (L2 := [some (vr (some w)), some (vr (some a1)), some (vi (J x2)), some (vi (J x3)), some (vi (J x4)), some (vi (J x5)), some (vi (J x6)), some (vr (some a_7)), none, none]) (st2 := [vi (J x3), vi (J (ai h_4 a_7 1))]) rfl ?_
        refine R_zif (x := ai h_4 a_7 1) (z := x3) rfl (ai_in _ _ _) r3 (fun c_13 => ?_) (fun c_13 => ?_)
        · have k := k.2 c_13
          refine R_ps 5 (pc2 := 78) (L2 := [some (vr (some w)), some (vr (some a1)), some (vi (J x2)), some (vi (J x3)), some (vi (J x4)), some (vi (J x5)), some (vi (J x6)), some (vr (some a_7)), some (vi (J 1)), none]) (st2 := [vr (some a_7), vi (J x2), vr (some w)]) rfl ?_
          refine R_zgetI (z := 2) rfl t_10 rfl ?_
          refine R_ps 3 (pc2 := 87) (L2 := [some (vr (some w)), some (vr (some a1)), some (vi (J x2)), some (vi (J x3)), some (vi (J x4)), some (vi (J x5)), some (vi (J x6)), some (vr (some a_7)), some (vi (J 1)), none]) (st2 := [vi (J x5), vi (J 1), vi (J x6), vi (J (ai h_4 a_7 2)), vi (J x2), vr (some w)]) rfl ?_
          refine R_zcI (as := [vi (J x6), vi (J 1), vi (J x5)]) rfl rfl ⟨Nat.le_of_ble_eq_true rfl, Nat.le_of_ble_eq_true rfl, rfl, (Or.inl rfl)⟩ rfl rfl k (fun x_17 h_16 r_18 k => ?_)
          refine R_zcI (as := [vr (some w), vi (J x2), vi (J (ai h_4 a_7 2)), vi (J x_17)]) rfl rfl ⟨Nat.le_of_ble_eq_true rfl, Nat.le_of_ble_eq_true rfl, rfl, (Or.inr ⟨_, rfl, t1⟩)⟩ rfl rfl k (fun x_21 h_20 r_22 k => ?_)
          refine R_ps 3 (pc2 := 98) (L2 := [some (vr (some w)), some (vr (some a1)), some (vi (J x2)), some (vi (J x3)), some (vi (J x4)), some (vi (J x5)), some (vi (J x6)), some (vr (some a_7)), some (vi (J 1)), some (vi (J x_21))]) (st2 := [vi (J (-1)), vi (J x_21)]) rfl ?_
          refine R_zif (x := x_21) (z := (-1)) rfl r_22 (by decide) (fun c_23 => ?_) (fun c_23 => ?_)
          · have k := k.1 c_23
            refine R_ps 2 (pc2 := 15) (L2 := [some (vr (some w)), some (vr (some a1)), some (vi (J x2)), some (vi (J x3)), some (vi (J x4)), some (vi (J x5)), some (vi ((J x6) + J 1)), some (vr (some a_7)), some (vi (J 1)), some (vi (J x_21))]) (st2 := []) rfl ?_
            rw [show ((J x6) + J 1) = J (x6 + 1) from J_add' rfl rfl]
            exact R_drop k (LE_of (L := [some (vr (some w)), some (vr (some a1)), some (vi (J x2)), some (vi (J x3)), some (vi (J x4)), some (vi (J x5)), some (vi (J (x6 + 1))), none, none, none]) (L2 := [some (vr (some w)), some (vr (some a1)), some (vi (J x2)), some (vi (J x3)), some (vi (J x4)), some (vi (J x5)), some (vi (J (x6 + 1))), some (vr (some a_7)), some (vi (J 1)), some (vi (J x_21))]) ⟨rfl, rfl, rfl, rfl, rfl, rfl, rfl, trivial⟩)
          · have k := k.2 c_23
            refine R_ps 2 (pc2 := 104) (L2 := [some (vr (some w)), some (vr (some a1)), some (vi (J x2)), some (vi (J x3)), some (vi (J x4)), some (vi (J x5)), some (vi (J x6)), some (vr (some a_7)), some (vi (J 1)), some (vi (J x_21))]) (st2 := [vi (J (-1)), vi (J x4)]) rfl ?_
            refine R_zif (x := x4) (z := (-1)) rfl r4 (by decide) (fun c_24 => ?_) (fun c_24 => ?_)
            · have k := k.1 c_24
              refine R_ps 4 (pc2 := 15) (L2 := [some (vr (some w)), some (vr (some a1)), some (vi (J x2)), some (vi (J x3)), some (vi (J x_21)), some (vi (J x5)), some (vi ((J x6) + J 1)), some (vr (some a_7)), some (vi (J 1)), some (vi (J x_21))]) (st2 := []) rfl ?_
              rw [show ((J x6) + J 1) = J (x6 + 1) from J_add' rfl rfl]
              exact R_drop k (LE_of (L := [some (vr (some w)), some (vr (some a1)), some (vi (J x2)), some (vi (J x3)), some (vi (J x_21)), some (vi (J x5)), some (vi (J (x6 + 1))), none, none, none]) (L2 := [some (vr (some w)), some (vr (some a1)), some (vi (J x2)), some (vi (J x3)), some (vi (J x_21)), some (vi (J x5)), some (vi (J (x6 + 1))), some (vr (some a_7)), some (vi (J 1)), some (vi (J x_21))]) ⟨rfl, rfl, rfl, rfl, rfl, rfl, rfl, trivial⟩)
            · have k := k.2 c_24
              refine R_ps 2 (pc2 := 110) (L2 := [some (vr (some w)), some (vr (some a1)), some (vi (J x2)), some (vi (J x3)), some (vi (J x4)), some (vi (J x5)), some (vi (J x6)), some (vr (some a_7)), some (vi (J 1)), some (vi (J x_21))]) (st2 := [vi (J x_21), vr (some w)]) rfl ?_
              refine R_zcI (as := [vr (some w), vi (J x_21)]) rfl rfl ⟨Nat.le_of_ble_eq_true rfl, Nat.le_of_ble_eq_true rfl, rfl, (Or.inr ⟨_, rfl, t1⟩)⟩ rfl rfl k (fun x_27 h_26 r_28 k => ?_)
              refine R_ps 2 (pc2 := 116) (L2 := [some (vr (some w)), some (vr (some a1)), some (vi (J x2)), some (vi (J x3)), some (vi (J x4)), some (vi (J x5)), some (vi (J x6)), some (vr (some a_7)), some (vi (J 1)), some (vi (J x_21))]) (st2 := [vi (J x4), vr (some w), vi (J x_27)]) rfl ?_
              refine R_zcI (as := [vr (some w), vi (J x4)]) rfl rfl ⟨Nat.le_of_ble_eq_true rfl, Nat.le_of_ble_eq_true rfl, rfl, (Or.inr ⟨_, rfl, t1⟩)⟩ rfl rfl k (fun x_31 h_30 r_32 k => ?_)
              refine R_zif (x := x_27) (z := x_31) rfl r_28 r_32 (fun c_33 => ?_) (fun c_33 => ?_)
              · have k := k.2 c_33
                refine R_ps 2 (pc2 := 15) (L2 := [some (vr (some w)), some (vr (some a1)), some (vi (J x2)), some (vi (J x3)), some (vi (J x4)), some (vi (J x5)), some (vi ((J x6) + J 1)), some (vr (some a_7)), some (vi (J 1)), some (vi (J x_21))]) (st2 := []) rfl ?_
                rw [show ((J x6) + J 1) = J (x6 + 1) from J_add' rfl rfl]
                exact R_drop k (LE_of (L := [some (vr (some w)), some (vr (some a1)), some (vi (J x2)), some (vi (J x3)), some (vi (J x4)), some (vi (J x5)), some (vi (J (x6 + 1))), none, none, none]) (L2 := [some (vr (some w)), some (vr (some a1)), some (vi (J x2)), some (vi (J x3)), some (vi (J x4)), some (vi (J x5)), some (vi (J (x6 + 1))), some (vr (some a_7)), some (vi (J 1)), some (vi (J x_21))]) ⟨rfl, rfl, rfl, rfl, rfl, rfl, rfl, trivial⟩)
              · have k := k.1 (Classical.not_not.mp c_33)
                refine R_ps 4 (pc2 := 15) (L2 := [some (vr (some w)), some (vr (some a1)), some (vi (J x2)), some (vi (J x3)), some (vi (J x_21)), some (vi (J x5)), some (vi ((J x6) + J 1)), some (vr (some a_7)), some (vi (J 1)), some (vi (J x_21))]) (st2 := []) rfl ?_
                rw [show ((J x6) + J 1) = J (x6 + 1) from J_add' rfl rfl]
                exact R_drop k (LE_of (L := [some (vr (some w)), some (vr (some a1)), some (vi (J x2)), some (vi (J x3)), some (vi (J x_21)), some (vi (J x5)), some (vi (J (x6 + 1))), none, none, none]) (L2 := [some (vr (some w)), some (vr (some a1)), some (vi (J x2)), some (vi (J x3)), some (vi (J x_21)), some (vi (J x5)), some (vi (J (x6 + 1))), some (vr (some a_7)), some (vi (J 1)), some (vi (J x_21))]) ⟨rfl, rfl, rfl, rfl, rfl, rfl, rfl, trivial⟩)
        · have k := k.1 (Classical.not_not.mp c_13)
          refine R_ps 6 (pc2 := 78) (L2 := [some (vr (some w)), some (vr (some a1)), some (vi (J x2)), some (vi (J x3)), some (vi (J x4)), some (vi (J x5)), some (vi (J x6)), some (vr (some a_7)), some (vi (J 0)), none]) (st2 := [vr (some a_7), vi (J x2), vr (some w)]) rfl ?_
          refine R_zgetI (z := 2) rfl t_10 rfl ?_
          refine R_ps 3 (pc2 := 87) (L2 := [some (vr (some w)), some (vr (some a1)), some (vi (J x2)), some (vi (J x3)), some (vi (J x4)), some (vi (J x5)), some (vi (J x6)), some (vr (some a_7)), some (vi (J 0)), none]) (st2 := [vi (J x5), vi (J 0), vi (J x6), vi (J (ai h_4 a_7 2)), vi (J x2), vr (some w)]) rfl ?_
          refine R_zcI (as := [vi (J x6), vi (J 0), vi (J x5)]) rfl rfl ⟨Nat.le_of_ble_eq_true rfl, Nat.le_of_ble_eq_true rfl, rfl, (Or.inl rfl)⟩ rfl rfl k (fun x_37 h_36 r_38 k => ?_)
          refine R_zcI (as := [vr (some w), vi (J x2), vi (J (ai h_4 a_7 2)), vi (J x_37)]) rfl rfl ⟨Nat.le_of_ble_eq_true rfl, Nat.le_of_ble_eq_true rfl, rfl, (Or.inr ⟨_, rfl, t1⟩)⟩ rfl rfl k (fun x_41 h_40 r_42 k => ?_)
          refine R_ps 3 (pc2 := 98) (L2 := [some (vr (some w)), some (vr (some a1)), some (vi (J x2)), some (vi (J x3)), some (vi (J x4)), some (vi (J x5)), some (vi (J x6)), some (vr (some a_7)), some (vi (J 0)), some (vi (J x_41))]) (st2 := [vi (J (-1)), vi (J x_41)]) rfl ?_
          refine R_zif (x := x_41) (z := (-1)) rfl r_42 (by decide) (fun c_43 => ?_) (fun c_43 => ?_)
          · have k := k.1 c_43
            refine R_ps 2 (pc2 := 15) (L2 := [some (vr (some w)), some (vr (some a1)), some (vi (J x2)), some (vi (J x3)), some (vi (J x4)), some (vi (J x5)), some (vi ((J x6) + J 1)), some (vr (some a_7)), some (vi (J 0)), some (vi (J x_41))]) (st2 := []) rfl ?_
            rw [show ((J x6) + J 1) = J (x6 + 1) from J_add' rfl rfl]
            exact R_drop k (LE_of (L := [some (vr (some w)), some (vr (some a1)), some (vi (J x2)), some (vi (J x3)), some (vi (J x4)), some (vi (J x5)), some (vi (J (x6 + 1))), none, none, none]) (L2 := [some (vr (some w)), some (vr (some a1)), some (vi (J x2)), some (vi (J x3)), some (vi (J x4)), some (vi (J x5)), some (vi (J (x6 + 1))), some (vr (some a_7)), some (vi (J 0)), some (vi (J x_41))]) ⟨rfl, rfl, rfl, rfl, rfl, rfl, rfl, trivial⟩)
          · have k := k.2 c_43
            refine R_ps 2 (pc2 := 104) (L2 := [some (vr (some w)), some (vr (some a1)), some (vi (J x2)), some (vi (J x3)), some (vi (J x4)), some (vi (J x5)), some (vi (J x6)), some (vr (some a_7)), some (vi (J 0)), some (vi (J x_41))]) (st2 := [vi (J (-1)), vi (J x4)]) rfl ?_
            refine R_zif (x := x4) (z := (-1)) rfl r4 (by decide) (fun c_44 => ?_) (fun c_44 => ?_)
            · have k := k.1 c_44
              refine R_ps 4 (pc2 := 15) (L2 := [some (vr (some w)), some (vr (some a1)), some (vi (J x2)), some (vi (J x3)), some (vi (J x_41)), some (vi (J x5)), some (vi ((J x6) + J 1)), some (vr (some a_7)), some (vi (J 0)), some (vi (J x_41))]) (st2 := []) rfl ?_
              rw [show ((J x6) + J 1) = J (x6 + 1) from J_add' rfl rfl]
              exact R_drop k (LE_of (L := [some (vr (some w)), some (vr (some a1)), some (vi (J x2)), some (vi (J x3)), some (vi (J x_41)), some (vi (J x5)), some (vi (J (x6 + 1))), none, none, none]) (L2 := [some (vr (some w)), some (vr (some a1)), some (vi (J x2)), some (vi (J x3)), some (vi (J x_41)), some (vi (J x5)), some (vi (J (x6 + 1))), some (vr (some a_7)), some (vi (J 0)), some (vi (J x_41))]) ⟨rfl, rfl, rfl, rfl, rfl, rfl, rfl, trivial⟩)
            · have k := k.2 c_44
              refine R_ps 2 (pc2 := 110) (L2 := [some (vr (some w)), some (vr (some a1)), some (vi (J x2)), some (vi (J x3)), some (vi (J x4)), some (vi (J x5)), some (vi (J x6)), some (vr (some a_7)), some (vi (J 0)), some (vi (J x_41))]) (st2 := [vi (J x_41), vr (some w)]) rfl ?_
              refine R_zcI (as := [vr (some w), vi (J x_41)]) rfl rfl ⟨Nat.le_of_ble_eq_true rfl, Nat.le_of_ble_eq_true rfl, rfl, (Or.inr ⟨_, rfl, t1⟩)⟩ rfl rfl k (fun x_47 h_46 r_48 k => ?_)
              refine R_ps 2 (pc2 := 116) (L2 := [some (vr (some w)), some (vr (some a1)), some (vi (J x2)), some (vi (J x3)), some (vi (J x4)), some (vi (J x5)), some (vi (J x6)), some (vr (some a_7)), some (vi (J 0)), some (vi (J x_41))]) (st2 := [vi (J x4), vr (some w), vi (J x_47)]) rfl ?_
              refine R_zcI (as := [vr (some w), vi (J x4)]) rfl rfl ⟨Nat.le_of_ble_eq_true rfl, Nat.le_of_ble_eq_true rfl, rfl, (Or.inr ⟨_, rfl, t1⟩)⟩ rfl rfl k (fun x_51 h_50 r_52 k => ?_)
              refine R_zif (x := x_47) (z := x_51) rfl r_48 r_52 (fun c_53 => ?_) (fun c_53 => ?_)
              · have k := k.2 c_53
                refine R_ps 2 (pc2 := 15) (L2 := [some (vr (some w)), some (vr (some a1)), some (vi (J x2)), some (vi (J x3)), some (vi (J x4)), some (vi (J x5)), some (vi ((J x6) + J 1)), some (vr (some a_7)), some (vi (J 0)), some (vi (J x_41))]) (st2 := []) rfl ?_
                rw [show ((J x6) + J 1) = J (x6 + 1) from J_add' rfl rfl]
                exact R_drop k (LE_of (L := [some (vr (some w)), some (vr (some a1)), some (vi (J x2)), some (vi (J x3)), some (vi (J x4)), some (vi (J x5)), some (vi (J (x6 + 1))), none, none, none]) (L2 := [some (vr (some w)), some (vr (some a1)), some (vi (J x2)), some (vi (J x3)), some (vi (J x4)), some (vi (J x5)), some (vi (J (x6 + 1))), some (vr (some a_7)), some (vi (J 0)), some (vi (J x_41))]) ⟨rfl, rfl, rfl, rfl, rfl, rfl, rfl, trivial⟩)
              · have k := k.1 (Classical.not_not.mp c_53)
                refine R_ps 4 (pc2 := 15) (L2 := [some (vr (some w)), some (vr (some a1)), some (vi (J x2)), some (vi (J x3)), some (vi (J x_41)), some (vi (J x5)), some (vi ((J x6) + J 1)), some (vr (some a_7)), some (vi (J 0)), some (vi (J x_41))]) (st2 := []) rfl ?_
                rw [show ((J x6) + J 1) = J (x6 + 1) from J_add' rfl rfl]
                exact R_drop k (LE_of (L := [some (vr (some w)), some (vr (some a1)), some (vi (J x2)), some (vi (J x3)), some (vi (J x_41)), some (vi (J x5)), some (vi (J (x6 + 1))), none, none, none]) (L2 := [some (vr (some w)), some (vr (some a1)), some (vi (J x2)), some (vi (J x3)), some (vi (J x_41)), some (vi (J x5)), some (vi (J (x6 + 1))), some (vr (some a_7)), some (vi (J 0)), some (vi (J x_41))]) ⟨rfl, rfl, rfl, rfl, rfl, rfl, rfl, trivial⟩)
      · have k := k.2 c_11
        refine R_ps 1 (pc2 := 48) (L2 := [some (vr (some w)), some (vr (some a1)), some (vi (J x2)), some (vi (J x3)), some (vi (J x4)), some (vi (J x5)), some (vi (J x6)), some (vr (some a_7)), none, none]) (st2 := [vr (some a_7)]) rfl ?_
        refine R_zgetI (z := 1) rfl t_10 rfl ?_
        refine R_ps 1 (pc2 := 52) (L2 := [some (vr (some w)), some (vr (some a1)), some (vi (J x2)), some (vi (J x3)), some (vi (J x4)), some (vi (J x5)), some (vi (J x6)), some (vr (some a_7)), none, none]) (st2 := [vi (J x3), vi (J (ai h_4 a_7 1))]) rfl ?_
        refine R_zif (x := ai h_4 a_7 1) (z := x3) rfl (ai_in _ _ _) r3 (fun c_55 => ?_) (fun c_55 => ?_)
        · have k := k.1 c_55
          refine R_ps 1 (pc2 := 60) (L2 := [some (vr (some w)), some (vr (some a1)), some (vi (J x2)), some (vi (J x3)), some (vi (J x4)), some (vi (J x5)), some (vi (J x6)), some (vr (some a_7)), none, none]) (st2 := [vr (some a_7)]) rfl ?_
          refine R_zgetI (z := 1) rfl t_10 rfl ?_
          refine R_ps 1 (pc2 := 64) (L2 := [some (vr (some w)), some (vr (some a1)), some (vi (J x2)), some (vi (J x3)), some (vi (J x4)), some (vi (J x5)), some (vi (J x6)), some (vr (some a_7)), none, none]) (st2 := [vi (J x3), vi (J (ai h_4 a_7 1))]) rfl ?_
          refine R_zif (x := ai h_4 a_7 1) (z := x3) rfl (ai_in _ _ _) r3 (fun c_57 => ?_) (fun c_57 => ?_)
          · have k := k.2 c_57
            refine R_ps 5 (pc2 := 78) (L2 := [some (vr (some w)), some (vr (some a1)), some (vi (J x2)), some (vi (J x3)), some (vi (J x4)), some (vi (J x5)), some (vi (J x6)), some (vr (some a_7)), some (vi (J 1)), none]) (st2 := [vr (some a_7), vi (J x2), vr (some w)]) rfl ?_
            refine R_zgetI (z := 2) rfl t_10 rfl ?_
            refine R_ps 3 (pc2 := 87) (L2 := [some (vr (some w)), some (vr (some a1)), some (vi (J x2)), some (vi (J x3)), some (vi (J x4)), some (vi (J x5)), some (vi (J x6)), some (vr (some a_7)), some (vi (J 1)), none]) (st2 := [vi (J x5), vi (J 1), vi (J x6), vi (J (ai h_4 a_7 2)), vi (J x2), vr (some w)]) rfl ?_
            refine R_zcI (as := [vi (J x6), vi (J 1), vi (J x5)]) rfl rfl ⟨Nat.le_of_ble_eq_true rfl, Nat.le_of_ble_eq_true rfl, rfl, (Or.inl rfl)⟩ rfl rfl k (fun x_61 h_60 r_62 k => ?_)
            refine R_zcI (as := [vr (some w), vi (J x2), vi (J (ai h_4 a_7 2)), vi (J x_61)]) rfl rfl ⟨Nat.le_of_ble_eq_true rfl, Nat.le_of_ble_eq_true rfl, rfl, (Or.inr ⟨_, rfl, t1⟩)⟩ rfl rfl k (fun x_65 h_64 r_66 k => ?_)
            refine R_ps 3 (pc2 := 98) (L2 := [some (vr (some w)), some (vr (some a1)), some (vi (J x2)), some (vi (J x3)), some (vi (J x4)), some (vi (J x5)), some (vi (J x6)), some (vr (some a_7)), some (vi (J 1)), some (vi (J x_65))]) (st2 := [vi (J (-1)), vi (J x_65)]) rfl ?_
            refine R_zif (x := x_65) (z := (-1)) rfl r_66 (by decide) (fun c_67 => ?_) (fun c_67 => ?_)
            · have k := k.1 c_67
              refine R_ps 2 (pc2 := 15) (L2 := [some (vr (some w)), some (vr (some a1)), some (vi (J x2)), some (vi (J x3)), some (vi (J x4)), some (vi (J x5)), some (vi ((J x6) + J 1)), some (vr (some a_7)), some (vi (J 1)), some (vi (J x_65))]) (st2 := []) rfl ?_
              rw [show ((J x6) + J 1) = J (x6 + 1) from J_add' rfl rfl]
              exact R_drop k (LE_of (L := [some (vr (some w)), some (vr (some a1)), some (vi (J x2)), some (vi (J x3)), some (vi (J x4)), some (vi (J x5)), some (vi (J (x6 + 1))), none, none, none]) (L2 := [some (vr (some w)), some (vr (some a1)), some (vi (J x2)), some (vi (J x3)), some (vi (J x4)), some (vi (J x5)), some (vi (J (x6 + 1))), some (vr (some a_7)), some (vi (J 1)), some (vi (J x_65))]) ⟨rfl, rfl, rfl, rfl, rfl, rfl, rfl, trivial⟩)
            · have k := k.2 c_67
              refine R_ps 2 (pc2 := 104) (L2 := [some (vr (some w)), some (vr (some a1)), some (vi (J x2)), some (vi (J x3)), some (vi (J x4)), some (vi (J x5)), some (vi (J x6)), some (vr (some a_7)), some (vi (J 1)), some (vi (J x_65))]) (st2 := [vi (J (-1)), vi (J x4)]) rfl ?_
              refine R_zif (x := x4) (z := (-1)) rfl r4 (by decide) (fun c_68 => ?_) (fun c_68 => ?_)
              · have k := k.1 c_68
                refine R_ps 4 (pc2 := 15) (L2 := [some (vr (some w)), some (vr (some a1)), some (vi (J x2)), some (vi (J x3)), some (vi (J x_65)), some (vi (J x5)), some (vi ((J x6) + J 1)), some (vr (some a_7)), some (vi (J 1)), some (vi (J x_65))]) (st2 := []) rfl ?_
                rw [show ((J x6) + J 1) = J (x6 + 1) from J_add' rfl rfl]
                exact R_drop k (LE_of (L := [some (vr (some w)), some (vr (some a1)), some (vi (J x2)), some (vi (J x3)), some (vi (J x_65)), some (vi (J x5)), some (vi (J (x6 + 1))), none, none, none]) (L2 := [some (vr (some w)), some (vr (some a1)), some (vi (J x2)), some (vi (J x3)), some (vi (J x_65)), some (vi (J x5)), some (vi (J (x6 + 1))), some (vr (some a_7)), some (vi (J 1)), some (vi (J x_65))]) ⟨rfl, rfl, rfl, rfl, rfl, rfl, rfl, trivial⟩)
              · have k := k.2 c_68
                refine R_ps 2 (pc2 := 110) (L2 := [some (vr (some w)), some (vr (some a1)), some (vi (J x2)), some (vi (J x3)), some (vi (J x4)), some (vi (J x5)), some (vi (J x6)), some (vr (some a_7)), some (vi (J 1)), some (vi (J x_65))]) (st2 := [vi (J x_65), vr (some w)]) rfl ?_
                refine R_zcI (as := [vr (some w), vi (J x_65)]) rfl rfl ⟨Nat.le_of_ble_eq_true rfl, Nat.le_of_ble_eq_true rfl, rfl, (Or.inr ⟨_, rfl, t1⟩)⟩ rfl rfl k (fun x_71 h_70 r_72 k => ?_)
                refine R_ps 2 (pc2 := 116) (L2 := [some (vr (some w)), some (vr (some a1)), some (vi (J x2)), some (vi (J x3)), some (vi (J x4)), some (vi (J x5)), some (vi (J x6)), some (vr (some a_7)), some (vi (J 1)), some (vi (J x_65))]) (st2 := [vi (J x4), vr (some w), vi (J x_71)]) rfl ?_
                refine R_zcI (as := [vr (some w), vi (J x4)]) rfl rfl ⟨Nat.le_of_ble_eq_true rfl, Nat.le_of_ble_eq_true rfl, rfl, (Or.inr ⟨_, rfl, t1⟩)⟩ rfl rfl k (fun x_75 h_74 r_76 k => ?_)
                refine R_zif (x := x_71) (z := x_75) rfl r_72 r_76 (fun c_77 => ?_) (fun c_77 => ?_)
                · have k := k.2 c_77
                  refine R_ps 2 (pc2 := 15) (L2 := [some (vr (some w)), some (vr (some a1)), some (vi (J x2)), some (vi (J x3)), some (vi (J x4)), some (vi (J x5)), some (vi ((J x6) + J 1)), some (vr (some a_7)), some (vi (J 1)), some (vi (J x_65))]) (st2 := []) rfl ?_
                  rw [show ((J x6) + J 1) = J (x6 + 1) from J_add' rfl rfl]
                  exact R_drop k (LE_of (L := [some (vr (some w)), some (vr (some a1)), some (vi (J x2)), some (vi (J x3)), some (vi (J x4)), some (vi (J x5)), some (vi (J (x6 + 1))), none, none, none]) (L2 := [some (vr (some w)), some (vr (some a1)), some (vi (J x2)), some (vi (J x3)), some (vi (J x4)), some (vi (J x5)), some (vi (J (x6 + 1))), some (vr (some a_7)), some (vi (J 1)), some (vi (J x_65))]) ⟨rfl, rfl, rfl, rfl, rfl, rfl, rfl, trivial⟩)
                · have k := k.1 (Classical.not_not.mp c_77)
                  refine R_ps 4 (pc2 := 15) (L2 := [some (vr (some w)), some (vr (some a1)), some (vi (J x2)), some (vi (J x3)), some (vi (J x_65)), some (vi (J x5)), some (vi ((J x6) + J 1)), some (vr (some a_7)), some (vi (J 1)), some (vi (J x_65))]) (st2 := []) rfl ?_
                  rw [show ((J x6) + J 1) = J (x6 + 1) from J_add' rfl rfl]
                  exact R_drop k (LE_of (L := [some (vr (some w)), some (vr (some a1)), some (vi (J x2)), some (vi (J x3)), some (vi (J x_65)), some (vi (J x5)), some (vi (J (x6 + 1))), none, none, none]) (L2 := [some (vr (some w)), some (vr (some a1)), some (vi (J x2)), some (vi (J x3)), some (vi (J x_65)), some (vi (J x5)), some (vi (J (x6 + 1))), some (vr (some a_7)), some (vi (J 1)), some (vi (J x_65))]) ⟨rfl, rfl, rfl, rfl, rfl, rfl, rfl, trivial⟩)
          · have k := k.1 (Classical.not_not.mp c_57)
            refine R_ps 6 (pc2 := 78) (L2 := [some (vr (some w)), some (vr (some a1)), some (vi (J x2)), some (vi (J x3)), some (vi (J x4)), some (vi (J x5)), some (vi (J x6)), some (vr (some a_7)), some (vi (J 0)), none]) (st2 := [vr (some a_7), vi (J x2), vr (some w)]) rfl ?_
            refine R_zgetI (z := 2) rfl t_10 rfl ?_
            refine R_ps 3 (pc2 := 87) (L2 := [some (vr (some w)), some (vr (some a1)), some (vi (J x2)), some (vi (J x3)), some (vi (J x4)), some (vi (J x5)), some (vi (J x6)), some (vr (some a_7)), some (vi (J 0)), none]) (st2 := [vi (J x5), vi (J 0), vi (J x6), vi (J (ai h_4 a_7 2)), vi (J x2), vr (some w)]) rfl ?_
            refine R_zcI (as := [vi (J x6), vi (J 0), vi (J x5)]) rfl rfl ⟨Nat.le_of_ble_eq_true rfl, Nat.le_of_ble_eq_true rfl, rfl, (Or.inl rfl)⟩ rfl rfl k (fun x_81 h_80 r_82 k => ?_)
            refine R_zcI (as := [vr (some w), vi (J x2), vi (J (ai h_4 a_7 2)), vi (J x_81)]) rfl rfl ⟨Nat.le_of_ble_eq_true rfl, Nat.le_of_ble_eq_true rfl, rfl, (Or.inr ⟨_, rfl, t1⟩)⟩ rfl rfl k (fun x_85 h_84 r_86 k => ?_)
            refine R_ps 3 (pc2 := 98) (L2 := [some (vr (some w)), some (vr (some a1)), some (vi (J x2)), some (vi (J x3)), some (vi (J x4)), some (vi (J x5)), some (vi (J x6)), some (vr (some a_7)), some (vi (J 0)), some (vi (J x_85))]) (st2 := [vi (J (-1)), vi (J x_85)]) rfl ?_
            refine R_zif (x := x_85) (z := (-1)) rfl r_86 (by decide) (fun c_87 => ?_) (fun c_87 => ?_)
            · have k := k.1 c_87
              refine R_ps 2 (pc2 := 15) (L2 := [some (vr (some w)), some (vr (some a1)), some (vi (J x2)), some (vi (J x3)), some (vi (J x4)), some (vi (J x5)), some (vi ((J x6) + J 1)), some (vr (some a_7)), some (vi (J 0)), some (vi (J x_85))]) (st2 := []) rfl ?_
              rw [show ((J x6) + J 1) = J (x6 + 1) from J_add' rfl rfl]
              exact R_drop k (LE_of (L := [some (vr (some w)), some (vr (some a1)), some (vi (J x2)), some (vi (J x3)), some (vi (J x4)), some (vi (J x5)), some (vi (J (x6 + 1))), none, none, none]) (L2 := [some (vr (some w)), some (vr (some a1)), some (vi (J x2)), some (vi (J x3)), some (vi (J x4)), some (vi (J x5)), some (vi (J (x6 + 1))), some (vr (some a_7)), some (vi (J 0)), some (vi (J x_85))]) ⟨rfl, rfl, rfl, rfl, rfl, rfl, rfl, trivial⟩)
            · have k := k.2 c_87
              refine R_ps 2 (pc2 := 104) (L2 := [some (vr (some w)), some (vr (some a1)), some (vi (J x2)), some (vi (J x3)), some (vi (J x4)), some (vi (J x5)), some (vi (J x6)), some (vr (some a_7)), some (vi (J 0)), some (vi (J x_85))]) (st2 := [vi (J (-1)), vi (J x4)]) rfl ?_
              refine R_zif (x := x4) (z := (-1)) rfl r4 (by decide) (fun c_88 => ?_) (fun c_88 => ?_)
              · have k := k.1 c_88
                refine R_ps 4 (pc2 := 15) (L2 := [some (vr (some w)), some (vr (some a1)), some (vi (J x2)), some (vi (J x3)), some (vi (J x_85)), some (vi (J x5)), some (vi ((J x6) + J 1)), some (vr (some a_7)), some (vi (J 0)), some (vi (J x_85))]) (st2 := []) rfl ?_
                rw [show ((J x6) + J 1) = J (x6 + 1) from J_add' rfl rfl]
                exact R_drop k (LE_of (L := [some (vr (some w)), some (vr (some a1)), some (vi (J x2)), some (vi (J x3)), some (vi (J x_85)), some (vi (J x5)), some (vi (J (x6 + 1))), none, none, none]) (L2 := [some (vr (some w)), some (vr (some a1)), some (vi (J x2)), some (vi (J x3)), some (vi (J x_85)), some (vi (J x5)), some (vi (J (x6 + 1))), some (vr (some a_7)), some (vi (J 0)), some (vi (J x_85))]) ⟨rfl, rfl, rfl, rfl, rfl, rfl, rfl, trivial⟩)
              · have k := k.2 c_88
                refine R_ps 2 (pc2 := 110) (L2 := [some (vr (some w)), some (vr (some a1)), some (vi (J x2)), some (vi (J x3)), some (vi (J x4)), some (vi (J x5)), some (vi (J x6)), some (vr (some a_7)), some (vi (J 0)), some (vi (J x_85))]) (st2 := [vi (J x_85), vr (some w)]) rfl ?_
                refine R_zcI (as := [vr (some w), vi (J x_85)]) rfl rfl ⟨Nat.le_of_ble_eq_true rfl, Nat.le_of_ble_eq_true rfl, rfl, (Or.inr ⟨_, rfl, t1⟩)⟩ rfl rfl k (fun x_91 h_90 r_92 k => ?_)
                refine R_ps 2 (pc2 := 116) (L2 := [some (vr (some w)), some (vr (some a1)), some (vi (J x2)), some (vi (J x3)), some (vi (J x4)), some (vi (J x5)), some (vi (J x6)), some (vr (some a_7)), some (vi (J 0)), some (vi (J x_85))]) (st2 := [vi (J x4), vr (some w), vi (J x_91)]) rfl ?_
                refine R_zcI (as := [vr (some w), vi (J x4)]) rfl rfl ⟨Nat.le_of_ble_eq_true rfl, Nat.le_of_ble_eq_true rfl, rfl, (Or.inr ⟨_, rfl, t1⟩)⟩ rfl rfl k (fun x_95 h_94 r_96 k => ?_)
                refine R_zif (x := x_91) (z := x_95) rfl r_92 r_96 (fun c_97 => ?_) (fun c_97 => ?_)
                · have k := k.2 c_97
                  refine R_ps 2 (pc2 := 15) (L2 := [some (vr (some w)), some (vr (some a1)), some (vi (J x2)), some (vi (J x3)), some (vi (J x4)), some (vi (J x5)), some (vi ((J x6) + J 1)), some (vr (some a_7)), some (vi (J 0)), some (vi (J x_85))]) (st2 := []) rfl ?_
                  rw [show ((J x6) + J 1) = J (x6 + 1) from J_add' rfl rfl]
                  exact R_drop k (LE_of (L := [some (vr (some w)), some (vr (some a1)), some (vi (J x2)), some (vi (J x3)), some (vi (J x4)), some (vi (J x5)), some (vi (J (x6 + 1))), none, none, none]) (L2 := [some (vr (some w)), some (vr (some a1)), some (vi (J x2)), some (vi (J x3)), some (vi (J x4)), some (vi (J x5)), some (vi (J (x6 + 1))), some (vr (some a_7)), some (vi (J 0)), some (vi (J x_85))]) ⟨rfl, rfl, rfl, rfl, rfl, rfl, rfl, trivial⟩)
                · have k := k.1 (Classical.not_not.mp c_97)
                  refine R_ps 4 (pc2 := 15) (L2 := [some (vr (some w)), some (vr (some a1)), some (vi (J x2)), some (vi (J x3)), some (vi (J x_85)), some (vi (J x5)), some (vi ((J x6) + J 1)), some (vr (some a_7)), some (vi (J 0)), some (vi (J x_85))]) (st2 := []) rfl ?_
                  rw [show ((J x6) + J 1) = J (x6 + 1) from J_add' rfl rfl]
                  exact R_drop k (LE_of (L := [some (vr (some w)), some (vr (some a1)), some (vi (J x2)), some (vi (J x3)), some (vi (J x_85)), some (vi (J x5)), some (vi (J (x6 + 1))), none, none, none]) (L2 := [some (vr (some w)), some (vr (some a1)), some (vi (J x2)), some (vi (J x3)), some (vi (J x_85)), some (vi (J x5)), some (vi (J (x6 + 1))), some (vr (some a_7)), some (vi (J 0)), some (vi (J x_85))]) ⟨rfl, rfl, rfl, rfl, rfl, rfl, rfl, trivial⟩)
        · have k := k.2 c_55
          refine R_ps 3 (pc2 := 15) (L2 := [some (vr (some w)), some (vr (some a1)), some (vi (J x2)), some (vi (J x3)), some (vi (J x4)), some (vi (J x5)), some (vi ((J x6) + J 1)), some (vr (some a_7)), none, none]) (st2 := []) rfl ?_
          rw [show ((J x6) + J 1) = J (x6 + 1) from J_add' rfl rfl]
          exact R_drop k (LE_of (L := [some (vr (some w)), some (vr (some a1)), some (vi (J x2)), some (vi (J x3)), some (vi (J x4)), some (vi (J x5)), some (vi (J (x6 + 1))), none, none, none]) (L2 := [some (vr (some w)), some (vr (some a1)), some (vi (J x2)), some (vi (J x3)), some (vi (J x4)), some (vi (J x5)), some (vi (J (x6 + 1))), some (vr (some a_7)), none, none]) ⟨rfl, rfl, rfl, rfl, rfl, rfl, rfl, trivial⟩)
/-- DroneCorridors$Search.getReady -/
theorem z70 {T N : Nat → Nat} {h : PH} {w : Nat} {x1 : Int} {x2 : Int} {K : PH → Prop} (r1 : In x1) (r2 : In x2) (k : (WV T N 70 2 [some (vr (some w)), some (vi (J x1)), some (vi (J x2)), some (vi (J 0)), none] [] h K)) : CV T N 70 [vr (some w), vi (J x1), vi (J x2)] h K := by
  show WP T N 70 0 [some (vr (some w)), some (vi (J x1)), some (vi (J x2)), none, none] [] h _
  refine R_ps 2 (pc2 := 2) (L2 := [some (vr (some w)), some (vi (J x1)), some (vi (J x2)), some (vi (J 0)), none]) (st2 := []) rfl ?_
  exact k
theorem z70_2 {T N : Nat → Nat} {h : PH} {w : Nat} {x1 : Int} {x2 : Int} {x3 : Int} {K : PH → Prop} (r1 : In x1) (r2 : In x2) (r3 : In x3) (k : (((x3 < x1 → (((x3 < 10 → (WV T N 70 16 [some (vr (some w)), some (vi (J x1)), some (vi (J x2)), some (vi (J x3)), some (vi (J 0))] [] h K)) ∧ (¬ (x3 < 10) → (K h))))) ∧ (¬ (x3 < x1) → (K h))))) : WV T N 70 2 [some (vr (some w)), some (vi (J x1)), some (vi (J x2)), some (vi (J x3)), none] [] h K := by
  show WP T N 70 2 [some (vr (some w)), some (vi (J x1)), some (vi (J x2)), some (vi (J x3)), none] [] h _
  refine R_ps 2 (pc2 := 4) (L2 := [some (vr (some w)), some (vi (J x1)), some (vi (J x2)), some (vi (J x3)), none]) (st2 := [vi (J x1), vi (J x3)]) rfl ?_
  refine R_zif (x := x3) (z := x1) rfl r3 r1 (fun c_1 => ?_) (fun c_1 => ?_)
  · have k := k.2 c_1
    exact R_ret rfl rfl ⟨rfl, k⟩
  · have k := k.1 (Classical.not_not.mp c_1)
    refine R_ps 2 (pc2 := 10) (L2 := [some (vr (some w)), some (vi (J x1)), some (vi (J x2)), some (vi (J x3)), none]) (st2 := [vi (J 10), vi (J x3)]) rfl ?_
    refine R_zif (x := x3) (z := 10) rfl r3 (by decide) (fun c_3 => ?_) (fun c_3 => ?_)
    · have k := k.2 c_3
      exact R_ret rfl rfl ⟨rfl, k⟩
    · have k := k.1 (Classical.not_not.mp c_3)
      refine R_ps 2 (pc2 := 16) (L2 := [some (vr (some w)), some (vi (J x1)), some (vi (J x2)), some (vi (J x3)), some (vi (J 0))]) (st2 := []) rfl ?_
      exact k
theorem z70_16 {T N : Nat → Nat} {h : PH} {w : Nat} {x1 : Int} {x2 : Int} {x3 : Int} {x4 : Int} {K : PH → Prop} (t0 : T w = 8) (r1 : In x1) (r2 : In x2) (r3 : In x3) (r4 : In x4) (k : (((x4 < 3 → (CV T N 71 [vr (some w), vi (J x3), vi (J x4), vi (J x2)] h (fun h_3 => (WV T N 70 16 [some (vr (some w)), some (vi (J x1)), some (vi (J x2)), some (vi (J x3)), some (vi (J (x4 + 1)))] [] h_3 K)))) ∧ (¬ (x4 < 3) → (WV T N 70 2 [some (vr (some w)), some (vi (J x1)), some (vi (J x2)), some (vi (J (x3 + 1))), none] [] h K))))) : WV T N 70 16 [some (vr (some w)), some (vi (J x1)), some (vi (J x2)), some (vi (J x3)), some (vi (J x4))] [] h K := by
  show WP T N 70 16 [some (vr (some w)), some (vi (J x1)), some (vi (J x2)), some (vi (J x3)), some (vi (J x4))] [] h _
  refine R_ps 2 (pc2 := 19) (L2 := [some (vr (some w)), some (vi (J x1)), some (vi (J x2)), some (vi (J x3)), some (vi (J x4))]) (st2 := [vi (J 3), vi (J x4)]) rfl ?_
  refine R_zif (x := x4) (z := 3) rfl r4 (by decide) (fun c_1 => ?_) (fun c_1 => ?_)
  · have k := k.2 c_1
    refine R_ps 2 (pc2 := 2) (L2 := [some (vr (some w)), some (vi (J x1)), some (vi (J x2)), some (vi ((J x3) + J 1)), some (vi (J x4))]) (st2 := []) rfl ?_
    rw [show ((J x3) + J 1) = J (x3 + 1) from J_add' rfl rfl]
    exact R_drop k (LE_of (L := [some (vr (some w)), some (vi (J x1)), some (vi (J x2)), some (vi (J (x3 + 1))), none]) (L2 := [some (vr (some w)), some (vi (J x1)), some (vi (J x2)), some (vi (J (x3 + 1))), some (vi (J x4))]) ⟨rfl, rfl, rfl, rfl, trivial⟩)
  · have k := k.1 (Classical.not_not.mp c_1)
    refine R_ps 4 (pc2 := 27) (L2 := [some (vr (some w)), some (vi (J x1)), some (vi (J x2)), some (vi (J x3)), some (vi (J x4))]) (st2 := [vi (J x2), vi (J x4), vi (J x3), vr (some w)]) rfl ?_
    refine R_cV (as := [vr (some w), vi (J x3), vi (J x4), vi (J x2)]) rfl rfl ⟨Nat.le_of_ble_eq_true rfl, Nat.le_of_ble_eq_true rfl, rfl, (Or.inr ⟨_, rfl, t0⟩)⟩ rfl rfl k (fun h_3 k => ?_)
    refine R_ps 2 (pc2 := 16) (L2 := [some (vr (some w)), some (vi (J x1)), some (vi (J x2)), some (vi (J x3)), some (vi ((J x4) + J 1))]) (st2 := []) rfl ?_
    rw [show ((J x4) + J 1) = J (x4 + 1) from J_add' rfl rfl]
    exact k
/-- DroneCorridors$Search.getReadyAt -/
theorem z71 {T N : Nat → Nat} {h : PH} {w : Nat} {x1 : Int} {x2 : Int} {x3 : Int} {K : PH → Prop} (t0 : T w = 8) (r1 : In x1) (r2 : In x2) (r3 : In x3) (k : (((x1 = (ai h w 14) → ((((ai h w 17) = 0 → (In (x2 - (ai h w 15)) ∧ WV T N 71 51 [some (vr (some w)), some (vi (J x1)), some (vi (J x2)), some (vi (J x3)), some (vi (J (-1))), some (vi (J ((x3 - (ai h w 13)) + (if 0 ≤ (x2 - (ai h w 15)) then (x2 - (ai h w 15)) else 0 - (x2 - (ai h w 15)))))), some (vi (J 0)), none, none] [] h K)) ∧ (¬ ((ai h w 17) = 0) → (In (x2 - (ai h w 15)) ∧ WV T N 71 51 [some (vr (some w)), some (vi (J x1)), some (vi (J x2)), some (vi (J x3)), some (vi (J (-1))), some (vi (J (0 + (if 0 ≤ (x2 - (ai h w 15)) then (x2 - (ai h w 15)) else 0 - (x2 - (ai h w 15)))))), some (vi (J 0)), none, none] [] h K))))) ∧ (¬ (x1 = (ai h w 14)) → (WV T N 71 51 [some (vr (some w)), some (vi (J x1)), some (vi (J x2)), some (vi (J x3)), some (vi (J (-2))), some (vi (J 1000000)), some (vi (J 0)), none, none] [] h K))))) : CV T N 71 [vr (some w), vi (J x1), vi (J x2), vi (J x3)] h K := by
  show WP T N 71 0 [some (vr (some w)), some (vi (J x1)), some (vi (J x2)), some (vi (J x3)), none, none, none, none, none] [] h _
  refine R_ps 6 (pc2 := 10) (L2 := [some (vr (some w)), some (vi (J x1)), some (vi (J x2)), some (vi (J x3)), some (vi (J (-2))), some (vi (J 1000000)), none, none, none]) (st2 := [vr (some w), vi (J x1)]) rfl ?_
  refine R_zgetI (z := 14) rfl t0 rfl ?_
  refine R_zif (x := x1) (z := ai h w 14) rfl r1 (ai_in _ _ _) (fun c_2 => ?_) (fun c_2 => ?_)
  · have k := k.2 c_2
    refine R_ps 2 (pc2 := 51) (L2 := [some (vr (some w)), some (vi (J x1)), some (vi (J x2)), some (vi (J x3)), some (vi (J (-2))), some (vi (J 1000000)), some (vi (J 0)), none, none]) (st2 := []) rfl ?_
    exact k
  · have k := k.1 (Classical.not_not.mp c_2)
    refine R_ps 3 (pc2 := 20) (L2 := [some (vr (some w)), some (vi (J x1)), some (vi (J x2)), some (vi (J x3)), some (vi (J (-1))), some (vi (J 1000000)), none, none, none]) (st2 := [vr (some w)]) rfl ?_
    refine R_zgetZ (z := 17) rfl t0 rfl ?_
    refine R_zif0 (x := ai h w 17) rfl (ai_in _ _ _) (fun c_4 => ?_) (fun c_4 => ?_)
    · have k := k.1 c_4
      refine R_ps 2 (pc2 := 32) (L2 := [some (vr (some w)), some (vi (J x1)), some (vi (J x2)), some (vi (J x3)), some (vi (J (-1))), some (vi (J 1000000)), none, none, none]) (st2 := [vr (some w), vi (J x3)]) rfl ?_
      refine R_zgetI (z := 13) rfl t0 rfl ?_
      refine R_ps 3 (pc2 := 38) (L2 := [some (vr (some w)), some (vi (J x1)), some (vi (J x2)), some (vi (J x3)), some (vi (J (-1))), some (vi (J 1000000)), none, none, none]) (st2 := [vr (some w), vi (J x2), vi ((J x3) - (J (ai h w 13)))]) rfl ?_
      rw [show ((J x3) - (J (ai h w 13))) = J (x3 - (ai h w 13)) from J_sub' rfl rfl]
      refine R_zgetI (z := 15) rfl t0 rfl ?_
      refine R_ps 1 (pc2 := 42) (L2 := [some (vr (some w)), some (vi (J x1)), some (vi (J x2)), some (vi (J x3)), some (vi (J (-1))), some (vi (J 1000000)), none, none, none]) (st2 := [vi ((J x2) - (J (ai h w 15))), vi (J (x3 - (ai h w 13)))]) rfl ?_
      rw [show ((J x2) - (J (ai h w 15))) = J (x2 - (ai h w 15)) from J_sub' rfl rfl]
      obtain ⟨t_8, k⟩ := k
      refine R_jdkz (st2 := [vi (if 0 ≤ (J (x2 - (ai h w 15))) then (J (x2 - (ai h w 15))) else 0 - (J (x2 - (ai h w 15)))), vi (J (x3 - (ai h w 13)))]) (st3 := [vi (J (if 0 ≤ (x2 - (ai h w 15)) then (x2 - (ai h w 15)) else 0 - (x2 - (ai h w 15)))), vi (J (x3 - (ai h w 13)))]) rfl rfl rfl rfl rfl rfl rfl rfl (congrArg (fun q => vi q :: [vi (J (x3 - (ai h w 13)))]) (J_abs' t_8)) ?_
      refine R_ps 4 (pc2 := 51) (L2 := [some (vr (some w)), some (vi (J x1)), some (vi (J x2)), some (vi (J x3)), some (vi (J (-1))), some (vi ((J (x3 - (ai h w 13))) + (J (if 0 ≤ (x2 - (ai h w 15)) then (x2 - (ai h w 15)) else 0 - (x2 - (ai h w 15)))))), some (vi (J 0)), none, none]) (st2 := []) rfl ?_
      rw [show ((J (x3 - (ai h w 13))) + (J (if 0 ≤ (x2 - (ai h w 15)) then (x2 - (ai h w 15)) else 0 - (x2 - (ai h w 15))))) = J ((x3 - (ai h w 13)) + (if 0 ≤ (x2 - (ai h w 15)) then (x2 - (ai h w 15)) else 0 - (x2 - (ai h w 15)))) from J_add' rfl rfl]
      exact k
    · have k := k.2 c_4
      refine R_ps 4 (pc2 := 38) (L2 := [some (vr (some w)), some (vi (J x1)), some (vi (J x2)), some (vi (J x3)), some (vi (J (-1))), some (vi (J 1000000)), none, none, none]) (st2 := [vr (some w), vi (J x2), vi (J 0)]) rfl ?_
      refine R_zgetI (z := 15) rfl t0 rfl ?_
      refine R_ps 1 (pc2 := 42) (L2 := [some (vr (some w)), some (vi (J x1)), some (vi (J x2)), some (vi (J x3)), some (vi (J (-1))), some (vi (J 1000000)), none, none, none]) (st2 := [vi ((J x2) - (J (ai h w 15))), vi (J 0)]) rfl ?_
      rw [show ((J x2) - (J (ai h w 15))) = J (x2 - (ai h w 15)) from J_sub' rfl rfl]
      obtain ⟨t_11, k⟩ := k
      refine R_jdkz (st2 := [vi (if 0 ≤ (J (x2 - (ai h w 15))) then (J (x2 - (ai h w 15))) else 0 - (J (x2 - (ai h w 15)))), vi (J 0)]) (st3 := [vi (J (if 0 ≤ (x2 - (ai h w 15)) then (x2 - (ai h w 15)) else 0 - (x2 - (ai h w 15)))), vi (J 0)]) rfl rfl rfl rfl rfl rfl rfl rfl (congrArg (fun q => vi q :: [vi (J 0)]) (J_abs' t_11)) ?_
      refine R_ps 4 (pc2 := 51) (L2 := [some (vr (some w)), some (vi (J x1)), some (vi (J x2)), some (vi (J x3)), some (vi (J (-1))), some (vi ((J 0) + (J (if 0 ≤ (x2 - (ai h w 15)) then (x2 - (ai h w 15)) else 0 - (x2 - (ai h w 15)))))), some (vi (J 0)), none, none]) (st2 := []) rfl ?_
      rw [show ((J 0) + (J (if 0 ≤ (x2 - (ai h w 15)) then (x2 - (ai h w 15)) else 0 - (x2 - (ai h w 15))))) = J (0 + (if 0 ≤ (x2 - (ai h w 15)) then (x2 - (ai h w 15)) else 0 - (x2 - (ai h w 15)))) from J_add' rfl rfl]
      exact k
theorem z71_51 {T N : Nat → Nat} {h : PH} {w : Nat} {x1 : Int} {x2 : Int} {x3 : Int} {x4 : Int} {x5 : Int} {x6 : Int} {K : PH → Prop} (t0 : T w = 8) (r1 : In x1) (r2 : In x2) (r3 : In x3) (r4 : In x4) (r5 : In x5) (r6 : In x6) (k : (((x6 < 3 → (ZI T N 145 [vi (J (ai h w 12)), vi (J x1)] h (fun x_33 h_32 => (((x_33 = 0 → (In ((x1 * 3) + x2) ∧ ((((x1 * 3) + x2) < 0 → (K h_32)) ∧ (¬ (((x1 * 3) + x2) < 0) → (∃ a_41, (gr h_32 w 10) = some a_41 ∧ 21 ≤ T a_41 ∧ In (N a_41 : Int) ∧ ((((x1 * 3) + x2) < (N a_41 : Int) → (∃ a_49, (gr h_32 w 10) = some a_49 ∧ T a_49 = 22 ∧ (0 ≤ ((x1 * 3) + x2) ∧ ((x1 * 3) + x2) < (N a_49 : Int) ∧ ((x1 * 3) + x2) < 2147483648) ∧ ∀ h_51, h_51 = wi h_32 a_49 ((x1 * 3) + x2) x4 → ∃ a_57, (gr h_51 w 11) = some a_57 ∧ T a_57 = 22 ∧ (0 ≤ ((x1 * 3) + x2) ∧ ((x1 * 3) + x2) < (N a_57 : Int) ∧ ((x1 * 3) + x2) < 2147483648) ∧ ∀ h_59, h_59 = wi h_51 a_57 ((x1 * 3) + x2) x5 → K h_59)) ∧ (¬ (((x1 * 3) + x2) < (N a_41 : Int)) → (K h_32)))))))) ∧ (¬ (x_33 = 0) → (In ((x1 * 3) + x6) ∧ ((((x1 * 3) + x6) < 0 → (WV T N 71 51 [some (vr (some w)), some (vi (J x1)), some (vi (J x2)), some (vi (J x3)), some (vi (J x4)), some (vi (J x5)), some (vi (J (x6 + 1))), none, none] [] h_32 K)) ∧ (¬ (((x1 * 3) + x6) < 0) → (∃ a_68, (gr h_32 w 8) = some a_68 ∧ 21 ≤ T a_68 ∧ In (N a_68 : Int) ∧ ((((x1 * 3) + x6) < (N a_68 : Int) → (∃ a_75, (gr h_32 w 8) = some a_75 ∧ T a_75 = 22 ∧ (0 ≤ ((x1 * 3) + x6) ∧ ((x1 * 3) + x6) < (N a_75 : Int) ∧ ((x1 * 3) + x6) < 2147483648) ∧ (((ai h_32 a_75 ((x1 * 3) + x6)) = (-1) → (WV T N 71 51 [some (vr (some w)), some (vi (J x1)), some (vi (J x2)), some (vi (J x3)), some (vi (J x4)), some (vi (J x5)), some (vi (J (x6 + 1))), none, none] [] h_32 K)) ∧ (¬ ((ai h_32 a_75 ((x1 * 3) + x6)) = (-1)) → (∃ a_82, (gr h_32 w 9) = some a_82 ∧ T a_82 = 22 ∧ (0 ≤ ((x1 * 3) + x6) ∧ ((x1 * 3) + x6) < (N a_82 : Int) ∧ ((x1 * 3) + x6) < 2147483648) ∧ In (x2 - x6) ∧ In (((ai h_32 a_82 ((x1 * 3) + x6)) + x3) + (if 0 ≤ (x2 - x6) then (x2 - x6) else 0 - (x2 - x6))) ∧ (((((ai h_32 a_82 ((x1 * 3) + x6)) + x3) + (if 0 ≤ (x2 - x6) then (x2 - x6) else 0 - (x2 - x6))) < x5 → (∃ a_92, (gr h_32 w 8) = some a_92 ∧ T a_92 = 22 ∧ (0 ≤ ((x1 * 3) + x6) ∧ ((x1 * 3) + x6) < (N a_92 : Int) ∧ ((x1 * 3) + x6) < 2147483648) ∧ WV T N 71 51 [some (vr (some w)), some (vi (J x1)), some (vi (J x2)), some (vi (J x3)), some (vi (J (ai h_32 a_92 ((x1 * 3) + x6)))), some (vi (J (((ai h_32 a_82 ((x1 * 3) + x6)) + x3) + (if 0 ≤ (x2 - x6) then (x2 - x6) else 0 - (x2 - x6))))), some (vi (J (x6 + 1))), none, none] [] h_32 K)) ∧ (¬ ((((ai h_32 a_82 ((x1 * 3) + x6)) + x3) + (if 0 ≤ (x2 - x6) then (x2 - x6) else 0 - (x2 - x6))) < x5) → (WV T N 71 51 [some (vr (some w)), some (vi (J x1)), some (vi (J x2)), some (vi (J x3)), some (vi (J x4)), some (vi (J x5)), some (vi (J (x6 + 1))), none, none] [] h_32 K)))))))) ∧ (¬ (((x1 * 3) + x6) < (N a_68 : Int)) → (WV T N 71 51 [some (vr (some w)), some (vi (J x1)), some (vi (J x2)), some (vi (J x3)), some (vi (J x4)), some (vi (J x5)), some (vi (J (x6 + 1))), none, none] [] h_32 K))))))))))))) ∧ (¬ (x6 < 3) → (In ((x1 * 3) + x2) ∧ ((((x1 * 3) + x2) < 0 → (K h)) ∧ (¬ (((x1 * 3) + x2) < 0) → (∃ a_7, (gr h w 10) = some a_7 ∧ 21 ≤ T a_7 ∧ In (N a_7 : Int) ∧ ((((x1 * 3) + x2) < (N a_7 : Int) → (∃ a_15, (gr h w 10) = some a_15 ∧ T a_15 = 22 ∧ (0 ≤ ((x1 * 3) + x2) ∧ ((x1 * 3) + x2) < (N a_15 : Int) ∧ ((x1 * 3) + x2) < 2147483648) ∧ ∀ h_17, h_17 = wi h a_15 ((x1 * 3) + x2) x4 → ∃ a_23, (gr h_17 w 11) = some a_23 ∧ T a_23 = 22 ∧ (0 ≤ ((x1 * 3) + x2) ∧ ((x1 * 3) + x2) < (N a_23 : Int) ∧ ((x1 * 3) + x2) < 2147483648) ∧ ∀ h_25, h_25 = wi h_17 a_23 ((x1 * 3) + x2) x5 → K h_25)) ∧ (¬ (((x1 * 3) + x2) < (N a_7 : Int)) → (K h))))))))))) : WV T N 71 51 [some (vr (some w)), some (vi (J x1)), some (vi (J x2)), some (vi (J x3)), some (vi (J x4)), some (vi (J x5)), some (vi (J x6)), none, none] [] h K := by
  show WP T N 71 51 [some (vr (some w)), some (vi (J x1)), some (vi (J x2)), some (vi (J x3)), some (vi (J x4)), some (vi (J x5)), some (vi (J x6)), none, none] [] h _
  refine R_ps 2 (pc2 := 54) (L2 := [some (vr (some w)), some (vi (J x1)), some (vi (J x2)), some (vi (J x3)), some (vi (J x4)), some (vi (J x5)), some (vi (J x6)), none, none]) (st2 := [vi (J 3), vi (J x6)]) rfl ?_
  refine R_zif (x := x6) (z := 3) rfl r6 (by decide) (fun c_1 => ?_) (fun c_1 => ?_)
  · have k := k.2 c_1
    refine R_ps 7 (pc2 := 159) (L2 := [some (vr (some w)), some (vi (J x1)), some (vi (J x2)), some (vi (J x3)), some (vi (J x4)), some (vi (J x5)), some (vi (((J x1) * (J 3)) + (J x2))), none, none]) (st2 := [vi (((J x1) * (J 3)) + (J x2))]) rfl ?_
    rw [show (((J x1) * (J 3)) + (J x2)) = J ((x1 * 3) + x2) from J_add' (J_mul' rfl rfl) rfl]
    obtain ⟨t_3, k⟩ := k
    refine R_zif0 (x := (x1 * 3) + x2) rfl t_3 (fun c_2 => ?_) (fun c_2 => ?_)
    · have k := k.1 c_2
      exact R_ret rfl rfl ⟨rfl, k⟩
    · have k := k.2 c_2
      refine R_ps 2 (pc2 := 165) (L2 := [some (vr (some w)), some (vi (J x1)), some (vi (J x2)), some (vi (J x3)), some (vi (J x4)), some (vi (J x5)), some (vi (J ((x1 * 3) + x2))), none, none]) (st2 := [vr (some w), vi (J ((x1 * 3) + x2))]) rfl ?_
      refine R_getR rfl t0 ?_
      obtain ⟨a_7, e_8, k⟩ := k
      rw [e_8]
      obtain ⟨t_9, k⟩ := k
      refine R_zalen rfl t_9 ?_
      obtain ⟨t_11, k⟩ := k
      refine R_zif (x := (x1 * 3) + x2) (z := (N a_7 : Int)) rfl t_3 t_11 (fun c_10 => ?_) (fun c_10 => ?_)
      · have k := k.2 c_10
        exact R_ret rfl rfl ⟨rfl, k⟩
      · have k := k.1 (Classical.not_not.mp c_10)
        refine R_ps 1 (pc2 := 173) (L2 := [some (vr (some w)), some (vi (J x1)), some (vi (J x2)), some (vi (J x3)), some (vi (J x4)), some (vi (J x5)), some (vi (J ((x1 * 3) + x2))), none, none]) (st2 := [vr (some w)]) rfl ?_
        refine R_getR rfl t0 ?_
        refine R_ps 2 (pc2 := 180) (L2 := [some (vr (some w)), some (vi (J x1)), some (vi (J x2)), some (vi (J x3)), some (vi (J x4)), some (vi (J x5)), some (vi (J ((x1 * 3) + x2))), none, none]) (st2 := [vi (J x4), vi (J ((x1 * 3) + x2)), vr (gr h w 10)]) rfl ?_
        obtain ⟨a_15, e_16, k⟩ := k
        rw [e_16]
        obtain ⟨t_19, k⟩ := k
        obtain ⟨t_20, k⟩ := k
        refine R_ziast (i := (x1 * 3) + x2) (x := x4) rfl t_19 t_20  ?_
        show WP T N _ _ _ _ (wi h a_15 ((x1 * 3) + x2) x4) _
        generalize e_18 : wi h a_15 ((x1 * 3) + x2) x4 = h_17
        replace k := k h_17 e_18.symm
        refine R_ps 1 (pc2 := 182) (L2 := [some (vr (some w)), some (vi (J x1)), some (vi (J x2)), some (vi (J x3)), some (vi (J x4)), some (vi (J x5)), some (vi (J ((x1 * 3) + x2))), none, none]) (st2 := [vr (some w)]) rfl ?_
        refine R_getR rfl t0 ?_
        refine R_ps 2 (pc2 := 189) (L2 := [some (vr (some w)), some (vi (J x1)), some (vi (J x2)), some (vi (J x3)), some (vi (J x4)), some (vi (J x5)), some (vi (J ((x1 * 3) + x2))), none, none]) (st2 := [vi (J x5), vi (J ((x1 * 3) + x2)), vr (gr h_17 w 11)]) rfl ?_
        obtain ⟨a_23, e_24, k⟩ := k
        rw [e_24]
        obtain ⟨t_27, k⟩ := k
        obtain ⟨t_28, k⟩ := k
        refine R_ziast (i := (x1 * 3) + x2) (x := x5) rfl t_27 t_28  ?_
        show WP T N _ _ _ _ (wi h_17 a_23 ((x1 * 3) + x2) x5) _
        generalize e_26 : wi h_17 a_23 ((x1 * 3) + x2) x5 = h_25
        replace k := k h_25 e_26.symm
        exact R_ret rfl rfl ⟨rfl, k⟩
  · have k := k.1 (Classical.not_not.mp c_1)
    refine R_ps 1 (pc2 := 58) (L2 := [some (vr (some w)), some (vi (J x1)), some (vi (J x2)), some (vi (J x3)), some (vi (J x4)), some (vi (J x5)), some (vi (J x6)), none, none]) (st2 := [vr (some w)]) rfl ?_
    refine R_zgetI (z := 12) rfl t0 rfl ?_
    refine R_ps 1 (pc2 := 62) (L2 := [some (vr (some w)), some (vi (J x1)), some (vi (J x2)), some (vi (J x3)), some (vi (J x4)), some (vi (J x5)), some (vi (J x6)), none, none]) (st2 := [vi (J x1), vi (J (ai h w 12))]) rfl ?_
    refine R_zcI (as := [vi (J (ai h w 12)), vi (J x1)]) rfl rfl ⟨Nat.le_of_ble_eq_true rfl, Nat.le_of_ble_eq_true rfl, rfl, (Or.inl rfl)⟩ rfl rfl k (fun x_33 h_32 r_34 k => ?_)
    refine R_zif0 (x := x_33) rfl r_34 (fun c_35 => ?_) (fun c_35 => ?_)
    · have k := k.1 c_35
      refine R_ps 7 (pc2 := 159) (L2 := [some (vr (some w)), some (vi (J x1)), some (vi (J x2)), some (vi (J x3)), some (vi (J x4)), some (vi (J x5)), some (vi (((J x1) * (J 3)) + (J x2))), none, none]) (st2 := [vi (((J x1) * (J 3)) + (J x2))]) rfl ?_
      rw [show (((J x1) * (J 3)) + (J x2)) = J ((x1 * 3) + x2) from J_add' (J_mul' rfl rfl) rfl]
      obtain ⟨t_37, k⟩ := k
      refine R_zif0 (x := (x1 * 3) + x2) rfl t_37 (fun c_36 => ?_) (fun c_36 => ?_)
      · have k := k.1 c_36
        exact R_ret rfl rfl ⟨rfl, k⟩
      · have k := k.2 c_36
        refine R_ps 2 (pc2 := 165) (L2 := [some (vr (some w)), some (vi (J x1)), some (vi (J x2)), some (vi (J x3)), some (vi (J x4)), some (vi (J x5)), some (vi (J ((x1 * 3) + x2))), none, none]) (st2 := [vr (some w), vi (J ((x1 * 3) + x2))]) rfl ?_
        refine R_getR rfl t0 ?_
        obtain ⟨a_41, e_42, k⟩ := k
        rw [e_42]
        obtain ⟨t_43, k⟩ := k
        refine R_zalen rfl t_43 ?_
        obtain ⟨t_45, k⟩ := k
        refine R_zif (x := (x1 * 3) + x2) (z := (N a_41 : Int)) rfl t_37 t_45 (fun c_44 => ?_) (fun c_44 => ?_)
        · have k := k.2 c_44
          exact R_ret rfl rfl ⟨rfl, k⟩
        · have k := k.1 (Classical.not_not.mp c_44)
          refine R_ps 1 (pc2 := 173) (L2 := [some (vr (some w)), some (vi (J x1)), some (vi (J x2)), some (vi (J x3)), some (vi (J x4)), some (vi (J x5)), some (vi (J ((x1 * 3) + x2))), none, none]) (st2 := [vr (some w)]) rfl ?_
          refine R_getR rfl t0 ?_
          refine R_ps 2 (pc2 := 180) (L2 := [some (vr (some w)), some (vi (J x1)), some (vi (J x2)), some (vi (J x3)), some (vi (J x4)), some (vi (J x5)), some (vi (J ((x1 * 3) + x2))), none, none]) (st2 := [vi (J x4), vi (J ((x1 * 3) + x2)), vr (gr h_32 w 10)]) rfl ?_
          obtain ⟨a_49, e_50, k⟩ := k
          rw [e_50]
          obtain ⟨t_53, k⟩ := k
          obtain ⟨t_54, k⟩ := k
          refine R_ziast (i := (x1 * 3) + x2) (x := x4) rfl t_53 t_54  ?_
          show WP T N _ _ _ _ (wi h_32 a_49 ((x1 * 3) + x2) x4) _
          generalize e_52 : wi h_32 a_49 ((x1 * 3) + x2) x4 = h_51
          replace k := k h_51 e_52.symm
          refine R_ps 1 (pc2 := 182) (L2 := [some (vr (some w)), some (vi (J x1)), some (vi (J x2)), some (vi (J x3)), some (vi (J x4)), some (vi (J x5)), some (vi (J ((x1 * 3) + x2))), none, none]) (st2 := [vr (some w)]) rfl ?_
          refine R_getR rfl t0 ?_
          refine R_ps 2 (pc2 := 189) (L2 := [some (vr (some w)), some (vi (J x1)), some (vi (J x2)), some (vi (J x3)), some (vi (J x4)), some (vi (J x5)), some (vi (J ((x1 * 3) + x2))), none, none]) (st2 := [vi (J x5), vi (J ((x1 * 3) + x2)), vr (gr h_51 w 11)]) rfl ?_
          obtain ⟨a_57, e_58, k⟩ := k
          rw [e_58]
          obtain ⟨t_61, k⟩ := k
          obtain ⟨t_62, k⟩ := k
          refine R_ziast (i := (x1 * 3) + x2) (x := x5) rfl t_61 t_62  ?_
          show WP T N _ _ _ _ (wi h_51 a_57 ((x1 * 3) + x2) x5) _
          generalize e_60 : wi h_51 a_57 ((x1 * 3) + x2) x5 = h_59
          replace k := k h_59 e_60.symm
          exact R_ret rfl rfl ⟨rfl, k⟩
    · have k := k.2 c_35
      refine R_ps 7 (pc2 := 78) (L2 := [some (vr (some w)), some (vi (J x1)), some (vi (J x2)), some (vi (J x3)), some (vi (J x4)), some (vi (J x5)), some (vi (J x6)), some (vi (((J x1) * (J 3)) + (J x6))), none]) (st2 := [vi (((J x1) * (J 3)) + (J x6))]) rfl ?_
      rw [show (((J x1) * (J 3)) + (J x6)) = J ((x1 * 3) + x6) from J_add' (J_mul' rfl rfl) rfl]
      obtain ⟨t_65, k⟩ := k
      refine R_zif0 (x := (x1 * 3) + x6) rfl t_65 (fun c_64 => ?_) (fun c_64 => ?_)
      · have k := k.1 c_64
        refine R_ps 2 (pc2 := 51) (L2 := [some (vr (some w)), some (vi (J x1)), some (vi (J x2)), some (vi (J x3)), some (vi (J x4)), some (vi (J x5)), some (vi ((J x6) + J 1)), some (vi (J ((x1 * 3) + x6))), none]) (st2 := []) rfl ?_
        rw [show ((J x6) + J 1) = J (x6 + 1) from J_add' rfl rfl]
        exact R_drop k (LE_of (L := [some (vr (some w)), some (vi (J x1)), some (vi (J x2)), some (vi (J x3)), some (vi (J x4)), some (vi (J x5)), some (vi (J (x6 + 1))), none, none]) (L2 := [some (vr (some w)), some (vi (J x1)), some (vi (J x2)), some (vi (J x3)), some (vi (J x4)), some (vi (J x5)), some (vi (J (x6 + 1))), some (vi (J ((x1 * 3) + x6))), none]) ⟨rfl, rfl, rfl, rfl, rfl, rfl, rfl, trivial⟩)
      · have k := k.2 c_64
        refine R_ps 2 (pc2 := 84) (L2 := [some (vr (some w)), some (vi (J x1)), some (vi (J x2)), some (vi (J x3)), some (vi (J x4)), some (vi (J x5)), some (vi (J x6)), some (vi (J ((x1 * 3) + x6))), none]) (st2 := [vr (some w), vi (J ((x1 * 3) + x6))]) rfl ?_
        refine R_getR rfl t0 ?_
        obtain ⟨a_68, e_69, k⟩ := k
        rw [e_69]
        obtain ⟨t_70, k⟩ := k
        refine R_zalen rfl t_70 ?_
        obtain ⟨t_72, k⟩ := k
        refine R_zif (x := (x1 * 3) + x6) (z := (N a_68 : Int)) rfl t_65 t_72 (fun c_71 => ?_) (fun c_71 => ?_)
        · have k := k.2 c_71
          refine R_ps 2 (pc2 := 51) (L2 := [some (vr (some w)), some (vi (J x1)), some (vi (J x2)), some (vi (J x3)), some (vi (J x4)), some (vi (J x5)), some (vi ((J x6) + J 1)), some (vi (J ((x1 * 3) + x6))), none]) (st2 := []) rfl ?_
          rw [show ((J x6) + J 1) = J (x6 + 1) from J_add' rfl rfl]
          exact R_drop k (LE_of (L := [some (vr (some w)), some (vi (J x1)), some (vi (J x2)), some (vi (J x3)), some (vi (J x4)), some (vi (J x5)), some (vi (J (x6 + 1))), none, none]) (L2 := [some (vr (some w)), some (vi (J x1)), some (vi (J x2)), some (vi (J x3)), some (vi (J x4)), some (vi (J x5)), some (vi (J (x6 + 1))), some (vi (J ((x1 * 3) + x6))), none]) ⟨rfl, rfl, rfl, rfl, rfl, rfl, rfl, trivial⟩)
        · have k := k.1 (Classical.not_not.mp c_71)
          refine R_ps 1 (pc2 := 92) (L2 := [some (vr (some w)), some (vi (J x1)), some (vi (J x2)), some (vi (J x3)), some (vi (J x4)), some (vi (J x5)), some (vi (J x6)), some (vi (J ((x1 * 3) + x6))), none]) (st2 := [vr (some w)]) rfl ?_
          refine R_getR rfl t0 ?_
          refine R_ps 1 (pc2 := 97) (L2 := [some (vr (some w)), some (vi (J x1)), some (vi (J x2)), some (vi (J x3)), some (vi (J x4)), some (vi (J x5)), some (vi (J x6)), some (vi (J ((x1 * 3) + x6))), none]) (st2 := [vi (J ((x1 * 3) + x6)), vr (gr h_32 w 8)]) rfl ?_
          obtain ⟨a_75, e_76, k⟩ := k
          rw [e_76]
          obtain ⟨t_77, k⟩ := k
          obtain ⟨t_78, k⟩ := k
          refine R_ziald (i := (x1 * 3) + x6) rfl (Or.inl t_77) t_78 ?_
          refine R_ps 1 (pc2 := 99) (L2 := [some (vr (some w)), some (vi (J x1)), some (vi (J x2)), some (vi (J x3)), some (vi (J x4)), some (vi (J x5)), some (vi (J x6)), some (vi (J ((x1 * 3) + x6))), none]) (st2 := [vi (J (-1)), vi (J (ai h_32 a_75 ((x1 * 3) + x6)))]) rfl ?_
          refine R_zif (x := ai h_32 a_75 ((x1 * 3) + x6)) (z := (-1)) rfl (ai_in _ _ _) (by decide) (fun c_79 => ?_) (fun c_79 => ?_)
          · have k := k.2 c_79
            refine R_ps 1 (pc2 := 106) (L2 := [some (vr (some w)), some (vi (J x1)), some (vi (J x2)), some (vi (J x3)), some (vi (J x4)), some (vi (J x5)), some (vi (J x6)), some (vi (J ((x1 * 3) + x6))), none]) (st2 := [vr (some w)]) rfl ?_
            refine R_getR rfl t0 ?_
            refine R_ps 1 (pc2 := 111) (L2 := [some (vr (some w)), some (vi (J x1)), some (vi (J x2)), some (vi (J x3)), some (vi (J x4)), some (vi (J x5)), some (vi (J x6)), some (vi (J ((x1 * 3) + x6))), none]) (st2 := [vi (J ((x1 * 3) + x6)), vr (gr h_32 w 9)]) rfl ?_
            obtain ⟨a_82, e_83, k⟩ := k
            rw [e_83]
            obtain ⟨t_84, k⟩ := k
            obtain ⟨t_85, k⟩ := k
            refine R_ziald (i := (x1 * 3) + x6) rfl (Or.inl t_84) t_85 ?_
            refine R_ps 5 (pc2 := 118) (L2 := [some (vr (some w)), some (vi (J x1)), some (vi (J x2)), some (vi (J x3)), some (vi (J x4)), some (vi (J x5)), some (vi (J x6)), some (vi (J ((x1 * 3) + x6))), none]) (st2 := [vi ((J x2) - (J x6)), vi ((J (ai h_32 a_82 ((x1 * 3) + x6))) + (J x3))]) rfl ?_
            rw [show ((J (ai h_32 a_82 ((x1 * 3) + x6))) + (J x3)) = J ((ai h_32 a_82 ((x1 * 3) + x6)) + x3) from J_add' rfl rfl]
            rw [show ((J x2) - (J x6)) = J (x2 - x6) from J_sub' rfl rfl]
            obtain ⟨t_87, k⟩ := k
            refine R_jdkz (st2 := [vi (if 0 ≤ (J (x2 - x6)) then (J (x2 - x6)) else 0 - (J (x2 - x6))), vi (J ((ai h_32 a_82 ((x1 * 3) + x6)) + x3))]) (st3 := [vi (J (if 0 ≤ (x2 - x6) then (x2 - x6) else 0 - (x2 - x6))), vi (J ((ai h_32 a_82 ((x1 * 3) + x6)) + x3))]) rfl rfl rfl rfl rfl rfl rfl rfl (congrArg (fun q => vi q :: [vi (J ((ai h_32 a_82 ((x1 * 3) + x6)) + x3))]) (J_abs' t_87)) ?_
            refine R_ps 4 (pc2 := 128) (L2 := [some (vr (some w)), some (vi (J x1)), some (vi (J x2)), some (vi (J x3)), some (vi (J x4)), some (vi (J x5)), some (vi (J x6)), some (vi (J ((x1 * 3) + x6))), some (vi ((J ((ai h_32 a_82 ((x1 * 3) + x6)) + x3)) + (J (if 0 ≤ (x2 - x6) then (x2 - x6) else 0 - (x2 - x6)))))]) (st2 := [vi (J x5), vi ((J ((ai h_32 a_82 ((x1 * 3) + x6)) + x3)) + (J (if 0 ≤ (x2 - x6) then (x2 - x6) else 0 - (x2 - x6))))]) rfl ?_
            rw [show ((J ((ai h_32 a_82 ((x1 * 3) + x6)) + x3)) + (J (if 0 ≤ (x2 - x6) then (x2 - x6) else 0 - (x2 - x6)))) = J (((ai h_32 a_82 ((x1 * 3) + x6)) + x3) + (if 0 ≤ (x2 - x6) then (x2 - x6) else 0 - (x2 - x6))) from J_add' rfl rfl]
            obtain ⟨t_89, k⟩ := k
            refine R_zif (x := ((ai h_32 a_82 ((x1 * 3) + x6)) + x3) + (if 0 ≤ (x2 - x6) then (x2 - x6) else 0 - (x2 - x6))) (z := x5) rfl t_89 r5 (fun c_88 => ?_) (fun c_88 => ?_)
            · have k := k.2 c_88
              refine R_ps 2 (pc2 := 51) (L2 := [some (vr (some w)), some (vi (J x1)), some (vi (J x2)), some (vi (J x3)), some (vi (J x4)), some (vi (J x5)), some (vi ((J x6) + J 1)), some (vi (J ((x1 * 3) + x6))), some (vi (J (((ai h_32 a_82 ((x1 * 3) + x6)) + x3) + (if 0 ≤ (x2 - x6) then (x2 - x6) else 0 - (x2 - x6)))))]) (st2 := []) rfl ?_
              rw [show ((J x6) + J 1) = J (x6 + 1) from J_add' rfl rfl]
              exact R_drop k (LE_of (L := [some (vr (some w)), some (vi (J x1)), some (vi (J x2)), some (vi (J x3)), some (vi (J x4)), some (vi (J x5)), some (vi (J (x6 + 1))), none, none]) (L2 := [some (vr (some w)), some (vi (J x1)), some (vi (J x2)), some (vi (J x3)), some (vi (J x4)), some (vi (J x5)), some (vi (J (x6 + 1))), some (vi (J ((x1 * 3) + x6))), some (vi (J (((ai h_32 a_82 ((x1 * 3) + x6)) + x3) + (if 0 ≤ (x2 - x6) then (x2 - x6) else 0 - (x2 - x6)))))]) ⟨rfl, rfl, rfl, rfl, rfl, rfl, rfl, trivial⟩)
            · have k := k.1 (Classical.not_not.mp c_88)
              refine R_ps 1 (pc2 := 132) (L2 := [some (vr (some w)), some (vi (J x1)), some (vi (J x2)), some (vi (J x3)), some (vi (J x4)), some (vi (J x5)), some (vi (J x6)), some (vi (J ((x1 * 3) + x6))), some (vi (J (((ai h_32 a_82 ((x1 * 3) + x6)) + x3) + (if 0 ≤ (x2 - x6) then (x2 - x6) else 0 - (x2 - x6)))))]) (st2 := [vr (some w)]) rfl ?_
              refine R_getR rfl t0 ?_
              refine R_ps 1 (pc2 := 137) (L2 := [some (vr (some w)), some (vi (J x1)), some (vi (J x2)), some (vi (J x3)), some (vi (J x4)), some (vi (J x5)), some (vi (J x6)), some (vi (J ((x1 * 3) + x6))), some (vi (J (((ai h_32 a_82 ((x1 * 3) + x6)) + x3) + (if 0 ≤ (x2 - x6) then (x2 - x6) else 0 - (x2 - x6)))))]) (st2 := [vi (J ((x1 * 3) + x6)), vr (gr h_32 w 8)]) rfl ?_
              obtain ⟨a_92, e_93, k⟩ := k
              rw [e_93]
              obtain ⟨t_94, k⟩ := k
              obtain ⟨t_95, k⟩ := k
              refine R_ziald (i := (x1 * 3) + x6) rfl (Or.inl t_94) t_95 ?_
              refine R_ps 5 (pc2 := 51) (L2 := [some (vr (some w)), some (vi (J x1)), some (vi (J x2)), some (vi (J x3)), some (vi (J (ai h_32 a_92 ((x1 * 3) + x6)))), some (vi (J (((ai h_32 a_82 ((x1 * 3) + x6)) + x3) + (if 0 ≤ (x2 - x6) then (x2 - x6) else 0 - (x2 - x6))))), some (vi ((J x6) + J 1)), some (vi (J ((x1 * 3) + x6))), some (vi (J (((ai h_32 a_82 ((x1 * 3) + x6)) + x3) + (if 0 ≤ (x2 - x6) then (x2 - x6) else 0 - (x2 - x6)))))]) (st2 := []) rfl ?_
              rw [show ((J x6) + J 1) = J (x6 + 1) from J_add' rfl rfl]
              exact R_drop k (LE_of (L := [some (vr (some w)), some (vi (J x1)), some (vi (J x2)), some (vi (J x3)), some (vi (J (ai h_32 a_92 ((x1 * 3) + x6)))), some (vi (J (((ai h_32 a_82 ((x1 * 3) + x6)) + x3) + (if 0 ≤ (x2 - x6) then (x2 - x6) else 0 - (x2 - x6))))), some (vi (J (x6 + 1))), none, none]) (L2 := [some (vr (some w)), some (vi (J x1)), some (vi (J x2)), some (vi (J x3)), some (vi (J (ai h_32 a_92 ((x1 * 3) + x6)))), some (vi (J (((ai h_32 a_82 ((x1 * 3) + x6)) + x3) + (if 0 ≤ (x2 - x6) then (x2 - x6) else 0 - (x2 - x6))))), some (vi (J (x6 + 1))), some (vi (J ((x1 * 3) + x6))), some (vi (J (((ai h_32 a_82 ((x1 * 3) + x6)) + x3) + (if 0 ≤ (x2 - x6) then (x2 - x6) else 0 - (x2 - x6)))))]) ⟨rfl, rfl, rfl, rfl, rfl, rfl, rfl, trivial⟩)
          · have k := k.1 (Classical.not_not.mp c_79)
            refine R_ps 3 (pc2 := 51) (L2 := [some (vr (some w)), some (vi (J x1)), some (vi (J x2)), some (vi (J x3)), some (vi (J x4)), some (vi (J x5)), some (vi ((J x6) + J 1)), some (vi (J ((x1 * 3) + x6))), none]) (st2 := []) rfl ?_
            rw [show ((J x6) + J 1) = J (x6 + 1) from J_add' rfl rfl]
            exact R_drop k (LE_of (L := [some (vr (some w)), some (vi (J x1)), some (vi (J x2)), some (vi (J x3)), some (vi (J x4)), some (vi (J x5)), some (vi (J (x6 + 1))), none, none]) (L2 := [some (vr (some w)), some (vi (J x1)), some (vi (J x2)), some (vi (J x3)), some (vi (J x4)), some (vi (J x5)), some (vi (J (x6 + 1))), some (vi (J ((x1 * 3) + x6))), none]) ⟨rfl, rfl, rfl, rfl, rfl, rfl, rfl, trivial⟩)
/-- DroneCorridors$Search.startLegs -/
theorem z72 {T N : Nat → Nat} {h : PH} {w : Nat} {a1 : Nat} {x2 : Int} {K : PH → Prop} (r2 : In x2) (k : (WV T N 72 2 [some (vr (some w)), some (vr (some a1)), some (vi (J x2)), some (vi (J 0)), none, none, none, none, none, none, none] [] h K)) : CV T N 72 [vr (some w), vr (some a1), vi (J x2)] h K := by
  show WP T N 72 0 [some (vr (some w)), some (vr (some a1)), some (vi (J x2)), none, none, none, none, none, none, none, none] [] h _
  refine R_ps 2 (pc2 := 2) (L2 := [some (vr (some w)), some (vr (some a1)), some (vi (J x2)), some (vi (J 0)), none, none, none, none, none, none, none]) (st2 := []) rfl ?_
  exact k
theorem z72_2 {T N : Nat → Nat} {h : PH} {w : Nat} {a1 : Nat} {x2 : Int} {x3 : Int} {K : PH → Prop} (t0 : T a1 = 10) (r2 : In x2) (r3 : In x3) (k : (((x3 < (ai h a1 3) → (CR T N 89 [vr (some a1), vi (J x3)] h (fun x_6 h_5 => (∃ a_7, x_6 = some a_7 ∧ WV T N 72 20 [some (vr (some w)), some (vr (some a1)), some (vi (J x2)), some (vi (J x3)), some (vr (some a_7)), some (vi (J 0)), none, none, none, none, none] [] h_5 K)))) ∧ (¬ (x3 < (ai h a1 3)) → (K h))))) : WV T N 72 2 [some (vr (some w)), some (vr (some a1)), some (vi (J x2)), some (vi (J x3)), none, none, none, none, none, none, none] [] h K := by
  show WP T N 72 2 [some (vr (some w)), some (vr (some a1)), some (vi (J x2)), some (vi (J x3)), none, none, none, none, none, none, none] [] h _
  refine R_ps 2 (pc2 := 4) (L2 := [some (vr (some w)), some (vr (some a1)), some (vi (J x2)), some (vi (J x3)), none, none, none, none, none, none, none]) (st2 := [vr (some a1), vi (J x3)]) rfl ?_
  refine R_zgetI (z := 3) rfl t0 rfl ?_
  refine R_zif (x := x3) (z := ai h a1 3) rfl r3 (ai_in _ _ _) (fun c_2 => ?_) (fun c_2 => ?_)
  · have k := k.2 c_2
    exact R_ret rfl rfl ⟨rfl, k⟩
  · have k := k.1 (Classical.not_not.mp c_2)
    refine R_ps 2 (pc2 := 12) (L2 := [some (vr (some w)), some (vr (some a1)), some (vi (J x2)), some (vi (J x3)), none, none, none, none, none, none, none]) (st2 := [vi (J x3), vr (some a1)]) rfl ?_
    refine R_cR (as := [vr (some a1), vi (J x3)]) rfl rfl ⟨Nat.le_of_ble_eq_true rfl, Nat.le_of_ble_eq_true rfl, rfl, (Or.inr ⟨_, rfl, t0⟩)⟩ rfl rfl k (fun x_6 h_5 k => ?_)
    refine R_ps 3 (pc2 := 20) (L2 := [some (vr (some w)), some (vr (some a1)), some (vi (J x2)), some (vi (J x3)), some (vr x_6), some (vi (J 0)), none, none, none, none, none]) (st2 := []) rfl ?_
    obtain ⟨a_7, e_8, k⟩ := k
    rw [e_8]
    exact k
theorem z72_20 {T N : Nat → Nat} {h : PH} {w : Nat} {a1 : Nat} {x2 : Int} {x3 : Int} {a4 : Nat} {x5 : Int} {K : PH → Prop} (t0 : T w = 8) (t1 : T a4 = 2) (r2 : In x2) (r3 : In x3) (r5 : In x5) (k : (((x5 < 2 → (ZI T N 12 [vr (some a4), vi (J x5)] h (fun x_7 h_6 => (∃ a_10, (gr h w 4) = some a_10 ∧ T a_10 = 9 ∧ ZI T N 78 [vr (some a_10), vi (J x_7)] h_6 (fun x_14 h_13 => (ZI T N 10 [vr (some a4), vi (J x5)] h_13 (fun x_18 h_17 => (WV T N 72 63 [some (vr (some w)), some (vr (some a1)), some (vi (J x2)), some (vi (J x3)), some (vr (some a4)), some (vi (J x5)), some (vi (J (((ai h w 16) - x_14) - x_18))), some (vi (J 0)), none, none, none] [] h_17 K)))))))) ∧ (¬ (x5 < 2) → (WV T N 72 2 [some (vr (some w)), some (vr (some a1)), some (vi (J x2)), some (vi (J (x3 + 1))), none, none, none, none, none, none, none] [] h K))))) : WV T N 72 20 [some (vr (some w)), some (vr (some a1)), some (vi (J x2)), some (vi (J x3)), some (vr (some a4)), some (vi (J x5)), none, none, none, none, none] [] h K := by
  show WP T N 72 20 [some (vr (some w)), some (vr (some a1)), some (vi (J x2)), some (vi (J x3)), some (vr (some a4)), some (vi (J x5)), none, none, none, none, none] [] h _
  refine R_ps 1 (pc2 := 22) (L2 := [some (vr (some w)), some (vr (some a1)), some (vi (J x2)), some (vi (J x3)), some (vr (some a4)), some (vi (J x5)), none, none, none, none, none]) (st2 := [vr (some a4)]) rfl ?_
  refine R_null rfl (fun c_1 => nomatch c_1) (fun _ _ => ?_)
  refine R_ps 2 (pc2 := 28) (L2 := [some (vr (some w)), some (vr (some a1)), some (vi (J x2)), some (vi (J x3)), some (vr (some a4)), some (vi (J x5)), none, none, none, none, none]) (st2 := [vi (J 2), vi (J x5)]) rfl ?_
  refine R_zif (x := x5) (z := 2) rfl r5 (by decide) (fun c_2 => ?_) (fun c_2 => ?_)
  · have k := k.2 c_2
    refine R_ps 2 (pc2 := 2) (L2 := [some (vr (some w)), some (vr (some a1)), some (vi (J x2)), some (vi ((J x3) + J 1)), some (vr (some a4)), some (vi (J x5)), none, none, none, none, none]) (st2 := []) rfl ?_
    rw [show ((J x3) + J 1) = J (x3 + 1) from J_add' rfl rfl]
    exact R_drop k (LE_of (L := [some (vr (some w)), some (vr (some a1)), some (vi (J x2)), some (vi (J (x3 + 1))), none, none, none, none, none, none, none]) (L2 := [some (vr (some w)), some (vr (some a1)), some (vi (J x2)), some (vi (J (x3 + 1))), some (vr (some a4)), some (vi (J x5)), none, none, none, none, none]) ⟨rfl, rfl, rfl, rfl, trivial⟩)
  · have k := k.1 (Classical.not_not.mp c_2)
    refine R_ps 1 (pc2 := 32) (L2 := [some (vr (some w)), some (vr (some a1)), some (vi (J x2)), some (vi (J x3)), some (vr (some a4)), some (vi (J x5)), none, none, none, none, none]) (st2 := [vr (some w)]) rfl ?_
    refine R_zgetI (z := 16) rfl t0 rfl ?_
    refine R_ps 1 (pc2 := 36) (L2 := [some (vr (some w)), some (vr (some a1)), some (vi (J x2)), some (vi (J x3)), some (vr (some a4)), some (vi (J x5)), none, none, none, none, none]) (st2 := [vr (some w), vi (J (ai h w 16))]) rfl ?_
    refine R_getR rfl t0 ?_
    refine R_ps 2 (pc2 := 43) (L2 := [some (vr (some w)), some (vr (some a1)), some (vi (J x2)), some (vi (J x3)), some (vr (some a4)), some (vi (J x5)), none, none, none, none, none]) (st2 := [vi (J x5), vr (some a4), vr (gr h w 4), vi (J (ai h w 16))]) rfl ?_
    refine R_zcI (as := [vr (some a4), vi (J x5)]) rfl rfl ⟨Nat.le_of_ble_eq_true rfl, Nat.le_of_ble_eq_true rfl, rfl, (Or.inr ⟨_, rfl, t1⟩)⟩ rfl rfl k (fun x_7 h_6 r_8 k => ?_)
    obtain ⟨a_10, e_11, k⟩ := k
    rw [e_11]
    obtain ⟨t_12, k⟩ := k
    refine R_zcI (as := [vr (some a_10), vi (J x_7)]) rfl rfl ⟨Nat.le_of_ble_eq_true rfl, Nat.le_of_ble_eq_true rfl, rfl, (Or.inr ⟨_, rfl, t_12⟩)⟩ rfl rfl k (fun x_14 h_13 r_15 k => ?_)
    refine R_ps 3 (pc2 := 54) (L2 := [some (vr (some w)), some (vr (some a1)), some (vi (J x2)), some (vi (J x3)), some (vr (some a4)), some (vi (J x5)), none, none, none, none, none]) (st2 := [vi (J x5), vr (some a4), vi ((J (ai h w 16)) - (J x_14))]) rfl ?_
    rw [show ((J (ai h w 16)) - (J x_14)) = J ((ai h w 16) - x_14) from J_sub' rfl rfl]
    refine R_zcI (as := [vr (some a4), vi (J x5)]) rfl rfl ⟨Nat.le_of_ble_eq_true rfl, Nat.le_of_ble_eq_true rfl, rfl, (Or.inr ⟨_, rfl, t1⟩)⟩ rfl rfl k (fun x_18 h_17 r_19 k => ?_)
    refine R_ps 4 (pc2 := 63) (L2 := [some (vr (some w)), some (vr (some a1)), some (vi (J x2)), some (vi (J x3)), some (vr (some a4)), some (vi (J x5)), some (vi ((J ((ai h w 16) - x_14)) - (J x_18))), some (vi (J 0)), none, none, none]) (st2 := []) rfl ?_
    rw [show ((J ((ai h w 16) - x_14)) - (J x_18)) = J (((ai h w 16) - x_14) - x_18) from J_sub' rfl rfl]
    exact k
theorem z72_63 {T N : Nat → Nat} {h : PH} {w : Nat} {a1 : Nat} {x2 : Int} {x3 : Int} {a4 : Nat} {x5 : Int} {x6 : Int} {x7 : Int} {K : PH → Prop} (t0 : T a4 = 2) (t1 : T w = 8) (r2 : In x2) (r3 : In x3) (r5 : In x5) (r6 : In x6) (r7 : In x7) (k : (((x7 < 3 → (ZI T N 8 [vi (J x3), vi (J x5), vi (J x7)] h (fun x_4 h_3 => (ZI T N 11 [vr (some a4), vi (J x5)] h_3 (fun x_8 h_7 => (∃ a_12, (gr h_7 w 5) = some a_12 ∧ T a_12 = 1 ∧ ZI T N 1 [vr (some a_12), vi (J x_4), vi (J x2)] h_7 (fun x_16 h_15 => (((x_16 = 0 → (ZI T N 10 [vr (some a4), vi (J x5)] h_15 (fun x_29 h_28 => (CV T N 73 [vr (some w), vi (J ((x2 * 96) + x_4)), vi (J ((x_8 * 3) + x7)), vi (J x_29), vi (J x6)] h_28 (fun h_33 => (WV T N 72 63 [some (vr (some w)), some (vr (some a1)), some (vi (J x2)), some (vi (J x3)), some (vr (some a4)), some (vi (J x5)), some (vi (J x6)), some (vi (J (x7 + 1))), none, none, none] [] h_33 K)))))) ∧ (¬ (x_16 = 0) → (ZI T N 10 [vr (some a4), vi (J x5)] h_15 (fun x_21 h_20 => (CV T N 73 [vr (some w), vi (J ((x2 * 96) + x_4)), vi (J ((x_8 * 3) + x7)), vi (J x_21), vi (J (-1))] h_20 (fun h_25 => (WV T N 72 63 [some (vr (some w)), some (vr (some a1)), some (vi (J x2)), some (vi (J x3)), some (vr (some a4)), some (vi (J x5)), some (vi (J x6)), some (vi (J (x7 + 1))), none, none, none] [] h_25 K))))))))))))))) ∧ (¬ (x7 < 3) → (WV T N 72 20 [some (vr (some w)), some (vr (some a1)), some (vi (J x2)), some (vi (J x3)), some (vr (some a4)), some (vi (J (x5 + 1))), none, none, none, none, none] [] h K))))) : WV T N 72 63 [some (vr (some w)), some (vr (some a1)), some (vi (J x2)), some (vi (J x3)), some (vr (some a4)), some (vi (J x5)), some (vi (J x6)), some (vi (J x7)), none, none, none] [] h K := by
  show WP T N 72 63 [some (vr (some w)), some (vr (some a1)), some (vi (J x2)), some (vi (J x3)), some (vr (some a4)), some (vi (J x5)), some (vi (J x6)), some (vi (J x7)), none, none, none] [] h _
  refine R_ps 2 (pc2 := 66) (L2 := [some (vr (some w)), some (vr (some a1)), some (vi (J x2)), some (vi (J x3)), some (vr (some a4)), some (vi (J x5)), some (vi (J x6)), some (vi (J x7)), none, none, none]) (st2 := [vi (J 3), vi (J x7)]) rfl ?_
  refine R_zif (x := x7) (z := 3) rfl r7 (by decide) (fun c_1 => ?_) (fun c_1 => ?_)
  · have k := k.2 c_1
    refine R_ps 2 (pc2 := 20) (L2 := [some (vr (some w)), some (vr (some a1)), some (vi (J x2)), some (vi (J x3)), some (vr (some a4)), some (vi ((J x5) + J 1)), some (vi (J x6)), some (vi (J x7)), none, none, none]) (st2 := []) rfl ?_
    rw [show ((J x5) + J 1) = J (x5 + 1) from J_add' rfl rfl]
    exact R_drop k (LE_of (L := [some (vr (some w)), some (vr (some a1)), some (vi (J x2)), some (vi (J x3)), some (vr (some a4)), some (vi (J (x5 + 1))), none, none, none, none, none]) (L2 := [some (vr (some w)), some (vr (some a1)), some (vi (J x2)), some (vi (J x3)), some (vr (some a4)), some (vi (J (x5 + 1))), some (vi (J x6)), some (vi (J x7)), none, none, none]) ⟨rfl, rfl, rfl, rfl, rfl, rfl, trivial⟩)
  · have k := k.1 (Classical.not_not.mp c_1)
    refine R_ps 3 (pc2 := 74) (L2 := [some (vr (some w)), some (vr (some a1)), some (vi (J x2)), some (vi (J x3)), some (vr (some a4)), some (vi (J x5)), some (vi (J x6)), some (vi (J x7)), none, none, none]) (st2 := [vi (J x7), vi (J x5), vi (J x3)]) rfl ?_
    refine R_zcI (as := [vi (J x3), vi (J x5), vi (J x7)]) rfl rfl ⟨Nat.le_of_ble_eq_true rfl, Nat.le_of_ble_eq_true rfl, rfl, (Or.inl rfl)⟩ rfl rfl k (fun x_4 h_3 r_5 k => ?_)
    refine R_ps 3 (pc2 := 83) (L2 := [some (vr (some w)), some (vr (some a1)), some (vi (J x2)), some (vi (J x3)), some (vr (some a4)), some (vi (J x5)), some (vi (J x6)), some (vi (J x7)), some (vi (J x_4)), none, none]) (st2 := [vi (J x5), vr (some a4)]) rfl ?_
    refine R_zcI (as := [vr (some a4), vi (J x5)]) rfl rfl ⟨Nat.le_of_ble_eq_true rfl, Nat.le_of_ble_eq_true rfl, rfl, (Or.inr ⟨_, rfl, t0⟩)⟩ rfl rfl k (fun x_8 h_7 r_9 k => ?_)
    refine R_ps 6 (pc2 := 94) (L2 := [some (vr (some w)), some (vr (some a1)), some (vi (J x2)), some (vi (J x3)), some (vr (some a4)), some (vi (J x5)), some (vi (J x6)), some (vi (J x7)), some (vi (J x_4)), some (vi (((J x_8) * (J 3)) + (J x7))), none]) (st2 := [vr (some w)]) rfl ?_
    rw [show (((J x_8) * (J 3)) + (J x7)) = J ((x_8 * 3) + x7) from J_add' (J_mul' rfl rfl) rfl]
    refine R_getR rfl t1 ?_
    refine R_ps 2 (pc2 := 100) (L2 := [some (vr (some w)), some (vr (some a1)), some (vi (J x2)), some (vi (J x3)), some (vr (some a4)), some (vi (J x5)), some (vi (J x6)), some (vi (J x7)), some (vi (J x_4)), some (vi (J ((x_8 * 3) + x7))), none]) (st2 := [vi (J x2), vi (J x_4), vr (gr h_7 w 5)]) rfl ?_
    obtain ⟨a_12, e_13, k⟩ := k
    rw [e_13]
    obtain ⟨t_14, k⟩ := k
    refine R_zcI (as := [vr (some a_12), vi (J x_4), vi (J x2)]) rfl rfl ⟨Nat.le_of_ble_eq_true rfl, Nat.le_of_ble_eq_true rfl, rfl, (Or.inr ⟨_, rfl, t_14⟩)⟩ rfl rfl k (fun x_16 h_15 r_17 k => ?_)
    refine R_zif0 (x := x_16) rfl r_17 (fun c_18 => ?_) (fun c_18 => ?_)
    · have k := k.2 c_18
      refine R_ps 11 (pc2 := 127) (L2 := [some (vr (some w)), some (vr (some a1)), some (vi (J x2)), some (vi (J x3)), some (vr (some a4)), some (vi (J x5)), some (vi (J x6)), some (vi (J x7)), some (vi (J x_4)), some (vi (J ((x_8 * 3) + x7))), some (vi (J 0))]) (st2 := [vi (J x5), vr (some a4), vi (J ((x_8 * 3) + x7)), vi (((J x2) * (J 96)) + (J x_4)), vr (some w)]) rfl ?_
      rw [show (((J x2) * (J 96)) + (J x_4)) = J ((x2 * 96) + x_4) from J_add' (J_mul' rfl rfl) rfl]
      refine R_zcI (as := [vr (some a4), vi (J x5)]) rfl rfl ⟨Nat.le_of_ble_eq_true rfl, Nat.le_of_ble_eq_true rfl, rfl, (Or.inr ⟨_, rfl, t0⟩)⟩ rfl rfl k (fun x_21 h_20 r_22 k => ?_)
      refine R_ps 1 (pc2 := 132) (L2 := [some (vr (some w)), some (vr (some a1)), some (vi (J x2)), some (vi (J x3)), some (vr (some a4)), some (vi (J x5)), some (vi (J x6)), some (vi (J x7)), some (vi (J x_4)), some (vi (J ((x_8 * 3) + x7))), some (vi (J 0))]) (st2 := [vi (J 0), vi (J x_21), vi (J ((x_8 * 3) + x7)), vi (J ((x2 * 96) + x_4)), vr (some w)]) rfl ?_
      refine R_zif0 (x := 0) rfl (by decide) (fun _ => ?_) (fun c_23 => absurd (show (0 : Int) = (0 : Int) by decide) c_23)
      refine R_ps 1 (pc2 := 141) (L2 := [some (vr (some w)), some (vr (some a1)), some (vi (J x2)), some (vi (J x3)), some (vr (some a4)), some (vi (J x5)), some (vi (J x6)), some (vi (J x7)), some (vi (J x_4)), some (vi (J ((x_8 * 3) + x7))), some (vi (J 0))]) (st2 := [vi (J (-1)), vi (J x_21), vi (J ((x_8 * 3) + x7)), vi (J ((x2 * 96) + x_4)), vr (some w)]) rfl ?_
      refine R_cV (as := [vr (some w), vi (J ((x2 * 96) + x_4)), vi (J ((x_8 * 3) + x7)), vi (J x_21), vi (J (-1))]) rfl rfl ⟨Nat.le_of_ble_eq_true rfl, Nat.le_of_ble_eq_true rfl, rfl, (Or.inr ⟨_, rfl, t1⟩)⟩ rfl rfl k (fun h_25 k => ?_)
      refine R_ps 2 (pc2 := 63) (L2 := [some (vr (some w)), some (vr (some a1)), some (vi (J x2)), some (vi (J x3)), some (vr (some a4)), some (vi (J x5)), some (vi (J x6)), some (vi ((J x7) + J 1)), some (vi (J x_4)), some (vi (J ((x_8 * 3) + x7))), some (vi (J 0))]) (st2 := []) rfl ?_
      rw [show ((J x7) + J 1) = J (x7 + 1) from J_add' rfl rfl]
      exact R_drop k (LE_of (L := [some (vr (some w)), some (vr (some a1)), some (vi (J x2)), some (vi (J x3)), some (vr (some a4)), some (vi (J x5)), some (vi (J x6)), some (vi (J (x7 + 1))), none, none, none]) (L2 := [some (vr (some w)), some (vr (some a1)), some (vi (J x2)), some (vi (J x3)), some (vr (some a4)), some (vi (J x5)), some (vi (J x6)), some (vi (J (x7 + 1))), some (vi (J x_4)), some (vi (J ((x_8 * 3) + x7))), some (vi (J 0))]) ⟨rfl, rfl, rfl, rfl, rfl, rfl, rfl, rfl, trivial⟩)
    · have k := k.1 (Classical.not_not.mp c_18)
      refine R_ps 12 (pc2 := 127) (L2 := [some (vr (some w)), some (vr (some a1)), some (vi (J x2)), some (vi (J x3)), some (vr (some a4)), some (vi (J x5)), some (vi (J x6)), some (vi (J x7)), some (vi (J x_4)), some (vi (J ((x_8 * 3) + x7))), some (vi (J 1))]) (st2 := [vi (J x5), vr (some a4), vi (J ((x_8 * 3) + x7)), vi (((J x2) * (J 96)) + (J x_4)), vr (some w)]) rfl ?_
      rw [show (((J x2) * (J 96)) + (J x_4)) = J ((x2 * 96) + x_4) from J_add' (J_mul' rfl rfl) rfl]
      refine R_zcI (as := [vr (some a4), vi (J x5)]) rfl rfl ⟨Nat.le_of_ble_eq_true rfl, Nat.le_of_ble_eq_true rfl, rfl, (Or.inr ⟨_, rfl, t0⟩)⟩ rfl rfl k (fun x_29 h_28 r_30 k => ?_)
      refine R_ps 1 (pc2 := 132) (L2 := [some (vr (some w)), some (vr (some a1)), some (vi (J x2)), some (vi (J x3)), some (vr (some a4)), some (vi (J x5)), some (vi (J x6)), some (vi (J x7)), some (vi (J x_4)), some (vi (J ((x_8 * 3) + x7))), some (vi (J 1))]) (st2 := [vi (J 1), vi (J x_29), vi (J ((x_8 * 3) + x7)), vi (J ((x2 * 96) + x_4)), vr (some w)]) rfl ?_
      refine R_zif0 (x := 1) rfl (by decide) (fun c_31 => absurd (show (1 : Int) = (0 : Int) from c_31) (by decide)) (fun _ => ?_)
      refine R_ps 2 (pc2 := 141) (L2 := [some (vr (some w)), some (vr (some a1)), some (vi (J x2)), some (vi (J x3)), some (vr (some a4)), some (vi (J x5)), some (vi (J x6)), some (vi (J x7)), some (vi (J x_4)), some (vi (J ((x_8 * 3) + x7))), some (vi (J 1))]) (st2 := [vi (J x6), vi (J x_29), vi (J ((x_8 * 3) + x7)), vi (J ((x2 * 96) + x_4)), vr (some w)]) rfl ?_
      refine R_cV (as := [vr (some w), vi (J ((x2 * 96) + x_4)), vi (J ((x_8 * 3) + x7)), vi (J x_29), vi (J x6)]) rfl rfl ⟨Nat.le_of_ble_eq_true rfl, Nat.le_of_ble_eq_true rfl, rfl, (Or.inr ⟨_, rfl, t1⟩)⟩ rfl rfl k (fun h_33 k => ?_)
      refine R_ps 2 (pc2 := 63) (L2 := [some (vr (some w)), some (vr (some a1)), some (vi (J x2)), some (vi (J x3)), some (vr (some a4)), some (vi (J x5)), some (vi (J x6)), some (vi ((J x7) + J 1)), some (vi (J x_4)), some (vi (J ((x_8 * 3) + x7))), some (vi (J 1))]) (st2 := []) rfl ?_
      rw [show ((J x7) + J 1) = J (x7 + 1) from J_add' rfl rfl]
      exact R_drop k (LE_of (L := [some (vr (some w)), some (vr (some a1)), some (vi (J x2)), some (vi (J x3)), some (vr (some a4)), some (vi (J x5)), some (vi (J x6)), some (vi (J (x7 + 1))), none, none, none]) (L2 := [some (vr (some w)), some (vr (some a1)), some (vi (J x2)), some (vi (J x3)), some (vr (some a4)), some (vi (J x5)), some (vi (J x6)), some (vi (J (x7 + 1))), some (vi (J x_4)), some (vi (J ((x_8 * 3) + x7))), some (vi (J 1))]) ⟨rfl, rfl, rfl, rfl, rfl, rfl, rfl, rfl, trivial⟩)
/-- DroneCorridors$Search.startLeg -/
theorem z73 {T N : Nat → Nat} {h : PH} {w : Nat} {x1 : Int} {x2 : Int} {x3 : Int} {x4 : Int} {K : PH → Prop} (t0 : T w = 8) (r1 : In x1) (r2 : In x2) (r3 : In x3) (r4 : In x4) (k : (((x1 < 0 → (K h)) ∧ (¬ (x1 < 0) → (∃ a_5, (gr h w 6) = some a_5 ∧ 21 ≤ T a_5 ∧ In (N a_5 : Int) ∧ ((x1 < (N a_5 : Int) → (((x2 < 0 → (K h)) ∧ (¬ (x2 < 0) → (∃ a_15, (gr h w 10) = some a_15 ∧ 21 ≤ T a_15 ∧ In (N a_15 : Int) ∧ ((x2 < (N a_15 : Int) → (∃ a_22, (gr h w 10) = some a_22 ∧ T a_22 = 22 ∧ (0 ≤ x2 ∧ x2 < (N a_22 : Int) ∧ x2 < 2147483648) ∧ (((ai h a_22 x2) = (-2) → (∃ a_29, (gr h w 6) = some a_29 ∧ T a_29 = 22 ∧ (0 ≤ x1 ∧ x1 < (N a_29 : Int) ∧ x1 < 2147483648) ∧ ∀ h_31, h_31 = wi h a_29 x1 (-1) → K h_31)) ∧ (¬ ((ai h a_22 x2) = (-2)) → (∃ a_38, (gr h w 11) = some a_38 ∧ T a_38 = 22 ∧ (0 ≤ x2 ∧ x2 < (N a_38 : Int) ∧ x2 < 2147483648) ∧ ((x4 < (ai h a_38 x2) → (∃ a_74, (gr h w 6) = some a_74 ∧ T a_74 = 22 ∧ (0 ≤ x1 ∧ x1 < (N a_74 : Int) ∧ x1 < 2147483648) ∧ ∀ h_76, h_76 = wi h a_74 x1 (-1) → K h_76)) ∧ (¬ (x4 < (ai h a_38 x2)) → (∃ a_46, (gr h w 11) = some a_46 ∧ T a_46 = 22 ∧ (0 ≤ x2 ∧ x2 < (N a_46 : Int) ∧ x2 < 2147483648) ∧ ∃ a_51, (gr h w 6) = some a_51 ∧ T a_51 = 22 ∧ (0 ≤ x1 ∧ x1 < (N a_51 : Int) ∧ x1 < 2147483648) ∧ ∀ h_53, h_53 = wi h a_51 x1 ((ai h a_46 x2) + x3) → ∃ a_60, (gr h_53 w 10) = some a_60 ∧ T a_60 = 22 ∧ (0 ≤ x2 ∧ x2 < (N a_60 : Int) ∧ x2 < 2147483648) ∧ ∃ a_65, (gr h_53 w 7) = some a_65 ∧ T a_65 = 22 ∧ (0 ≤ x1 ∧ x1 < (N a_65 : Int) ∧ x1 < 2147483648) ∧ ∀ h_67, h_67 = wi h_53 a_65 x1 (ai h_53 a_60 x2) → K h_67)))))))) ∧ (¬ (x2 < (N a_15 : Int)) → (K h)))))))) ∧ (¬ (x1 < (N a_5 : Int)) → (K h)))))))) : CV T N 73 [vr (some w), vi (J x1), vi (J x2), vi (J x3), vi (J x4)] h K := by
  show WP T N 73 0 [some (vr (some w)), some (vi (J x1)), some (vi (J x2)), some (vi (J x3)), some (vi (J x4))] [] h _
  refine R_ps 1 (pc2 := 1) (L2 := [some (vr (some w)), some (vi (J x1)), some (vi (J x2)), some (vi (J x3)), some (vi (J x4))]) (st2 := [vi (J x1)]) rfl ?_
  refine R_zif0 (x := x1) rfl r1 (fun c_1 => ?_) (fun c_1 => ?_)
  · have k := k.1 c_1
    exact R_ret rfl rfl ⟨rfl, k⟩
  · have k := k.2 c_1
    refine R_ps 2 (pc2 := 6) (L2 := [some (vr (some w)), some (vi (J x1)), some (vi (J x2)), some (vi (J x3)), some (vi (J x4))]) (st2 := [vr (some w), vi (J x1)]) rfl ?_
    refine R_getR rfl t0 ?_
    obtain ⟨a_5, e_6, k⟩ := k
    rw [e_6]
    obtain ⟨t_7, k⟩ := k
    refine R_zalen rfl t_7 ?_
    obtain ⟨t_9, k⟩ := k
    refine R_zif (x := x1) (z := (N a_5 : Int)) rfl r1 t_9 (fun c_8 => ?_) (fun c_8 => ?_)
    · have k := k.2 c_8
      exact R_ret rfl rfl ⟨rfl, k⟩
    · have k := k.1 (Classical.not_not.mp c_8)
      refine R_ps 1 (pc2 := 14) (L2 := [some (vr (some w)), some (vi (J x1)), some (vi (J x2)), some (vi (J x3)), some (vi (J x4))]) (st2 := [vi (J x2)]) rfl ?_
      refine R_zif0 (x := x2) rfl r2 (fun c_11 => ?_) (fun c_11 => ?_)
      · have k := k.1 c_11
        exact R_ret rfl rfl ⟨rfl, k⟩
      · have k := k.2 c_11
        refine R_ps 2 (pc2 := 19) (L2 := [some (vr (some w)), some (vi (J x1)), some (vi (J x2)), some (vi (J x3)), some (vi (J x4))]) (st2 := [vr (some w), vi (J x2)]) rfl ?_
        refine R_getR rfl t0 ?_
        obtain ⟨a_15, e_16, k⟩ := k
        rw [e_16]
        obtain ⟨t_17, k⟩ := k
        refine R_zalen rfl t_17 ?_
        obtain ⟨t_19, k⟩ := k
        refine R_zif (x := x2) (z := (N a_15 : Int)) rfl r2 t_19 (fun c_18 => ?_) (fun c_18 => ?_)
        · have k := k.1 c_18
          refine R_ps 1 (pc2 := 28) (L2 := [some (vr (some w)), some (vi (J x1)), some (vi (J x2)), some (vi (J x3)), some (vi (J x4))]) (st2 := [vr (some w)]) rfl ?_
          refine R_getR rfl t0 ?_
          refine R_ps 1 (pc2 := 32) (L2 := [some (vr (some w)), some (vi (J x1)), some (vi (J x2)), some (vi (J x3)), some (vi (J x4))]) (st2 := [vi (J x2), vr (gr h w 10)]) rfl ?_
          obtain ⟨a_22, e_23, k⟩ := k
          rw [e_23]
          obtain ⟨t_24, k⟩ := k
          obtain ⟨t_25, k⟩ := k
          refine R_ziald (i := x2) rfl (Or.inl t_24) t_25 ?_
          refine R_ps 1 (pc2 := 35) (L2 := [some (vr (some w)), some (vi (J x1)), some (vi (J x2)), some (vi (J x3)), some (vi (J x4))]) (st2 := [vi (J (-2)), vi (J (ai h a_22 x2))]) rfl ?_
          refine R_zif (x := ai h a_22 x2) (z := (-2)) rfl (ai_in _ _ _) (by decide) (fun c_26 => ?_) (fun c_26 => ?_)
          · have k := k.1 c_26
            refine R_ps 1 (pc2 := 50) (L2 := [some (vr (some w)), some (vi (J x1)), some (vi (J x2)), some (vi (J x3)), some (vi (J x4))]) (st2 := [vr (some w)]) rfl ?_
            refine R_getR rfl t0 ?_
            refine R_ps 2 (pc2 := 55) (L2 := [some (vr (some w)), some (vi (J x1)), some (vi (J x2)), some (vi (J x3)), some (vi (J x4))]) (st2 := [vi (J (-1)), vi (J x1), vr (gr h w 6)]) rfl ?_
            obtain ⟨a_29, e_30, k⟩ := k
            rw [e_30]
            obtain ⟨t_33, k⟩ := k
            obtain ⟨t_34, k⟩ := k
            refine R_ziast (i := x1) (x := (-1)) rfl t_33 t_34  ?_
            show WP T N _ _ _ _ (wi h a_29 x1 (-1)) _
            generalize e_32 : wi h a_29 x1 (-1) = h_31
            replace k := k h_31 e_32.symm
            exact R_ret rfl rfl ⟨rfl, k⟩
          · have k := k.2 c_26
            refine R_ps 1 (pc2 := 39) (L2 := [some (vr (some w)), some (vi (J x1)), some (vi (J x2)), some (vi (J x3)), some (vi (J x4))]) (st2 := [vr (some w)]) rfl ?_
            refine R_getR rfl t0 ?_
            refine R_ps 1 (pc2 := 43) (L2 := [some (vr (some w)), some (vi (J x1)), some (vi (J x2)), some (vi (J x3)), some (vi (J x4))]) (st2 := [vi (J x2), vr (gr h w 11)]) rfl ?_
            obtain ⟨a_38, e_39, k⟩ := k
            rw [e_39]
            obtain ⟨t_40, k⟩ := k
            obtain ⟨t_41, k⟩ := k
            refine R_ziald (i := x2) rfl (Or.inl t_40) t_41 ?_
            refine R_ps 1 (pc2 := 46) (L2 := [some (vr (some w)), some (vi (J x1)), some (vi (J x2)), some (vi (J x3)), some (vi (J x4))]) (st2 := [vi (J x4), vi (J (ai h a_38 x2))]) rfl ?_
            refine R_zif (x := ai h a_38 x2) (z := x4) rfl (ai_in _ _ _) r4 (fun c_42 => ?_) (fun c_42 => ?_)
            · have k := k.2 c_42
              refine R_ps 1 (pc2 := 58) (L2 := [some (vr (some w)), some (vi (J x1)), some (vi (J x2)), some (vi (J x3)), some (vi (J x4))]) (st2 := [vr (some w)]) rfl ?_
              refine R_getR rfl t0 ?_
              refine R_ps 2 (pc2 := 63) (L2 := [some (vr (some w)), some (vi (J x1)), some (vi (J x2)), some (vi (J x3)), some (vi (J x4))]) (st2 := [vr (some w), vi (J x1), vr (gr h w 6)]) rfl ?_
              refine R_getR rfl t0 ?_
              refine R_ps 1 (pc2 := 67) (L2 := [some (vr (some w)), some (vi (J x1)), some (vi (J x2)), some (vi (J x3)), some (vi (J x4))]) (st2 := [vi (J x2), vr (gr h w 11), vi (J x1), vr (gr h w 6)]) rfl ?_
              obtain ⟨a_46, e_47, k⟩ := k
              rw [e_47]
              obtain ⟨t_48, k⟩ := k
              obtain ⟨t_49, k⟩ := k
              refine R_ziald (i := x2) rfl (Or.inl t_48) t_49 ?_
              refine R_ps 2 (pc2 := 70) (L2 := [some (vr (some w)), some (vi (J x1)), some (vi (J x2)), some (vi (J x3)), some (vi (J x4))]) (st2 := [vi ((J (ai h a_46 x2)) + (J x3)), vi (J x1), vr (gr h w 6)]) rfl ?_
              rw [show ((J (ai h a_46 x2)) + (J x3)) = J ((ai h a_46 x2) + x3) from J_add' rfl rfl]
              obtain ⟨a_51, e_52, k⟩ := k
              rw [e_52]
              obtain ⟨t_55, k⟩ := k
              obtain ⟨t_56, k⟩ := k
              refine R_ziast (i := x1) (x := (ai h a_46 x2) + x3) rfl t_55 t_56  ?_
              show WP T N _ _ _ _ (wi h a_51 x1 ((ai h a_46 x2) + x3)) _
              generalize e_54 : wi h a_51 x1 ((ai h a_46 x2) + x3) = h_53
              replace k := k h_53 e_54.symm
              refine R_ps 1 (pc2 := 72) (L2 := [some (vr (some w)), some (vi (J x1)), some (vi (J x2)), some (vi (J x3)), some (vi (J x4))]) (st2 := [vr (some w)]) rfl ?_
              refine R_getR rfl t0 ?_
              refine R_ps 2 (pc2 := 77) (L2 := [some (vr (some w)), some (vi (J x1)), some (vi (J x2)), some (vi (J x3)), some (vi (J x4))]) (st2 := [vr (some w), vi (J x1), vr (gr h_53 w 7)]) rfl ?_
              refine R_getR rfl t0 ?_
              refine R_ps 1 (pc2 := 81) (L2 := [some (vr (some w)), some (vi (J x1)), some (vi (J x2)), some (vi (J x3)), some (vi (J x4))]) (st2 := [vi (J x2), vr (gr h_53 w 10), vi (J x1), vr (gr h_53 w 7)]) rfl ?_
              obtain ⟨a_60, e_61, k⟩ := k
              rw [e_61]
              obtain ⟨t_62, k⟩ := k
              obtain ⟨t_63, k⟩ := k
              refine R_ziald (i := x2) rfl (Or.inl t_62) t_63 ?_
              obtain ⟨a_65, e_66, k⟩ := k
              rw [e_66]
              obtain ⟨t_69, k⟩ := k
              obtain ⟨t_70, k⟩ := k
              refine R_ziast (i := x1) (x := ai h_53 a_60 x2) rfl t_69 t_70  ?_
              show WP T N _ _ _ _ (wi h_53 a_65 x1 (ai h_53 a_60 x2)) _
              generalize e_68 : wi h_53 a_65 x1 (ai h_53 a_60 x2) = h_67
              replace k := k h_67 e_68.symm
              exact R_ret rfl rfl ⟨rfl, k⟩
            · have k := k.1 (Classical.not_not.mp c_42)
              refine R_ps 1 (pc2 := 50) (L2 := [some (vr (some w)), some (vi (J x1)), some (vi (J x2)), some (vi (J x3)), some (vi (J x4))]) (st2 := [vr (some w)]) rfl ?_
              refine R_getR rfl t0 ?_
              refine R_ps 2 (pc2 := 55) (L2 := [some (vr (some w)), some (vi (J x1)), some (vi (J x2)), some (vi (J x3)), some (vi (J x4))]) (st2 := [vi (J (-1)), vi (J x1), vr (gr h w 6)]) rfl ?_
              obtain ⟨a_74, e_75, k⟩ := k
              rw [e_75]
              obtain ⟨t_78, k⟩ := k
              obtain ⟨t_79, k⟩ := k
              refine R_ziast (i := x1) (x := (-1)) rfl t_78 t_79  ?_
              show WP T N _ _ _ _ (wi h a_74 x1 (-1)) _
              generalize e_77 : wi h a_74 x1 (-1) = h_76
              replace k := k h_76 e_77.symm
              exact R_ret rfl rfl ⟨rfl, k⟩
        · have k := k.2 c_18
          exact R_ret rfl rfl ⟨rfl, k⟩
/-- DroneCorridors$Search.legBefore -/
theorem z74 {T N : Nat → Nat} {h : PH} {w : Nat} {x1 : Int} {K : Int → PH → Prop} (t0 : T w = 8) (r1 : In x1) (k : (((x1 < 0 → (K (-1) h)) ∧ (¬ (x1 < 0) → (∃ a_5, (gr h w 7) = some a_5 ∧ 21 ≤ T a_5 ∧ In (N a_5 : Int) ∧ ((x1 < (N a_5 : Int) → (∃ a_13, (gr h w 7) = some a_13 ∧ T a_13 = 22 ∧ (0 ≤ x1 ∧ x1 < (N a_13 : Int) ∧ x1 < 2147483648) ∧ K (ai h a_13 x1) h)) ∧ (¬ (x1 < (N a_5 : Int)) → (K (-1) h)))))))) : ZI T N 74 [vr (some w), vi (J x1)] h K := by
  show WP T N 74 0 [some (vr (some w)), some (vi (J x1))] [] h _
  refine R_ps 1 (pc2 := 1) (L2 := [some (vr (some w)), some (vi (J x1))]) (st2 := [vi (J x1)]) rfl ?_
  refine R_zif0 (x := x1) rfl r1 (fun c_1 => ?_) (fun c_1 => ?_)
  · have k := k.1 c_1
    refine R_ps 1 (pc2 := 23) (L2 := [some (vr (some w)), some (vi (J x1))]) (st2 := [vi (J (-1))]) rfl ?_
    exact R_iret rfl rfl (R_zr (x := (-1)) (K := K) (by decide) k)
  · have k := k.2 c_1
    refine R_ps 2 (pc2 := 6) (L2 := [some (vr (some w)), some (vi (J x1))]) (st2 := [vr (some w), vi (J x1)]) rfl ?_
    refine R_getR rfl t0 ?_
    obtain ⟨a_5, e_6, k⟩ := k
    rw [e_6]
    obtain ⟨t_7, k⟩ := k
    refine R_zalen rfl t_7 ?_
    obtain ⟨t_9, k⟩ := k
    refine R_zif (x := x1) (z := (N a_5 : Int)) rfl r1 t_9 (fun c_8 => ?_) (fun c_8 => ?_)
    · have k := k.2 c_8
      refine R_ps 1 (pc2 := 23) (L2 := [some (vr (some w)), some (vi (J x1))]) (st2 := [vi (J (-1))]) rfl ?_
      exact R_iret rfl rfl (R_zr (x := (-1)) (K := K) (by decide) k)
    · have k := k.1 (Classical.not_not.mp c_8)
      refine R_ps 1 (pc2 := 14) (L2 := [some (vr (some w)), some (vi (J x1))]) (st2 := [vr (some w)]) rfl ?_
      refine R_getR rfl t0 ?_
      refine R_ps 1 (pc2 := 18) (L2 := [some (vr (some w)), some (vi (J x1))]) (st2 := [vi (J x1), vr (gr h w 7)]) rfl ?_
      obtain ⟨a_13, e_14, k⟩ := k
      rw [e_14]
      obtain ⟨t_15, k⟩ := k
      obtain ⟨t_16, k⟩ := k
      refine R_ziald (i := x1) rfl (Or.inl t_15) t_16 ?_
      refine R_ps 1 (pc2 := 23) (L2 := [some (vr (some w)), some (vi (J x1))]) (st2 := [vi (J (ai h a_13 x1))]) rfl ?_
      exact R_iret rfl rfl (R_zr (x := ai h a_13 x1) (K := K) (ai_in _ _ _) k)
/-- DroneCorridors$Search.writeLegs -/
theorem z75 {T N : Nat → Nat} {h : PH} {w : Nat} {a1 : Nat} {a2 : Nat} {K : PH → Prop} (t0 : T w = 8) (k : (WV T N 75 8 [some (vr (some w)), some (vr (some a1)), some (vr (some a2)), some (vi (J 0)), some (vi (J (ai h w 3))), none, none] [] h K)) : CV T N 75 [vr (some w), vr (some a1), vr (some a2)] h K := by
  show WP T N 75 0 [some (vr (some w)), some (vr (some a1)), some (vr (some a2)), none, none, none, none] [] h _
  refine R_ps 3 (pc2 := 3) (L2 := [some (vr (some w)), some (vr (some a1)), some (vr (some a2)), some (vi (J 0)), none, none, none]) (st2 := [vr (some w)]) rfl ?_
  refine R_zgetI (z := 3) rfl t0 rfl ?_
  refine R_ps 1 (pc2 := 8) (L2 := [some (vr (some w)), some (vr (some a1)), some (vr (some a2)), some (vi (J 0)), some (vi (J (ai h w 3))), none, none]) (st2 := []) rfl ?_
  exact k
theorem z75_8 {T N : Nat → Nat} {h : PH} {w : Nat} {a1 : Nat} {a2 : Nat} {x3 : Int} {x4 : Int} {K : PH → Prop} (t0 : T a2 = 3) (t1 : T w = 8) (r3 : In x3) (r4 : In x4) (k : (((x4 < 0 → (CV T N 23 [vr (some a2), vi (J x3)] h (fun h_4 => (WV T N 75 58 [some (vr (some w)), some (vr (some a1)), some (vr (some a2)), none, some (vi (J (ai h a2 8))), some (vi (J (ai h_4 w 3))), some (vi (J (((ai h a2 8) + x3) - 1)))] [] h_4 K)))) ∧ (¬ (x4 < 0) → (((x3 < 40 → (ZI T N 74 [vr (some w), vi (J x4)] h (fun x_15 h_14 => (WV T N 75 8 [some (vr (some w)), some (vr (some a1)), some (vr (some a2)), some (vi (J (x3 + 1))), some (vi (J x_15)), none, none] [] h_14 K)))) ∧ (¬ (x3 < 40) → (CV T N 23 [vr (some a2), vi (J x3)] h (fun h_10 => (WV T N 75 58 [some (vr (some w)), some (vr (some a1)), some (vr (some a2)), none, some (vi (J (ai h a2 8))), some (vi (J (ai h_10 w 3))), some (vi (J (((ai h a2 8) + x3) - 1)))] [] h_10 K)))))))))) : WV T N 75 8 [some (vr (some w)), some (vr (some a1)), some (vr (some a2)), some (vi (J x3)), some (vi (J x4)), none, none] [] h K := by
  show WP T N 75 8 [some (vr (some w)), some (vr (some a1)), some (vr (some a2)), some (vi (J x3)), some (vi (J x4)), none, none] [] h _
  refine R_ps 1 (pc2 := 10) (L2 := [some (vr (some w)), some (vr (some a1)), some (vr (some a2)), some (vi (J x3)), some (vi (J x4)), none, none]) (st2 := [vi (J x4)]) rfl ?_
  refine R_zif0 (x := x4) rfl r4 (fun c_1 => ?_) (fun c_1 => ?_)
  · have k := k.1 c_1
    refine R_ps 1 (pc2 := 34) (L2 := [some (vr (some w)), some (vr (some a1)), some (vr (some a2)), some (vi (J x3)), some (vi (J x4)), none, none]) (st2 := [vr (some a2)]) rfl ?_
    refine R_zgetI (z := 8) rfl t0 rfl ?_
    refine R_ps 3 (pc2 := 41) (L2 := [some (vr (some w)), some (vr (some a1)), some (vr (some a2)), some (vi (J x3)), some (vi (J (ai h a2 8))), none, none]) (st2 := [vi (J x3), vr (some a2)]) rfl ?_
    refine R_cV (as := [vr (some a2), vi (J x3)]) rfl rfl ⟨Nat.le_of_ble_eq_true rfl, Nat.le_of_ble_eq_true rfl, rfl, (Or.inr ⟨_, rfl, t0⟩)⟩ rfl rfl k (fun h_4 k => ?_)
    refine R_ps 1 (pc2 := 45) (L2 := [some (vr (some w)), some (vr (some a1)), some (vr (some a2)), some (vi (J x3)), some (vi (J (ai h a2 8))), none, none]) (st2 := [vr (some w)]) rfl ?_
    refine R_zgetI (z := 3) rfl t1 rfl ?_
    refine R_ps 7 (pc2 := 58) (L2 := [some (vr (some w)), some (vr (some a1)), some (vr (some a2)), some (vi (J x3)), some (vi (J (ai h a2 8))), some (vi (J (ai h_4 w 3))), some (vi (((J (ai h a2 8)) + (J x3)) - (J 1)))]) (st2 := []) rfl ?_
    rw [show (((J (ai h a2 8)) + (J x3)) - (J 1)) = J (((ai h a2 8) + x3) - 1) from J_sub' (J_add' rfl rfl) rfl]
    exact R_drop k (LE_of (L := [some (vr (some w)), some (vr (some a1)), some (vr (some a2)), none, some (vi (J (ai h a2 8))), some (vi (J (ai h_4 w 3))), some (vi (J (((ai h a2 8) + x3) - 1)))]) (L2 := [some (vr (some w)), some (vr (some a1)), some (vr (some a2)), some (vi (J x3)), some (vi (J (ai h a2 8))), some (vi (J (ai h_4 w 3))), some (vi (J (((ai h a2 8) + x3) - 1)))]) ⟨rfl, rfl, rfl, rfl, rfl, rfl, trivial⟩)
  · have k := k.2 c_1
    refine R_ps 2 (pc2 := 16) (L2 := [some (vr (some w)), some (vr (some a1)), some (vr (some a2)), some (vi (J x3)), some (vi (J x4)), none, none]) (st2 := [vi (J 40), vi (J x3)]) rfl ?_
    refine R_zif (x := x3) (z := 40) rfl r3 (by decide) (fun c_7 => ?_) (fun c_7 => ?_)
    · have k := k.2 c_7
      refine R_ps 1 (pc2 := 34) (L2 := [some (vr (some w)), some (vr (some a1)), some (vr (some a2)), some (vi (J x3)), some (vi (J x4)), none, none]) (st2 := [vr (some a2)]) rfl ?_
      refine R_zgetI (z := 8) rfl t0 rfl ?_
      refine R_ps 3 (pc2 := 41) (L2 := [some (vr (some w)), some (vr (some a1)), some (vr (some a2)), some (vi (J x3)), some (vi (J (ai h a2 8))), none, none]) (st2 := [vi (J x3), vr (some a2)]) rfl ?_
      refine R_cV (as := [vr (some a2), vi (J x3)]) rfl rfl ⟨Nat.le_of_ble_eq_true rfl, Nat.le_of_ble_eq_true rfl, rfl, (Or.inr ⟨_, rfl, t0⟩)⟩ rfl rfl k (fun h_10 k => ?_)
      refine R_ps 1 (pc2 := 45) (L2 := [some (vr (some w)), some (vr (some a1)), some (vr (some a2)), some (vi (J x3)), some (vi (J (ai h a2 8))), none, none]) (st2 := [vr (some w)]) rfl ?_
      refine R_zgetI (z := 3) rfl t1 rfl ?_
      refine R_ps 7 (pc2 := 58) (L2 := [some (vr (some w)), some (vr (some a1)), some (vr (some a2)), some (vi (J x3)), some (vi (J (ai h a2 8))), some (vi (J (ai h_10 w 3))), some (vi (((J (ai h a2 8)) + (J x3)) - (J 1)))]) (st2 := []) rfl ?_
      rw [show (((J (ai h a2 8)) + (J x3)) - (J 1)) = J (((ai h a2 8) + x3) - 1) from J_sub' (J_add' rfl rfl) rfl]
      exact R_drop k (LE_of (L := [some (vr (some w)), some (vr (some a1)), some (vr (some a2)), none, some (vi (J (ai h a2 8))), some (vi (J (ai h_10 w 3))), some (vi (J (((ai h a2 8) + x3) - 1)))]) (L2 := [some (vr (some w)), some (vr (some a1)), some (vr (some a2)), some (vi (J x3)), some (vi (J (ai h a2 8))), some (vi (J (ai h_10 w 3))), some (vi (J (((ai h a2 8) + x3) - 1)))]) ⟨rfl, rfl, rfl, rfl, rfl, rfl, trivial⟩)
    · have k := k.1 (Classical.not_not.mp c_7)
      refine R_ps 3 (pc2 := 25) (L2 := [some (vr (some w)), some (vr (some a1)), some (vr (some a2)), some (vi ((J x3) + J 1)), some (vi (J x4)), none, none]) (st2 := [vi (J x4), vr (some w)]) rfl ?_
      rw [show ((J x3) + J 1) = J (x3 + 1) from J_add' rfl rfl]
      refine R_zcI (as := [vr (some w), vi (J x4)]) rfl rfl ⟨Nat.le_of_ble_eq_true rfl, Nat.le_of_ble_eq_true rfl, rfl, (Or.inr ⟨_, rfl, t1⟩)⟩ rfl rfl k (fun x_15 h_14 r_16 k => ?_)
      refine R_ps 2 (pc2 := 8) (L2 := [some (vr (some w)), some (vr (some a1)), some (vr (some a2)), some (vi (J (x3 + 1))), some (vi (J x_15)), none, none]) (st2 := []) rfl ?_
      exact k
theorem z75_58 {T N : Nat → Nat} {h : PH} {w : Nat} {a1 : Nat} {a2 : Nat} {x4 : Int} {x5 : Int} {x6 : Int} {K : PH → Prop} (t0 : T a2 = 3) (t1 : T w = 8) (r4 : In x4) (r5 : In x5) (r6 : In x6) (k : (((x6 < x4 → (K h)) ∧ (¬ (x6 < x4) → (CR T N 17 [vr (some a2), vi (J x6)] h (fun x_5 h_4 => (CV T N 76 [vi (J x5), vr (some a1), vr x_5] h_4 (fun h_7 => (ZI T N 74 [vr (some w), vi (J x5)] h_7 (fun x_11 h_10 => (WV T N 75 58 [some (vr (some w)), some (vr (some a1)), some (vr (some a2)), none, some (vi (J x4)), some (vi (J x_11)), some (vi (J (x6 + (-1))))] [] h_10 K))))))))))) : WV T N 75 58 [some (vr (some w)), some (vr (some a1)), some (vr (some a2)), none, some (vi (J x4)), some (vi (J x5)), some (vi (J x6))] [] h K := by
  show WP T N 75 58 [some (vr (some w)), some (vr (some a1)), some (vr (some a2)), none, some (vi (J x4)), some (vi (J x5)), some (vi (J x6))] [] h _
  refine R_ps 2 (pc2 := 62) (L2 := [some (vr (some w)), some (vr (some a1)), some (vr (some a2)), none, some (vi (J x4)), some (vi (J x5)), some (vi (J x6))]) (st2 := [vi (J x4), vi (J x6)]) rfl ?_
  refine R_zif (x := x6) (z := x4) rfl r6 r4 (fun c_1 => ?_) (fun c_1 => ?_)
  · have k := k.1 c_1
    exact R_ret rfl rfl ⟨rfl, k⟩
  · have k := k.2 c_1
    refine R_ps 4 (pc2 := 71) (L2 := [some (vr (some w)), some (vr (some a1)), some (vr (some a2)), none, some (vi (J x4)), some (vi (J x5)), some (vi (J x6))]) (st2 := [vi (J x6), vr (some a2), vr (some a1), vi (J x5)]) rfl ?_
    refine R_cR (as := [vr (some a2), vi (J x6)]) rfl rfl ⟨Nat.le_of_ble_eq_true rfl, Nat.le_of_ble_eq_true rfl, rfl, (Or.inr ⟨_, rfl, t0⟩)⟩ rfl rfl k (fun x_5 h_4 k => ?_)
    refine R_cV (as := [vi (J x5), vr (some a1), vr x_5]) rfl rfl ⟨Nat.le_of_ble_eq_true rfl, Nat.le_of_ble_eq_true rfl, rfl, (Or.inl rfl)⟩ rfl rfl k (fun h_7 k => ?_)
    refine R_ps 2 (pc2 := 80) (L2 := [some (vr (some w)), some (vr (some a1)), some (vr (some a2)), none, some (vi (J x4)), some (vi (J x5)), some (vi (J x6))]) (st2 := [vi (J x5), vr (some w)]) rfl ?_
    refine R_zcI (as := [vr (some w), vi (J x5)]) rfl rfl ⟨Nat.le_of_ble_eq_true rfl, Nat.le_of_ble_eq_true rfl, rfl, (Or.inr ⟨_, rfl, t1⟩)⟩ rfl rfl k (fun x_11 h_10 r_12 k => ?_)
    refine R_ps 3 (pc2 := 58) (L2 := [some (vr (some w)), some (vr (some a1)), some (vr (some a2)), none, some (vi (J x4)), some (vi (J x_11)), some (vi ((J x6) + J (-1)))]) (st2 := []) rfl ?_
    rw [show ((J x6) + J (-1)) = J (x6 + (-1)) from J_add' rfl rfl]
    exact k
/-- DroneCorridors$Search.writeLeg -/
theorem z76 {T N : Nat → Nat} {h : PH} {x0 : Int} {a1 : Nat} {a2 : Nat} {K : PH → Prop} (t0 : T a1 = 10) (t1 : T a2 = 7) (r0 : In x0) (k : ((0 ≤ x0 ∧ x0 < 2147483648) ∧ (0 ≤ (x0 % 96) ∧ (x0 % 96) < 2147483648) ∧ CR T N 89 [vr (some a1), vi (J ((x0 % 96) / 6))] h (fun x_7 h_6 => (((x_7 = none → (K h_6)) ∧ (∀ a_10, x_7 = some a_10 → (∀ h_15, h_15 = wi h_6 a2 0 ((x0 % 96) / 6) → (0 ≤ ((x0 % 96) / 3) ∧ ((x0 % 96) / 3) < 2147483648) ∧ ∀ h_21, h_21 = wi h_15 a2 1 (((x0 % 96) / 3) % 2) → ∀ h_25, h_25 = wi h_21 a2 2 ((x0 % 96) % 3) → ∀ h_30, h_30 = wi h_25 a2 3 ((ai h_25 a1 0) + (x0 / 96)) → T a_10 = 2 ∧ ∀ h_36, h_36 = wi h_30 a2 4 ((ai h_30 a2 3) + (ai h_30 a_10 2)) → K h_36))))))) : CV T N 76 [vi (J x0), vr (some a1), vr (some a2)] h K := by
  show WP T N 76 0 [some (vi (J x0)), some (vr (some a1)), some (vr (some a2)), none, none] [] h _
  refine R_ps 2 (pc2 := 3) (L2 := [some (vi (J x0)), some (vr (some a1)), some (vr (some a2)), none, none]) (st2 := [vi (J 96), vi (J x0)]) rfl ?_
  obtain ⟨t_2, k⟩ := k
  refine R_zrem (x := x0) (z := 96) rfl (by decide) t_2 ?_
  refine R_ps 4 (pc2 := 9) (L2 := [some (vi (J x0)), some (vr (some a1)), some (vr (some a2)), some (vi (J (x0 % 96))), none]) (st2 := [vi (J 6), vi (J (x0 % 96)), vr (some a1)]) rfl ?_
  obtain ⟨t_4, k⟩ := k
  refine R_zdiv (x := x0 % 96) (z := 6) rfl (by decide) t_4 ?_
  refine R_cR (as := [vr (some a1), vi (J ((x0 % 96) / 6))]) rfl rfl ⟨Nat.le_of_ble_eq_true rfl, Nat.le_of_ble_eq_true rfl, rfl, (Or.inr ⟨_, rfl, t0⟩)⟩ rfl rfl k (fun x_7 h_6 k => ?_)
  refine R_ps 2 (pc2 := 16) (L2 := [some (vi (J x0)), some (vr (some a1)), some (vr (some a2)), some (vi (J (x0 % 96))), some (vr x_7)]) (st2 := [vr (some a2)]) rfl ?_
  refine R_null rfl (fun c_8 => nomatch c_8) (fun _ _ => ?_)
  refine R_ps 1 (pc2 := 21) (L2 := [some (vi (J x0)), some (vr (some a1)), some (vr (some a2)), some (vi (J (x0 % 96))), some (vr x_7)]) (st2 := [vr x_7]) rfl ?_
  rcases null_or (x_7) with e_11 | ⟨a_10, e_11⟩
  · have k := k.1 e_11
    rw [e_11]
    refine R_nonnull rfl (fun _ => ?_) (fun _ c_9 => nomatch c_9)
    exact R_ret rfl rfl ⟨rfl, k⟩
  · have k := k.2 a_10 e_11
    rw [e_11]
    refine R_nonnull rfl (fun c_9 => nomatch c_9) (fun _ _ => ?_)
    refine R_ps 3 (pc2 := 29) (L2 := [some (vi (J x0)), some (vr (some a1)), some (vr (some a2)), some (vi (J (x0 % 96))), some (vr (some a_10))]) (st2 := [vi (J 6), vi (J (x0 % 96)), vr (some a2)]) rfl ?_
    refine R_zdiv (x := x0 % 96) (z := 6) rfl (by decide) t_4 ?_
    refine R_zputI (x := (x0 % 96) / 6) (z := 0) rfl t1 rfl ?_
    show WP T N _ _ _ _ (wi h_6 a2 0 ((x0 % 96) / 6)) _
    generalize e_16 : wi h_6 a2 0 ((x0 % 96) / 6) = h_15
    replace k := k h_15 e_16.symm
    refine R_ps 3 (pc2 := 36) (L2 := [some (vi (J x0)), some (vr (some a1)), some (vr (some a2)), some (vi (J (x0 % 96))), some (vr (some a_10))]) (st2 := [vi (J 3), vi (J (x0 % 96)), vr (some a2)]) rfl ?_
    refine R_zdiv (x := x0 % 96) (z := 3) rfl (by decide) t_4 ?_
    refine R_ps 1 (pc2 := 38) (L2 := [some (vi (J x0)), some (vr (some a1)), some (vr (some a2)), some (vi (J (x0 % 96))), some (vr (some a_10))]) (st2 := [vi (J 2), vi (J ((x0 % 96) / 3)), vr (some a2)]) rfl ?_
    obtain ⟨t_19, k⟩ := k
    refine R_zrem (x := (x0 % 96) / 3) (z := 2) rfl (by decide) t_19 ?_
    refine R_zputI (x := ((x0 % 96) / 3) % 2) (z := 1) rfl t1 rfl ?_
    show WP T N _ _ _ _ (wi h_15 a2 1 (((x0 % 96) / 3) % 2)) _
    generalize e_22 : wi h_15 a2 1 (((x0 % 96) / 3) % 2) = h_21
    replace k := k h_21 e_22.symm
    refine R_ps 3 (pc2 := 45) (L2 := [some (vi (J x0)), some (vr (some a1)), some (vr (some a2)), some (vi (J (x0 % 96))), some (vr (some a_10))]) (st2 := [vi (J 3), vi (J (x0 % 96)), vr (some a2)]) rfl ?_
    refine R_zrem (x := x0 % 96) (z := 3) rfl (by decide) t_4 ?_
    refine R_zputI (x := (x0 % 96) % 3) (z := 2) rfl t1 rfl ?_
    show WP T N _ _ _ _ (wi h_21 a2 2 ((x0 % 96) % 3)) _
    generalize e_26 : wi h_21 a2 2 ((x0 % 96) % 3) = h_25
    replace k := k h_25 e_26.symm
    refine R_ps 2 (pc2 := 51) (L2 := [some (vi (J x0)), some (vr (some a1)), some (vr (some a2)), some (vi (J (x0 % 96))), some (vr (some a_10))]) (st2 := [vr (some a1), vr (some a2)]) rfl ?_
    refine R_zgetI (z := 0) rfl t0 rfl ?_
    refine R_ps 2 (pc2 := 57) (L2 := [some (vi (J x0)), some (vr (some a1)), some (vr (some a2)), some (vi (J (x0 % 96))), some (vr (some a_10))]) (st2 := [vi (J 96), vi (J x0), vi (J (ai h_25 a1 0)), vr (some a2)]) rfl ?_
    refine R_zdiv (x := x0) (z := 96) rfl (by decide) t_2 ?_
    refine R_ps 1 (pc2 := 59) (L2 := [some (vi (J x0)), some (vr (some a1)), some (vr (some a2)), some (vi (J (x0 % 96))), some (vr (some a_10))]) (st2 := [vi ((J (ai h_25 a1 0)) + (J (x0 / 96))), vr (some a2)]) rfl ?_
    rw [show ((J (ai h_25 a1 0)) + (J (x0 / 96))) = J ((ai h_25 a1 0) + (x0 / 96)) from J_add' rfl rfl]
    refine R_zputI (x := (ai h_25 a1 0) + (x0 / 96)) (z := 3) rfl t1 rfl ?_
    show WP T N _ _ _ _ (wi h_25 a2 3 ((ai h_25 a1 0) + (x0 / 96))) _
    generalize e_31 : wi h_25 a2 3 ((ai h_25 a1 0) + (x0 / 96)) = h_30
    replace k := k h_30 e_31.symm
    refine R_ps 2 (pc2 := 64) (L2 := [some (vi (J x0)), some (vr (some a1)), some (vr (some a2)), some (vi (J (x0 % 96))), some (vr (some a_10))]) (st2 := [vr (some a2), vr (some a2)]) rfl ?_
    refine R_zgetI (z := 3) rfl t1 rfl ?_
    refine R_ps 1 (pc2 := 69) (L2 := [some (vi (J x0)), some (vr (some a1)), some (vr (some a2)), some (vi (J (x0 % 96))), some (vr (some a_10))]) (st2 := [vr (some a_10), vi (J (ai h_30 a2 3)), vr (some a2)]) rfl ?_
    obtain ⟨t_34, k⟩ := k
    refine R_zgetI (z := 2) rfl t_34 rfl ?_
    refine R_ps 1 (pc2 := 73) (L2 := [some (vi (J x0)), some (vr (some a1)), some (vr (some a2)), some (vi (J (x0 % 96))), some (vr (some a_10))]) (st2 := [vi ((J (ai h_30 a2 3)) + (J (ai h_30 a_10 2))), vr (some a2)]) rfl ?_
    rw [show ((J (ai h_30 a2 3)) + (J (ai h_30 a_10 2))) = J ((ai h_30 a2 3) + (ai h_30 a_10 2)) from J_add' rfl rfl]
    refine R_zputI (x := (ai h_30 a2 3) + (ai h_30 a_10 2)) (z := 4) rfl t1 rfl ?_
    show WP T N _ _ _ _ (wi h_30 a2 4 ((ai h_30 a2 3) + (ai h_30 a_10 2))) _
    generalize e_37 : wi h_30 a2 4 ((ai h_30 a2 3) + (ai h_30 a_10 2)) = h_36
    replace k := k h_36 e_37.symm
    exact R_ret rfl rfl ⟨rfl, k⟩
/-- DroneCorridors$Ways.<init> -/
theorem z77 {T N : Nat → Nat} {h : PH} {w : Nat} {K : PH → Prop} (t0 : T w = 9) (k : ((T (nx h) = 22 ∧ 10 = (N (nx h) : Int) ∧ N (nx h) ≤ 65536) ∧ ∀ a_3 h_4, a_3 = nx h → h_4 = grow h (N (nx h)) → ∀ h_9, h_9 = sr h_4 w 0 (some a_3) → K h_9)) : CV T N 77 [vr (some w)] h K := by
  show WP T N 77 0 [some (vr (some w))] [] h _
  refine R_ps 1 (pc2 := 1) (L2 := [some (vr (some w))]) (st2 := [vr (some w)]) rfl ?_
  refine R_jdk (st2 := []) rfl rfl rfl rfl rfl rfl rfl rfl ?_
  refine R_ps 2 (pc2 := 7) (L2 := [some (vr (some w))]) (st2 := [vi (J 10), vr (some w)]) rfl ?_
  obtain ⟨t_7, k⟩ := k
  refine R_znewa (n := 10) rfl t_7 ?_
  generalize e_6 : grow h (N (nx h)) = h_4
  generalize e_5 : nx h = a_3
  replace k := k a_3 h_4 e_5.symm e_6.symm
  refine R_putR rfl t0 ?_
  show WP T N _ _ _ _ (sr h_4 w 0 (some a_3)) _
  generalize e_10 : sr h_4 w 0 (some a_3) = h_9
  replace k := k h_9 e_10.symm
  exact R_ret rfl rfl ⟨rfl, k⟩
/-- DroneCorridors$Ways.leastFrom -/
theorem z78 {T N : Nat → Nat} {h : PH} {w : Nat} {x1 : Int} {K : Int → PH → Prop} (t0 : T w = 9) (r1 : In x1) (k : (((x1 < 0 → (K 1000000 h)) ∧ (¬ (x1 < 0) → (∃ a_5, (gr h w 0) = some a_5 ∧ 21 ≤ T a_5 ∧ In (N a_5 : Int) ∧ ((x1 < (N a_5 : Int) → (∃ a_13, (gr h w 0) = some a_13 ∧ T a_13 = 22 ∧ (0 ≤ x1 ∧ x1 < (N a_13 : Int) ∧ x1 < 2147483648) ∧ K (ai h a_13 x1) h)) ∧ (¬ (x1 < (N a_5 : Int)) → (K 1000000 h)))))))) : ZI T N 78 [vr (some w), vi (J x1)] h K := by
  show WP T N 78 0 [some (vr (some w)), some (vi (J x1))] [] h _
  refine R_ps 1 (pc2 := 1) (L2 := [some (vr (some w)), some (vi (J x1))]) (st2 := [vi (J x1)]) rfl ?_
  refine R_zif0 (x := x1) rfl r1 (fun c_1 => ?_) (fun c_1 => ?_)
  · have k := k.1 c_1
    refine R_ps 1 (pc2 := 24) (L2 := [some (vr (some w)), some (vi (J x1))]) (st2 := [vi (J 1000000)]) rfl ?_
    exact R_iret rfl rfl (R_zr (x := 1000000) (K := K) (by decide) k)
  · have k := k.2 c_1
    refine R_ps 2 (pc2 := 6) (L2 := [some (vr (some w)), some (vi (J x1))]) (st2 := [vr (some w), vi (J x1)]) rfl ?_
    refine R_getR rfl t0 ?_
    obtain ⟨a_5, e_6, k⟩ := k
    rw [e_6]
    obtain ⟨t_7, k⟩ := k
    refine R_zalen rfl t_7 ?_
    obtain ⟨t_9, k⟩ := k
    refine R_zif (x := x1) (z := (N a_5 : Int)) rfl r1 t_9 (fun c_8 => ?_) (fun c_8 => ?_)
    · have k := k.2 c_8
      refine R_ps 1 (pc2 := 24) (L2 := [some (vr (some w)), some (vi (J x1))]) (st2 := [vi (J 1000000)]) rfl ?_
      exact R_iret rfl rfl (R_zr (x := 1000000) (K := K) (by decide) k)
    · have k := k.1 (Classical.not_not.mp c_8)
      refine R_ps 1 (pc2 := 14) (L2 := [some (vr (some w)), some (vi (J x1))]) (st2 := [vr (some w)]) rfl ?_
      refine R_getR rfl t0 ?_
      refine R_ps 1 (pc2 := 18) (L2 := [some (vr (some w)), some (vi (J x1))]) (st2 := [vi (J x1), vr (gr h w 0)]) rfl ?_
      obtain ⟨a_13, e_14, k⟩ := k
      rw [e_14]
      obtain ⟨t_15, k⟩ := k
      obtain ⟨t_16, k⟩ := k
      refine R_ziald (i := x1) rfl (Or.inl t_15) t_16 ?_
      refine R_ps 1 (pc2 := 24) (L2 := [some (vr (some w)), some (vi (J x1))]) (st2 := [vi (J (ai h a_13 x1))]) rfl ?_
      exact R_iret rfl rfl (R_zr (x := ai h a_13 x1) (K := K) (ai_in _ _ _) k)
/-- DroneCorridors$Ways.measure -/
theorem z79 {T N : Nat → Nat} {h : PH} {w : Nat} {a1 : Nat} {x2 : Int} {x3 : Int} {K : PH → Prop} (r2 : In x2) (r3 : In x3) (k : (WV T N 79 3 [some (vr (some w)), some (vr (some a1)), some (vi (J x2)), some (vi (J x3)), some (vi (J 0)), none] [] h K)) : CV T N 79 [vr (some w), vr (some a1), vi (J x2), vi (J x3)] h K := by
  show WP T N 79 0 [some (vr (some w)), some (vr (some a1)), some (vi (J x2)), some (vi (J x3)), none, none] [] h _
  refine R_ps 2 (pc2 := 3) (L2 := [some (vr (some w)), some (vr (some a1)), some (vi (J x2)), some (vi (J x3)), some (vi (J 0)), none]) (st2 := []) rfl ?_
  exact k
theorem z79_3 {T N : Nat → Nat} {h : PH} {w : Nat} {a1 : Nat} {x2 : Int} {x3 : Int} {x4 : Int} {K : PH → Prop} (t0 : T w = 9) (r2 : In x2) (r3 : In x3) (r4 : In x4) (k : (∃ a_3, (gr h w 0) = some a_3 ∧ 21 ≤ T a_3 ∧ In (N a_3 : Int) ∧ ((x4 < (N a_3 : Int) → (ZI T N 145 [vi (J x2), vi (J x4)] h (fun x_11 h_10 => (((x_11 = 0 → (∃ a_15, (gr h w 0) = some a_15 ∧ T a_15 = 22 ∧ (0 ≤ x4 ∧ x4 < (N a_15 : Int) ∧ x4 < 2147483648) ∧ ∀ h_17, h_17 = wi h_10 a_15 x4 1000000 → WV T N 79 3 [some (vr (some w)), some (vr (some a1)), some (vi (J x2)), some (vi (J x3)), some (vi (J (x4 + 1))), none] [] h_17 K)) ∧ (¬ (x_11 = 0) → (∃ a_22, (gr h w 0) = some a_22 ∧ T a_22 = 22 ∧ (0 ≤ x4 ∧ x4 < (N a_22 : Int) ∧ x4 < 2147483648) ∧ ∀ h_24, h_24 = wi h_10 a_22 x4 0 → WV T N 79 3 [some (vr (some w)), some (vr (some a1)), some (vi (J x2)), some (vi (J x3)), some (vi (J (x4 + 1))), none] [] h_24 K))))))) ∧ (¬ (x4 < (N a_3 : Int)) → (WV T N 79 47 [some (vr (some w)), some (vr (some a1)), none, some (vi (J x3)), some (vi (J 1)), some (vi (J 0))] [] h K))))) : WV T N 79 3 [some (vr (some w)), some (vr (some a1)), some (vi (J x2)), some (vi (J x3)), some (vi (J x4)), none] [] h K := by
  show WP T N 79 3 [some (vr (some w)), some (vr (some a1)), some (vi (J x2)), some (vi (J x3)), some (vi (J x4)), none] [] h _
  refine R_ps 2 (pc2 := 6) (L2 := [some (vr (some w)), some (vr (some a1)), some (vi (J x2)), some (vi (J x3)), some (vi (J x4)), none]) (st2 := [vr (some w), vi (J x4)]) rfl ?_
  refine R_getR rfl t0 ?_
  obtain ⟨a_3, e_4, k⟩ := k
  rw [e_4]
  obtain ⟨t_5, k⟩ := k
  refine R_zalen rfl t_5 ?_
  obtain ⟨t_7, k⟩ := k
  refine R_zif (x := x4) (z := (N a_3 : Int)) rfl r4 t_7 (fun c_6 => ?_) (fun c_6 => ?_)
  · have k := k.2 c_6
    refine R_ps 4 (pc2 := 47) (L2 := [some (vr (some w)), some (vr (some a1)), some (vi (J x2)), some (vi (J x3)), some (vi (J 1)), some (vi (J 0))]) (st2 := []) rfl ?_
    exact R_drop k (LE_of (L := [some (vr (some w)), some (vr (some a1)), none, some (vi (J x3)), some (vi (J 1)), some (vi (J 0))]) (L2 := [some (vr (some w)), some (vr (some a1)), some (vi (J x2)), some (vi (J x3)), some (vi (J 1)), some (vi (J 0))]) ⟨rfl, rfl, rfl, rfl, rfl, trivial⟩)
  · have k := k.1 (Classical.not_not.mp c_6)
    refine R_ps 1 (pc2 := 14) (L2 := [some (vr (some w)), some (vr (some a1)), some (vi (J x2)), some (vi (J x3)), some (vi (J x4)), none]) (st2 := [vr (some w)]) rfl ?_
    refine R_getR rfl t0 ?_
    refine R_ps 3 (pc2 := 22) (L2 := [some (vr (some w)), some (vr (some a1)), some (vi (J x2)), some (vi (J x3)), some (vi (J x4)), none]) (st2 := [vi (J x4), vi (J x2), vi (J x4), vr (gr h w 0)]) rfl ?_
    refine R_zcI (as := [vi (J x2), vi (J x4)]) rfl rfl ⟨Nat.le_of_ble_eq_true rfl, Nat.le_of_ble_eq_true rfl, rfl, (Or.inl rfl)⟩ rfl rfl k (fun x_11 h_10 r_12 k => ?_)
    refine R_zif0 (x := x_11) rfl r_12 (fun c_13 => ?_) (fun c_13 => ?_)
    · have k := k.1 c_13
      refine R_ps 1 (pc2 := 34) (L2 := [some (vr (some w)), some (vr (some a1)), some (vi (J x2)), some (vi (J x3)), some (vi (J x4)), none]) (st2 := [vi (J 1000000), vi (J x4), vr (gr h w 0)]) rfl ?_
      obtain ⟨a_15, e_16, k⟩ := k
      rw [e_16]
      obtain ⟨t_19, k⟩ := k
      obtain ⟨t_20, k⟩ := k
      refine R_ziast (i := x4) (x := 1000000) rfl t_19 t_20  ?_
      show WP T N _ _ _ _ (wi h_10 a_15 x4 1000000) _
      generalize e_18 : wi h_10 a_15 x4 1000000 = h_17
      replace k := k h_17 e_18.symm
      refine R_ps 2 (pc2 := 3) (L2 := [some (vr (some w)), some (vr (some a1)), some (vi (J x2)), some (vi (J x3)), some (vi ((J x4) + J 1)), none]) (st2 := []) rfl ?_
      rw [show ((J x4) + J 1) = J (x4 + 1) from J_add' rfl rfl]
      exact k
    · have k := k.2 c_13
      refine R_ps 2 (pc2 := 34) (L2 := [some (vr (some w)), some (vr (some a1)), some (vi (J x2)), some (vi (J x3)), some (vi (J x4)), none]) (st2 := [vi (J 0), vi (J x4), vr (gr h w 0)]) rfl ?_
      obtain ⟨a_22, e_23, k⟩ := k
      rw [e_23]
      obtain ⟨t_26, k⟩ := k
      obtain ⟨t_27, k⟩ := k
      refine R_ziast (i := x4) (x := 0) rfl t_26 t_27  ?_
      show WP T N _ _ _ _ (wi h_10 a_22 x4 0) _
      generalize e_25 : wi h_10 a_22 x4 0 = h_24
      replace k := k h_24 e_25.symm
      refine R_ps 2 (pc2 := 3) (L2 := [some (vr (some w)), some (vr (some a1)), some (vi (J x2)), some (vi (J x3)), some (vi ((J x4) + J 1)), none]) (st2 := []) rfl ?_
      rw [show ((J x4) + J 1) = J (x4 + 1) from J_add' rfl rfl]
      exact k
theorem z79_47 {T N : Nat → Nat} {h : PH} {w : Nat} {a1 : Nat} {x3 : Int} {x4 : Int} {x5 : Int} {K : PH → Prop} (t0 : T w = 9) (r3 : In x3) (r4 : In x4) (r5 : In x5) (k : (((x5 < 10 → (((x4 = 0 → (K h)) ∧ (¬ (x4 = 0) → (ZI T N 80 [vr (some w), vr (some a1), vi (J x3)] h (fun x_7 h_6 => (WV T N 79 47 [some (vr (some w)), some (vr (some a1)), none, some (vi (J x3)), some (vi (J x_7)), some (vi (J (x5 + 1)))] [] h_6 K))))))) ∧ (¬ (x5 < 10) → (K h))))) : WV T N 79 47 [some (vr (some w)), some (vr (some a1)), none, some (vi (J x3)), some (vi (J x4)), some (vi (J x5))] [] h K := by
  show WP T N 79 47 [some (vr (some w)), some (vr (some a1)), none, some (vi (J x3)), some (vi (J x4)), some (vi (J x5))] [] h _
  refine R_ps 2 (pc2 := 51) (L2 := [some (vr (some w)), some (vr (some a1)), none, some (vi (J x3)), some (vi (J x4)), some (vi (J x5))]) (st2 := [vi (J 10), vi (J x5)]) rfl ?_
  refine R_zif (x := x5) (z := 10) rfl r5 (by decide) (fun c_1 => ?_) (fun c_1 => ?_)
  · have k := k.2 c_1
    exact R_ret rfl rfl ⟨rfl, k⟩
  · have k := k.1 (Classical.not_not.mp c_1)
    refine R_ps 1 (pc2 := 56) (L2 := [some (vr (some w)), some (vr (some a1)), none, some (vi (J x3)), some (vi (J x4)), some (vi (J x5))]) (st2 := [vi (J x4)]) rfl ?_
    refine R_zif0 (x := x4) rfl r4 (fun c_3 => ?_) (fun c_3 => ?_)
    · have k := k.1 c_3
      exact R_ret rfl rfl ⟨rfl, k⟩
    · have k := k.2 c_3
      refine R_ps 3 (pc2 := 62) (L2 := [some (vr (some w)), some (vr (some a1)), none, some (vi (J x3)), some (vi (J x4)), some (vi (J x5))]) (st2 := [vi (J x3), vr (some a1), vr (some w)]) rfl ?_
      refine R_zcI (as := [vr (some w), vr (some a1), vi (J x3)]) rfl rfl ⟨Nat.le_of_ble_eq_true rfl, Nat.le_of_ble_eq_true rfl, rfl, (Or.inr ⟨_, rfl, t0⟩)⟩ rfl rfl k (fun x_7 h_6 r_8 k => ?_)
      refine R_ps 3 (pc2 := 47) (L2 := [some (vr (some w)), some (vr (some a1)), none, some (vi (J x3)), some (vi (J x_7)), some (vi ((J x5) + J 1))]) (st2 := []) rfl ?_
      rw [show ((J x5) + J 1) = J (x5 + 1) from J_add' rfl rfl]
      exact k
/-- DroneCorridors$Ways.shortenAll -/
theorem z80 {T N : Nat → Nat} {h : PH} {w : Nat} {a1 : Nat} {x2 : Int} {K : Int → PH → Prop} (r2 : In x2) (k : (ZW T N 80 5 [some (vr (some w)), some (vr (some a1)), some (vi (J x2)), some (vi (J 0)), some (vi (J 0)), none, none, none] [] h K)) : ZI T N 80 [vr (some w), vr (some a1), vi (J x2)] h K := by
  show WP T N 80 0 [some (vr (some w)), some (vr (some a1)), some (vi (J x2)), none, none, none, none, none] [] h _
  refine R_ps 4 (pc2 := 5) (L2 := [some (vr (some w)), some (vr (some a1)), some (vi (J x2)), some (vi (J 0)), some (vi (J 0)), none, none, none]) (st2 := []) rfl ?_
  exact k
theorem z80_5 {T N : Nat → Nat} {h : PH} {w : Nat} {a1 : Nat} {x2 : Int} {x3 : Int} {x4 : Int} {K : Int → PH → Prop} (t0 : T a1 = 10) (r2 : In x2) (r3 : In x3) (r4 : In x4) (k : (((x4 < (ai h a1 3) → (CR T N 89 [vr (some a1), vi (J x4)] h (fun x_7 h_6 => (∃ a_8, x_7 = some a_8 ∧ ZW T N 80 25 [some (vr (some w)), some (vr (some a1)), some (vi (J x2)), some (vi (J x3)), some (vi (J x4)), some (vr (some a_8)), some (vi (J 0)), none] [] h_6 K)))) ∧ (¬ (x4 < (ai h a1 3)) → ((x3 = 0 ∨ x3 = 1) ∧ K x3 h))))) : ZW T N 80 5 [some (vr (some w)), some (vr (some a1)), some (vi (J x2)), some (vi (J x3)), some (vi (J x4)), none, none, none] [] h K := by
  show WP T N 80 5 [some (vr (some w)), some (vr (some a1)), some (vi (J x2)), some (vi (J x3)), some (vi (J x4)), none, none, none] [] h _
  refine R_ps 2 (pc2 := 8) (L2 := [some (vr (some w)), some (vr (some a1)), some (vi (J x2)), some (vi (J x3)), some (vi (J x4)), none, none, none]) (st2 := [vr (some a1), vi (J x4)]) rfl ?_
  refine R_zgetI (z := 3) rfl t0 rfl ?_
  refine R_zif (x := x4) (z := ai h a1 3) rfl r4 (ai_in _ _ _) (fun c_2 => ?_) (fun c_2 => ?_)
  · have k := k.2 c_2
    refine R_ps 1 (pc2 := 100) (L2 := [some (vr (some w)), some (vr (some a1)), some (vi (J x2)), some (vi (J x3)), some (vi (J x4)), none, none, none]) (st2 := [vi (J x3)]) rfl ?_
    obtain ⟨t_4, k⟩ := k
    exact R_zzret (x := x3) rfl rfl t_4 (R_zr (x := x3) (K := K) r3 k)
  · have k := k.1 (Classical.not_not.mp c_2)
    refine R_ps 2 (pc2 := 17) (L2 := [some (vr (some w)), some (vr (some a1)), some (vi (J x2)), some (vi (J x3)), some (vi (J x4)), none, none, none]) (st2 := [vi (J x4), vr (some a1)]) rfl ?_
    refine R_cR (as := [vr (some a1), vi (J x4)]) rfl rfl ⟨Nat.le_of_ble_eq_true rfl, Nat.le_of_ble_eq_true rfl, rfl, (Or.inr ⟨_, rfl, t0⟩)⟩ rfl rfl k (fun x_7 h_6 k => ?_)
    refine R_ps 3 (pc2 := 25) (L2 := [some (vr (some w)), some (vr (some a1)), some (vi (J x2)), some (vi (J x3)), some (vi (J x4)), some (vr x_7), some (vi (J 0)), none]) (st2 := []) rfl ?_
    obtain ⟨a_8, e_9, k⟩ := k
    rw [e_9]
    exact k
theorem z80_25 {T N : Nat → Nat} {h : PH} {w : Nat} {a1 : Nat} {x2 : Int} {x3 : Int} {x4 : Int} {a5 : Nat} {x6 : Int} {K : Int → PH → Prop} (t0 : T a5 = 2) (t1 : T w = 9) (r2 : In x2) (r3 : In x3) (r4 : In x4) (r6 : In x6) (k : (((x6 < 2 → (((x2 = 0 → (ZI T N 10 [vr (some a5), vi (J x6)] h (fun x_6 h_5 => (ZI T N 11 [vr (some a5), vi (J x6)] h_5 (fun x_10 h_9 => (ZI T N 12 [vr (some a5), vi (J x6)] h_9 (fun x_14 h_13 => (ZI T N 78 [vr (some w), vi (J x_14)] h_13 (fun x_18 h_17 => (ZI T N 81 [vr (some w), vi (J x_10), vi (J (x_18 + x_6))] h_17 (fun x_22 h_21 => (((x_22 = 0 → (ZW T N 80 25 [some (vr (some w)), some (vr (some a1)), some (vi (J x2)), some (vi (J x3)), some (vi (J x4)), some (vr (some a5)), some (vi (J (x6 + 1))), none] [] h_21 K)) ∧ (¬ (x_22 = 0) → (ZW T N 80 25 [some (vr (some w)), some (vr (some a1)), some (vi (J x2)), some (vi (J 1)), some (vi (J x4)), some (vr (some a5)), some (vi (J (x6 + 1))), none] [] h_21 K))))))))))))))) ∧ (¬ (x2 = 0) → (ZI T N 11 [vr (some a5), vi (J x6)] h (fun x_28 h_27 => (ZI T N 12 [vr (some a5), vi (J x6)] h_27 (fun x_32 h_31 => (ZI T N 78 [vr (some w), vi (J x_32)] h_31 (fun x_36 h_35 => (ZI T N 81 [vr (some w), vi (J x_28), vi (J (x_36 + (ai h a5 2)))] h_35 (fun x_40 h_39 => (((x_40 = 0 → (ZW T N 80 25 [some (vr (some w)), some (vr (some a1)), some (vi (J x2)), some (vi (J x3)), some (vi (J x4)), some (vr (some a5)), some (vi (J (x6 + 1))), none] [] h_39 K)) ∧ (¬ (x_40 = 0) → (ZW T N 80 25 [some (vr (some w)), some (vr (some a1)), some (vi (J x2)), some (vi (J 1)), some (vi (J x4)), some (vr (some a5)), some (vi (J (x6 + 1))), none] [] h_39 K)))))))))))))))) ∧ (¬ (x6 < 2) → (ZW T N 80 5 [some (vr (some w)), some (vr (some a1)), some (vi (J x2)), some (vi (J x3)), some (vi (J (x4 + 1))), none, none, none] [] h K))))) : ZW T N 80 25 [some (vr (some w)), some (vr (some a1)), some (vi (J x2)), some (vi (J x3)), some (vi (J x4)), some (vr (some a5)), some (vi (J x6)), none] [] h K := by
  show WP T N 80 25 [some (vr (some w)), some (vr (some a1)), some (vi (J x2)), some (vi (J x3)), some (vi (J x4)), some (vr (some a5)), some (vi (J x6)), none] [] h _
  refine R_ps 1 (pc2 := 27) (L2 := [some (vr (some w)), some (vr (some a1)), some (vi (J x2)), some (vi (J x3)), some (vi (J x4)), some (vr (some a5)), some (vi (J x6)), none]) (st2 := [vr (some a5)]) rfl ?_
  refine R_null rfl (fun c_1 => nomatch c_1) (fun _ _ => ?_)
  refine R_ps 2 (pc2 := 33) (L2 := [some (vr (some w)), some (vr (some a1)), some (vi (J x2)), some (vi (J x3)), some (vi (J x4)), some (vr (some a5)), some (vi (J x6)), none]) (st2 := [vi (J 2), vi (J x6)]) rfl ?_
  refine R_zif (x := x6) (z := 2) rfl r6 (by decide) (fun c_2 => ?_) (fun c_2 => ?_)
  · have k := k.2 c_2
    refine R_ps 2 (pc2 := 5) (L2 := [some (vr (some w)), some (vr (some a1)), some (vi (J x2)), some (vi (J x3)), some (vi ((J x4) + J 1)), some (vr (some a5)), some (vi (J x6)), none]) (st2 := []) rfl ?_
    rw [show ((J x4) + J 1) = J (x4 + 1) from J_add' rfl rfl]
    exact R_drop k (LE_of (L := [some (vr (some w)), some (vr (some a1)), some (vi (J x2)), some (vi (J x3)), some (vi (J (x4 + 1))), none, none, none]) (L2 := [some (vr (some w)), some (vr (some a1)), some (vi (J x2)), some (vi (J x3)), some (vi (J (x4 + 1))), some (vr (some a5)), some (vi (J x6)), none]) ⟨rfl, rfl, rfl, rfl, rfl, trivial⟩)
  · have k := k.1 (Classical.not_not.mp c_2)
    refine R_ps 1 (pc2 := 37) (L2 := [some (vr (some w)), some (vr (some a1)), some (vi (J x2)), some (vi (J x3)), some (vi (J x4)), some (vr (some a5)), some (vi (J x6)), none]) (st2 := [vi (J x2)]) rfl ?_
    refine R_zif0 (x := x2) rfl r2 (fun c_3 => ?_) (fun c_3 => ?_)
    · have k := k.1 c_3
      refine R_ps 2 (pc2 := 52) (L2 := [some (vr (some w)), some (vr (some a1)), some (vi (J x2)), some (vi (J x3)), some (vi (J x4)), some (vr (some a5)), some (vi (J x6)), none]) (st2 := [vi (J x6), vr (some a5)]) rfl ?_
      refine R_zcI (as := [vr (some a5), vi (J x6)]) rfl rfl ⟨Nat.le_of_ble_eq_true rfl, Nat.le_of_ble_eq_true rfl, rfl, (Or.inr ⟨_, rfl, t0⟩)⟩ rfl rfl k (fun x_6 h_5 r_7 k => ?_)
      refine R_ps 4 (pc2 := 62) (L2 := [some (vr (some w)), some (vr (some a1)), some (vi (J x2)), some (vi (J x3)), some (vi (J x4)), some (vr (some a5)), some (vi (J x6)), some (vi (J x_6))]) (st2 := [vi (J x6), vr (some a5), vr (some w)]) rfl ?_
      refine R_zcI (as := [vr (some a5), vi (J x6)]) rfl rfl ⟨Nat.le_of_ble_eq_true rfl, Nat.le_of_ble_eq_true rfl, rfl, (Or.inr ⟨_, rfl, t0⟩)⟩ rfl rfl k (fun x_10 h_9 r_11 k => ?_)
      refine R_ps 3 (pc2 := 70) (L2 := [some (vr (some w)), some (vr (some a1)), some (vi (J x2)), some (vi (J x3)), some (vi (J x4)), some (vr (some a5)), some (vi (J x6)), some (vi (J x_6))]) (st2 := [vi (J x6), vr (some a5), vr (some w), vi (J x_10), vr (some w)]) rfl ?_
      refine R_zcI (as := [vr (some a5), vi (J x6)]) rfl rfl ⟨Nat.le_of_ble_eq_true rfl, Nat.le_of_ble_eq_true rfl, rfl, (Or.inr ⟨_, rfl, t0⟩)⟩ rfl rfl k (fun x_14 h_13 r_15 k => ?_)
      refine R_zcI (as := [vr (some w), vi (J x_14)]) rfl rfl ⟨Nat.le_of_ble_eq_true rfl, Nat.le_of_ble_eq_true rfl, rfl, (Or.inr ⟨_, rfl, t1⟩)⟩ rfl rfl k (fun x_18 h_17 r_19 k => ?_)
      refine R_ps 2 (pc2 := 79) (L2 := [some (vr (some w)), some (vr (some a1)), some (vi (J x2)), some (vi (J x3)), some (vi (J x4)), some (vr (some a5)), some (vi (J x6)), some (vi (J x_6))]) (st2 := [vi ((J x_18) + (J x_6)), vi (J x_10), vr (some w)]) rfl ?_
      rw [show ((J x_18) + (J x_6)) = J (x_18 + x_6) from J_add' rfl rfl]
      refine R_zcI (as := [vr (some w), vi (J x_10), vi (J (x_18 + x_6))]) rfl rfl ⟨Nat.le_of_ble_eq_true rfl, Nat.le_of_ble_eq_true rfl, rfl, (Or.inr ⟨_, rfl, t1⟩)⟩ rfl rfl k (fun x_22 h_21 r_23 k => ?_)
      refine R_zif0 (x := x_22) rfl r_23 (fun c_24 => ?_) (fun c_24 => ?_)
      · have k := k.1 c_24
        refine R_ps 2 (pc2 := 25) (L2 := [some (vr (some w)), some (vr (some a1)), some (vi (J x2)), some (vi (J x3)), some (vi (J x4)), some (vr (some a5)), some (vi ((J x6) + J 1)), some (vi (J x_6))]) (st2 := []) rfl ?_
        rw [show ((J x6) + J 1) = J (x6 + 1) from J_add' rfl rfl]
        exact R_drop k (LE_of (L := [some (vr (some w)), some (vr (some a1)), some (vi (J x2)), some (vi (J x3)), some (vi (J x4)), some (vr (some a5)), some (vi (J (x6 + 1))), none]) (L2 := [some (vr (some w)), some (vr (some a1)), some (vi (J x2)), some (vi (J x3)), some (vi (J x4)), some (vr (some a5)), some (vi (J (x6 + 1))), some (vi (J x_6))]) ⟨rfl, rfl, rfl, rfl, rfl, rfl, rfl, trivial⟩)
      · have k := k.2 c_24
        refine R_ps 4 (pc2 := 25) (L2 := [some (vr (some w)), some (vr (some a1)), some (vi (J x2)), some (vi (J 1)), some (vi (J x4)), some (vr (some a5)), some (vi ((J x6) + J 1)), some (vi (J x_6))]) (st2 := []) rfl ?_
        rw [show ((J x6) + J 1) = J (x6 + 1) from J_add' rfl rfl]
        exact R_drop k (LE_of (L := [some (vr (some w)), some (vr (some a1)), some (vi (J x2)), some (vi (J 1)), some (vi (J x4)), some (vr (some a5)), some (vi (J (x6 + 1))), none]) (L2 := [some (vr (some w)), some (vr (some a1)), some (vi (J x2)), some (vi (J 1)), some (vi (J x4)), some (vr (some a5)), some (vi (J (x6 + 1))), some (vi (J x_6))]) ⟨rfl, rfl, rfl, rfl, rfl, rfl, rfl, trivial⟩)
    · have k := k.2 c_3
      refine R_ps 1 (pc2 := 42) (L2 := [some (vr (some w)), some (vr (some a1)), some (vi (J x2)), some (vi (J x3)), some (vi (J x4)), some (vr (some a5)), some (vi (J x6)), none]) (st2 := [vr (some a5)]) rfl ?_
      refine R_zgetI (z := 2) rfl t0 rfl ?_
      refine R_ps 5 (pc2 := 62) (L2 := [some (vr (some w)), some (vr (some a1)), some (vi (J x2)), some (vi (J x3)), some (vi (J x4)), some (vr (some a5)), some (vi (J x6)), some (vi (J (ai h a5 2)))]) (st2 := [vi (J x6), vr (some a5), vr (some w)]) rfl ?_
      refine R_zcI (as := [vr (some a5), vi (J x6)]) rfl rfl ⟨Nat.le_of_ble_eq_true rfl, Nat.le_of_ble_eq_true rfl, rfl, (Or.inr ⟨_, rfl, t0⟩)⟩ rfl rfl k (fun x_28 h_27 r_29 k => ?_)
      refine R_ps 3 (pc2 := 70) (L2 := [some (vr (some w)), some (vr (some a1)), some (vi (J x2)), some (vi (J x3)), some (vi (J x4)), some (vr (some a5)), some (vi (J x6)), some (vi (J (ai h a5 2)))]) (st2 := [vi (J x6), vr (some a5), vr (some w), vi (J x_28), vr (some w)]) rfl ?_
      refine R_zcI (as := [vr (some a5), vi (J x6)]) rfl rfl ⟨Nat.le_of_ble_eq_true rfl, Nat.le_of_ble_eq_true rfl, rfl, (Or.inr ⟨_, rfl, t0⟩)⟩ rfl rfl k (fun x_32 h_31 r_33 k => ?_)
      refine R_zcI (as := [vr (some w), vi (J x_32)]) rfl rfl ⟨Nat.le_of_ble_eq_true rfl, Nat.le_of_ble_eq_true rfl, rfl, (Or.inr ⟨_, rfl, t1⟩)⟩ rfl rfl k (fun x_36 h_35 r_37 k => ?_)
      refine R_ps 2 (pc2 := 79) (L2 := [some (vr (some w)), some (vr (some a1)), some (vi (J x2)), some (vi (J x3)), some (vi (J x4)), some (vr (some a5)), some (vi (J x6)), some (vi (J (ai h a5 2)))]) (st2 := [vi ((J x_36) + (J (ai h a5 2))), vi (J x_28), vr (some w)]) rfl ?_
      rw [show ((J x_36) + (J (ai h a5 2))) = J (x_36 + (ai h a5 2)) from J_add' rfl rfl]
      refine R_zcI (as := [vr (some w), vi (J x_28), vi (J (x_36 + (ai h a5 2)))]) rfl rfl ⟨Nat.le_of_ble_eq_true rfl, Nat.le_of_ble_eq_true rfl, rfl, (Or.inr ⟨_, rfl, t1⟩)⟩ rfl rfl k (fun x_40 h_39 r_41 k => ?_)
      refine R_zif0 (x := x_40) rfl r_41 (fun c_42 => ?_) (fun c_42 => ?_)
      · have k := k.1 c_42
        refine R_ps 2 (pc2 := 25) (L2 := [some (vr (some w)), some (vr (some a1)), some (vi (J x2)), some (vi (J x3)), some (vi (J x4)), some (vr (some a5)), some (vi ((J x6) + J 1)), some (vi (J (ai h a5 2)))]) (st2 := []) rfl ?_
        rw [show ((J x6) + J 1) = J (x6 + 1) from J_add' rfl rfl]
        exact R_drop k (LE_of (L := [some (vr (some w)), some (vr (some a1)), some (vi (J x2)), some (vi (J x3)), some (vi (J x4)), some (vr (some a5)), some (vi (J (x6 + 1))), none]) (L2 := [some (vr (some w)), some (vr (some a1)), some (vi (J x2)), some (vi (J x3)), some (vi (J x4)), some (vr (some a5)), some (vi (J (x6 + 1))), some (vi (J (ai h a5 2)))]) ⟨rfl, rfl, rfl, rfl, rfl, rfl, rfl, trivial⟩)
      · have k := k.2 c_42
        refine R_ps 4 (pc2 := 25) (L2 := [some (vr (some w)), some (vr (some a1)), some (vi (J x2)), some (vi (J 1)), some (vi (J x4)), some (vr (some a5)), some (vi ((J x6) + J 1)), some (vi (J (ai h a5 2)))]) (st2 := []) rfl ?_
        rw [show ((J x6) + J 1) = J (x6 + 1) from J_add' rfl rfl]
        exact R_drop k (LE_of (L := [some (vr (some w)), some (vr (some a1)), some (vi (J x2)), some (vi (J 1)), some (vi (J x4)), some (vr (some a5)), some (vi (J (x6 + 1))), none]) (L2 := [some (vr (some w)), some (vr (some a1)), some (vi (J x2)), some (vi (J 1)), some (vi (J x4)), some (vr (some a5)), some (vi (J (x6 + 1))), some (vi (J (ai h a5 2)))]) ⟨rfl, rfl, rfl, rfl, rfl, rfl, rfl, trivial⟩)
/-- DroneCorridors$Ways.shorten -/
theorem z81 {T N : Nat → Nat} {h : PH} {w : Nat} {x1 : Int} {x2 : Int} {K : Int → PH → Prop} (t0 : T w = 9) (r1 : In x1) (r2 : In x2) (k : (((x1 < 0 → (K 0 h)) ∧ (¬ (x1 < 0) → (∃ a_5, (gr h w 0) = some a_5 ∧ 21 ≤ T a_5 ∧ In (N a_5 : Int) ∧ ((x1 < (N a_5 : Int) → (∃ a_13, (gr h w 0) = some a_13 ∧ T a_13 = 22 ∧ (0 ≤ x1 ∧ x1 < (N a_13 : Int) ∧ x1 < 2147483648) ∧ ((x2 < (ai h a_13 x1) → (∃ a_20, (gr h w 0) = some a_20 ∧ T a_20 = 22 ∧ (0 ≤ x1 ∧ x1 < (N a_20 : Int) ∧ x1 < 2147483648) ∧ ∀ h_22, h_22 = wi h a_20 x1 x2 → K 1 h_22)) ∧ (¬ (x2 < (ai h a_13 x1)) → (K 0 h))))) ∧ (¬ (x1 < (N a_5 : Int)) → (K 0 h)))))))) : ZI T N 81 [vr (some w), vi (J x1), vi (J x2)] h K := by
  show WP T N 81 0 [some (vr (some w)), some (vi (J x1)), some (vi (J x2))] [] h _
  refine R_ps 1 (pc2 := 1) (L2 := [some (vr (some w)), some (vi (J x1)), some (vi (J x2))]) (st2 := [vi (J x1)]) rfl ?_
  refine R_zif0 (x := x1) rfl r1 (fun c_1 => ?_) (fun c_1 => ?_)
  · have k := k.1 c_1
    refine R_ps 1 (pc2 := 24) (L2 := [some (vr (some w)), some (vi (J x1)), some (vi (J x2))]) (st2 := [vi (J 0)]) rfl ?_
    exact R_zzret (x := 0) rfl rfl (Or.inl rfl) (R_zr (x := 0) (K := K) (by decide) k)
  · have k := k.2 c_1
    refine R_ps 2 (pc2 := 6) (L2 := [some (vr (some w)), some (vi (J x1)), some (vi (J x2))]) (st2 := [vr (some w), vi (J x1)]) rfl ?_
    refine R_getR rfl t0 ?_
    obtain ⟨a_5, e_6, k⟩ := k
    rw [e_6]
    obtain ⟨t_7, k⟩ := k
    refine R_zalen rfl t_7 ?_
    obtain ⟨t_9, k⟩ := k
    refine R_zif (x := x1) (z := (N a_5 : Int)) rfl r1 t_9 (fun c_8 => ?_) (fun c_8 => ?_)
    · have k := k.2 c_8
      refine R_ps 1 (pc2 := 24) (L2 := [some (vr (some w)), some (vi (J x1)), some (vi (J x2))]) (st2 := [vi (J 0)]) rfl ?_
      exact R_zzret (x := 0) rfl rfl (Or.inl rfl) (R_zr (x := 0) (K := K) (by decide) k)
    · have k := k.1 (Classical.not_not.mp c_8)
      refine R_ps 2 (pc2 := 15) (L2 := [some (vr (some w)), some (vi (J x1)), some (vi (J x2))]) (st2 := [vr (some w), vi (J x2)]) rfl ?_
      refine R_getR rfl t0 ?_
      refine R_ps 1 (pc2 := 19) (L2 := [some (vr (some w)), some (vi (J x1)), some (vi (J x2))]) (st2 := [vi (J x1), vr (gr h w 0), vi (J x2)]) rfl ?_
      obtain ⟨a_13, e_14, k⟩ := k
      rw [e_14]
      obtain ⟨t_15, k⟩ := k
      obtain ⟨t_16, k⟩ := k
      refine R_ziald (i := x1) rfl (Or.inl t_15) t_16 ?_
      refine R_zif (x := x2) (z := ai h a_13 x1) rfl r2 (ai_in _ _ _) (fun c_17 => ?_) (fun c_17 => ?_)
      · have k := k.1 c_17
        refine R_ps 1 (pc2 := 26) (L2 := [some (vr (some w)), some (vi (J x1)), some (vi (J x2))]) (st2 := [vr (some w)]) rfl ?_
        refine R_getR rfl t0 ?_
        refine R_ps 2 (pc2 := 31) (L2 := [some (vr (some w)), some (vi (J x1)), some (vi (J x2))]) (st2 := [vi (J x2), vi (J x1), vr (gr h w 0)]) rfl ?_
        obtain ⟨a_20, e_21, k⟩ := k
        rw [e_21]
        obtain ⟨t_24, k⟩ := k
        obtain ⟨t_25, k⟩ := k
        refine R_ziast (i := x1) (x := x2) rfl t_24 t_25  ?_
        show WP T N _ _ _ _ (wi h a_20 x1 x2) _
        generalize e_23 : wi h a_20 x1 x2 = h_22
        replace k := k h_22 e_23.symm
        refine R_ps 1 (pc2 := 33) (L2 := [some (vr (some w)), some (vi (J x1)), some (vi (J x2))]) (st2 := [vi (J 1)]) rfl ?_
        exact R_zzret (x := 1) rfl rfl (Or.inr rfl) (R_zr (x := 1) (K := K) (by decide) k)
      · have k := k.2 c_17
        refine R_ps 1 (pc2 := 24) (L2 := [some (vr (some w)), some (vi (J x1)), some (vi (J x2))]) (st2 := [vi (J 0)]) rfl ?_
        exact R_zzret (x := 0) rfl rfl (Or.inl rfl) (R_zr (x := 0) (K := K) (by decide) k)
/-- DroneCorridors$World.<init> -/
theorem z82 {T N : Nat → Nat} {h : PH} {w : Nat} {K : PH → Prop} (t0 : T w = 10) (k : ((T (nx h) = 32 ∧ 16 = (N (nx h) : Int) ∧ N (nx h) ≤ 65536) ∧ ∀ a_3 h_4, a_3 = nx h → h_4 = grow h (N (nx h)) → ∀ h_9, h_9 = sr h_4 w 6 (some a_3) → (T (nx h_9) = 34 ∧ 10 = (N (nx h_9) : Int) ∧ N (nx h_9) ≤ 65536) ∧ ∀ a_12 h_13, a_12 = nx h_9 → h_13 = grow h_9 (N (nx h_9)) → ∀ h_18, h_18 = sr h_13 w 7 (some a_12) → (T (nx h_18) = 33 ∧ 6 = (N (nx h_18) : Int) ∧ N (nx h_18) ≤ 65536) ∧ ∀ a_21 h_22, a_21 = nx h_18 → h_22 = grow h_18 (N (nx h_18)) → ∀ h_27, h_27 = sr h_22 w 8 (some a_21) → WV T N 82 33 [some (vr (some w)), some (vi (J 0))] [] h_27 K)) : CV T N 82 [vr (some w)] h K := by
  show WP T N 82 0 [some (vr (some w)), none] [] h _
  refine R_ps 1 (pc2 := 1) (L2 := [some (vr (some w)), none]) (st2 := [vr (some w)]) rfl ?_
  refine R_jdk (st2 := []) rfl rfl rfl rfl rfl rfl rfl rfl ?_
  refine R_ps 2 (pc2 := 7) (L2 := [some (vr (some w)), none]) (st2 := [vi (J 16), vr (some w)]) rfl ?_
  obtain ⟨t_7, k⟩ := k
  refine R_zanew (n := 16) rfl t_7 ?_
  generalize e_6 : grow h (N (nx h)) = h_4
  generalize e_5 : nx h = a_3
  replace k := k a_3 h_4 e_5.symm e_6.symm
  refine R_putR rfl t0 ?_
  show WP T N _ _ _ _ (sr h_4 w 6 (some a_3)) _
  generalize e_10 : sr h_4 w 6 (some a_3) = h_9
  replace k := k h_9 e_10.symm
  refine R_ps 2 (pc2 := 16) (L2 := [some (vr (some w)), none]) (st2 := [vi (J 10), vr (some w)]) rfl ?_
  obtain ⟨t_16, k⟩ := k
  refine R_zanew (n := 10) rfl t_16 ?_
  generalize e_15 : grow h_9 (N (nx h_9)) = h_13
  generalize e_14 : nx h_9 = a_12
  replace k := k a_12 h_13 e_14.symm e_15.symm
  refine R_putR rfl t0 ?_
  show WP T N _ _ _ _ (sr h_13 w 7 (some a_12)) _
  generalize e_19 : sr h_13 w 7 (some a_12) = h_18
  replace k := k h_18 e_19.symm
  refine R_ps 2 (pc2 := 25) (L2 := [some (vr (some w)), none]) (st2 := [vi (J 6), vr (some w)]) rfl ?_
  obtain ⟨t_25, k⟩ := k
  refine R_zanew (n := 6) rfl t_25 ?_
  generalize e_24 : grow h_18 (N (nx h_18)) = h_22
  generalize e_23 : nx h_18 = a_21
  replace k := k a_21 h_22 e_23.symm e_24.symm
  refine R_putR rfl t0 ?_
  show WP T N _ _ _ _ (sr h_22 w 8 (some a_21)) _
  generalize e_28 : sr h_22 w 8 (some a_21) = h_27
  replace k := k h_27 e_28.symm
  refine R_ps 2 (pc2 := 33) (L2 := [some (vr (some w)), some (vi (J 0))]) (st2 := []) rfl ?_
  exact k
theorem z82_33 {T N : Nat → Nat} {h : PH} {w : Nat} {x1 : Int} {K : PH → Prop} (t0 : T w = 10) (r1 : In x1) (k : (∃ a_3, (gr h w 6) = some a_3 ∧ 21 ≤ T a_3 ∧ In (N a_3 : Int) ∧ ((x1 < (N a_3 : Int) → (T (nx h) = 2 ∧ ∀ a_10 h_11, a_10 = nx h → h_11 = grow h 4 → CV T N 9 [vr (some a_10)] h_11 (fun h_16 => (∃ a_19, (gr h w 6) = some a_19 ∧ (1 ≤ T a_10 ∧ T a_10 ≤ 12 ∧ T a_10 + 30 = T a_19) ∧ (0 ≤ x1 ∧ x1 < (N a_19 : Int) ∧ x1 < 2147483648) ∧ ∀ h_21, h_21 = sr h_16 a_19 (Int.toNat x1) (some a_10) → WV T N 82 33 [some (vr (some w)), some (vi (J (x1 + 1)))] [] h_21 K)))) ∧ (¬ (x1 < (N a_3 : Int)) → (WV T N 82 63 [some (vr (some w)), some (vi (J 0))] [] h K))))) : WV T N 82 33 [some (vr (some w)), some (vi (J x1))] [] h K := by
  show WP T N 82 33 [some (vr (some w)), some (vi (J x1))] [] h _
  refine R_ps 2 (pc2 := 35) (L2 := [some (vr (some w)), some (vi (J x1))]) (st2 := [vr (some w), vi (J x1)]) rfl ?_
  refine R_getR rfl t0 ?_
  obtain ⟨a_3, e_4, k⟩ := k
  rw [e_4]
  obtain ⟨t_5, k⟩ := k
  refine R_zalen rfl t_5 ?_
  obtain ⟨t_7, k⟩ := k
  refine R_zif (x := x1) (z := (N a_3 : Int)) rfl r1 t_7 (fun c_6 => ?_) (fun c_6 => ?_)
  · have k := k.2 c_6
    refine R_ps 2 (pc2 := 63) (L2 := [some (vr (some w)), some (vi (J 0))]) (st2 := []) rfl ?_
    exact k
  · have k := k.1 (Classical.not_not.mp c_6)
    refine R_ps 1 (pc2 := 43) (L2 := [some (vr (some w)), some (vi (J x1))]) (st2 := [vr (some w)]) rfl ?_
    refine R_getR rfl t0 ?_
    refine R_ps 1 (pc2 := 47) (L2 := [some (vr (some w)), some (vi (J x1))]) (st2 := [vi (J x1), vr (gr h w 6)]) rfl ?_
    obtain ⟨t_14, k⟩ := k
    refine R_new rfl ⟨by decide, t_14⟩ ?_
    show WP T N _ _ _ _ (grow h 4) _
    generalize e_12 : nx h = a_10
    generalize e_13 : grow h 4 = h_11
    replace k := k a_10 h_11 e_12.symm e_13.symm
    refine R_ps 1 (pc2 := 51) (L2 := [some (vr (some w)), some (vi (J x1))]) (st2 := [vr (some a_10), vr (some a_10), vi (J x1), vr (gr h w 6)]) rfl ?_
    refine R_cV (as := [vr (some a_10)]) rfl rfl ⟨Nat.le_of_ble_eq_true rfl, Nat.le_of_ble_eq_true rfl, rfl, (Or.inr ⟨_, rfl, (e_12 ▸ t_14)⟩)⟩ rfl rfl k (fun h_16 k => ?_)
    obtain ⟨a_19, e_20, k⟩ := k
    rw [e_20]
    obtain ⟨t_23, k⟩ := k
    obtain ⟨t_24, k⟩ := k
    refine R_zaast (i := x1) rfl t_23 t_24  ?_
    show WP T N _ _ _ _ (sr h_16 a_19 (Int.toNat x1) (some a_10)) _
    generalize e_22 : sr h_16 a_19 (Int.toNat x1) (some a_10) = h_21
    replace k := k h_21 e_22.symm
    refine R_ps 2 (pc2 := 33) (L2 := [some (vr (some w)), some (vi ((J x1) + J 1))]) (st2 := []) rfl ?_
    rw [show ((J x1) + J 1) = J (x1 + 1) from J_add' rfl rfl]
    exact k
theorem z82_63 {T N : Nat → Nat} {h : PH} {w : Nat} {x1 : Int} {K : PH → Prop} (t0 : T w = 10) (r1 : In x1) (k : (∃ a_3, (gr h w 7) = some a_3 ∧ 21 ≤ T a_3 ∧ In (N a_3 : Int) ∧ ((x1 < (N a_3 : Int) → (T (nx h) = 4 ∧ ∀ a_10 h_11, a_10 = nx h → h_11 = grow h 4 → CV T N 36 [vr (some a_10)] h_11 (fun h_16 => (∃ a_19, (gr h w 7) = some a_19 ∧ (1 ≤ T a_10 ∧ T a_10 ≤ 12 ∧ T a_10 + 30 = T a_19) ∧ (0 ≤ x1 ∧ x1 < (N a_19 : Int) ∧ x1 < 2147483648) ∧ ∀ h_21, h_21 = sr h_16 a_19 (Int.toNat x1) (some a_10) → WV T N 82 63 [some (vr (some w)), some (vi (J (x1 + 1)))] [] h_21 K)))) ∧ (¬ (x1 < (N a_3 : Int)) → (WV T N 82 93 [some (vr (some w)), some (vi (J 0))] [] h K))))) : WV T N 82 63 [some (vr (some w)), some (vi (J x1))] [] h K := by
  show WP T N 82 63 [some (vr (some w)), some (vi (J x1))] [] h _
  refine R_ps 2 (pc2 := 65) (L2 := [some (vr (some w)), some (vi (J x1))]) (st2 := [vr (some w), vi (J x1)]) rfl ?_
  refine R_getR rfl t0 ?_
  obtain ⟨a_3, e_4, k⟩ := k
  rw [e_4]
  obtain ⟨t_5, k⟩ := k
  refine R_zalen rfl t_5 ?_
  obtain ⟨t_7, k⟩ := k
  refine R_zif (x := x1) (z := (N a_3 : Int)) rfl r1 t_7 (fun c_6 => ?_) (fun c_6 => ?_)
  · have k := k.2 c_6
    refine R_ps 2 (pc2 := 93) (L2 := [some (vr (some w)), some (vi (J 0))]) (st2 := []) rfl ?_
    exact k
  · have k := k.1 (Classical.not_not.mp c_6)
    refine R_ps 1 (pc2 := 73) (L2 := [some (vr (some w)), some (vi (J x1))]) (st2 := [vr (some w)]) rfl ?_
    refine R_getR rfl t0 ?_
    refine R_ps 1 (pc2 := 77) (L2 := [some (vr (some w)), some (vi (J x1))]) (st2 := [vi (J x1), vr (gr h w 7)]) rfl ?_
    obtain ⟨t_14, k⟩ := k
    refine R_new rfl ⟨by decide, t_14⟩ ?_
    show WP T N _ _ _ _ (grow h 4) _
    generalize e_12 : nx h = a_10
    generalize e_13 : grow h 4 = h_11
    replace k := k a_10 h_11 e_12.symm e_13.symm
    refine R_ps 1 (pc2 := 81) (L2 := [some (vr (some w)), some (vi (J x1))]) (st2 := [vr (some a_10), vr (some a_10), vi (J x1), vr (gr h w 7)]) rfl ?_
    refine R_cV (as := [vr (some a_10)]) rfl rfl ⟨Nat.le_of_ble_eq_true rfl, Nat.le_of_ble_eq_true rfl, rfl, (Or.inr ⟨_, rfl, (e_12 ▸ t_14)⟩)⟩ rfl rfl k (fun h_16 k => ?_)
    obtain ⟨a_19, e_20, k⟩ := k
    rw [e_20]
    obtain ⟨t_23, k⟩ := k
    obtain ⟨t_24, k⟩ := k
    refine R_zaast (i := x1) rfl t_23 t_24  ?_
    show WP T N _ _ _ _ (sr h_16 a_19 (Int.toNat x1) (some a_10)) _
    generalize e_22 : sr h_16 a_19 (Int.toNat x1) (some a_10) = h_21
    replace k := k h_21 e_22.symm
    refine R_ps 2 (pc2 := 63) (L2 := [some (vr (some w)), some (vi ((J x1) + J 1))]) (st2 := []) rfl ?_
    rw [show ((J x1) + J 1) = J (x1 + 1) from J_add' rfl rfl]
    exact k
theorem z82_93 {T N : Nat → Nat} {h : PH} {w : Nat} {x1 : Int} {K : PH → Prop} (t0 : T w = 10) (r1 : In x1) (k : (∃ a_3, (gr h w 8) = some a_3 ∧ 21 ≤ T a_3 ∧ In (N a_3 : Int) ∧ ((x1 < (N a_3 : Int) → (T (nx h) = 3 ∧ ∀ a_11 h_12, a_11 = nx h → h_12 = grow h 10 → CV T N 14 [vr (some a_11)] h_12 (fun h_17 => (∃ a_20, (gr h w 8) = some a_20 ∧ (1 ≤ T a_11 ∧ T a_11 ≤ 12 ∧ T a_11 + 30 = T a_20) ∧ (0 ≤ x1 ∧ x1 < (N a_20 : Int) ∧ x1 < 2147483648) ∧ ∀ h_22, h_22 = sr h_17 a_20 (Int.toNat x1) (some a_11) → WV T N 82 93 [some (vr (some w)), some (vi (J (x1 + 1)))] [] h_22 K)))) ∧ (¬ (x1 < (N a_3 : Int)) → (K h))))) : WV T N 82 93 [some (vr (some w)), some (vi (J x1))] [] h K := by
  show WP T N 82 93 [some (vr (some w)), some (vi (J x1))] [] h _
  refine R_ps 2 (pc2 := 95) (L2 := [some (vr (some w)), some (vi (J x1))]) (st2 := [vr (some w), vi (J x1)]) rfl ?_
  refine R_getR rfl t0 ?_
  obtain ⟨a_3, e_4, k⟩ := k
  rw [e_4]
  obtain ⟨t_5, k⟩ := k
  refine R_zalen rfl t_5 ?_
  obtain ⟨t_7, k⟩ := k
  refine R_zif (x := x1) (z := (N a_3 : Int)) rfl r1 t_7 (fun c_6 => ?_) (fun c_6 => ?_)
  · have k := k.2 c_6
    exact R_ret rfl rfl ⟨rfl, k⟩
  · have k := k.1 (Classical.not_not.mp c_6)
    refine R_ps 1 (pc2 := 103) (L2 := [some (vr (some w)), some (vi (J x1))]) (st2 := [vr (some w)]) rfl ?_
    refine R_getR rfl t0 ?_
    refine R_ps 1 (pc2 := 107) (L2 := [some (vr (some w)), some (vi (J x1))]) (st2 := [vi (J x1), vr (gr h w 8)]) rfl ?_
    obtain ⟨t_15, k⟩ := k
    refine R_new rfl ⟨by decide, t_15⟩ ?_
    show WP T N _ _ _ _ (grow h 10) _
    generalize e_13 : nx h = a_11
    generalize e_14 : grow h 10 = h_12
    replace k := k a_11 h_12 e_13.symm e_14.symm
    refine R_ps 1 (pc2 := 111) (L2 := [some (vr (some w)), some (vi (J x1))]) (st2 := [vr (some a_11), vr (some a_11), vi (J x1), vr (gr h w 8)]) rfl ?_
    refine R_cV (as := [vr (some a_11)]) rfl rfl ⟨Nat.le_of_ble_eq_true rfl, Nat.le_of_ble_eq_true rfl, rfl, (Or.inr ⟨_, rfl, (e_13 ▸ t_15)⟩)⟩ rfl rfl k (fun h_17 k => ?_)
    obtain ⟨a_20, e_21, k⟩ := k
    rw [e_21]
    obtain ⟨t_24, k⟩ := k
    obtain ⟨t_25, k⟩ := k
    refine R_zaast (i := x1) rfl t_24 t_25  ?_
    show WP T N _ _ _ _ (sr h_17 a_20 (Int.toNat x1) (some a_11)) _
    generalize e_23 : sr h_17 a_20 (Int.toNat x1) (some a_11) = h_22
    replace k := k h_22 e_23.symm
    refine R_ps 2 (pc2 := 93) (L2 := [some (vr (some w)), some (vi ((J x1) + J 1))]) (st2 := []) rfl ?_
    rw [show ((J x1) + J 1) = J (x1 + 1) from J_add' rfl rfl]
    exact k
/-- DroneCorridors$World.empty -/
theorem z83 {T N : Nat → Nat} {h : PH} {w : Nat} {K : PH → Prop} (t0 : T w = 10) (k : (∀ h_2, h_2 = wi h w 0 0 → ∀ h_5, h_5 = wi h_2 w 1 0 → ∀ h_8, h_8 = wi h_5 w 2 0 → ∀ h_11, h_11 = wi h_8 w 3 0 → ∀ h_14, h_14 = wi h_11 w 4 0 → ∀ h_17, h_17 = wi h_14 w 5 0 → K h_17)) : CV T N 83 [vr (some w)] h K := by
  show WP T N 83 0 [some (vr (some w))] [] h _
  refine R_ps 2 (pc2 := 2) (L2 := [some (vr (some w))]) (st2 := [vi (J 0), vr (some w)]) rfl ?_
  refine R_zputI (x := 0) (z := 0) rfl t0 rfl ?_
  show WP T N _ _ _ _ (wi h w 0 0) _
  generalize e_3 : wi h w 0 0 = h_2
  replace k := k h_2 e_3.symm
  refine R_ps 2 (pc2 := 7) (L2 := [some (vr (some w))]) (st2 := [vi (J 0), vr (some w)]) rfl ?_
  refine R_zputI (x := 0) (z := 1) rfl t0 rfl ?_
  show WP T N _ _ _ _ (wi h_2 w 1 0) _
  generalize e_6 : wi h_2 w 1 0 = h_5
  replace k := k h_5 e_6.symm
  refine R_ps 2 (pc2 := 12) (L2 := [some (vr (some w))]) (st2 := [vi (J 0), vr (some w)]) rfl ?_
  refine R_zputI (x := 0) (z := 2) rfl t0 rfl ?_
  show WP T N _ _ _ _ (wi h_5 w 2 0) _
  generalize e_9 : wi h_5 w 2 0 = h_8
  replace k := k h_8 e_9.symm
  refine R_ps 2 (pc2 := 17) (L2 := [some (vr (some w))]) (st2 := [vi (J 0), vr (some w)]) rfl ?_
  refine R_zputI (x := 0) (z := 3) rfl t0 rfl ?_
  show WP T N _ _ _ _ (wi h_8 w 3 0) _
  generalize e_12 : wi h_8 w 3 0 = h_11
  replace k := k h_11 e_12.symm
  refine R_ps 2 (pc2 := 22) (L2 := [some (vr (some w))]) (st2 := [vi (J 0), vr (some w)]) rfl ?_
  refine R_zputI (x := 0) (z := 4) rfl t0 rfl ?_
  show WP T N _ _ _ _ (wi h_11 w 4 0) _
  generalize e_15 : wi h_11 w 4 0 = h_14
  replace k := k h_14 e_15.symm
  refine R_ps 2 (pc2 := 27) (L2 := [some (vr (some w))]) (st2 := [vi (J 0), vr (some w)]) rfl ?_
  refine R_zputI (x := 0) (z := 5) rfl t0 rfl ?_
  show WP T N _ _ _ _ (wi h_14 w 5 0) _
  generalize e_18 : wi h_14 w 5 0 = h_17
  replace k := k h_17 e_18.symm
  exact R_ret rfl rfl ⟨rfl, k⟩
/-- DroneCorridors$World.copy -/
theorem z84 {T N : Nat → Nat} {h : PH} {w : Nat} {a1 : Nat} {K : PH → Prop} (t0 : T a1 = 10) (t1 : T w = 10) (k : (∀ h_3, h_3 = wi h w 0 (ai h a1 0) → ∀ h_7, h_7 = wi h_3 w 1 (ai h_3 a1 1) → ∀ h_11, h_11 = wi h_7 w 2 (ai h_7 a1 2) → CV T N 85 [vr (some w), vr (some a1)] h_11 (fun h_14 => (CV T N 86 [vr (some w), vr (some a1)] h_14 (fun h_17 => (CV T N 87 [vr (some w), vr (some a1)] h_17 (fun h_20 => (K h_20)))))))) : CV T N 84 [vr (some w), vr (some a1)] h K := by
  show WP T N 84 0 [some (vr (some w)), some (vr (some a1))] [] h _
  refine R_ps 2 (pc2 := 2) (L2 := [some (vr (some w)), some (vr (some a1))]) (st2 := [vr (some a1), vr (some w)]) rfl ?_
  refine R_zgetI (z := 0) rfl t0 rfl ?_
  refine R_zputI (x := ai h a1 0) (z := 0) rfl t1 rfl ?_
  show WP T N _ _ _ _ (wi h w 0 (ai h a1 0)) _
  generalize e_4 : wi h w 0 (ai h a1 0) = h_3
  replace k := k h_3 e_4.symm
  refine R_ps 2 (pc2 := 10) (L2 := [some (vr (some w)), some (vr (some a1))]) (st2 := [vr (some a1), vr (some w)]) rfl ?_
  refine R_zgetI (z := 1) rfl t0 rfl ?_
  refine R_zputI (x := ai h_3 a1 1) (z := 1) rfl t1 rfl ?_
  show WP T N _ _ _ _ (wi h_3 w 1 (ai h_3 a1 1)) _
  generalize e_8 : wi h_3 w 1 (ai h_3 a1 1) = h_7
  replace k := k h_7 e_8.symm
  refine R_ps 2 (pc2 := 18) (L2 := [some (vr (some w)), some (vr (some a1))]) (st2 := [vr (some a1), vr (some w)]) rfl ?_
  refine R_zgetI (z := 2) rfl t0 rfl ?_
  refine R_zputI (x := ai h_7 a1 2) (z := 2) rfl t1 rfl ?_
  show WP T N _ _ _ _ (wi h_7 w 2 (ai h_7 a1 2)) _
  generalize e_12 : wi h_7 w 2 (ai h_7 a1 2) = h_11
  replace k := k h_11 e_12.symm
  refine R_ps 2 (pc2 := 26) (L2 := [some (vr (some w)), some (vr (some a1))]) (st2 := [vr (some a1), vr (some w)]) rfl ?_
  refine R_cV (as := [vr (some w), vr (some a1)]) rfl rfl ⟨Nat.le_of_ble_eq_true rfl, Nat.le_of_ble_eq_true rfl, rfl, (Or.inr ⟨_, rfl, t1⟩)⟩ rfl rfl k (fun h_14 k => ?_)
  refine R_ps 2 (pc2 := 31) (L2 := [some (vr (some w)), some (vr (some a1))]) (st2 := [vr (some a1), vr (some w)]) rfl ?_
  refine R_cV (as := [vr (some w), vr (some a1)]) rfl rfl ⟨Nat.le_of_ble_eq_true rfl, Nat.le_of_ble_eq_true rfl, rfl, (Or.inr ⟨_, rfl, t1⟩)⟩ rfl rfl k (fun h_17 k => ?_)
  refine R_ps 2 (pc2 := 36) (L2 := [some (vr (some w)), some (vr (some a1))]) (st2 := [vr (some a1), vr (some w)]) rfl ?_
  refine R_cV (as := [vr (some w), vr (some a1)]) rfl rfl ⟨Nat.le_of_ble_eq_true rfl, Nat.le_of_ble_eq_true rfl, rfl, (Or.inr ⟨_, rfl, t1⟩)⟩ rfl rfl k (fun h_20 k => ?_)
  exact R_ret rfl rfl ⟨rfl, k⟩
/-- DroneCorridors$World.copyCorridors -/
theorem z85 {T N : Nat → Nat} {h : PH} {w : Nat} {a1 : Nat} {K : PH → Prop} (t0 : T a1 = 10) (t1 : T w = 10) (k : (∀ h_3, h_3 = wi h w 3 (ai h a1 3) → WV T N 85 10 [some (vr (some w)), some (vr (some a1)), some (vi (J 0)), none, none] [] h_3 K)) : CV T N 85 [vr (some w), vr (some a1)] h K := by
  show WP T N 85 0 [some (vr (some w)), some (vr (some a1)), none, none, none] [] h _
  refine R_ps 2 (pc2 := 2) (L2 := [some (vr (some w)), some (vr (some a1)), none, none, none]) (st2 := [vr (some a1), vr (some w)]) rfl ?_
  refine R_zgetI (z := 3) rfl t0 rfl ?_
  refine R_zputI (x := ai h a1 3) (z := 3) rfl t1 rfl ?_
  show WP T N _ _ _ _ (wi h w 3 (ai h a1 3)) _
  generalize e_4 : wi h w 3 (ai h a1 3) = h_3
  replace k := k h_3 e_4.symm
  refine R_ps 2 (pc2 := 10) (L2 := [some (vr (some w)), some (vr (some a1)), some (vi (J 0)), none, none]) (st2 := []) rfl ?_
  exact k
theorem z85_10 {T N : Nat → Nat} {h : PH} {w : Nat} {a1 : Nat} {x2 : Int} {K : PH → Prop} (t0 : T w = 10) (t1 : T a1 = 10) (r2 : In x2) (k : (((x2 < (ai h w 3) → (CR T N 89 [vr (some w), vi (J x2)] h (fun x_6 h_5 => (CR T N 89 [vr (some a1), vi (J x2)] h_5 (fun x_9 h_8 => (((x_6 = none → (WV T N 85 10 [some (vr (some w)), some (vr (some a1)), some (vi (J (x2 + 1))), none, none] [] h_8 K)) ∧ (∀ a_11, x_6 = some a_11 → (((x_9 = none → (WV T N 85 10 [some (vr (some w)), some (vr (some a1)), some (vi (J (x2 + 1))), none, none] [] h_8 K)) ∧ (∀ a_14, x_9 = some a_14 → (T a_11 = 2 ∧ CV T N 13 [vr (some a_11), vr (some a_14)] h_8 (fun h_18 => (WV T N 85 10 [some (vr (some w)), some (vr (some a1)), some (vi (J (x2 + 1))), none, none] [] h_18 K)))))))))))))) ∧ (¬ (x2 < (ai h w 3)) → (K h))))) : WV T N 85 10 [some (vr (some w)), some (vr (some a1)), some (vi (J x2)), none, none] [] h K := by
  show WP T N 85 10 [some (vr (some w)), some (vr (some a1)), some (vi (J x2)), none, none] [] h _
  refine R_ps 2 (pc2 := 12) (L2 := [some (vr (some w)), some (vr (some a1)), some (vi (J x2)), none, none]) (st2 := [vr (some w), vi (J x2)]) rfl ?_
  refine R_zgetI (z := 3) rfl t0 rfl ?_
  refine R_zif (x := x2) (z := ai h w 3) rfl r2 (ai_in _ _ _) (fun c_2 => ?_) (fun c_2 => ?_)
  · have k := k.2 c_2
    exact R_ret rfl rfl ⟨rfl, k⟩
  · have k := k.1 (Classical.not_not.mp c_2)
    refine R_ps 2 (pc2 := 20) (L2 := [some (vr (some w)), some (vr (some a1)), some (vi (J x2)), none, none]) (st2 := [vi (J x2), vr (some w)]) rfl ?_
    refine R_cR (as := [vr (some w), vi (J x2)]) rfl rfl ⟨Nat.le_of_ble_eq_true rfl, Nat.le_of_ble_eq_true rfl, rfl, (Or.inr ⟨_, rfl, t0⟩)⟩ rfl rfl k (fun x_6 h_5 k => ?_)
    refine R_ps 3 (pc2 := 26) (L2 := [some (vr (some w)), some (vr (some a1)), some (vi (J x2)), some (vr x_6), none]) (st2 := [vi (J x2), vr (some a1)]) rfl ?_
    refine R_cR (as := [vr (some a1), vi (J x2)]) rfl rfl ⟨Nat.le_of_ble_eq_true rfl, Nat.le_of_ble_eq_true rfl, rfl, (Or.inr ⟨_, rfl, t1⟩)⟩ rfl rfl k (fun x_9 h_8 k => ?_)
    refine R_ps 2 (pc2 := 32) (L2 := [some (vr (some w)), some (vr (some a1)), some (vi (J x2)), some (vr x_6), some (vr x_9)]) (st2 := [vr x_6]) rfl ?_
    rcases null_or (x_6) with e_12 | ⟨a_11, e_12⟩
    · have k := k.1 e_12
      rw [e_12]
      refine R_null rfl (fun _ => ?_) (fun _ c_10 => nomatch c_10)
      refine R_ps 2 (pc2 := 10) (L2 := [some (vr (some w)), some (vr (some a1)), some (vi ((J x2) + J 1)), some (vr none), some (vr x_9)]) (st2 := []) rfl ?_
      rw [show ((J x2) + J 1) = J (x2 + 1) from J_add' rfl rfl]
      exact R_drop k (LE_of (L := [some (vr (some w)), some (vr (some a1)), some (vi (J (x2 + 1))), none, none]) (L2 := [some (vr (some w)), some (vr (some a1)), some (vi (J (x2 + 1))), some (vr none), some (vr x_9)]) ⟨rfl, rfl, rfl, trivial⟩)
    · have k := k.2 a_11 e_12
      rw [e_12]
      refine R_null rfl (fun c_10 => nomatch c_10) (fun _ _ => ?_)
      refine R_ps 1 (pc2 := 37) (L2 := [some (vr (some w)), some (vr (some a1)), some (vi (J x2)), some (vr (some a_11)), some (vr x_9)]) (st2 := [vr x_9]) rfl ?_
      rcases null_or (x_9) with e_15 | ⟨a_14, e_15⟩
      · have k := k.1 e_15
        rw [e_15]
        refine R_null rfl (fun _ => ?_) (fun _ c_13 => nomatch c_13)
        refine R_ps 2 (pc2 := 10) (L2 := [some (vr (some w)), some (vr (some a1)), some (vi ((J x2) + J 1)), some (vr (some a_11)), some (vr none)]) (st2 := []) rfl ?_
        rw [show ((J x2) + J 1) = J (x2 + 1) from J_add' rfl rfl]
        exact R_drop k (LE_of (L := [some (vr (some w)), some (vr (some a1)), some (vi (J (x2 + 1))), none, none]) (L2 := [some (vr (some w)), some (vr (some a1)), some (vi (J (x2 + 1))), some (vr (some a_11)), some (vr none)]) ⟨rfl, rfl, rfl, trivial⟩)
      · have k := k.2 a_14 e_15
        rw [e_15]
        refine R_null rfl (fun c_13 => nomatch c_13) (fun _ _ => ?_)
        refine R_ps 2 (pc2 := 43) (L2 := [some (vr (some w)), some (vr (some a1)), some (vi (J x2)), some (vr (some a_11)), some (vr (some a_14))]) (st2 := [vr (some a_14), vr (some a_11)]) rfl ?_
        obtain ⟨t_17, k⟩ := k
        refine R_cV (as := [vr (some a_11), vr (some a_14)]) rfl rfl ⟨Nat.le_of_ble_eq_true rfl, Nat.le_of_ble_eq_true rfl, rfl, (Or.inr ⟨_, rfl, t_17⟩)⟩ rfl rfl k (fun h_18 k => ?_)
        refine R_ps 2 (pc2 := 10) (L2 := [some (vr (some w)), some (vr (some a1)), some (vi ((J x2) + J 1)), some (vr (some a_11)), some (vr (some a_14))]) (st2 := []) rfl ?_
        rw [show ((J x2) + J 1) = J (x2 + 1) from J_add' rfl rfl]
        exact R_drop k (LE_of (L := [some (vr (some w)), some (vr (some a1)), some (vi (J (x2 + 1))), none, none]) (L2 := [some (vr (some w)), some (vr (some a1)), some (vi (J (x2 + 1))), some (vr (some a_11)), some (vr (some a_14))]) ⟨rfl, rfl, rfl, trivial⟩)
/-- DroneCorridors$World.copyFences -/
theorem z86 {T N : Nat → Nat} {h : PH} {w : Nat} {a1 : Nat} {K : PH → Prop} (t0 : T a1 = 10) (t1 : T w = 10) (k : (∀ h_3, h_3 = wi h w 4 (ai h a1 4) → WV T N 86 10 [some (vr (some w)), some (vr (some a1)), some (vi (J 0)), none, none] [] h_3 K)) : CV T N 86 [vr (some w), vr (some a1)] h K := by
  show WP T N 86 0 [some (vr (some w)), some (vr (some a1)), none, none, none] [] h _
  refine R_ps 2 (pc2 := 2) (L2 := [some (vr (some w)), some (vr (some a1)), none, none, none]) (st2 := [vr (some a1), vr (some w)]) rfl ?_
  refine R_zgetI (z := 4) rfl t0 rfl ?_
  refine R_zputI (x := ai h a1 4) (z := 4) rfl t1 rfl ?_
  show WP T N _ _ _ _ (wi h w 4 (ai h a1 4)) _
  generalize e_4 : wi h w 4 (ai h a1 4) = h_3
  replace k := k h_3 e_4.symm
  refine R_ps 2 (pc2 := 10) (L2 := [some (vr (some w)), some (vr (some a1)), some (vi (J 0)), none, none]) (st2 := []) rfl ?_
  exact k
theorem z86_10 {T N : Nat → Nat} {h : PH} {w : Nat} {a1 : Nat} {x2 : Int} {K : PH → Prop} (t0 : T w = 10) (t1 : T a1 = 10) (r2 : In x2) (k : (((x2 < (ai h w 4) → (CR T N 90 [vr (some w), vi (J x2)] h (fun x_6 h_5 => (CR T N 90 [vr (some a1), vi (J x2)] h_5 (fun x_9 h_8 => (((x_6 = none → (WV T N 86 10 [some (vr (some w)), some (vr (some a1)), some (vi (J (x2 + 1))), none, none] [] h_8 K)) ∧ (∀ a_11, x_6 = some a_11 → (((x_9 = none → (WV T N 86 10 [some (vr (some w)), some (vr (some a1)), some (vi (J (x2 + 1))), none, none] [] h_8 K)) ∧ (∀ a_14, x_9 = some a_14 → (T a_11 = 4 ∧ CV T N 38 [vr (some a_11), vr (some a_14)] h_8 (fun h_18 => (WV T N 86 10 [some (vr (some w)), some (vr (some a1)), some (vi (J (x2 + 1))), none, none] [] h_18 K)))))))))))))) ∧ (¬ (x2 < (ai h w 4)) → (K h))))) : WV T N 86 10 [some (vr (some w)), some (vr (some a1)), some (vi (J x2)), none, none] [] h K := by
  show WP T N 86 10 [some (vr (some w)), some (vr (some a1)), some (vi (J x2)), none, none] [] h _
  refine R_ps 2 (pc2 := 12) (L2 := [some (vr (some w)), some (vr (some a1)), some (vi (J x2)), none, none]) (st2 := [vr (some w), vi (J x2)]) rfl ?_
  refine R_zgetI (z := 4) rfl t0 rfl ?_
  refine R_zif (x := x2) (z := ai h w 4) rfl r2 (ai_in _ _ _) (fun c_2 => ?_) (fun c_2 => ?_)
  · have k := k.2 c_2
    exact R_ret rfl rfl ⟨rfl, k⟩
  · have k := k.1 (Classical.not_not.mp c_2)
    refine R_ps 2 (pc2 := 20) (L2 := [some (vr (some w)), some (vr (some a1)), some (vi (J x2)), none, none]) (st2 := [vi (J x2), vr (some w)]) rfl ?_
    refine R_cR (as := [vr (some w), vi (J x2)]) rfl rfl ⟨Nat.le_of_ble_eq_true rfl, Nat.le_of_ble_eq_true rfl, rfl, (Or.inr ⟨_, rfl, t0⟩)⟩ rfl rfl k (fun x_6 h_5 k => ?_)
    refine R_ps 3 (pc2 := 26) (L2 := [some (vr (some w)), some (vr (some a1)), some (vi (J x2)), some (vr x_6), none]) (st2 := [vi (J x2), vr (some a1)]) rfl ?_
    refine R_cR (as := [vr (some a1), vi (J x2)]) rfl rfl ⟨Nat.le_of_ble_eq_true rfl, Nat.le_of_ble_eq_true rfl, rfl, (Or.inr ⟨_, rfl, t1⟩)⟩ rfl rfl k (fun x_9 h_8 k => ?_)
    refine R_ps 2 (pc2 := 32) (L2 := [some (vr (some w)), some (vr (some a1)), some (vi (J x2)), some (vr x_6), some (vr x_9)]) (st2 := [vr x_6]) rfl ?_
    rcases null_or (x_6) with e_12 | ⟨a_11, e_12⟩
    · have k := k.1 e_12
      rw [e_12]
      refine R_null rfl (fun _ => ?_) (fun _ c_10 => nomatch c_10)
      refine R_ps 2 (pc2 := 10) (L2 := [some (vr (some w)), some (vr (some a1)), some (vi ((J x2) + J 1)), some (vr none), some (vr x_9)]) (st2 := []) rfl ?_
      rw [show ((J x2) + J 1) = J (x2 + 1) from J_add' rfl rfl]
      exact R_drop k (LE_of (L := [some (vr (some w)), some (vr (some a1)), some (vi (J (x2 + 1))), none, none]) (L2 := [some (vr (some w)), some (vr (some a1)), some (vi (J (x2 + 1))), some (vr none), some (vr x_9)]) ⟨rfl, rfl, rfl, trivial⟩)
    · have k := k.2 a_11 e_12
      rw [e_12]
      refine R_null rfl (fun c_10 => nomatch c_10) (fun _ _ => ?_)
      refine R_ps 1 (pc2 := 37) (L2 := [some (vr (some w)), some (vr (some a1)), some (vi (J x2)), some (vr (some a_11)), some (vr x_9)]) (st2 := [vr x_9]) rfl ?_
      rcases null_or (x_9) with e_15 | ⟨a_14, e_15⟩
      · have k := k.1 e_15
        rw [e_15]
        refine R_null rfl (fun _ => ?_) (fun _ c_13 => nomatch c_13)
        refine R_ps 2 (pc2 := 10) (L2 := [some (vr (some w)), some (vr (some a1)), some (vi ((J x2) + J 1)), some (vr (some a_11)), some (vr none)]) (st2 := []) rfl ?_
        rw [show ((J x2) + J 1) = J (x2 + 1) from J_add' rfl rfl]
        exact R_drop k (LE_of (L := [some (vr (some w)), some (vr (some a1)), some (vi (J (x2 + 1))), none, none]) (L2 := [some (vr (some w)), some (vr (some a1)), some (vi (J (x2 + 1))), some (vr (some a_11)), some (vr none)]) ⟨rfl, rfl, rfl, trivial⟩)
      · have k := k.2 a_14 e_15
        rw [e_15]
        refine R_null rfl (fun c_13 => nomatch c_13) (fun _ _ => ?_)
        refine R_ps 2 (pc2 := 43) (L2 := [some (vr (some w)), some (vr (some a1)), some (vi (J x2)), some (vr (some a_11)), some (vr (some a_14))]) (st2 := [vr (some a_14), vr (some a_11)]) rfl ?_
        obtain ⟨t_17, k⟩ := k
        refine R_cV (as := [vr (some a_11), vr (some a_14)]) rfl rfl ⟨Nat.le_of_ble_eq_true rfl, Nat.le_of_ble_eq_true rfl, rfl, (Or.inr ⟨_, rfl, t_17⟩)⟩ rfl rfl k (fun h_18 k => ?_)
        refine R_ps 2 (pc2 := 10) (L2 := [some (vr (some w)), some (vr (some a1)), some (vi ((J x2) + J 1)), some (vr (some a_11)), some (vr (some a_14))]) (st2 := []) rfl ?_
        rw [show ((J x2) + J 1) = J (x2 + 1) from J_add' rfl rfl]
        exact R_drop k (LE_of (L := [some (vr (some w)), some (vr (some a1)), some (vi (J (x2 + 1))), none, none]) (L2 := [some (vr (some w)), some (vr (some a1)), some (vi (J (x2 + 1))), some (vr (some a_11)), some (vr (some a_14))]) ⟨rfl, rfl, rfl, trivial⟩)
/-- DroneCorridors$World.copyDrones -/
theorem z87 {T N : Nat → Nat} {h : PH} {w : Nat} {a1 : Nat} {K : PH → Prop} (t0 : T a1 = 10) (t1 : T w = 10) (k : (∀ h_3, h_3 = wi h w 5 (ai h a1 5) → WV T N 87 10 [some (vr (some w)), some (vr (some a1)), some (vi (J 0)), none, none] [] h_3 K)) : CV T N 87 [vr (some w), vr (some a1)] h K := by
  show WP T N 87 0 [some (vr (some w)), some (vr (some a1)), none, none, none] [] h _
  refine R_ps 2 (pc2 := 2) (L2 := [some (vr (some w)), some (vr (some a1)), none, none, none]) (st2 := [vr (some a1), vr (some w)]) rfl ?_
  refine R_zgetI (z := 5) rfl t0 rfl ?_
  refine R_zputI (x := ai h a1 5) (z := 5) rfl t1 rfl ?_
  show WP T N _ _ _ _ (wi h w 5 (ai h a1 5)) _
  generalize e_4 : wi h w 5 (ai h a1 5) = h_3
  replace k := k h_3 e_4.symm
  refine R_ps 2 (pc2 := 10) (L2 := [some (vr (some w)), some (vr (some a1)), some (vi (J 0)), none, none]) (st2 := []) rfl ?_
  exact k
theorem z87_10 {T N : Nat → Nat} {h : PH} {w : Nat} {a1 : Nat} {x2 : Int} {K : PH → Prop} (t0 : T w = 10) (t1 : T a1 = 10) (r2 : In x2) (k : (((x2 < (ai h w 5) → (CR T N 91 [vr (some w), vi (J x2)] h (fun x_6 h_5 => (CR T N 91 [vr (some a1), vi (J x2)] h_5 (fun x_9 h_8 => (((x_6 = none → (WV T N 87 10 [some (vr (some w)), some (vr (some a1)), some (vi (J (x2 + 1))), none, none] [] h_8 K)) ∧ (∀ a_11, x_6 = some a_11 → (((x_9 = none → (WV T N 87 10 [some (vr (some w)), some (vr (some a1)), some (vi (J (x2 + 1))), none, none] [] h_8 K)) ∧ (∀ a_14, x_9 = some a_14 → (T a_11 = 3 ∧ CV T N 16 [vr (some a_11), vr (some a_14)] h_8 (fun h_18 => (WV T N 87 10 [some (vr (some w)), some (vr (some a1)), some (vi (J (x2 + 1))), none, none] [] h_18 K)))))))))))))) ∧ (¬ (x2 < (ai h w 5)) → (K h))))) : WV T N 87 10 [some (vr (some w)), some (vr (some a1)), some (vi (J x2)), none, none] [] h K := by
  show WP T N 87 10 [some (vr (some w)), some (vr (some a1)), some (vi (J x2)), none, none] [] h _
  refine R_ps 2 (pc2 := 12) (L2 := [some (vr (some w)), some (vr (some a1)), some (vi (J x2)), none, none]) (st2 := [vr (some w), vi (J x2)]) rfl ?_
  refine R_zgetI (z := 5) rfl t0 rfl ?_
  refine R_zif (x := x2) (z := ai h w 5) rfl r2 (ai_in _ _ _) (fun c_2 => ?_) (fun c_2 => ?_)
  · have k := k.2 c_2
    exact R_ret rfl rfl ⟨rfl, k⟩
  · have k := k.1 (Classical.not_not.mp c_2)
    refine R_ps 2 (pc2 := 20) (L2 := [some (vr (some w)), some (vr (some a1)), some (vi (J x2)), none, none]) (st2 := [vi (J x2), vr (some w)]) rfl ?_
    refine R_cR (as := [vr (some w), vi (J x2)]) rfl rfl ⟨Nat.le_of_ble_eq_true rfl, Nat.le_of_ble_eq_true rfl, rfl, (Or.inr ⟨_, rfl, t0⟩)⟩ rfl rfl k (fun x_6 h_5 k => ?_)
    refine R_ps 3 (pc2 := 26) (L2 := [some (vr (some w)), some (vr (some a1)), some (vi (J x2)), some (vr x_6), none]) (st2 := [vi (J x2), vr (some a1)]) rfl ?_
    refine R_cR (as := [vr (some a1), vi (J x2)]) rfl rfl ⟨Nat.le_of_ble_eq_true rfl, Nat.le_of_ble_eq_true rfl, rfl, (Or.inr ⟨_, rfl, t1⟩)⟩ rfl rfl k (fun x_9 h_8 k => ?_)
    refine R_ps 2 (pc2 := 32) (L2 := [some (vr (some w)), some (vr (some a1)), some (vi (J x2)), some (vr x_6), some (vr x_9)]) (st2 := [vr x_6]) rfl ?_
    rcases null_or (x_6) with e_12 | ⟨a_11, e_12⟩
    · have k := k.1 e_12
      rw [e_12]
      refine R_null rfl (fun _ => ?_) (fun _ c_10 => nomatch c_10)
      refine R_ps 2 (pc2 := 10) (L2 := [some (vr (some w)), some (vr (some a1)), some (vi ((J x2) + J 1)), some (vr none), some (vr x_9)]) (st2 := []) rfl ?_
      rw [show ((J x2) + J 1) = J (x2 + 1) from J_add' rfl rfl]
      exact R_drop k (LE_of (L := [some (vr (some w)), some (vr (some a1)), some (vi (J (x2 + 1))), none, none]) (L2 := [some (vr (some w)), some (vr (some a1)), some (vi (J (x2 + 1))), some (vr none), some (vr x_9)]) ⟨rfl, rfl, rfl, trivial⟩)
    · have k := k.2 a_11 e_12
      rw [e_12]
      refine R_null rfl (fun c_10 => nomatch c_10) (fun _ _ => ?_)
      refine R_ps 1 (pc2 := 37) (L2 := [some (vr (some w)), some (vr (some a1)), some (vi (J x2)), some (vr (some a_11)), some (vr x_9)]) (st2 := [vr x_9]) rfl ?_
      rcases null_or (x_9) with e_15 | ⟨a_14, e_15⟩
      · have k := k.1 e_15
        rw [e_15]
        refine R_null rfl (fun _ => ?_) (fun _ c_13 => nomatch c_13)
        refine R_ps 2 (pc2 := 10) (L2 := [some (vr (some w)), some (vr (some a1)), some (vi ((J x2) + J 1)), some (vr (some a_11)), some (vr none)]) (st2 := []) rfl ?_
        rw [show ((J x2) + J 1) = J (x2 + 1) from J_add' rfl rfl]
        exact R_drop k (LE_of (L := [some (vr (some w)), some (vr (some a1)), some (vi (J (x2 + 1))), none, none]) (L2 := [some (vr (some w)), some (vr (some a1)), some (vi (J (x2 + 1))), some (vr (some a_11)), some (vr none)]) ⟨rfl, rfl, rfl, trivial⟩)
      · have k := k.2 a_14 e_15
        rw [e_15]
        refine R_null rfl (fun c_13 => nomatch c_13) (fun _ _ => ?_)
        refine R_ps 2 (pc2 := 43) (L2 := [some (vr (some w)), some (vr (some a1)), some (vi (J x2)), some (vr (some a_11)), some (vr (some a_14))]) (st2 := [vr (some a_14), vr (some a_11)]) rfl ?_
        obtain ⟨t_17, k⟩ := k
        refine R_cV (as := [vr (some a_11), vr (some a_14)]) rfl rfl ⟨Nat.le_of_ble_eq_true rfl, Nat.le_of_ble_eq_true rfl, rfl, (Or.inr ⟨_, rfl, t_17⟩)⟩ rfl rfl k (fun h_18 k => ?_)
        refine R_ps 2 (pc2 := 10) (L2 := [some (vr (some w)), some (vr (some a1)), some (vi ((J x2) + J 1)), some (vr (some a_11)), some (vr (some a_14))]) (st2 := []) rfl ?_
        rw [show ((J x2) + J 1) = J (x2 + 1) from J_add' rfl rfl]
        exact R_drop k (LE_of (L := [some (vr (some w)), some (vr (some a1)), some (vi (J (x2 + 1))), none, none]) (L2 := [some (vr (some w)), some (vr (some a1)), some (vi (J (x2 + 1))), some (vr (some a_11)), some (vr (some a_14))]) ⟨rfl, rfl, rfl, trivial⟩)
/-- DroneCorridors$World.hasNode -/
theorem z88 {T N : Nat → Nat} {h : PH} {w : Nat} {x1 : Int} {K : Int → PH → Prop} (t0 : T w = 10) (r1 : In x1) (k : (((x1 < 0 → (K 0 h)) ∧ (¬ (x1 < 0) → (((x1 < (ai h w 1) → (K 1 h)) ∧ (¬ (x1 < (ai h w 1)) → (K 0 h)))))))) : ZI T N 88 [vr (some w), vi (J x1)] h K := by
  show WP T N 88 0 [some (vr (some w)), some (vi (J x1))] [] h _
  refine R_ps 1 (pc2 := 1) (L2 := [some (vr (some w)), some (vi (J x1))]) (st2 := [vi (J x1)]) rfl ?_
  refine R_zif0 (x := x1) rfl r1 (fun c_1 => ?_) (fun c_1 => ?_)
  · have k := k.1 c_1
    refine R_ps 1 (pc2 := 17) (L2 := [some (vr (some w)), some (vi (J x1))]) (st2 := [vi (J 0)]) rfl ?_
    exact R_zzret (x := 0) rfl rfl (Or.inl rfl) (R_zr (x := 0) (K := K) (by decide) k)
  · have k := k.2 c_1
    refine R_ps 2 (pc2 := 6) (L2 := [some (vr (some w)), some (vi (J x1))]) (st2 := [vr (some w), vi (J x1)]) rfl ?_
    refine R_zgetI (z := 1) rfl t0 rfl ?_
    refine R_zif (x := x1) (z := ai h w 1) rfl r1 (ai_in _ _ _) (fun c_4 => ?_) (fun c_4 => ?_)
    · have k := k.2 c_4
      refine R_ps 1 (pc2 := 17) (L2 := [some (vr (some w)), some (vi (J x1))]) (st2 := [vi (J 0)]) rfl ?_
      exact R_zzret (x := 0) rfl rfl (Or.inl rfl) (R_zr (x := 0) (K := K) (by decide) k)
    · have k := k.1 (Classical.not_not.mp c_4)
      refine R_ps 2 (pc2 := 17) (L2 := [some (vr (some w)), some (vi (J x1))]) (st2 := [vi (J 1)]) rfl ?_
      exact R_zzret (x := 1) rfl rfl (Or.inr rfl) (R_zr (x := 1) (K := K) (by decide) k)
/-- DroneCorridors$World.corridorAt -/
theorem z89 {T N : Nat → Nat} {h : PH} {w : Nat} {x1 : Int} {K : Option Nat → PH → Prop} (t0 : T w = 10) (r1 : In x1) (k : (((x1 < 0 → (K none h)) ∧ (¬ (x1 < 0) → (((x1 < (ai h w 3) → (∃ a_8, (gr h w 6) = some a_8 ∧ 21 ≤ T a_8 ∧ In (N a_8 : Int) ∧ ((x1 < (N a_8 : Int) → (∃ a_16, (gr h w 6) = some a_16 ∧ 30 ≤ T a_16 ∧ (0 ≤ x1 ∧ x1 < (N a_16 : Int) ∧ x1 < 2147483648) ∧ K (gr h a_16 (Int.toNat x1)) h)) ∧ (¬ (x1 < (N a_8 : Int)) → (K none h))))) ∧ (¬ (x1 < (ai h w 3)) → (K none h)))))))) : CR T N 89 [vr (some w), vi (J x1)] h K := by
  show WP T N 89 0 [some (vr (some w)), some (vi (J x1))] [] h _
  refine R_ps 1 (pc2 := 1) (L2 := [some (vr (some w)), some (vi (J x1))]) (st2 := [vi (J x1)]) rfl ?_
  refine R_zif0 (x := x1) rfl r1 (fun c_1 => ?_) (fun c_1 => ?_)
  · have k := k.1 c_1
    refine R_ps 1 (pc2 := 31) (L2 := [some (vr (some w)), some (vi (J x1))]) (st2 := [vr none]) rfl ?_
    exact R_aret rfl rfl ⟨_, rfl, k⟩
  · have k := k.2 c_1
    refine R_ps 2 (pc2 := 6) (L2 := [some (vr (some w)), some (vi (J x1))]) (st2 := [vr (some w), vi (J x1)]) rfl ?_
    refine R_zgetI (z := 3) rfl t0 rfl ?_
    refine R_zif (x := x1) (z := ai h w 3) rfl r1 (ai_in _ _ _) (fun c_4 => ?_) (fun c_4 => ?_)
    · have k := k.2 c_4
      refine R_ps 1 (pc2 := 31) (L2 := [some (vr (some w)), some (vi (J x1))]) (st2 := [vr none]) rfl ?_
      exact R_aret rfl rfl ⟨_, rfl, k⟩
    · have k := k.1 (Classical.not_not.mp c_4)
      refine R_ps 2 (pc2 := 14) (L2 := [some (vr (some w)), some (vi (J x1))]) (st2 := [vr (some w), vi (J x1)]) rfl ?_
      refine R_getR rfl t0 ?_
      obtain ⟨a_8, e_9, k⟩ := k
      rw [e_9]
      obtain ⟨t_10, k⟩ := k
      refine R_zalen rfl t_10 ?_
      obtain ⟨t_12, k⟩ := k
      refine R_zif (x := x1) (z := (N a_8 : Int)) rfl r1 t_12 (fun c_11 => ?_) (fun c_11 => ?_)
      · have k := k.2 c_11
        refine R_ps 1 (pc2 := 31) (L2 := [some (vr (some w)), some (vi (J x1))]) (st2 := [vr none]) rfl ?_
        exact R_aret rfl rfl ⟨_, rfl, k⟩
      · have k := k.1 (Classical.not_not.mp c_11)
        refine R_ps 1 (pc2 := 22) (L2 := [some (vr (some w)), some (vi (J x1))]) (st2 := [vr (some w)]) rfl ?_
        refine R_getR rfl t0 ?_
        refine R_ps 1 (pc2 := 26) (L2 := [some (vr (some w)), some (vi (J x1))]) (st2 := [vi (J x1), vr (gr h w 6)]) rfl ?_
        obtain ⟨a_16, e_17, k⟩ := k
        rw [e_17]
        obtain ⟨t_18, k⟩ := k
        obtain ⟨t_19, k⟩ := k
        refine R_zaald (i := x1) rfl t_18 t_19 ?_
        refine R_ps 1 (pc2 := 31) (L2 := [some (vr (some w)), some (vi (J x1))]) (st2 := [vr (gr h a_16 (Int.toNat x1))]) rfl ?_
        exact R_aret rfl rfl ⟨_, rfl, k⟩
/-- DroneCorridors$World.fenceAt -/
theorem z90 {T N : Nat → Nat} {h : PH} {w : Nat} {x1 : Int} {K : Option Nat → PH → Prop} (t0 : T w = 10) (r1 : In x1) (k : (((x1 < 0 → (K none h)) ∧ (¬ (x1 < 0) → (((x1 < (ai h w 4) → (∃ a_8, (gr h w 7) = some a_8 ∧ 21 ≤ T a_8 ∧ In (N a_8 : Int) ∧ ((x1 < (N a_8 : Int) → (∃ a_16, (gr h w 7) = some a_16 ∧ 30 ≤ T a_16 ∧ (0 ≤ x1 ∧ x1 < (N a_16 : Int) ∧ x1 < 2147483648) ∧ K (gr h a_16 (Int.toNat x1)) h)) ∧ (¬ (x1 < (N a_8 : Int)) → (K none h))))) ∧ (¬ (x1 < (ai h w 4)) → (K none h)))))))) : CR T N 90 [vr (some w), vi (J x1)] h K := by
  show WP T N 90 0 [some (vr (some w)), some (vi (J x1))] [] h _
  refine R_ps 1 (pc2 := 1) (L2 := [some (vr (some w)), some (vi (J x1))]) (st2 := [vi (J x1)]) rfl ?_
  refine R_zif0 (x := x1) rfl r1 (fun c_1 => ?_) (fun c_1 => ?_)
  · have k := k.1 c_1
    refine R_ps 1 (pc2 := 31) (L2 := [some (vr (some w)), some (vi (J x1))]) (st2 := [vr none]) rfl ?_
    exact R_aret rfl rfl ⟨_, rfl, k⟩
  · have k := k.2 c_1
    refine R_ps 2 (pc2 := 6) (L2 := [some (vr (some w)), some (vi (J x1))]) (st2 := [vr (some w), vi (J x1)]) rfl ?_
    refine R_zgetI (z := 4) rfl t0 rfl ?_
    refine R_zif (x := x1) (z := ai h w 4) rfl r1 (ai_in _ _ _) (fun c_4 => ?_) (fun c_4 => ?_)
    · have k := k.2 c_4
      refine R_ps 1 (pc2 := 31) (L2 := [some (vr (some w)), some (vi (J x1))]) (st2 := [vr none]) rfl ?_
      exact R_aret rfl rfl ⟨_, rfl, k⟩
    · have k := k.1 (Classical.not_not.mp c_4)
      refine R_ps 2 (pc2 := 14) (L2 := [some (vr (some w)), some (vi (J x1))]) (st2 := [vr (some w), vi (J x1)]) rfl ?_
      refine R_getR rfl t0 ?_
      obtain ⟨a_8, e_9, k⟩ := k
      rw [e_9]
      obtain ⟨t_10, k⟩ := k
      refine R_zalen rfl t_10 ?_
      obtain ⟨t_12, k⟩ := k
      refine R_zif (x := x1) (z := (N a_8 : Int)) rfl r1 t_12 (fun c_11 => ?_) (fun c_11 => ?_)
      · have k := k.2 c_11
        refine R_ps 1 (pc2 := 31) (L2 := [some (vr (some w)), some (vi (J x1))]) (st2 := [vr none]) rfl ?_
        exact R_aret rfl rfl ⟨_, rfl, k⟩
      · have k := k.1 (Classical.not_not.mp c_11)
        refine R_ps 1 (pc2 := 22) (L2 := [some (vr (some w)), some (vi (J x1))]) (st2 := [vr (some w)]) rfl ?_
        refine R_getR rfl t0 ?_
        refine R_ps 1 (pc2 := 26) (L2 := [some (vr (some w)), some (vi (J x1))]) (st2 := [vi (J x1), vr (gr h w 7)]) rfl ?_
        obtain ⟨a_16, e_17, k⟩ := k
        rw [e_17]
        obtain ⟨t_18, k⟩ := k
        obtain ⟨t_19, k⟩ := k
        refine R_zaald (i := x1) rfl t_18 t_19 ?_
        refine R_ps 1 (pc2 := 31) (L2 := [some (vr (some w)), some (vi (J x1))]) (st2 := [vr (gr h a_16 (Int.toNat x1))]) rfl ?_
        exact R_aret rfl rfl ⟨_, rfl, k⟩
/-- DroneCorridors$World.droneAt -/
theorem z91 {T N : Nat → Nat} {h : PH} {w : Nat} {x1 : Int} {K : Option Nat → PH → Prop} (t0 : T w = 10) (r1 : In x1) (k : (((x1 < 0 → (K none h)) ∧ (¬ (x1 < 0) → (((x1 < (ai h w 5) → (∃ a_8, (gr h w 8) = some a_8 ∧ 21 ≤ T a_8 ∧ In (N a_8 : Int) ∧ ((x1 < (N a_8 : Int) → (∃ a_16, (gr h w 8) = some a_16 ∧ 30 ≤ T a_16 ∧ (0 ≤ x1 ∧ x1 < (N a_16 : Int) ∧ x1 < 2147483648) ∧ K (gr h a_16 (Int.toNat x1)) h)) ∧ (¬ (x1 < (N a_8 : Int)) → (K none h))))) ∧ (¬ (x1 < (ai h w 5)) → (K none h)))))))) : CR T N 91 [vr (some w), vi (J x1)] h K := by
  show WP T N 91 0 [some (vr (some w)), some (vi (J x1))] [] h _
  refine R_ps 1 (pc2 := 1) (L2 := [some (vr (some w)), some (vi (J x1))]) (st2 := [vi (J x1)]) rfl ?_
  refine R_zif0 (x := x1) rfl r1 (fun c_1 => ?_) (fun c_1 => ?_)
  · have k := k.1 c_1
    refine R_ps 1 (pc2 := 31) (L2 := [some (vr (some w)), some (vi (J x1))]) (st2 := [vr none]) rfl ?_
    exact R_aret rfl rfl ⟨_, rfl, k⟩
  · have k := k.2 c_1
    refine R_ps 2 (pc2 := 6) (L2 := [some (vr (some w)), some (vi (J x1))]) (st2 := [vr (some w), vi (J x1)]) rfl ?_
    refine R_zgetI (z := 5) rfl t0 rfl ?_
    refine R_zif (x := x1) (z := ai h w 5) rfl r1 (ai_in _ _ _) (fun c_4 => ?_) (fun c_4 => ?_)
    · have k := k.2 c_4
      refine R_ps 1 (pc2 := 31) (L2 := [some (vr (some w)), some (vi (J x1))]) (st2 := [vr none]) rfl ?_
      exact R_aret rfl rfl ⟨_, rfl, k⟩
    · have k := k.1 (Classical.not_not.mp c_4)
      refine R_ps 2 (pc2 := 14) (L2 := [some (vr (some w)), some (vi (J x1))]) (st2 := [vr (some w), vi (J x1)]) rfl ?_
      refine R_getR rfl t0 ?_
      obtain ⟨a_8, e_9, k⟩ := k
      rw [e_9]
      obtain ⟨t_10, k⟩ := k
      refine R_zalen rfl t_10 ?_
      obtain ⟨t_12, k⟩ := k
      refine R_zif (x := x1) (z := (N a_8 : Int)) rfl r1 t_12 (fun c_11 => ?_) (fun c_11 => ?_)
      · have k := k.2 c_11
        refine R_ps 1 (pc2 := 31) (L2 := [some (vr (some w)), some (vi (J x1))]) (st2 := [vr none]) rfl ?_
        exact R_aret rfl rfl ⟨_, rfl, k⟩
      · have k := k.1 (Classical.not_not.mp c_11)
        refine R_ps 1 (pc2 := 22) (L2 := [some (vr (some w)), some (vi (J x1))]) (st2 := [vr (some w)]) rfl ?_
        refine R_getR rfl t0 ?_
        refine R_ps 1 (pc2 := 26) (L2 := [some (vr (some w)), some (vi (J x1))]) (st2 := [vi (J x1), vr (gr h w 8)]) rfl ?_
        obtain ⟨a_16, e_17, k⟩ := k
        rw [e_17]
        obtain ⟨t_18, k⟩ := k
        obtain ⟨t_19, k⟩ := k
        refine R_zaald (i := x1) rfl t_18 t_19 ?_
        refine R_ps 1 (pc2 := 31) (L2 := [some (vr (some w)), some (vi (J x1))]) (st2 := [vr (gr h a_16 (Int.toNat x1))]) rfl ?_
        exact R_aret rfl rfl ⟨_, rfl, k⟩
/-- DroneCorridors$World.newNode -/
theorem z92 {T N : Nat → Nat} {h : PH} {w : Nat} {x1 : Int} {K : Int → PH → Prop} (t0 : T w = 10) (r1 : In x1) (k : ((((ai h w 1) < 10 → (((x1 = 0 → (∀ h_6, h_6 = wi h w 1 ((ai h w 1) + 1) → In ((ai h_6 w 1) - 1) ∧ K ((ai h_6 w 1) - 1) h_6)) ∧ (¬ (x1 = 0) → (∀ h_14, h_14 = wi h w 2 (zor (ai h w 2) (zshl 1 (ai h w 1))) → ∀ h_18, h_18 = wi h_14 w 1 ((ai h_14 w 1) + 1) → In ((ai h_18 w 1) - 1) ∧ K ((ai h_18 w 1) - 1) h_18))))) ∧ (¬ ((ai h w 1) < 10) → (K (-1) h))))) : ZI T N 92 [vr (some w), vi (J x1)] h K := by
  show WP T N 92 0 [some (vr (some w)), some (vi (J x1))] [] h _
  refine R_ps 1 (pc2 := 1) (L2 := [some (vr (some w)), some (vi (J x1))]) (st2 := [vr (some w)]) rfl ?_
  refine R_zgetI (z := 1) rfl t0 rfl ?_
  refine R_ps 1 (pc2 := 6) (L2 := [some (vr (some w)), some (vi (J x1))]) (st2 := [vi (J 10), vi (J (ai h w 1))]) rfl ?_
  refine R_zif (x := ai h w 1) (z := 10) rfl (ai_in _ _ _) (by decide) (fun c_2 => ?_) (fun c_2 => ?_)
  · have k := k.1 c_2
    refine R_ps 1 (pc2 := 12) (L2 := [some (vr (some w)), some (vi (J x1))]) (st2 := [vi (J x1)]) rfl ?_
    refine R_zif0 (x := x1) rfl r1 (fun c_3 => ?_) (fun c_3 => ?_)
    · have k := k.1 c_3
      refine R_ps 2 (pc2 := 32) (L2 := [some (vr (some w)), some (vi (J x1))]) (st2 := [vr (some w), vr (some w)]) rfl ?_
      refine R_zgetI (z := 1) rfl t0 rfl ?_
      refine R_ps 2 (pc2 := 37) (L2 := [some (vr (some w)), some (vi (J x1))]) (st2 := [vi ((J (ai h w 1)) + (J 1)), vr (some w)]) rfl ?_
      rw [show ((J (ai h w 1)) + (J 1)) = J ((ai h w 1) + 1) from J_add' rfl rfl]
      refine R_zputI (x := (ai h w 1) + 1) (z := 1) rfl t0 rfl ?_
      show WP T N _ _ _ _ (wi h w 1 ((ai h w 1) + 1)) _
      generalize e_7 : wi h w 1 ((ai h w 1) + 1) = h_6
      replace k := k h_6 e_7.symm
      refine R_ps 1 (pc2 := 41) (L2 := [some (vr (some w)), some (vi (J x1))]) (st2 := [vr (some w)]) rfl ?_
      refine R_zgetI (z := 1) rfl t0 rfl ?_
      refine R_ps 2 (pc2 := 46) (L2 := [some (vr (some w)), some (vi (J x1))]) (st2 := [vi ((J (ai h_6 w 1)) - (J 1))]) rfl ?_
      rw [show ((J (ai h_6 w 1)) - (J 1)) = J ((ai h_6 w 1) - 1) from J_sub' rfl rfl]
      obtain ⟨t_10, k⟩ := k
      exact R_iret rfl rfl (R_zr (x := (ai h_6 w 1) - 1) (K := K) t_10 k)
    · have k := k.2 c_3
      refine R_ps 2 (pc2 := 17) (L2 := [some (vr (some w)), some (vi (J x1))]) (st2 := [vr (some w), vr (some w)]) rfl ?_
      refine R_zgetI (z := 2) rfl t0 rfl ?_
      refine R_ps 2 (pc2 := 22) (L2 := [some (vr (some w)), some (vi (J x1))]) (st2 := [vr (some w), vi (J 1), vi (J (ai h w 2)), vr (some w)]) rfl ?_
      refine R_zgetI (z := 1) rfl t0 rfl ?_
      refine R_ps 2 (pc2 := 27) (L2 := [some (vr (some w)), some (vi (J x1))]) (st2 := [vi ((J (ai h w 2)) ||| ((J 1) <<< ((J (ai h w 1)) &&& 31))), vr (some w)]) rfl ?_
      rw [show ((J (ai h w 2)) ||| ((J 1) <<< ((J (ai h w 1)) &&& 31))) = J (zor (ai h w 2) (zshl 1 (ai h w 1))) from J_or' rfl (J_shl' rfl rfl)]
      refine R_zputI (x := zor (ai h w 2) (zshl 1 (ai h w 1))) (z := 2) rfl t0 rfl ?_
      show WP T N _ _ _ _ (wi h w 2 (zor (ai h w 2) (zshl 1 (ai h w 1)))) _
      generalize e_15 : wi h w 2 (zor (ai h w 2) (zshl 1 (ai h w 1))) = h_14
      replace k := k h_14 e_15.symm
      refine R_ps 2 (pc2 := 32) (L2 := [some (vr (some w)), some (vi (J x1))]) (st2 := [vr (some w), vr (some w)]) rfl ?_
      refine R_zgetI (z := 1) rfl t0 rfl ?_
      refine R_ps 2 (pc2 := 37) (L2 := [some (vr (some w)), some (vi (J x1))]) (st2 := [vi ((J (ai h_14 w 1)) + (J 1)), vr (some w)]) rfl ?_
      rw [show ((J (ai h_14 w 1)) + (J 1)) = J ((ai h_14 w 1) + 1) from J_add' rfl rfl]
      refine R_zputI (x := (ai h_14 w 1) + 1) (z := 1) rfl t0 rfl ?_
      show WP T N _ _ _ _ (wi h_14 w 1 ((ai h_14 w 1) + 1)) _
      generalize e_19 : wi h_14 w 1 ((ai h_14 w 1) + 1) = h_18
      replace k := k h_18 e_19.symm
      refine R_ps 1 (pc2 := 41) (L2 := [some (vr (some w)), some (vi (J x1))]) (st2 := [vr (some w)]) rfl ?_
      refine R_zgetI (z := 1) rfl t0 rfl ?_
      refine R_ps 2 (pc2 := 46) (L2 := [some (vr (some w)), some (vi (J x1))]) (st2 := [vi ((J (ai h_18 w 1)) - (J 1))]) rfl ?_
      rw [show ((J (ai h_18 w 1)) - (J 1)) = J ((ai h_18 w 1) - 1) from J_sub' rfl rfl]
      obtain ⟨t_22, k⟩ := k
      exact R_iret rfl rfl (R_zr (x := (ai h_18 w 1) - 1) (K := K) t_22 k)
  · have k := k.2 c_2
    refine R_ps 1 (pc2 := 10) (L2 := [some (vr (some w)), some (vi (J x1))]) (st2 := [vi (J (-1))]) rfl ?_
    exact R_iret rfl rfl (R_zr (x := (-1)) (K := K) (by decide) k)
/-- DroneCorridors$World.newCorridor -/
theorem z93 {T N : Nat → Nat} {h : PH} {w : Nat} {x1 : Int} {x2 : Int} {x3 : Int} {x4 : Int} {K : Int → PH → Prop} (t0 : T w = 10) (r1 : In x1) (r2 : In x2) (r3 : In x3) (r4 : In x4) (k : ((((ai h w 3) < 16 → (∀ h_5, h_5 = wi h w 3 ((ai h w 3) + 1) → CR T N 89 [vr (some w), vi (J ((ai h_5 w 3) - 1))] h_5 (fun x_10 h_9 => (((x_10 = none → (In ((ai h_9 w 3) - 1) ∧ K ((ai h_9 w 3) - 1) h_9)) ∧ (∀ a_12, x_10 = some a_12 → (T a_12 = 2 ∧ ∀ h_19, h_19 = wi h_9 a_12 0 x1 → ∀ h_22, h_22 = wi h_19 a_12 1 x2 → ∀ h_25, h_25 = wi h_22 a_12 2 x3 → ∀ h_28, h_28 = wi h_25 a_12 3 x4 → In ((ai h_28 w 3) - 1) ∧ K ((ai h_28 w 3) - 1) h_28))))))) ∧ (¬ ((ai h w 3) < 16) → (K (-1) h))))) : ZI T N 93 [vr (some w), vi (J x1), vi (J x2), vi (J x3), vi (J x4)] h K := by
  show WP T N 93 0 [some (vr (some w)), some (vi (J x1)), some (vi (J x2)), some (vi (J x3)), some (vi (J x4)), none] [] h _
  refine R_ps 1 (pc2 := 1) (L2 := [some (vr (some w)), some (vi (J x1)), some (vi (J x2)), some (vi (J x3)), some (vi (J x4)), none]) (st2 := [vr (some w)]) rfl ?_
  refine R_zgetI (z := 3) rfl t0 rfl ?_
  refine R_ps 1 (pc2 := 6) (L2 := [some (vr (some w)), some (vi (J x1)), some (vi (J x2)), some (vi (J x3)), some (vi (J x4)), none]) (st2 := [vi (J 16), vi (J (ai h w 3))]) rfl ?_
  refine R_zif (x := ai h w 3) (z := 16) rfl (ai_in _ _ _) (by decide) (fun c_2 => ?_) (fun c_2 => ?_)
  · have k := k.1 c_2
    refine R_ps 2 (pc2 := 13) (L2 := [some (vr (some w)), some (vi (J x1)), some (vi (J x2)), some (vi (J x3)), some (vi (J x4)), none]) (st2 := [vr (some w), vr (some w)]) rfl ?_
    refine R_zgetI (z := 3) rfl t0 rfl ?_
    refine R_ps 2 (pc2 := 18) (L2 := [some (vr (some w)), some (vi (J x1)), some (vi (J x2)), some (vi (J x3)), some (vi (J x4)), none]) (st2 := [vi ((J (ai h w 3)) + (J 1)), vr (some w)]) rfl ?_
    rw [show ((J (ai h w 3)) + (J 1)) = J ((ai h w 3) + 1) from J_add' rfl rfl]
    refine R_zputI (x := (ai h w 3) + 1) (z := 3) rfl t0 rfl ?_
    show WP T N _ _ _ _ (wi h w 3 ((ai h w 3) + 1)) _
    generalize e_6 : wi h w 3 ((ai h w 3) + 1) = h_5
    replace k := k h_5 e_6.symm
    refine R_ps 2 (pc2 := 23) (L2 := [some (vr (some w)), some (vi (J x1)), some (vi (J x2)), some (vi (J x3)), some (vi (J x4)), none]) (st2 := [vr (some w), vr (some w)]) rfl ?_
    refine R_zgetI (z := 3) rfl t0 rfl ?_
    refine R_ps 2 (pc2 := 28) (L2 := [some (vr (some w)), some (vi (J x1)), some (vi (J x2)), some (vi (J x3)), some (vi (J x4)), none]) (st2 := [vi ((J (ai h_5 w 3)) - (J 1)), vr (some w)]) rfl ?_
    rw [show ((J (ai h_5 w 3)) - (J 1)) = J ((ai h_5 w 3) - 1) from J_sub' rfl rfl]
    refine R_cR (as := [vr (some w), vi (J ((ai h_5 w 3) - 1))]) rfl rfl ⟨Nat.le_of_ble_eq_true rfl, Nat.le_of_ble_eq_true rfl, rfl, (Or.inr ⟨_, rfl, t0⟩)⟩ rfl rfl k (fun x_10 h_9 k => ?_)
    refine R_ps 2 (pc2 := 35) (L2 := [some (vr (some w)), some (vi (J x1)), some (vi (J x2)), some (vi (J x3)), some (vi (J x4)), some (vr x_10)]) (st2 := [vr x_10]) rfl ?_
    rcases null_or (x_10) with e_13 | ⟨a_12, e_13⟩
    · have k := k.1 e_13
      rw [e_13]
      refine R_null rfl (fun _ => ?_) (fun _ c_11 => nomatch c_11)
      refine R_ps 1 (pc2 := 64) (L2 := [some (vr (some w)), some (vi (J x1)), some (vi (J x2)), some (vi (J x3)), some (vi (J x4)), some (vr none)]) (st2 := [vr (some w)]) rfl ?_
      refine R_zgetI (z := 3) rfl t0 rfl ?_
      refine R_ps 2 (pc2 := 69) (L2 := [some (vr (some w)), some (vi (J x1)), some (vi (J x2)), some (vi (J x3)), some (vi (J x4)), some (vr none)]) (st2 := [vi ((J (ai h_9 w 3)) - (J 1))]) rfl ?_
      rw [show ((J (ai h_9 w 3)) - (J 1)) = J ((ai h_9 w 3) - 1) from J_sub' rfl rfl]
      obtain ⟨t_16, k⟩ := k
      exact R_iret rfl rfl (R_zr (x := (ai h_9 w 3) - 1) (K := K) t_16 k)
    · have k := k.2 a_12 e_13
      rw [e_13]
      refine R_null rfl (fun c_11 => nomatch c_11) (fun _ _ => ?_)
      refine R_ps 2 (pc2 := 41) (L2 := [some (vr (some w)), some (vi (J x1)), some (vi (J x2)), some (vi (J x3)), some (vi (J x4)), some (vr (some a_12))]) (st2 := [vi (J x1), vr (some a_12)]) rfl ?_
      obtain ⟨t_18, k⟩ := k
      refine R_zputI (x := x1) (z := 0) rfl t_18 rfl ?_
      show WP T N _ _ _ _ (wi h_9 a_12 0 x1) _
      generalize e_20 : wi h_9 a_12 0 x1 = h_19
      replace k := k h_19 e_20.symm
      refine R_ps 2 (pc2 := 47) (L2 := [some (vr (some w)), some (vi (J x1)), some (vi (J x2)), some (vi (J x3)), some (vi (J x4)), some (vr (some a_12))]) (st2 := [vi (J x2), vr (some a_12)]) rfl ?_
      refine R_zputI (x := x2) (z := 1) rfl t_18 rfl ?_
      show WP T N _ _ _ _ (wi h_19 a_12 1 x2) _
      generalize e_23 : wi h_19 a_12 1 x2 = h_22
      replace k := k h_22 e_23.symm
      refine R_ps 2 (pc2 := 53) (L2 := [some (vr (some w)), some (vi (J x1)), some (vi (J x2)), some (vi (J x3)), some (vi (J x4)), some (vr (some a_12))]) (st2 := [vi (J x3), vr (some a_12)]) rfl ?_
      refine R_zputI (x := x3) (z := 2) rfl t_18 rfl ?_
      show WP T N _ _ _ _ (wi h_22 a_12 2 x3) _
      generalize e_26 : wi h_22 a_12 2 x3 = h_25
      replace k := k h_25 e_26.symm
      refine R_ps 2 (pc2 := 60) (L2 := [some (vr (some w)), some (vi (J x1)), some (vi (J x2)), some (vi (J x3)), some (vi (J x4)), some (vr (some a_12))]) (st2 := [vi (J x4), vr (some a_12)]) rfl ?_
      refine R_zputI (x := x4) (z := 3) rfl t_18 rfl ?_
      show WP T N _ _ _ _ (wi h_25 a_12 3 x4) _
      generalize e_29 : wi h_25 a_12 3 x4 = h_28
      replace k := k h_28 e_29.symm
      refine R_ps 1 (pc2 := 64) (L2 := [some (vr (some w)), some (vi (J x1)), some (vi (J x2)), some (vi (J x3)), some (vi (J x4)), some (vr (some a_12))]) (st2 := [vr (some w)]) rfl ?_
      refine R_zgetI (z := 3) rfl t0 rfl ?_
      refine R_ps 2 (pc2 := 69) (L2 := [some (vr (some w)), some (vi (J x1)), some (vi (J x2)), some (vi (J x3)), some (vi (J x4)), some (vr (some a_12))]) (st2 := [vi ((J (ai h_28 w 3)) - (J 1))]) rfl ?_
      rw [show ((J (ai h_28 w 3)) - (J 1)) = J ((ai h_28 w 3) - 1) from J_sub' rfl rfl]
      obtain ⟨t_32, k⟩ := k
      exact R_iret rfl rfl (R_zr (x := (ai h_28 w 3) - 1) (K := K) t_32 k)
  · have k := k.2 c_2
    refine R_ps 1 (pc2 := 10) (L2 := [some (vr (some w)), some (vi (J x1)), some (vi (J x2)), some (vi (J x3)), some (vi (J x4)), none]) (st2 := [vi (J (-1))]) rfl ?_
    exact R_iret rfl rfl (R_zr (x := (-1)) (K := K) (by decide) k)
/-- DroneCorridors$World.newFence -/
theorem z94 {T N : Nat → Nat} {h : PH} {w : Nat} {x1 : Int} {x2 : Int} {x3 : Int} {x4 : Int} {K : PH → Prop} (t0 : T w = 10) (r1 : In x1) (r2 : In x2) (r3 : In x3) (r4 : In x4) (k : ((((ai h w 4) < 10 → (∀ h_5, h_5 = wi h w 4 ((ai h w 4) + 1) → CR T N 90 [vr (some w), vi (J ((ai h_5 w 4) - 1))] h_5 (fun x_10 h_9 => (((x_10 = none → (K h_9)) ∧ (∀ a_12, x_10 = some a_12 → (T a_12 = 4 ∧ ∀ h_17, h_17 = wi h_9 a_12 0 x1 → ∀ h_20, h_20 = wi h_17 a_12 1 x2 → ∀ h_23, h_23 = wi h_20 a_12 2 x3 → ∀ h_26, h_26 = wi h_23 a_12 3 x4 → K h_26))))))) ∧ (¬ ((ai h w 4) < 10) → (K h))))) : CV T N 94 [vr (some w), vi (J x1), vi (J x2), vi (J x3), vi (J x4)] h K := by
  show WP T N 94 0 [some (vr (some w)), some (vi (J x1)), some (vi (J x2)), some (vi (J x3)), some (vi (J x4)), none] [] h _
  refine R_ps 1 (pc2 := 1) (L2 := [some (vr (some w)), some (vi (J x1)), some (vi (J x2)), some (vi (J x3)), some (vi (J x4)), none]) (st2 := [vr (some w)]) rfl ?_
  refine R_zgetI (z := 4) rfl t0 rfl ?_
  refine R_ps 1 (pc2 := 6) (L2 := [some (vr (some w)), some (vi (J x1)), some (vi (J x2)), some (vi (J x3)), some (vi (J x4)), none]) (st2 := [vi (J 10), vi (J (ai h w 4))]) rfl ?_
  refine R_zif (x := ai h w 4) (z := 10) rfl (ai_in _ _ _) (by decide) (fun c_2 => ?_) (fun c_2 => ?_)
  · have k := k.1 c_2
    refine R_ps 2 (pc2 := 12) (L2 := [some (vr (some w)), some (vi (J x1)), some (vi (J x2)), some (vi (J x3)), some (vi (J x4)), none]) (st2 := [vr (some w), vr (some w)]) rfl ?_
    refine R_zgetI (z := 4) rfl t0 rfl ?_
    refine R_ps 2 (pc2 := 17) (L2 := [some (vr (some w)), some (vi (J x1)), some (vi (J x2)), some (vi (J x3)), some (vi (J x4)), none]) (st2 := [vi ((J (ai h w 4)) + (J 1)), vr (some w)]) rfl ?_
    rw [show ((J (ai h w 4)) + (J 1)) = J ((ai h w 4) + 1) from J_add' rfl rfl]
    refine R_zputI (x := (ai h w 4) + 1) (z := 4) rfl t0 rfl ?_
    show WP T N _ _ _ _ (wi h w 4 ((ai h w 4) + 1)) _
    generalize e_6 : wi h w 4 ((ai h w 4) + 1) = h_5
    replace k := k h_5 e_6.symm
    refine R_ps 2 (pc2 := 22) (L2 := [some (vr (some w)), some (vi (J x1)), some (vi (J x2)), some (vi (J x3)), some (vi (J x4)), none]) (st2 := [vr (some w), vr (some w)]) rfl ?_
    refine R_zgetI (z := 4) rfl t0 rfl ?_
    refine R_ps 2 (pc2 := 27) (L2 := [some (vr (some w)), some (vi (J x1)), some (vi (J x2)), some (vi (J x3)), some (vi (J x4)), none]) (st2 := [vi ((J (ai h_5 w 4)) - (J 1)), vr (some w)]) rfl ?_
    rw [show ((J (ai h_5 w 4)) - (J 1)) = J ((ai h_5 w 4) - 1) from J_sub' rfl rfl]
    refine R_cR (as := [vr (some w), vi (J ((ai h_5 w 4) - 1))]) rfl rfl ⟨Nat.le_of_ble_eq_true rfl, Nat.le_of_ble_eq_true rfl, rfl, (Or.inr ⟨_, rfl, t0⟩)⟩ rfl rfl k (fun x_10 h_9 k => ?_)
    refine R_ps 2 (pc2 := 34) (L2 := [some (vr (some w)), some (vi (J x1)), some (vi (J x2)), some (vi (J x3)), some (vi (J x4)), some (vr x_10)]) (st2 := [vr x_10]) rfl ?_
    rcases null_or (x_10) with e_13 | ⟨a_12, e_13⟩
    · have k := k.1 e_13
      rw [e_13]
      refine R_null rfl (fun _ => ?_) (fun _ c_11 => nomatch c_11)
      exact R_ret rfl rfl ⟨rfl, k⟩
    · have k := k.2 a_12 e_13
      rw [e_13]
      refine R_null rfl (fun c_11 => nomatch c_11) (fun _ _ => ?_)
      refine R_ps 2 (pc2 := 40) (L2 := [some (vr (some w)), some (vi (J x1)), some (vi (J x2)), some (vi (J x3)), some (vi (J x4)), some (vr (some a_12))]) (st2 := [vi (J x1), vr (some a_12)]) rfl ?_
      obtain ⟨t_16, k⟩ := k
      refine R_zputI (x := x1) (z := 0) rfl t_16 rfl ?_
      show WP T N _ _ _ _ (wi h_9 a_12 0 x1) _
      generalize e_18 : wi h_9 a_12 0 x1 = h_17
      replace k := k h_17 e_18.symm
      refine R_ps 2 (pc2 := 46) (L2 := [some (vr (some w)), some (vi (J x1)), some (vi (J x2)), some (vi (J x3)), some (vi (J x4)), some (vr (some a_12))]) (st2 := [vi (J x2), vr (some a_12)]) rfl ?_
      refine R_zputI (x := x2) (z := 1) rfl t_16 rfl ?_
      show WP T N _ _ _ _ (wi h_17 a_12 1 x2) _
      generalize e_21 : wi h_17 a_12 1 x2 = h_20
      replace k := k h_20 e_21.symm
      refine R_ps 2 (pc2 := 52) (L2 := [some (vr (some w)), some (vi (J x1)), some (vi (J x2)), some (vi (J x3)), some (vi (J x4)), some (vr (some a_12))]) (st2 := [vi (J x3), vr (some a_12)]) rfl ?_
      refine R_zputI (x := x3) (z := 2) rfl t_16 rfl ?_
      show WP T N _ _ _ _ (wi h_20 a_12 2 x3) _
      generalize e_24 : wi h_20 a_12 2 x3 = h_23
      replace k := k h_23 e_24.symm
      refine R_ps 2 (pc2 := 59) (L2 := [some (vr (some w)), some (vi (J x1)), some (vi (J x2)), some (vi (J x3)), some (vi (J x4)), some (vr (some a_12))]) (st2 := [vi (J x4), vr (some a_12)]) rfl ?_
      refine R_zputI (x := x4) (z := 3) rfl t_16 rfl ?_
      show WP T N _ _ _ _ (wi h_23 a_12 3 x4) _
      generalize e_27 : wi h_23 a_12 3 x4 = h_26
      replace k := k h_26 e_27.symm
      exact R_ret rfl rfl ⟨rfl, k⟩
  · have k := k.2 c_2
    exact R_ret rfl rfl ⟨rfl, k⟩
/-- DroneCorridors$World.dropFence -/
theorem z95 {T N : Nat → Nat} {h : PH} {w : Nat} {x1 : Int} {K : PH → Prop} (r1 : In x1) (k : (WV T N 95 2 [some (vr (some w)), none, some (vi (J x1)), none, none] [] h K)) : CV T N 95 [vr (some w), vi (J x1)] h K := by
  show WP T N 95 0 [some (vr (some w)), some (vi (J x1)), none, none, none] [] h _
  refine R_ps 2 (pc2 := 2) (L2 := [some (vr (some w)), some (vi (J x1)), some (vi (J x1)), none, none]) (st2 := []) rfl ?_
  exact R_drop k (LE_of (L := [some (vr (some w)), none, some (vi (J x1)), none, none]) (L2 := [some (vr (some w)), some (vi (J x1)), some (vi (J x1)), none, none]) ⟨rfl, rfl, trivial⟩)
theorem z95_2 {T N : Nat → Nat} {h : PH} {w : Nat} {x2 : Int} {K : PH → Prop} (t0 : T w = 10) (r2 : In x2) (k : (In ((ai h w 4) - 1) ∧ ((x2 < ((ai h w 4) - 1) → (CR T N 90 [vr (some w), vi (J x2)] h (fun x_11 h_10 => (CR T N 90 [vr (some w), vi (J (x2 + 1))] h_10 (fun x_14 h_13 => (((x_11 = none → (WV T N 95 2 [some (vr (some w)), none, some (vi (J (x2 + 1))), none, none] [] h_13 K)) ∧ (∀ a_16, x_11 = some a_16 → (((x_14 = none → (WV T N 95 2 [some (vr (some w)), none, some (vi (J (x2 + 1))), none, none] [] h_13 K)) ∧ (∀ a_19, x_14 = some a_19 → (T a_16 = 4 ∧ CV T N 38 [vr (some a_16), vr (some a_19)] h_13 (fun h_23 => (WV T N 95 2 [some (vr (some w)), none, some (vi (J (x2 + 1))), none, none] [] h_23 K)))))))))))))) ∧ (¬ (x2 < ((ai h w 4) - 1)) → (∀ h_6, h_6 = wi h w 4 ((ai h w 4) - 1) → K h_6))))) : WV T N 95 2 [some (vr (some w)), none, some (vi (J x2)), none, none] [] h K := by
  show WP T N 95 2 [some (vr (some w)), none, some (vi (J x2)), none, none] [] h _
  refine R_ps 2 (pc2 := 4) (L2 := [some (vr (some w)), none, some (vi (J x2)), none, none]) (st2 := [vr (some w), vi (J x2)]) rfl ?_
  refine R_zgetI (z := 4) rfl t0 rfl ?_
  refine R_ps 2 (pc2 := 9) (L2 := [some (vr (some w)), none, some (vi (J x2)), none, none]) (st2 := [vi ((J (ai h w 4)) - (J 1)), vi (J x2)]) rfl ?_
  rw [show ((J (ai h w 4)) - (J 1)) = J ((ai h w 4) - 1) from J_sub' rfl rfl]
  obtain ⟨t_3, k⟩ := k
  refine R_zif (x := x2) (z := (ai h w 4) - 1) rfl r2 t_3 (fun c_2 => ?_) (fun c_2 => ?_)
  · have k := k.2 c_2
    refine R_ps 2 (pc2 := 50) (L2 := [some (vr (some w)), none, some (vi (J x2)), none, none]) (st2 := [vr (some w), vr (some w)]) rfl ?_
    refine R_zgetI (z := 4) rfl t0 rfl ?_
    refine R_ps 2 (pc2 := 55) (L2 := [some (vr (some w)), none, some (vi (J x2)), none, none]) (st2 := [vi ((J (ai h w 4)) - (J 1)), vr (some w)]) rfl ?_
    rw [show ((J (ai h w 4)) - (J 1)) = J ((ai h w 4) - 1) from J_sub' rfl rfl]
    refine R_zputI (x := (ai h w 4) - 1) (z := 4) rfl t0 rfl ?_
    show WP T N _ _ _ _ (wi h w 4 ((ai h w 4) - 1)) _
    generalize e_7 : wi h w 4 ((ai h w 4) - 1) = h_6
    replace k := k h_6 e_7.symm
    exact R_ret rfl rfl ⟨rfl, k⟩
  · have k := k.1 (Classical.not_not.mp c_2)
    refine R_ps 2 (pc2 := 14) (L2 := [some (vr (some w)), none, some (vi (J x2)), none, none]) (st2 := [vi (J x2), vr (some w)]) rfl ?_
    refine R_cR (as := [vr (some w), vi (J x2)]) rfl rfl ⟨Nat.le_of_ble_eq_true rfl, Nat.le_of_ble_eq_true rfl, rfl, (Or.inr ⟨_, rfl, t0⟩)⟩ rfl rfl k (fun x_11 h_10 k => ?_)
    refine R_ps 5 (pc2 := 22) (L2 := [some (vr (some w)), none, some (vi (J x2)), some (vr x_11), none]) (st2 := [vi ((J x2) + (J 1)), vr (some w)]) rfl ?_
    rw [show ((J x2) + (J 1)) = J (x2 + 1) from J_add' rfl rfl]
    refine R_cR (as := [vr (some w), vi (J (x2 + 1))]) rfl rfl ⟨Nat.le_of_ble_eq_true rfl, Nat.le_of_ble_eq_true rfl, rfl, (Or.inr ⟨_, rfl, t0⟩)⟩ rfl rfl k (fun x_14 h_13 k => ?_)
    refine R_ps 2 (pc2 := 28) (L2 := [some (vr (some w)), none, some (vi (J x2)), some (vr x_11), some (vr x_14)]) (st2 := [vr x_11]) rfl ?_
    rcases null_or (x_11) with e_17 | ⟨a_16, e_17⟩
    · have k := k.1 e_17
      rw [e_17]
      refine R_null rfl (fun _ => ?_) (fun _ c_15 => nomatch c_15)
      refine R_ps 2 (pc2 := 2) (L2 := [some (vr (some w)), none, some (vi ((J x2) + J 1)), some (vr none), some (vr x_14)]) (st2 := []) rfl ?_
      rw [show ((J x2) + J 1) = J (x2 + 1) from J_add' rfl rfl]
      exact R_drop k (LE_of (L := [some (vr (some w)), none, some (vi (J (x2 + 1))), none, none]) (L2 := [some (vr (some w)), none, some (vi (J (x2 + 1))), some (vr none), some (vr x_14)]) ⟨rfl, rfl, trivial⟩)
    · have k := k.2 a_16 e_17
      rw [e_17]
      refine R_null rfl (fun c_15 => nomatch c_15) (fun _ _ => ?_)
      refine R_ps 1 (pc2 := 33) (L2 := [some (vr (some w)), none, some (vi (J x2)), some (vr (some a_16)), some (vr x_14)]) (st2 := [vr x_14]) rfl ?_
      rcases null_or (x_14) with e_20 | ⟨a_19, e_20⟩
      · have k := k.1 e_20
        rw [e_20]
        refine R_null rfl (fun _ => ?_) (fun _ c_18 => nomatch c_18)
        refine R_ps 2 (pc2 := 2) (L2 := [some (vr (some w)), none, some (vi ((J x2) + J 1)), some (vr (some a_16)), some (vr none)]) (st2 := []) rfl ?_
        rw [show ((J x2) + J 1) = J (x2 + 1) from J_add' rfl rfl]
        exact R_drop k (LE_of (L := [some (vr (some w)), none, some (vi (J (x2 + 1))), none, none]) (L2 := [some (vr (some w)), none, some (vi (J (x2 + 1))), some (vr (some a_16)), some (vr none)]) ⟨rfl, rfl, trivial⟩)
      · have k := k.2 a_19 e_20
        rw [e_20]
        refine R_null rfl (fun c_18 => nomatch c_18) (fun _ _ => ?_)
        refine R_ps 2 (pc2 := 39) (L2 := [some (vr (some w)), none, some (vi (J x2)), some (vr (some a_16)), some (vr (some a_19))]) (st2 := [vr (some a_19), vr (some a_16)]) rfl ?_
        obtain ⟨t_22, k⟩ := k
        refine R_cV (as := [vr (some a_16), vr (some a_19)]) rfl rfl ⟨Nat.le_of_ble_eq_true rfl, Nat.le_of_ble_eq_true rfl, rfl, (Or.inr ⟨_, rfl, t_22⟩)⟩ rfl rfl k (fun h_23 k => ?_)
        refine R_ps 2 (pc2 := 2) (L2 := [some (vr (some w)), none, some (vi ((J x2) + J 1)), some (vr (some a_16)), some (vr (some a_19))]) (st2 := []) rfl ?_
        rw [show ((J x2) + J 1) = J (x2 + 1) from J_add' rfl rfl]
        exact R_drop k (LE_of (L := [some (vr (some w)), none, some (vi (J (x2 + 1))), none, none]) (L2 := [some (vr (some w)), none, some (vi (J (x2 + 1))), some (vr (some a_16)), some (vr (some a_19))]) ⟨rfl, rfl, trivial⟩)
/-- DroneCorridors$World.newDrone -/
theorem z96 {T N : Nat → Nat} {h : PH} {w : Nat} {x1 : Int} {x2 : Int} {K : Int → PH → Prop} (t0 : T w = 10) (r1 : In x1) (r2 : In x2) (k : ((((ai h w 5) < 6 → (∀ h_5, h_5 = wi h w 5 ((ai h w 5) + 1) → CR T N 91 [vr (some w), vi (J ((ai h_5 w 5) - 1))] h_5 (fun x_10 h_9 => (((x_10 = none → (In ((ai h_9 w 5) - 1) ∧ K ((ai h_9 w 5) - 1) h_9)) ∧ (∀ a_12, x_10 = some a_12 → (ZI T N 145 [vi (J (ai h_9 w 2)), vi (J x1)] h_9 (fun x_20 h_19 => (T a_12 = 3 ∧ CV T N 15 [vr (some a_12), vi (J x1), vi (J x_20), vi (J x2)] h_19 (fun h_24 => (In ((ai h_24 w 5) - 1) ∧ K ((ai h_24 w 5) - 1) h_24))))))))))) ∧ (¬ ((ai h w 5) < 6) → (K (-1) h))))) : ZI T N 96 [vr (some w), vi (J x1), vi (J x2)] h K := by
  show WP T N 96 0 [some (vr (some w)), some (vi (J x1)), some (vi (J x2)), none] [] h _
  refine R_ps 1 (pc2 := 1) (L2 := [some (vr (some w)), some (vi (J x1)), some (vi (J x2)), none]) (st2 := [vr (some w)]) rfl ?_
  refine R_zgetI (z := 5) rfl t0 rfl ?_
  refine R_ps 1 (pc2 := 6) (L2 := [some (vr (some w)), some (vi (J x1)), some (vi (J x2)), none]) (st2 := [vi (J 6), vi (J (ai h w 5))]) rfl ?_
  refine R_zif (x := ai h w 5) (z := 6) rfl (ai_in _ _ _) (by decide) (fun c_2 => ?_) (fun c_2 => ?_)
  · have k := k.1 c_2
    refine R_ps 2 (pc2 := 13) (L2 := [some (vr (some w)), some (vi (J x1)), some (vi (J x2)), none]) (st2 := [vr (some w), vr (some w)]) rfl ?_
    refine R_zgetI (z := 5) rfl t0 rfl ?_
    refine R_ps 2 (pc2 := 18) (L2 := [some (vr (some w)), some (vi (J x1)), some (vi (J x2)), none]) (st2 := [vi ((J (ai h w 5)) + (J 1)), vr (some w)]) rfl ?_
    rw [show ((J (ai h w 5)) + (J 1)) = J ((ai h w 5) + 1) from J_add' rfl rfl]
    refine R_zputI (x := (ai h w 5) + 1) (z := 5) rfl t0 rfl ?_
    show WP T N _ _ _ _ (wi h w 5 ((ai h w 5) + 1)) _
    generalize e_6 : wi h w 5 ((ai h w 5) + 1) = h_5
    replace k := k h_5 e_6.symm
    refine R_ps 2 (pc2 := 23) (L2 := [some (vr (some w)), some (vi (J x1)), some (vi (J x2)), none]) (st2 := [vr (some w), vr (some w)]) rfl ?_
    refine R_zgetI (z := 5) rfl t0 rfl ?_
    refine R_ps 2 (pc2 := 28) (L2 := [some (vr (some w)), some (vi (J x1)), some (vi (J x2)), none]) (st2 := [vi ((J (ai h_5 w 5)) - (J 1)), vr (some w)]) rfl ?_
    rw [show ((J (ai h_5 w 5)) - (J 1)) = J ((ai h_5 w 5) - 1) from J_sub' rfl rfl]
    refine R_cR (as := [vr (some w), vi (J ((ai h_5 w 5) - 1))]) rfl rfl ⟨Nat.le_of_ble_eq_true rfl, Nat.le_of_ble_eq_true rfl, rfl, (Or.inr ⟨_, rfl, t0⟩)⟩ rfl rfl k (fun x_10 h_9 k => ?_)
    refine R_ps 2 (pc2 := 33) (L2 := [some (vr (some w)), some (vi (J x1)), some (vi (J x2)), some (vr x_10)]) (st2 := [vr x_10]) rfl ?_
    rcases null_or (x_10) with e_13 | ⟨a_12, e_13⟩
    · have k := k.1 e_13
      rw [e_13]
      refine R_null rfl (fun _ => ?_) (fun _ c_11 => nomatch c_11)
      refine R_ps 1 (pc2 := 51) (L2 := [some (vr (some w)), some (vi (J x1)), some (vi (J x2)), some (vr none)]) (st2 := [vr (some w)]) rfl ?_
      refine R_zgetI (z := 5) rfl t0 rfl ?_
      refine R_ps 2 (pc2 := 56) (L2 := [some (vr (some w)), some (vi (J x1)), some (vi (J x2)), some (vr none)]) (st2 := [vi ((J (ai h_9 w 5)) - (J 1))]) rfl ?_
      rw [show ((J (ai h_9 w 5)) - (J 1)) = J ((ai h_9 w 5) - 1) from J_sub' rfl rfl]
      obtain ⟨t_16, k⟩ := k
      exact R_iret rfl rfl (R_zr (x := (ai h_9 w 5) - 1) (K := K) t_16 k)
    · have k := k.2 a_12 e_13
      rw [e_13]
      refine R_null rfl (fun c_11 => nomatch c_11) (fun _ _ => ?_)
      refine R_ps 3 (pc2 := 39) (L2 := [some (vr (some w)), some (vi (J x1)), some (vi (J x2)), some (vr (some a_12))]) (st2 := [vr (some w), vi (J x1), vr (some a_12)]) rfl ?_
      refine R_zgetI (z := 2) rfl t0 rfl ?_
      refine R_ps 1 (pc2 := 43) (L2 := [some (vr (some w)), some (vi (J x1)), some (vi (J x2)), some (vr (some a_12))]) (st2 := [vi (J x1), vi (J (ai h_9 w 2)), vi (J x1), vr (some a_12)]) rfl ?_
      refine R_zcI (as := [vi (J (ai h_9 w 2)), vi (J x1)]) rfl rfl ⟨Nat.le_of_ble_eq_true rfl, Nat.le_of_ble_eq_true rfl, rfl, (Or.inl rfl)⟩ rfl rfl k (fun x_20 h_19 r_21 k => ?_)
      refine R_ps 1 (pc2 := 47) (L2 := [some (vr (some w)), some (vi (J x1)), some (vi (J x2)), some (vr (some a_12))]) (st2 := [vi (J x2), vi (J x_20), vi (J x1), vr (some a_12)]) rfl ?_
      obtain ⟨t_23, k⟩ := k
      refine R_cV (as := [vr (some a_12), vi (J x1), vi (J x_20), vi (J x2)]) rfl rfl ⟨Nat.le_of_ble_eq_true rfl, Nat.le_of_ble_eq_true rfl, rfl, (Or.inr ⟨_, rfl, t_23⟩)⟩ rfl rfl k (fun h_24 k => ?_)
      refine R_ps 1 (pc2 := 51) (L2 := [some (vr (some w)), some (vi (J x1)), some (vi (J x2)), some (vr (some a_12))]) (st2 := [vr (some w)]) rfl ?_
      refine R_zgetI (z := 5) rfl t0 rfl ?_
      refine R_ps 2 (pc2 := 56) (L2 := [some (vr (some w)), some (vi (J x1)), some (vi (J x2)), some (vr (some a_12))]) (st2 := [vi ((J (ai h_24 w 5)) - (J 1))]) rfl ?_
      rw [show ((J (ai h_24 w 5)) - (J 1)) = J ((ai h_24 w 5) - 1) from J_sub' rfl rfl]
      obtain ⟨t_28, k⟩ := k
      exact R_iret rfl rfl (R_zr (x := (ai h_24 w 5) - 1) (K := K) t_28 k)
  · have k := k.2 c_2
    refine R_ps 1 (pc2 := 10) (L2 := [some (vr (some w)), some (vi (J x1)), some (vi (J x2)), none]) (st2 := [vi (J (-1))]) rfl ?_
    exact R_iret rfl rfl (R_zr (x := (-1)) (K := K) (by decide) k)
/-- DroneCorridors$World.dronesInState -/
theorem z97 {T N : Nat → Nat} {h : PH} {w : Nat} {x1 : Int} {K : Int → PH → Prop} (r1 : In x1) (k : (ZW T N 97 4 [some (vr (some w)), some (vi (J x1)), some (vi (J 0)), some (vi (J 0)), none] [] h K)) : ZI T N 97 [vr (some w), vi (J x1)] h K := by
  show WP T N 97 0 [some (vr (some w)), some (vi (J x1)), none, none, none] [] h _
  refine R_ps 4 (pc2 := 4) (L2 := [some (vr (some w)), some (vi (J x1)), some (vi (J 0)), some (vi (J 0)), none]) (st2 := []) rfl ?_
  exact k
theorem z97_4 {T N : Nat → Nat} {h : PH} {w : Nat} {x1 : Int} {x2 : Int} {x3 : Int} {K : Int → PH → Prop} (t0 : T w = 10) (r1 : In x1) (r2 : In x2) (r3 : In x3) (k : (((x3 < (ai h w 5) → (CR T N 91 [vr (some w), vi (J x3)] h (fun x_6 h_5 => (((x_6 = none → (ZW T N 97 4 [some (vr (some w)), some (vi (J x1)), some (vi (J x2)), some (vi (J (x3 + 1))), none] [] h_5 K)) ∧ (∀ a_8, x_6 = some a_8 → (T a_8 = 3 ∧ (((ai h_5 a_8 0) = x1 → (ZW T N 97 4 [some (vr (some w)), some (vi (J x1)), some (vi (J (x2 + 1))), some (vi (J (x3 + 1))), none] [] h_5 K)) ∧ (¬ ((ai h_5 a_8 0) = x1) → (ZW T N 97 4 [some (vr (some w)), some (vi (J x1)), some (vi (J x2)), some (vi (J (x3 + 1))), none] [] h_5 K)))))))))) ∧ (¬ (x3 < (ai h w 5)) → (K x2 h))))) : ZW T N 97 4 [some (vr (some w)), some (vi (J x1)), some (vi (J x2)), some (vi (J x3)), none] [] h K := by
  show WP T N 97 4 [some (vr (some w)), some (vi (J x1)), some (vi (J x2)), some (vi (J x3)), none] [] h _
  refine R_ps 2 (pc2 := 6) (L2 := [some (vr (some w)), some (vi (J x1)), some (vi (J x2)), some (vi (J x3)), none]) (st2 := [vr (some w), vi (J x3)]) rfl ?_
  refine R_zgetI (z := 5) rfl t0 rfl ?_
  refine R_zif (x := x3) (z := ai h w 5) rfl r3 (ai_in _ _ _) (fun c_2 => ?_) (fun c_2 => ?_)
  · have k := k.2 c_2
    refine R_ps 1 (pc2 := 43) (L2 := [some (vr (some w)), some (vi (J x1)), some (vi (J x2)), some (vi (J x3)), none]) (st2 := [vi (J x2)]) rfl ?_
    exact R_iret rfl rfl (R_zr (x := x2) (K := K) r2 k)
  · have k := k.1 (Classical.not_not.mp c_2)
    refine R_ps 2 (pc2 := 14) (L2 := [some (vr (some w)), some (vi (J x1)), some (vi (J x2)), some (vi (J x3)), none]) (st2 := [vi (J x3), vr (some w)]) rfl ?_
    refine R_cR (as := [vr (some w), vi (J x3)]) rfl rfl ⟨Nat.le_of_ble_eq_true rfl, Nat.le_of_ble_eq_true rfl, rfl, (Or.inr ⟨_, rfl, t0⟩)⟩ rfl rfl k (fun x_6 h_5 k => ?_)
    refine R_ps 2 (pc2 := 21) (L2 := [some (vr (some w)), some (vi (J x1)), some (vi (J x2)), some (vi (J x3)), some (vr x_6)]) (st2 := [vr x_6]) rfl ?_
    rcases null_or (x_6) with e_9 | ⟨a_8, e_9⟩
    · have k := k.1 e_9
      rw [e_9]
      refine R_null rfl (fun _ => ?_) (fun _ c_7 => nomatch c_7)
      refine R_ps 2 (pc2 := 4) (L2 := [some (vr (some w)), some (vi (J x1)), some (vi (J x2)), some (vi ((J x3) + J 1)), some (vr none)]) (st2 := []) rfl ?_
      rw [show ((J x3) + J 1) = J (x3 + 1) from J_add' rfl rfl]
      exact R_drop k (LE_of (L := [some (vr (some w)), some (vi (J x1)), some (vi (J x2)), some (vi (J (x3 + 1))), none]) (L2 := [some (vr (some w)), some (vi (J x1)), some (vi (J x2)), some (vi (J (x3 + 1))), some (vr none)]) ⟨rfl, rfl, rfl, rfl, trivial⟩)
    · have k := k.2 a_8 e_9
      rw [e_9]
      refine R_null rfl (fun c_7 => nomatch c_7) (fun _ _ => ?_)
      refine R_ps 1 (pc2 := 26) (L2 := [some (vr (some w)), some (vi (J x1)), some (vi (J x2)), some (vi (J x3)), some (vr (some a_8))]) (st2 := [vr (some a_8)]) rfl ?_
      obtain ⟨t_11, k⟩ := k
      refine R_zgetI (z := 0) rfl t_11 rfl ?_
      refine R_ps 1 (pc2 := 30) (L2 := [some (vr (some w)), some (vi (J x1)), some (vi (J x2)), some (vi (J x3)), some (vr (some a_8))]) (st2 := [vi (J x1), vi (J (ai h_5 a_8 0))]) rfl ?_
      refine R_zif (x := ai h_5 a_8 0) (z := x1) rfl (ai_in _ _ _) r1 (fun c_12 => ?_) (fun c_12 => ?_)
      · have k := k.2 c_12
        refine R_ps 2 (pc2 := 4) (L2 := [some (vr (some w)), some (vi (J x1)), some (vi (J x2)), some (vi ((J x3) + J 1)), some (vr (some a_8))]) (st2 := []) rfl ?_
        rw [show ((J x3) + J 1) = J (x3 + 1) from J_add' rfl rfl]
        exact R_drop k (LE_of (L := [some (vr (some w)), some (vi (J x1)), some (vi (J x2)), some (vi (J (x3 + 1))), none]) (L2 := [some (vr (some w)), some (vi (J x1)), some (vi (J x2)), some (vi (J (x3 + 1))), some (vr (some a_8))]) ⟨rfl, rfl, rfl, rfl, trivial⟩)
      · have k := k.1 (Classical.not_not.mp c_12)
        refine R_ps 3 (pc2 := 4) (L2 := [some (vr (some w)), some (vi (J x1)), some (vi ((J x2) + J 1)), some (vi ((J x3) + J 1)), some (vr (some a_8))]) (st2 := []) rfl ?_
        rw [show ((J x2) + J 1) = J (x2 + 1) from J_add' rfl rfl]
        rw [show ((J x3) + J 1) = J (x3 + 1) from J_add' rfl rfl]
        exact R_drop k (LE_of (L := [some (vr (some w)), some (vi (J x1)), some (vi (J (x2 + 1))), some (vi (J (x3 + 1))), none]) (L2 := [some (vr (some w)), some (vi (J x1)), some (vi (J (x2 + 1))), some (vi (J (x3 + 1))), some (vr (some a_8))]) ⟨rfl, rfl, rfl, rfl, trivial⟩)
/-- DroneCorridors$World.dronesFlyingIn -/
theorem z98 {T N : Nat → Nat} {h : PH} {w : Nat} {x1 : Int} {K : Int → PH → Prop} (r1 : In x1) (k : (ZW T N 98 4 [some (vr (some w)), some (vi (J x1)), some (vi (J 0)), some (vi (J 0)), none] [] h K)) : ZI T N 98 [vr (some w), vi (J x1)] h K := by
  show WP T N 98 0 [some (vr (some w)), some (vi (J x1)), none, none, none] [] h _
  refine R_ps 4 (pc2 := 4) (L2 := [some (vr (some w)), some (vi (J x1)), some (vi (J 0)), some (vi (J 0)), none]) (st2 := []) rfl ?_
  exact k
theorem z98_4 {T N : Nat → Nat} {h : PH} {w : Nat} {x1 : Int} {x2 : Int} {x3 : Int} {K : Int → PH → Prop} (t0 : T w = 10) (r1 : In x1) (r2 : In x2) (r3 : In x3) (k : (((x3 < (ai h w 5) → (CR T N 91 [vr (some w), vi (J x3)] h (fun x_6 h_5 => (((x_6 = none → (ZW T N 98 4 [some (vr (some w)), some (vi (J x1)), some (vi (J x2)), some (vi (J (x3 + 1))), none] [] h_5 K)) ∧ (∀ a_8, x_6 = some a_8 → (T a_8 = 3 ∧ ZI T N 21 [vr (some a_8)] h_5 (fun x_13 h_12 => (In (100 + x1) ∧ ((x_13 = (100 + x1) → (ZW T N 98 4 [some (vr (some w)), some (vi (J x1)), some (vi (J (zor x2 (zshl 1 x3)))), some (vi (J (x3 + 1))), none] [] h_12 K)) ∧ (¬ (x_13 = (100 + x1)) → (ZW T N 98 4 [some (vr (some w)), some (vi (J x1)), some (vi (J x2)), some (vi (J (x3 + 1))), none] [] h_12 K)))))))))))) ∧ (¬ (x3 < (ai h w 5)) → (K x2 h))))) : ZW T N 98 4 [some (vr (some w)), some (vi (J x1)), some (vi (J x2)), some (vi (J x3)), none] [] h K := by
  show WP T N 98 4 [some (vr (some w)), some (vi (J x1)), some (vi (J x2)), some (vi (J x3)), none] [] h _
  refine R_ps 2 (pc2 := 6) (L2 := [some (vr (some w)), some (vi (J x1)), some (vi (J x2)), some (vi (J x3)), none]) (st2 := [vr (some w), vi (J x3)]) rfl ?_
  refine R_zgetI (z := 5) rfl t0 rfl ?_
  refine R_zif (x := x3) (z := ai h w 5) rfl r3 (ai_in _ _ _) (fun c_2 => ?_) (fun c_2 => ?_)
  · have k := k.2 c_2
    refine R_ps 1 (pc2 := 49) (L2 := [some (vr (some w)), some (vi (J x1)), some (vi (J x2)), some (vi (J x3)), none]) (st2 := [vi (J x2)]) rfl ?_
    exact R_iret rfl rfl (R_zr (x := x2) (K := K) r2 k)
  · have k := k.1 (Classical.not_not.mp c_2)
    refine R_ps 2 (pc2 := 14) (L2 := [some (vr (some w)), some (vi (J x1)), some (vi (J x2)), some (vi (J x3)), none]) (st2 := [vi (J x3), vr (some w)]) rfl ?_
    refine R_cR (as := [vr (some w), vi (J x3)]) rfl rfl ⟨Nat.le_of_ble_eq_true rfl, Nat.le_of_ble_eq_true rfl, rfl, (Or.inr ⟨_, rfl, t0⟩)⟩ rfl rfl k (fun x_6 h_5 k => ?_)
    refine R_ps 2 (pc2 := 21) (L2 := [some (vr (some w)), some (vi (J x1)), some (vi (J x2)), some (vi (J x3)), some (vr x_6)]) (st2 := [vr x_6]) rfl ?_
    rcases null_or (x_6) with e_9 | ⟨a_8, e_9⟩
    · have k := k.1 e_9
      rw [e_9]
      refine R_null rfl (fun _ => ?_) (fun _ c_7 => nomatch c_7)
      refine R_ps 2 (pc2 := 4) (L2 := [some (vr (some w)), some (vi (J x1)), some (vi (J x2)), some (vi ((J x3) + J 1)), some (vr none)]) (st2 := []) rfl ?_
      rw [show ((J x3) + J 1) = J (x3 + 1) from J_add' rfl rfl]
      exact R_drop k (LE_of (L := [some (vr (some w)), some (vi (J x1)), some (vi (J x2)), some (vi (J (x3 + 1))), none]) (L2 := [some (vr (some w)), some (vi (J x1)), some (vi (J x2)), some (vi (J (x3 + 1))), some (vr none)]) ⟨rfl, rfl, rfl, rfl, trivial⟩)
    · have k := k.2 a_8 e_9
      rw [e_9]
      refine R_null rfl (fun c_7 => nomatch c_7) (fun _ _ => ?_)
      refine R_ps 1 (pc2 := 26) (L2 := [some (vr (some w)), some (vi (J x1)), some (vi (J x2)), some (vi (J x3)), some (vr (some a_8))]) (st2 := [vr (some a_8)]) rfl ?_
      obtain ⟨t_11, k⟩ := k
      refine R_zcI (as := [vr (some a_8)]) rfl rfl ⟨Nat.le_of_ble_eq_true rfl, Nat.le_of_ble_eq_true rfl, rfl, (Or.inr ⟨_, rfl, t_11⟩)⟩ rfl rfl k (fun x_13 h_12 r_14 k => ?_)
      refine R_ps 3 (pc2 := 33) (L2 := [some (vr (some w)), some (vi (J x1)), some (vi (J x2)), some (vi (J x3)), some (vr (some a_8))]) (st2 := [vi ((J 100) + (J x1)), vi (J x_13)]) rfl ?_
      rw [show ((J 100) + (J x1)) = J (100 + x1) from J_add' rfl rfl]
      obtain ⟨t_16, k⟩ := k
      refine R_zif (x := x_13) (z := 100 + x1) rfl r_14 t_16 (fun c_15 => ?_) (fun c_15 => ?_)
      · have k := k.2 c_15
        refine R_ps 2 (pc2 := 4) (L2 := [some (vr (some w)), some (vi (J x1)), some (vi (J x2)), some (vi ((J x3) + J 1)), some (vr (some a_8))]) (st2 := []) rfl ?_
        rw [show ((J x3) + J 1) = J (x3 + 1) from J_add' rfl rfl]
        exact R_drop k (LE_of (L := [some (vr (some w)), some (vi (J x1)), some (vi (J x2)), some (vi (J (x3 + 1))), none]) (L2 := [some (vr (some w)), some (vi (J x1)), some (vi (J x2)), some (vi (J (x3 + 1))), some (vr (some a_8))]) ⟨rfl, rfl, rfl, rfl, trivial⟩)
      · have k := k.1 (Classical.not_not.mp c_15)
        refine R_ps 8 (pc2 := 4) (L2 := [some (vr (some w)), some (vi (J x1)), some (vi ((J x2) ||| ((J 1) <<< ((J x3) &&& 31)))), some (vi ((J x3) + J 1)), some (vr (some a_8))]) (st2 := []) rfl ?_
        rw [show ((J x2) ||| ((J 1) <<< ((J x3) &&& 31))) = J (zor x2 (zshl 1 x3)) from J_or' rfl (J_shl' rfl rfl)]
        rw [show ((J x3) + J 1) = J (x3 + 1) from J_add' rfl rfl]
        exact R_drop k (LE_of (L := [some (vr (some w)), some (vi (J x1)), some (vi (J (zor x2 (zshl 1 x3)))), some (vi (J (x3 + 1))), none]) (L2 := [some (vr (some w)), some (vi (J x1)), some (vi (J (zor x2 (zshl 1 x3)))), some (vi (J (x3 + 1))), some (vr (some a_8))]) ⟨rfl, rfl, rfl, rfl, trivial⟩)
/-- DroneCorridors$World.struckDrones -/
theorem z99 {T N : Nat → Nat} {h : PH} {w : Nat} {K : Int → PH → Prop} (k : (ZW T N 99 4 [some (vr (some w)), some (vi (J 0)), some (vi (J 0)), none] [] h K)) : ZI T N 99 [vr (some w)] h K := by
  show WP T N 99 0 [some (vr (some w)), none, none, none] [] h _
  refine R_ps 4 (pc2 := 4) (L2 := [some (vr (some w)), some (vi (J 0)), some (vi (J 0)), none]) (st2 := []) rfl ?_
  exact k
theorem z99_4 {T N : Nat → Nat} {h : PH} {w : Nat} {x1 : Int} {x2 : Int} {K : Int → PH → Prop} (t0 : T w = 10) (r1 : In x1) (r2 : In x2) (k : (((x2 < (ai h w 5) → (CR T N 91 [vr (some w), vi (J x2)] h (fun x_6 h_5 => (((x_6 = none → (ZW T N 99 4 [some (vr (some w)), some (vi (J x1)), some (vi (J (x2 + 1))), none] [] h_5 K)) ∧ (∀ a_8, x_6 = some a_8 → (ZI T N 100 [vr (some w), vr (some a_8)] h_5 (fun x_12 h_11 => (((x_12 = 0 → (ZW T N 99 4 [some (vr (some w)), some (vi (J x1)), some (vi (J (x2 + 1))), none] [] h_11 K)) ∧ (¬ (x_12 = 0) → (ZW T N 99 4 [some (vr (some w)), some (vi (J (zor x1 (zshl 1 x2)))), some (vi (J (x2 + 1))), none] [] h_11 K)))))))))))) ∧ (¬ (x2 < (ai h w 5)) → (K x1 h))))) : ZW T N 99 4 [some (vr (some w)), some (vi (J x1)), some (vi (J x2)), none] [] h K := by
  show WP T N 99 4 [some (vr (some w)), some (vi (J x1)), some (vi (J x2)), none] [] h _
  refine R_ps 2 (pc2 := 6) (L2 := [some (vr (some w)), some (vi (J x1)), some (vi (J x2)), none]) (st2 := [vr (some w), vi (J x2)]) rfl ?_
  refine R_zgetI (z := 5) rfl t0 rfl ?_
  refine R_zif (x := x2) (z := ai h w 5) rfl r2 (ai_in _ _ _) (fun c_2 => ?_) (fun c_2 => ?_)
  · have k := k.2 c_2
    refine R_ps 1 (pc2 := 43) (L2 := [some (vr (some w)), some (vi (J x1)), some (vi (J x2)), none]) (st2 := [vi (J x1)]) rfl ?_
    exact R_iret rfl rfl (R_zr (x := x1) (K := K) r1 k)
  · have k := k.1 (Classical.not_not.mp c_2)
    refine R_ps 2 (pc2 := 14) (L2 := [some (vr (some w)), some (vi (J x1)), some (vi (J x2)), none]) (st2 := [vi (J x2), vr (some w)]) rfl ?_
    refine R_cR (as := [vr (some w), vi (J x2)]) rfl rfl ⟨Nat.le_of_ble_eq_true rfl, Nat.le_of_ble_eq_true rfl, rfl, (Or.inr ⟨_, rfl, t0⟩)⟩ rfl rfl k (fun x_6 h_5 k => ?_)
    refine R_ps 2 (pc2 := 19) (L2 := [some (vr (some w)), some (vi (J x1)), some (vi (J x2)), some (vr x_6)]) (st2 := [vr x_6]) rfl ?_
    rcases null_or (x_6) with e_9 | ⟨a_8, e_9⟩
    · have k := k.1 e_9
      rw [e_9]
      refine R_null rfl (fun _ => ?_) (fun _ c_7 => nomatch c_7)
      refine R_ps 2 (pc2 := 4) (L2 := [some (vr (some w)), some (vi (J x1)), some (vi ((J x2) + J 1)), some (vr none)]) (st2 := []) rfl ?_
      rw [show ((J x2) + J 1) = J (x2 + 1) from J_add' rfl rfl]
      exact R_drop k (LE_of (L := [some (vr (some w)), some (vi (J x1)), some (vi (J (x2 + 1))), none]) (L2 := [some (vr (some w)), some (vi (J x1)), some (vi (J (x2 + 1))), some (vr none)]) ⟨rfl, rfl, rfl, trivial⟩)
    · have k := k.2 a_8 e_9
      rw [e_9]
      refine R_null rfl (fun c_7 => nomatch c_7) (fun _ _ => ?_)
      refine R_ps 2 (pc2 := 24) (L2 := [some (vr (some w)), some (vi (J x1)), some (vi (J x2)), some (vr (some a_8))]) (st2 := [vr (some a_8), vr (some w)]) rfl ?_
      refine R_zcI (as := [vr (some w), vr (some a_8)]) rfl rfl ⟨Nat.le_of_ble_eq_true rfl, Nat.le_of_ble_eq_true rfl, rfl, (Or.inr ⟨_, rfl, t0⟩)⟩ rfl rfl k (fun x_12 h_11 r_13 k => ?_)
      refine R_zif0 (x := x_12) rfl r_13 (fun c_14 => ?_) (fun c_14 => ?_)
      · have k := k.1 c_14
        refine R_ps 2 (pc2 := 4) (L2 := [some (vr (some w)), some (vi (J x1)), some (vi ((J x2) + J 1)), some (vr (some a_8))]) (st2 := []) rfl ?_
        rw [show ((J x2) + J 1) = J (x2 + 1) from J_add' rfl rfl]
        exact R_drop k (LE_of (L := [some (vr (some w)), some (vi (J x1)), some (vi (J (x2 + 1))), none]) (L2 := [some (vr (some w)), some (vi (J x1)), some (vi (J (x2 + 1))), some (vr (some a_8))]) ⟨rfl, rfl, rfl, trivial⟩)
      · have k := k.2 c_14
        refine R_ps 8 (pc2 := 4) (L2 := [some (vr (some w)), some (vi ((J x1) ||| ((J 1) <<< ((J x2) &&& 31)))), some (vi ((J x2) + J 1)), some (vr (some a_8))]) (st2 := []) rfl ?_
        rw [show ((J x1) ||| ((J 1) <<< ((J x2) &&& 31))) = J (zor x1 (zshl 1 x2)) from J_or' rfl (J_shl' rfl rfl)]
        rw [show ((J x2) + J 1) = J (x2 + 1) from J_add' rfl rfl]
        exact R_drop k (LE_of (L := [some (vr (some w)), some (vi (J (zor x1 (zshl 1 x2)))), some (vi (J (x2 + 1))), none]) (L2 := [some (vr (some w)), some (vi (J (zor x1 (zshl 1 x2)))), some (vi (J (x2 + 1))), some (vr (some a_8))]) ⟨rfl, rfl, rfl, trivial⟩)
/-- DroneCorridors$World.isStruck -/
theorem z100 {T N : Nat → Nat} {h : PH} {w : Nat} {a1 : Nat} {K : Int → PH → Prop} (t0 : T a1 = 3) (k : (ZI T N 19 [vr (some a1)] h (fun x_3 h_2 => (ZW T N 100 5 [some (vr (some w)), some (vr (some a1)), some (vi (J x_3)), none] [] h_2 K)))) : ZI T N 100 [vr (some w), vr (some a1)] h K := by
  show WP T N 100 0 [some (vr (some w)), some (vr (some a1)), none, none] [] h _
  refine R_ps 1 (pc2 := 1) (L2 := [some (vr (some w)), some (vr (some a1)), none, none]) (st2 := [vr (some a1)]) rfl ?_
  refine R_zcI (as := [vr (some a1)]) rfl rfl ⟨Nat.le_of_ble_eq_true rfl, Nat.le_of_ble_eq_true rfl, rfl, (Or.inr ⟨_, rfl, t0⟩)⟩ rfl rfl k (fun x_3 h_2 r_4 k => ?_)
  refine R_ps 1 (pc2 := 5) (L2 := [some (vr (some w)), some (vr (some a1)), some (vi (J x_3)), none]) (st2 := []) rfl ?_
  exact k
theorem z100_5 {T N : Nat → Nat} {h : PH} {w : Nat} {a1 : Nat} {x2 : Int} {K : Int → PH → Prop} (t0 : T a1 = 3) (t1 : T w = 10) (r2 : In x2) (k : (((x2 < (ai h a1 8) → (CR T N 17 [vr (some a1), vi (J x2)] h (fun x_6 h_5 => (((x_6 = none → (ZW T N 100 5 [some (vr (some w)), some (vr (some a1)), some (vi (J (x2 + 1))), none] [] h_5 K)) ∧ (∀ a_8, x_6 = some a_8 → (ZI T N 101 [vr (some w), vr (some a_8)] h_5 (fun x_12 h_11 => (((x_12 = 0 → (ZW T N 100 5 [some (vr (some w)), some (vr (some a1)), some (vi (J (x2 + 1))), none] [] h_11 K)) ∧ (¬ (x_12 = 0) → (K 1 h_11)))))))))))) ∧ (¬ (x2 < (ai h a1 8)) → (K 0 h))))) : ZW T N 100 5 [some (vr (some w)), some (vr (some a1)), some (vi (J x2)), none] [] h K := by
  show WP T N 100 5 [some (vr (some w)), some (vr (some a1)), some (vi (J x2)), none] [] h _
  refine R_ps 2 (pc2 := 7) (L2 := [some (vr (some w)), some (vr (some a1)), some (vi (J x2)), none]) (st2 := [vr (some a1), vi (J x2)]) rfl ?_
  refine R_zgetI (z := 8) rfl t0 rfl ?_
  refine R_zif (x := x2) (z := ai h a1 8) rfl r2 (ai_in _ _ _) (fun c_2 => ?_) (fun c_2 => ?_)
  · have k := k.2 c_2
    refine R_ps 1 (pc2 := 40) (L2 := [some (vr (some w)), some (vr (some a1)), some (vi (J x2)), none]) (st2 := [vi (J 0)]) rfl ?_
    exact R_zzret (x := 0) rfl rfl (Or.inl rfl) (R_zr (x := 0) (K := K) (by decide) k)
  · have k := k.1 (Classical.not_not.mp c_2)
    refine R_ps 2 (pc2 := 15) (L2 := [some (vr (some w)), some (vr (some a1)), some (vi (J x2)), none]) (st2 := [vi (J x2), vr (some a1)]) rfl ?_
    refine R_cR (as := [vr (some a1), vi (J x2)]) rfl rfl ⟨Nat.le_of_ble_eq_true rfl, Nat.le_of_ble_eq_true rfl, rfl, (Or.inr ⟨_, rfl, t0⟩)⟩ rfl rfl k (fun x_6 h_5 k => ?_)
    refine R_ps 2 (pc2 := 20) (L2 := [some (vr (some w)), some (vr (some a1)), some (vi (J x2)), some (vr x_6)]) (st2 := [vr x_6]) rfl ?_
    rcases null_or (x_6) with e_9 | ⟨a_8, e_9⟩
    · have k := k.1 e_9
      rw [e_9]
      refine R_null rfl (fun _ => ?_) (fun _ c_7 => nomatch c_7)
      refine R_ps 2 (pc2 := 5) (L2 := [some (vr (some w)), some (vr (some a1)), some (vi ((J x2) + J 1)), some (vr none)]) (st2 := []) rfl ?_
      rw [show ((J x2) + J 1) = J (x2 + 1) from J_add' rfl rfl]
      exact R_drop k (LE_of (L := [some (vr (some w)), some (vr (some a1)), some (vi (J (x2 + 1))), none]) (L2 := [some (vr (some w)), some (vr (some a1)), some (vi (J (x2 + 1))), some (vr none)]) ⟨rfl, rfl, rfl, trivial⟩)
    · have k := k.2 a_8 e_9
      rw [e_9]
      refine R_null rfl (fun c_7 => nomatch c_7) (fun _ _ => ?_)
      refine R_ps 2 (pc2 := 25) (L2 := [some (vr (some w)), some (vr (some a1)), some (vi (J x2)), some (vr (some a_8))]) (st2 := [vr (some a_8), vr (some w)]) rfl ?_
      refine R_zcI (as := [vr (some w), vr (some a_8)]) rfl rfl ⟨Nat.le_of_ble_eq_true rfl, Nat.le_of_ble_eq_true rfl, rfl, (Or.inr ⟨_, rfl, t1⟩)⟩ rfl rfl k (fun x_12 h_11 r_13 k => ?_)
      refine R_zif0 (x := x_12) rfl r_13 (fun c_14 => ?_) (fun c_14 => ?_)
      · have k := k.1 c_14
        refine R_ps 2 (pc2 := 5) (L2 := [some (vr (some w)), some (vr (some a1)), some (vi ((J x2) + J 1)), some (vr (some a_8))]) (st2 := []) rfl ?_
        rw [show ((J x2) + J 1) = J (x2 + 1) from J_add' rfl rfl]
        exact R_drop k (LE_of (L := [some (vr (some w)), some (vr (some a1)), some (vi (J (x2 + 1))), none]) (L2 := [some (vr (some w)), some (vr (some a1)), some (vi (J (x2 + 1))), some (vr (some a_8))]) ⟨rfl, rfl, rfl, trivial⟩)
      · have k := k.2 c_14
        refine R_ps 1 (pc2 := 32) (L2 := [some (vr (some w)), some (vr (some a1)), some (vi (J x2)), some (vr (some a_8))]) (st2 := [vi (J 1)]) rfl ?_
        exact R_zzret (x := 1) rfl rfl (Or.inr rfl) (R_zr (x := 1) (K := K) (by decide) k)
/-- DroneCorridors$World.isFenced -/
theorem z101 {T N : Nat → Nat} {h : PH} {w : Nat} {a1 : Nat} {K : Int → PH → Prop} (k : (ZW T N 101 2 [some (vr (some w)), some (vr (some a1)), some (vi (J 0)), none] [] h K)) : ZI T N 101 [vr (some w), vr (some a1)] h K := by
  show WP T N 101 0 [some (vr (some w)), some (vr (some a1)), none, none] [] h _
  refine R_ps 2 (pc2 := 2) (L2 := [some (vr (some w)), some (vr (some a1)), some (vi (J 0)), none]) (st2 := []) rfl ?_
  exact k
theorem z101_2 {T N : Nat → Nat} {h : PH} {w : Nat} {a1 : Nat} {x2 : Int} {K : Int → PH → Prop} (t0 : T w = 10) (r2 : In x2) (k : (((x2 < (ai h w 4) → (CR T N 90 [vr (some w), vi (J x2)] h (fun x_6 h_5 => (((x_6 = none → (ZW T N 101 2 [some (vr (some w)), some (vr (some a1)), some (vi (J (x2 + 1))), none] [] h_5 K)) ∧ (∀ a_8, x_6 = some a_8 → (T a_8 = 4 ∧ ZI T N 37 [vr (some a_8), vr (some a1)] h_5 (fun x_13 h_12 => (((x_13 = 0 → (ZW T N 101 2 [some (vr (some w)), some (vr (some a1)), some (vi (J (x2 + 1))), none] [] h_12 K)) ∧ (¬ (x_13 = 0) → (K 1 h_12)))))))))))) ∧ (¬ (x2 < (ai h w 4)) → (K 0 h))))) : ZW T N 101 2 [some (vr (some w)), some (vr (some a1)), some (vi (J x2)), none] [] h K := by
  show WP T N 101 2 [some (vr (some w)), some (vr (some a1)), some (vi (J x2)), none] [] h _
  refine R_ps 2 (pc2 := 4) (L2 := [some (vr (some w)), some (vr (some a1)), some (vi (J x2)), none]) (st2 := [vr (some w), vi (J x2)]) rfl ?_
  refine R_zgetI (z := 4) rfl t0 rfl ?_
  refine R_zif (x := x2) (z := ai h w 4) rfl r2 (ai_in _ _ _) (fun c_2 => ?_) (fun c_2 => ?_)
  · have k := k.2 c_2
    refine R_ps 1 (pc2 := 37) (L2 := [some (vr (some w)), some (vr (some a1)), some (vi (J x2)), none]) (st2 := [vi (J 0)]) rfl ?_
    exact R_zzret (x := 0) rfl rfl (Or.inl rfl) (R_zr (x := 0) (K := K) (by decide) k)
  · have k := k.1 (Classical.not_not.mp c_2)
    refine R_ps 2 (pc2 := 12) (L2 := [some (vr (some w)), some (vr (some a1)), some (vi (J x2)), none]) (st2 := [vi (J x2), vr (some w)]) rfl ?_
    refine R_cR (as := [vr (some w), vi (J x2)]) rfl rfl ⟨Nat.le_of_ble_eq_true rfl, Nat.le_of_ble_eq_true rfl, rfl, (Or.inr ⟨_, rfl, t0⟩)⟩ rfl rfl k (fun x_6 h_5 k => ?_)
    refine R_ps 2 (pc2 := 17) (L2 := [some (vr (some w)), some (vr (some a1)), some (vi (J x2)), some (vr x_6)]) (st2 := [vr x_6]) rfl ?_
    rcases null_or (x_6) with e_9 | ⟨a_8, e_9⟩
    · have k := k.1 e_9
      rw [e_9]
      refine R_null rfl (fun _ => ?_) (fun _ c_7 => nomatch c_7)
      refine R_ps 2 (pc2 := 2) (L2 := [some (vr (some w)), some (vr (some a1)), some (vi ((J x2) + J 1)), some (vr none)]) (st2 := []) rfl ?_
      rw [show ((J x2) + J 1) = J (x2 + 1) from J_add' rfl rfl]
      exact R_drop k (LE_of (L := [some (vr (some w)), some (vr (some a1)), some (vi (J (x2 + 1))), none]) (L2 := [some (vr (some w)), some (vr (some a1)), some (vi (J (x2 + 1))), some (vr none)]) ⟨rfl, rfl, rfl, trivial⟩)
    · have k := k.2 a_8 e_9
      rw [e_9]
      refine R_null rfl (fun c_7 => nomatch c_7) (fun _ _ => ?_)
      refine R_ps 2 (pc2 := 22) (L2 := [some (vr (some w)), some (vr (some a1)), some (vi (J x2)), some (vr (some a_8))]) (st2 := [vr (some a1), vr (some a_8)]) rfl ?_
      obtain ⟨t_11, k⟩ := k
      refine R_zcI (as := [vr (some a_8), vr (some a1)]) rfl rfl ⟨Nat.le_of_ble_eq_true rfl, Nat.le_of_ble_eq_true rfl, rfl, (Or.inr ⟨_, rfl, t_11⟩)⟩ rfl rfl k (fun x_13 h_12 r_14 k => ?_)
      refine R_zif0 (x := x_13) rfl r_14 (fun c_15 => ?_) (fun c_15 => ?_)
      · have k := k.1 c_15
        refine R_ps 2 (pc2 := 2) (L2 := [some (vr (some w)), some (vr (some a1)), some (vi ((J x2) + J 1)), some (vr (some a_8))]) (st2 := []) rfl ?_
        rw [show ((J x2) + J 1) = J (x2 + 1) from J_add' rfl rfl]
        exact R_drop k (LE_of (L := [some (vr (some w)), some (vr (some a1)), some (vi (J (x2 + 1))), none]) (L2 := [some (vr (some w)), some (vr (some a1)), some (vi (J (x2 + 1))), some (vr (some a_8))]) ⟨rfl, rfl, rfl, trivial⟩)
      · have k := k.2 c_15
        refine R_ps 1 (pc2 := 29) (L2 := [some (vr (some w)), some (vr (some a1)), some (vi (J x2)), some (vr (some a_8))]) (st2 := [vi (J 1)]) rfl ?_
        exact R_zzret (x := 1) rfl rfl (Or.inr rfl) (R_zr (x := 1) (K := K) (by decide) k)
/-- DroneCorridors$World.sumOf -/
theorem z102 {T N : Nat → Nat} {h : PH} {w : Nat} {x1 : Int} {K : Int → PH → Prop} (r1 : In x1) (k : (ZW T N 102 4 [some (vr (some w)), some (vi (J x1)), some (vi (J 0)), some (vi (J 0)), none] [] h K)) : ZI T N 102 [vr (some w), vi (J x1)] h K := by
  show WP T N 102 0 [some (vr (some w)), some (vi (J x1)), none, none, none] [] h _
  refine R_ps 4 (pc2 := 4) (L2 := [some (vr (some w)), some (vi (J x1)), some (vi (J 0)), some (vi (J 0)), none]) (st2 := []) rfl ?_
  exact k
theorem z102_4 {T N : Nat → Nat} {h : PH} {w : Nat} {x1 : Int} {x2 : Int} {x3 : Int} {K : Int → PH → Prop} (t0 : T w = 10) (r1 : In x1) (r2 : In x2) (r3 : In x3) (k : (((x3 < (ai h w 5) → (CR T N 91 [vr (some w), vi (J x3)] h (fun x_6 h_5 => (((x_6 = none → (ZW T N 102 4 [some (vr (some w)), some (vi (J x1)), some (vi (J x2)), some (vi (J (x3 + 1))), none] [] h_5 K)) ∧ (∀ a_8, x_6 = some a_8 → (T a_8 = 3 ∧ ZI T N 18 [vr (some a_8), vi (J x1)] h_5 (fun x_13 h_12 => (ZW T N 102 4 [some (vr (some w)), some (vi (J x1)), some (vi (J (x2 + x_13))), some (vi (J (x3 + 1))), none] [] h_12 K))))))))) ∧ (¬ (x3 < (ai h w 5)) → (K x2 h))))) : ZW T N 102 4 [some (vr (some w)), some (vi (J x1)), some (vi (J x2)), some (vi (J x3)), none] [] h K := by
  show WP T N 102 4 [some (vr (some w)), some (vi (J x1)), some (vi (J x2)), some (vi (J x3)), none] [] h _
  refine R_ps 2 (pc2 := 6) (L2 := [some (vr (some w)), some (vi (J x1)), some (vi (J x2)), some (vi (J x3)), none]) (st2 := [vr (some w), vi (J x3)]) rfl ?_
  refine R_zgetI (z := 5) rfl t0 rfl ?_
  refine R_zif (x := x3) (z := ai h w 5) rfl r3 (ai_in _ _ _) (fun c_2 => ?_) (fun c_2 => ?_)
  · have k := k.2 c_2
    refine R_ps 1 (pc2 := 40) (L2 := [some (vr (some w)), some (vi (J x1)), some (vi (J x2)), some (vi (J x3)), none]) (st2 := [vi (J x2)]) rfl ?_
    exact R_iret rfl rfl (R_zr (x := x2) (K := K) r2 k)
  · have k := k.1 (Classical.not_not.mp c_2)
    refine R_ps 2 (pc2 := 14) (L2 := [some (vr (some w)), some (vi (J x1)), some (vi (J x2)), some (vi (J x3)), none]) (st2 := [vi (J x3), vr (some w)]) rfl ?_
    refine R_cR (as := [vr (some w), vi (J x3)]) rfl rfl ⟨Nat.le_of_ble_eq_true rfl, Nat.le_of_ble_eq_true rfl, rfl, (Or.inr ⟨_, rfl, t0⟩)⟩ rfl rfl k (fun x_6 h_5 k => ?_)
    refine R_ps 2 (pc2 := 21) (L2 := [some (vr (some w)), some (vi (J x1)), some (vi (J x2)), some (vi (J x3)), some (vr x_6)]) (st2 := [vr x_6]) rfl ?_
    rcases null_or (x_6) with e_9 | ⟨a_8, e_9⟩
    · have k := k.1 e_9
      rw [e_9]
      refine R_null rfl (fun _ => ?_) (fun _ c_7 => nomatch c_7)
      refine R_ps 2 (pc2 := 4) (L2 := [some (vr (some w)), some (vi (J x1)), some (vi (J x2)), some (vi ((J x3) + J 1)), some (vr none)]) (st2 := []) rfl ?_
      rw [show ((J x3) + J 1) = J (x3 + 1) from J_add' rfl rfl]
      exact R_drop k (LE_of (L := [some (vr (some w)), some (vi (J x1)), some (vi (J x2)), some (vi (J (x3 + 1))), none]) (L2 := [some (vr (some w)), some (vi (J x1)), some (vi (J x2)), some (vi (J (x3 + 1))), some (vr none)]) ⟨rfl, rfl, rfl, rfl, trivial⟩)
    · have k := k.2 a_8 e_9
      rw [e_9]
      refine R_null rfl (fun c_7 => nomatch c_7) (fun _ _ => ?_)
      refine R_ps 3 (pc2 := 28) (L2 := [some (vr (some w)), some (vi (J x1)), some (vi (J x2)), some (vi (J x3)), some (vr (some a_8))]) (st2 := [vi (J x1), vr (some a_8), vi (J x2)]) rfl ?_
      obtain ⟨t_11, k⟩ := k
      refine R_zcI (as := [vr (some a_8), vi (J x1)]) rfl rfl ⟨Nat.le_of_ble_eq_true rfl, Nat.le_of_ble_eq_true rfl, rfl, (Or.inr ⟨_, rfl, t_11⟩)⟩ rfl rfl k (fun x_13 h_12 r_14 k => ?_)
      refine R_ps 4 (pc2 := 4) (L2 := [some (vr (some w)), some (vi (J x1)), some (vi ((J x2) + (J x_13))), some (vi ((J x3) + J 1)), some (vr (some a_8))]) (st2 := []) rfl ?_
      rw [show ((J x2) + (J x_13)) = J (x2 + x_13) from J_add' rfl rfl]
      rw [show ((J x3) + J 1) = J (x3 + 1) from J_add' rfl rfl]
      exact R_drop k (LE_of (L := [some (vr (some w)), some (vi (J x1)), some (vi (J (x2 + x_13))), some (vi (J (x3 + 1))), none]) (L2 := [some (vr (some w)), some (vi (J x1)), some (vi (J (x2 + x_13))), some (vi (J (x3 + 1))), some (vr (some a_8))]) ⟨rfl, rfl, rfl, rfl, trivial⟩)
/-- DroneCorridors$World.passTicks -/
theorem z103 {T N : Nat → Nat} {h : PH} {w : Nat} {x1 : Int} {K : Int → PH → Prop} (r1 : In x1) (k : (ZW T N 103 4 [some (vr (some w)), some (vi (J x1)), some (vi (J 0)), some (vi (J 0)), none, none] [] h K)) : ZI T N 103 [vr (some w), vi (J x1)] h K := by
  show WP T N 103 0 [some (vr (some w)), some (vi (J x1)), none, none, none, none] [] h _
  refine R_ps 4 (pc2 := 4) (L2 := [some (vr (some w)), some (vi (J x1)), some (vi (J 0)), some (vi (J 0)), none, none]) (st2 := []) rfl ?_
  exact k
theorem z103_4 {T N : Nat → Nat} {h : PH} {w : Nat} {x1 : Int} {x2 : Int} {x3 : Int} {K : Int → PH → Prop} (r1 : In x1) (r2 : In x2) (r3 : In x3) (k : (((x3 < x1 → (ZW T N 103 12 [some (vr (some w)), some (vi (J x1)), some (vi (J x2)), some (vi (J x3)), some (vi (J 0)), none] [] h K)) ∧ (¬ (x3 < x1) → (K x2 h))))) : ZW T N 103 4 [some (vr (some w)), some (vi (J x1)), some (vi (J x2)), some (vi (J x3)), none, none] [] h K := by
  show WP T N 103 4 [some (vr (some w)), some (vi (J x1)), some (vi (J x2)), some (vi (J x3)), none, none] [] h _
  refine R_ps 2 (pc2 := 6) (L2 := [some (vr (some w)), some (vi (J x1)), some (vi (J x2)), some (vi (J x3)), none, none]) (st2 := [vi (J x1), vi (J x3)]) rfl ?_
  refine R_zif (x := x3) (z := x1) rfl r3 r1 (fun c_1 => ?_) (fun c_1 => ?_)
  · have k := k.2 c_1
    refine R_ps 1 (pc2 := 73) (L2 := [some (vr (some w)), some (vi (J x1)), some (vi (J x2)), some (vi (J x3)), none, none]) (st2 := [vi (J x2)]) rfl ?_
    exact R_iret rfl rfl (R_zr (x := x2) (K := K) r2 k)
  · have k := k.1 (Classical.not_not.mp c_1)
    refine R_ps 2 (pc2 := 12) (L2 := [some (vr (some w)), some (vi (J x1)), some (vi (J x2)), some (vi (J x3)), some (vi (J 0)), none]) (st2 := []) rfl ?_
    exact k
theorem z103_12 {T N : Nat → Nat} {h : PH} {w : Nat} {x1 : Int} {x2 : Int} {x3 : Int} {x4 : Int} {K : Int → PH → Prop} (t0 : T w = 10) (r1 : In x1) (r2 : In x2) (r3 : In x3) (r4 : In x4) (k : (((x4 < (ai h w 5) → (CR T N 91 [vr (some w), vi (J x4)] h (fun x_9 h_8 => (((x_9 = none → (ZW T N 103 12 [some (vr (some w)), some (vi (J x1)), some (vi (J x2)), some (vi (J x3)), some (vi (J (x4 + 1))), none] [] h_8 K)) ∧ (∀ a_11, x_9 = some a_11 → (T a_11 = 3 ∧ ZI T N 31 [vr (some a_11), vr (some w), vi (J (ai h_8 w 0))] h_8 (fun x_17 h_16 => (((x_17 = 0 → (ZW T N 103 12 [some (vr (some w)), some (vi (J x1)), some (vi (J x2)), some (vi (J x3)), some (vi (J (x4 + 1))), none] [] h_16 K)) ∧ (¬ (x_17 = 0) → (ZW T N 103 12 [some (vr (some w)), some (vi (J x1)), some (vi (J (x2 + 1))), some (vi (J x3)), some (vi (J (x4 + 1))), none] [] h_16 K)))))))))))) ∧ (¬ (x4 < (ai h w 5)) → (∀ h_5, h_5 = wi h w 0 ((ai h w 0) + 1) → ZW T N 103 4 [some (vr (some w)), some (vi (J x1)), some (vi (J x2)), some (vi (J (x3 + 1))), none, none] [] h_5 K))))) : ZW T N 103 12 [some (vr (some w)), some (vi (J x1)), some (vi (J x2)), some (vi (J x3)), some (vi (J x4)), none] [] h K := by
  show WP T N 103 12 [some (vr (some w)), some (vi (J x1)), some (vi (J x2)), some (vi (J x3)), some (vi (J x4)), none] [] h _
  refine R_ps 2 (pc2 := 15) (L2 := [some (vr (some w)), some (vi (J x1)), some (vi (J x2)), some (vi (J x3)), some (vi (J x4)), none]) (st2 := [vr (some w), vi (J x4)]) rfl ?_
  refine R_zgetI (z := 5) rfl t0 rfl ?_
  refine R_zif (x := x4) (z := ai h w 5) rfl r4 (ai_in _ _ _) (fun c_2 => ?_) (fun c_2 => ?_)
  · have k := k.2 c_2
    refine R_ps 2 (pc2 := 58) (L2 := [some (vr (some w)), some (vi (J x1)), some (vi (J x2)), some (vi (J x3)), some (vi (J x4)), none]) (st2 := [vr (some w), vr (some w)]) rfl ?_
    refine R_zgetI (z := 0) rfl t0 rfl ?_
    refine R_ps 2 (pc2 := 63) (L2 := [some (vr (some w)), some (vi (J x1)), some (vi (J x2)), some (vi (J x3)), some (vi (J x4)), none]) (st2 := [vi ((J (ai h w 0)) + (J 1)), vr (some w)]) rfl ?_
    rw [show ((J (ai h w 0)) + (J 1)) = J ((ai h w 0) + 1) from J_add' rfl rfl]
    refine R_zputI (x := (ai h w 0) + 1) (z := 0) rfl t0 rfl ?_
    show WP T N _ _ _ _ (wi h w 0 ((ai h w 0) + 1)) _
    generalize e_6 : wi h w 0 ((ai h w 0) + 1) = h_5
    replace k := k h_5 e_6.symm
    refine R_ps 2 (pc2 := 4) (L2 := [some (vr (some w)), some (vi (J x1)), some (vi (J x2)), some (vi ((J x3) + J 1)), some (vi (J x4)), none]) (st2 := []) rfl ?_
    rw [show ((J x3) + J 1) = J (x3 + 1) from J_add' rfl rfl]
    exact R_drop k (LE_of (L := [some (vr (some w)), some (vi (J x1)), some (vi (J x2)), some (vi (J (x3 + 1))), none, none]) (L2 := [some (vr (some w)), some (vi (J x1)), some (vi (J x2)), some (vi (J (x3 + 1))), some (vi (J x4)), none]) ⟨rfl, rfl, rfl, rfl, trivial⟩)
  · have k := k.1 (Classical.not_not.mp c_2)
    refine R_ps 2 (pc2 := 24) (L2 := [some (vr (some w)), some (vi (J x1)), some (vi (J x2)), some (vi (J x3)), some (vi (J x4)), none]) (st2 := [vi (J x4), vr (some w)]) rfl ?_
    refine R_cR (as := [vr (some w), vi (J x4)]) rfl rfl ⟨Nat.le_of_ble_eq_true rfl, Nat.le_of_ble_eq_true rfl, rfl, (Or.inr ⟨_, rfl, t0⟩)⟩ rfl rfl k (fun x_9 h_8 k => ?_)
    refine R_ps 2 (pc2 := 31) (L2 := [some (vr (some w)), some (vi (J x1)), some (vi (J x2)), some (vi (J x3)), some (vi (J x4)), some (vr x_9)]) (st2 := [vr x_9]) rfl ?_
    rcases null_or (x_9) with e_12 | ⟨a_11, e_12⟩
    · have k := k.1 e_12
      rw [e_12]
      refine R_null rfl (fun _ => ?_) (fun _ c_10 => nomatch c_10)
      refine R_ps 2 (pc2 := 12) (L2 := [some (vr (some w)), some (vi (J x1)), some (vi (J x2)), some (vi (J x3)), some (vi ((J x4) + J 1)), some (vr none)]) (st2 := []) rfl ?_
      rw [show ((J x4) + J 1) = J (x4 + 1) from J_add' rfl rfl]
      exact R_drop k (LE_of (L := [some (vr (some w)), some (vi (J x1)), some (vi (J x2)), some (vi (J x3)), some (vi (J (x4 + 1))), none]) (L2 := [some (vr (some w)), some (vi (J x1)), some (vi (J x2)), some (vi (J x3)), some (vi (J (x4 + 1))), some (vr none)]) ⟨rfl, rfl, rfl, rfl, rfl, trivial⟩)
    · have k := k.2 a_11 e_12
      rw [e_12]
      refine R_null rfl (fun c_10 => nomatch c_10) (fun _ _ => ?_)
      refine R_ps 3 (pc2 := 38) (L2 := [some (vr (some w)), some (vi (J x1)), some (vi (J x2)), some (vi (J x3)), some (vi (J x4)), some (vr (some a_11))]) (st2 := [vr (some w), vr (some w), vr (some a_11)]) rfl ?_
      refine R_zgetI (z := 0) rfl t0 rfl ?_
      obtain ⟨t_15, k⟩ := k
      refine R_zcI (as := [vr (some a_11), vr (some w), vi (J (ai h_8 w 0))]) rfl rfl ⟨Nat.le_of_ble_eq_true rfl, Nat.le_of_ble_eq_true rfl, rfl, (Or.inr ⟨_, rfl, t_15⟩)⟩ rfl rfl k (fun x_17 h_16 r_18 k => ?_)
      refine R_zif0 (x := x_17) rfl r_18 (fun c_19 => ?_) (fun c_19 => ?_)
      · have k := k.1 c_19
        refine R_ps 2 (pc2 := 12) (L2 := [some (vr (some w)), some (vi (J x1)), some (vi (J x2)), some (vi (J x3)), some (vi ((J x4) + J 1)), some (vr (some a_11))]) (st2 := []) rfl ?_
        rw [show ((J x4) + J 1) = J (x4 + 1) from J_add' rfl rfl]
        exact R_drop k (LE_of (L := [some (vr (some w)), some (vi (J x1)), some (vi (J x2)), some (vi (J x3)), some (vi (J (x4 + 1))), none]) (L2 := [some (vr (some w)), some (vi (J x1)), some (vi (J x2)), some (vi (J x3)), some (vi (J (x4 + 1))), some (vr (some a_11))]) ⟨rfl, rfl, rfl, rfl, rfl, trivial⟩)
      · have k := k.2 c_19
        refine R_ps 3 (pc2 := 12) (L2 := [some (vr (some w)), some (vi (J x1)), some (vi ((J x2) + J 1)), some (vi (J x3)), some (vi ((J x4) + J 1)), some (vr (some a_11))]) (st2 := []) rfl ?_
        rw [show ((J x2) + J 1) = J (x2 + 1) from J_add' rfl rfl]
        rw [show ((J x4) + J 1) = J (x4 + 1) from J_add' rfl rfl]
        exact R_drop k (LE_of (L := [some (vr (some w)), some (vi (J x1)), some (vi (J (x2 + 1))), some (vi (J x3)), some (vi (J (x4 + 1))), none]) (L2 := [some (vr (some w)), some (vi (J x1)), some (vi (J (x2 + 1))), some (vi (J x3)), some (vi (J (x4 + 1))), some (vr (some a_11))]) ⟨rfl, rfl, rfl, rfl, rfl, trivial⟩)
