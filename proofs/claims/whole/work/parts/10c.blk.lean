/-! WHAT IS TO BE SHOWN OF EACH METHOD, by program (gen_z.py): 104 to 155 -/
/-- DroneCorridors.<init> -/
theorem z104 {T N : Nat → Nat} {h : PH} {w : Nat} {K : PH → Prop} (t0 : T w = 11) (k : (T (nx h) = 10 ∧ ∀ a_3 h_4, a_3 = nx h → h_4 = grow h 9 → CV T N 82 [vr (some a_3)] h_4 (fun h_9 => (∀ h_12, h_12 = sr h_9 w 0 (some a_3) → T (nx h_12) = 10 ∧ ∀ a_15 h_16, a_15 = nx h_12 → h_16 = grow h_12 9 → CV T N 82 [vr (some a_15)] h_16 (fun h_21 => (∀ h_24, h_24 = sr h_21 w 1 (some a_15) → T (nx h_24) = 5 ∧ ∀ a_27 h_28, a_27 = nx h_24 → h_28 = grow h_24 3 → CV T N 39 [vr (some a_27)] h_28 (fun h_33 => (∀ h_36, h_36 = sr h_33 w 2 (some a_27) → T (nx h_36) = 8 ∧ ∀ a_39 h_40, a_39 = nx h_36 → h_40 = grow h_36 18 → CV T N 58 [vr (some a_39)] h_40 (fun h_45 => (∀ h_48, h_48 = sr h_45 w 3 (some a_39) → T (nx h_48) = 9 ∧ ∀ a_51 h_52, a_51 = nx h_48 → h_52 = grow h_48 1 → CV T N 77 [vr (some a_51)] h_52 (fun h_57 => (∀ h_60, h_60 = sr h_57 w 4 (some a_51) → T (nx h_60) = 6 ∧ ∀ a_63 h_64, a_63 = nx h_60 → h_64 = grow h_60 2 → CV T N 47 [vr (some a_63)] h_64 (fun h_69 => (∀ h_72, h_72 = sr h_69 w 5 (some a_63) → T (nx h_72) = 3 ∧ ∀ a_75 h_76, a_75 = nx h_72 → h_76 = grow h_72 10 → CV T N 14 [vr (some a_75)] h_76 (fun h_81 => (∀ h_84, h_84 = sr h_81 w 6 (some a_75) → ∀ h_87, h_87 = wi h_84 w 7 0 → ∀ h_90, h_90 = wi h_87 w 8 (-1) → ∀ h_93, h_93 = wi h_90 w 9 (-1) → K h_93)))))))))))))))) : CV T N 104 [vr (some w)] h K := by
  show WP T N 104 0 [some (vr (some w))] [] h _
  refine R_ps 1 (pc2 := 1) (L2 := [some (vr (some w))]) (st2 := [vr (some w)]) rfl ?_
  refine R_jdk (st2 := []) rfl rfl rfl rfl rfl rfl rfl rfl ?_
  refine R_ps 1 (pc2 := 5) (L2 := [some (vr (some w))]) (st2 := [vr (some w)]) rfl ?_
  obtain ⟨t_7, k⟩ := k
  refine R_new rfl ⟨by decide, t_7⟩ ?_
  show WP T N _ _ _ _ (grow h 9) _
  generalize e_5 : nx h = a_3
  generalize e_6 : grow h 9 = h_4
  replace k := k a_3 h_4 e_5.symm e_6.symm
  refine R_ps 1 (pc2 := 9) (L2 := [some (vr (some w))]) (st2 := [vr (some a_3), vr (some a_3), vr (some w)]) rfl ?_
  refine R_cV (as := [vr (some a_3)]) rfl rfl ⟨Nat.le_of_ble_eq_true rfl, Nat.le_of_ble_eq_true rfl, rfl, (Or.inr ⟨_, rfl, (e_5 ▸ t_7)⟩)⟩ rfl rfl k (fun h_9 k => ?_)
  refine R_putR rfl t0 ?_
  show WP T N _ _ _ _ (sr h_9 w 0 (some a_3)) _
  generalize e_13 : sr h_9 w 0 (some a_3) = h_12
  replace k := k h_12 e_13.symm
  refine R_ps 1 (pc2 := 16) (L2 := [some (vr (some w))]) (st2 := [vr (some w)]) rfl ?_
  obtain ⟨t_19, k⟩ := k
  refine R_new rfl ⟨by decide, t_19⟩ ?_
  show WP T N _ _ _ _ (grow h_12 9) _
  generalize e_17 : nx h_12 = a_15
  generalize e_18 : grow h_12 9 = h_16
  replace k := k a_15 h_16 e_17.symm e_18.symm
  refine R_ps 1 (pc2 := 20) (L2 := [some (vr (some w))]) (st2 := [vr (some a_15), vr (some a_15), vr (some w)]) rfl ?_
  refine R_cV (as := [vr (some a_15)]) rfl rfl ⟨Nat.le_of_ble_eq_true rfl, Nat.le_of_ble_eq_true rfl, rfl, (Or.inr ⟨_, rfl, (e_17 ▸ t_19)⟩)⟩ rfl rfl k (fun h_21 k => ?_)
  refine R_putR rfl t0 ?_
  show WP T N _ _ _ _ (sr h_21 w 1 (some a_15)) _
  generalize e_25 : sr h_21 w 1 (some a_15) = h_24
  replace k := k h_24 e_25.symm
  refine R_ps 1 (pc2 := 27) (L2 := [some (vr (some w))]) (st2 := [vr (some w)]) rfl ?_
  obtain ⟨t_31, k⟩ := k
  refine R_new rfl ⟨by decide, t_31⟩ ?_
  show WP T N _ _ _ _ (grow h_24 3) _
  generalize e_29 : nx h_24 = a_27
  generalize e_30 : grow h_24 3 = h_28
  replace k := k a_27 h_28 e_29.symm e_30.symm
  refine R_ps 1 (pc2 := 31) (L2 := [some (vr (some w))]) (st2 := [vr (some a_27), vr (some a_27), vr (some w)]) rfl ?_
  refine R_cV (as := [vr (some a_27)]) rfl rfl ⟨Nat.le_of_ble_eq_true rfl, Nat.le_of_ble_eq_true rfl, rfl, (Or.inr ⟨_, rfl, (e_29 ▸ t_31)⟩)⟩ rfl rfl k (fun h_33 k => ?_)
  refine R_putR rfl t0 ?_
  show WP T N _ _ _ _ (sr h_33 w 2 (some a_27)) _
  generalize e_37 : sr h_33 w 2 (some a_27) = h_36
  replace k := k h_36 e_37.symm
  refine R_ps 1 (pc2 := 38) (L2 := [some (vr (some w))]) (st2 := [vr (some w)]) rfl ?_
  obtain ⟨t_43, k⟩ := k
  refine R_new rfl ⟨by decide, t_43⟩ ?_
  show WP T N _ _ _ _ (grow h_36 18) _
  generalize e_41 : nx h_36 = a_39
  generalize e_42 : grow h_36 18 = h_40
  replace k := k a_39 h_40 e_41.symm e_42.symm
  refine R_ps 1 (pc2 := 42) (L2 := [some (vr (some w))]) (st2 := [vr (some a_39), vr (some a_39), vr (some w)]) rfl ?_
  refine R_cV (as := [vr (some a_39)]) rfl rfl ⟨Nat.le_of_ble_eq_true rfl, Nat.le_of_ble_eq_true rfl, rfl, (Or.inr ⟨_, rfl, (e_41 ▸ t_43)⟩)⟩ rfl rfl k (fun h_45 k => ?_)
  refine R_putR rfl t0 ?_
  show WP T N _ _ _ _ (sr h_45 w 3 (some a_39)) _
  generalize e_49 : sr h_45 w 3 (some a_39) = h_48
  replace k := k h_48 e_49.symm
  refine R_ps 1 (pc2 := 49) (L2 := [some (vr (some w))]) (st2 := [vr (some w)]) rfl ?_
  obtain ⟨t_55, k⟩ := k
  refine R_new rfl ⟨by decide, t_55⟩ ?_
  show WP T N _ _ _ _ (grow h_48 1) _
  generalize e_53 : nx h_48 = a_51
  generalize e_54 : grow h_48 1 = h_52
  replace k := k a_51 h_52 e_53.symm e_54.symm
  refine R_ps 1 (pc2 := 53) (L2 := [some (vr (some w))]) (st2 := [vr (some a_51), vr (some a_51), vr (some w)]) rfl ?_
  refine R_cV (as := [vr (some a_51)]) rfl rfl ⟨Nat.le_of_ble_eq_true rfl, Nat.le_of_ble_eq_true rfl, rfl, (Or.inr ⟨_, rfl, (e_53 ▸ t_55)⟩)⟩ rfl rfl k (fun h_57 k => ?_)
  refine R_putR rfl t0 ?_
  show WP T N _ _ _ _ (sr h_57 w 4 (some a_51)) _
  generalize e_61 : sr h_57 w 4 (some a_51) = h_60
  replace k := k h_60 e_61.symm
  refine R_ps 1 (pc2 := 60) (L2 := [some (vr (some w))]) (st2 := [vr (some w)]) rfl ?_
  obtain ⟨t_67, k⟩ := k
  refine R_new rfl ⟨by decide, t_67⟩ ?_
  show WP T N _ _ _ _ (grow h_60 2) _
  generalize e_65 : nx h_60 = a_63
  generalize e_66 : grow h_60 2 = h_64
  replace k := k a_63 h_64 e_65.symm e_66.symm
  refine R_ps 1 (pc2 := 64) (L2 := [some (vr (some w))]) (st2 := [vr (some a_63), vr (some a_63), vr (some w)]) rfl ?_
  refine R_cV (as := [vr (some a_63)]) rfl rfl ⟨Nat.le_of_ble_eq_true rfl, Nat.le_of_ble_eq_true rfl, rfl, (Or.inr ⟨_, rfl, (e_65 ▸ t_67)⟩)⟩ rfl rfl k (fun h_69 k => ?_)
  refine R_putR rfl t0 ?_
  show WP T N _ _ _ _ (sr h_69 w 5 (some a_63)) _
  generalize e_73 : sr h_69 w 5 (some a_63) = h_72
  replace k := k h_72 e_73.symm
  refine R_ps 1 (pc2 := 71) (L2 := [some (vr (some w))]) (st2 := [vr (some w)]) rfl ?_
  obtain ⟨t_79, k⟩ := k
  refine R_new rfl ⟨by decide, t_79⟩ ?_
  show WP T N _ _ _ _ (grow h_72 10) _
  generalize e_77 : nx h_72 = a_75
  generalize e_78 : grow h_72 10 = h_76
  replace k := k a_75 h_76 e_77.symm e_78.symm
  refine R_ps 1 (pc2 := 75) (L2 := [some (vr (some w))]) (st2 := [vr (some a_75), vr (some a_75), vr (some w)]) rfl ?_
  refine R_cV (as := [vr (some a_75)]) rfl rfl ⟨Nat.le_of_ble_eq_true rfl, Nat.le_of_ble_eq_true rfl, rfl, (Or.inr ⟨_, rfl, (e_77 ▸ t_79)⟩)⟩ rfl rfl k (fun h_81 k => ?_)
  refine R_putR rfl t0 ?_
  show WP T N _ _ _ _ (sr h_81 w 6 (some a_75)) _
  generalize e_85 : sr h_81 w 6 (some a_75) = h_84
  replace k := k h_84 e_85.symm
  refine R_ps 2 (pc2 := 83) (L2 := [some (vr (some w))]) (st2 := [vi (J 0), vr (some w)]) rfl ?_
  refine R_zputZ (x := 0) (z := 7) rfl t0 (Or.inl rfl) rfl ?_
  show WP T N _ _ _ _ (wi h_84 w 7 0) _
  generalize e_88 : wi h_84 w 7 0 = h_87
  replace k := k h_87 e_88.symm
  refine R_ps 2 (pc2 := 88) (L2 := [some (vr (some w))]) (st2 := [vi (J (-1)), vr (some w)]) rfl ?_
  refine R_zputI (x := (-1)) (z := 8) rfl t0 rfl ?_
  show WP T N _ _ _ _ (wi h_87 w 8 (-1)) _
  generalize e_91 : wi h_87 w 8 (-1) = h_90
  replace k := k h_90 e_91.symm
  refine R_ps 2 (pc2 := 93) (L2 := [some (vr (some w))]) (st2 := [vi (J (-1)), vr (some w)]) rfl ?_
  refine R_zputI (x := (-1)) (z := 9) rfl t0 rfl ?_
  show WP T N _ _ _ _ (wi h_90 w 9 (-1)) _
  generalize e_94 : wi h_90 w 9 (-1) = h_93
  replace k := k h_93 e_94.symm
  exact R_ret rfl rfl ⟨rfl, k⟩
/-- DroneCorridors.clear -/
theorem z105 {T N : Nat → Nat} {h : PH} {w : Nat} {K : Int → PH → Prop} (t0 : T w = 11) (k : (∃ a_3, (gr h w 0) = some a_3 ∧ T a_3 = 10 ∧ ∃ a_8, (gr h w 0) = some a_8 ∧ T a_8 = 10 ∧ CV T N 83 [vr (some a_8)] h (fun h_11 => (∃ a_15, (gr h_11 w 2) = some a_15 ∧ T a_15 = 5 ∧ CV T N 40 [vr (some a_15)] h_11 (fun h_18 => (K (ai h a_3 1) h_18)))))) : ZI T N 105 [vr (some w)] h K := by
  show WP T N 105 0 [some (vr (some w)), none] [] h _
  refine R_ps 1 (pc2 := 1) (L2 := [some (vr (some w)), none]) (st2 := [vr (some w)]) rfl ?_
  refine R_getR rfl t0 ?_
  obtain ⟨a_3, e_4, k⟩ := k
  rw [e_4]
  obtain ⟨t_5, k⟩ := k
  refine R_zgetI (z := 1) rfl t_5 rfl ?_
  refine R_ps 2 (pc2 := 9) (L2 := [some (vr (some w)), some (vi (J (ai h a_3 1)))]) (st2 := [vr (some w)]) rfl ?_
  refine R_getR rfl t0 ?_
  obtain ⟨a_8, e_9, k⟩ := k
  rw [e_9]
  obtain ⟨t_10, k⟩ := k
  refine R_cV (as := [vr (some a_8)]) rfl rfl ⟨Nat.le_of_ble_eq_true rfl, Nat.le_of_ble_eq_true rfl, rfl, (Or.inr ⟨_, rfl, t_10⟩)⟩ rfl rfl k (fun h_11 k => ?_)
  refine R_ps 1 (pc2 := 16) (L2 := [some (vr (some w)), some (vi (J (ai h a_3 1)))]) (st2 := [vr (some w)]) rfl ?_
  refine R_getR rfl t0 ?_
  obtain ⟨a_15, e_16, k⟩ := k
  rw [e_16]
  obtain ⟨t_17, k⟩ := k
  refine R_cV (as := [vr (some a_15)]) rfl rfl ⟨Nat.le_of_ble_eq_true rfl, Nat.le_of_ble_eq_true rfl, rfl, (Or.inr ⟨_, rfl, t_17⟩)⟩ rfl rfl k (fun h_18 k => ?_)
  refine R_ps 1 (pc2 := 23) (L2 := [some (vr (some w)), some (vi (J (ai h a_3 1)))]) (st2 := [vi (J (ai h a_3 1))]) rfl ?_
  exact R_iret rfl rfl (R_zr (x := ai h a_3 1) (K := K) (ai_in _ _ _) k)
/-- DroneCorridors.addNode -/
theorem z106 {T N : Nat → Nat} {h : PH} {w : Nat} {x1 : Int} {K : PR → PH → Prop} (t0 : T w = 11) (r1 : In x1) (k : (∃ a_3, (gr h w 0) = some a_3 ∧ T a_3 = 10 ∧ (((ai h a_3 1) < 10 → (∃ a_10, (gr h w 2) = some a_10 ∧ T a_10 = 5 ∧ CV T N 41 [vr (some a_10), vr (gr h w 0)] h (fun h_13 => (∃ a_17, (gr h_13 w 0) = some a_17 ∧ T a_17 = 10 ∧ ZI T N 92 [vr (some a_17), vi (J x1)] h_13 (fun x_21 h_20 => (K (.inl (some (vi (J x_21)))) h_20)))))) ∧ (¬ ((ai h a_3 1) < 10) → ((∀ a, nx h ≤ a → T a = 0) ∧ K (.inr 0) (bump h)))))) : CALL T N 106 [vr (some w), vi (J x1)] h K := by
  show WP T N 106 0 [some (vr (some w)), some (vi (J x1))] [] h _
  refine R_ps 1 (pc2 := 1) (L2 := [some (vr (some w)), some (vi (J x1))]) (st2 := [vr (some w)]) rfl ?_
  refine R_getR rfl t0 ?_
  obtain ⟨a_3, e_4, k⟩ := k
  rw [e_4]
  obtain ⟨t_5, k⟩ := k
  refine R_zgetI (z := 1) rfl t_5 rfl ?_
  refine R_ps 1 (pc2 := 9) (L2 := [some (vr (some w)), some (vi (J x1))]) (st2 := [vi (J 10), vi (J (ai h a_3 1))]) rfl ?_
  refine R_zif (x := ai h a_3 1) (z := 10) rfl (ai_in _ _ _) (by decide) (fun c_6 => ?_) (fun c_6 => ?_)
  · have k := k.1 c_6
    refine R_ps 1 (pc2 := 23) (L2 := [some (vr (some w)), some (vi (J x1))]) (st2 := [vr (some w)]) rfl ?_
    refine R_getR rfl t0 ?_
    refine R_ps 1 (pc2 := 27) (L2 := [some (vr (some w)), some (vi (J x1))]) (st2 := [vr (some w), vr (gr h w 2)]) rfl ?_
    refine R_getR rfl t0 ?_
    obtain ⟨a_10, e_11, k⟩ := k
    rw [e_11]
    obtain ⟨t_12, k⟩ := k
    refine R_cV (as := [vr (some a_10), vr (gr h w 0)]) rfl rfl ⟨Nat.le_of_ble_eq_true rfl, Nat.le_of_ble_eq_true rfl, rfl, (Or.inr ⟨_, rfl, t_12⟩)⟩ rfl rfl k (fun h_13 k => ?_)
    refine R_ps 1 (pc2 := 34) (L2 := [some (vr (some w)), some (vi (J x1))]) (st2 := [vr (some w)]) rfl ?_
    refine R_getR rfl t0 ?_
    refine R_ps 1 (pc2 := 38) (L2 := [some (vr (some w)), some (vi (J x1))]) (st2 := [vi (J x1), vr (gr h_13 w 0)]) rfl ?_
    obtain ⟨a_17, e_18, k⟩ := k
    rw [e_18]
    obtain ⟨t_19, k⟩ := k
    refine R_zcI (as := [vr (some a_17), vi (J x1)]) rfl rfl ⟨Nat.le_of_ble_eq_true rfl, Nat.le_of_ble_eq_true rfl, rfl, (Or.inr ⟨_, rfl, t_19⟩)⟩ rfl rfl k (fun x_21 h_20 r_22 k => ?_)
    exact R_iret rfl rfl k
  · have k := k.2 c_6
    obtain ⟨t_25, k⟩ := k
    exact R_throw rfl rfl ⟨Nat.le_of_ble_eq_true rfl, t_25⟩ k
/-- DroneCorridors.addCorridor -/
theorem z107 {T N : Nat → Nat} {h : PH} {w : Nat} {x1 : Int} {x2 : Int} {x3 : Int} {x4 : Int} {K : PR → PH → Prop} (t0 : T w = 11) (r1 : In x1) (r2 : In x2) (r3 : In x3) (r4 : In x4) (k : (∃ a_3, (gr h w 0) = some a_3 ∧ T a_3 = 10 ∧ ZI T N 88 [vr (some a_3), vi (J x1)] h (fun x_7 h_6 => (((x_7 = 0 → ((∀ a, nx h_6 ≤ a → T a = 0) ∧ K (.inr 2) (bump h_6))) ∧ (¬ (x_7 = 0) → (∃ a_14, (gr h_6 w 0) = some a_14 ∧ T a_14 = 10 ∧ ZI T N 88 [vr (some a_14), vi (J x2)] h_6 (fun x_18 h_17 => (((x_18 = 0 → ((∀ a, nx h_17 ≤ a → T a = 0) ∧ K (.inr 2) (bump h_17))) ∧ (¬ (x_18 = 0) → (((x1 = x2 → ((∀ a, nx h_17 ≤ a → T a = 0) ∧ K (.inr 1) (bump h_17))) ∧ (¬ (x1 = x2) → (((x3 < 1 → ((∀ a, nx h_17 ≤ a → T a = 0) ∧ K (.inr 1) (bump h_17))) ∧ (¬ (x3 < 1) → (((9 < x3 → ((∀ a, nx h_17 ≤ a → T a = 0) ∧ K (.inr 1) (bump h_17))) ∧ (¬ (9 < x3) → (ZI T N 147 [vi (J x3), vi (J x4)] h_17 (fun x_32 h_31 => (((x_32 = 0 → ((∀ a, nx h_31 ≤ a → T a = 0) ∧ K (.inr 1) (bump h_31))) ∧ (¬ (x_32 = 0) → (∃ a_37, (gr h_31 w 0) = some a_37 ∧ T a_37 = 10 ∧ (((ai h_31 a_37 3) < 16 → (∃ a_44, (gr h_31 w 2) = some a_44 ∧ T a_44 = 5 ∧ CV T N 41 [vr (some a_44), vr (gr h_31 w 0)] h_31 (fun h_47 => (∃ a_51, (gr h_47 w 0) = some a_51 ∧ T a_51 = 10 ∧ ZI T N 93 [vr (some a_51), vi (J x1), vi (J x2), vi (J x3), vi (J x4)] h_47 (fun x_55 h_54 => (K (.inl (some (vi (J x_55)))) h_54)))))) ∧ (¬ ((ai h_31 a_37 3) < 16) → ((∀ a, nx h_31 ≤ a → T a = 0) ∧ K (.inr 0) (bump h_31)))))))))))))))))))))))))))))) : CALL T N 107 [vr (some w), vi (J x1), vi (J x2), vi (J x3), vi (J x4)] h K := by
  show WP T N 107 0 [some (vr (some w)), some (vi (J x1)), some (vi (J x2)), some (vi (J x3)), some (vi (J x4))] [] h _
  refine R_ps 1 (pc2 := 1) (L2 := [some (vr (some w)), some (vi (J x1)), some (vi (J x2)), some (vi (J x3)), some (vi (J x4))]) (st2 := [vr (some w)]) rfl ?_
  refine R_getR rfl t0 ?_
  refine R_ps 1 (pc2 := 5) (L2 := [some (vr (some w)), some (vi (J x1)), some (vi (J x2)), some (vi (J x3)), some (vi (J x4))]) (st2 := [vi (J x1), vr (gr h w 0)]) rfl ?_
  obtain ⟨a_3, e_4, k⟩ := k
  rw [e_4]
  obtain ⟨t_5, k⟩ := k
  refine R_zcI (as := [vr (some a_3), vi (J x1)]) rfl rfl ⟨Nat.le_of_ble_eq_true rfl, Nat.le_of_ble_eq_true rfl, rfl, (Or.inr ⟨_, rfl, t_5⟩)⟩ rfl rfl k (fun x_7 h_6 r_8 k => ?_)
  refine R_zif0 (x := x_7) rfl r_8 (fun c_9 => ?_) (fun c_9 => ?_)
  · have k := k.1 c_9
    obtain ⟨t_11, k⟩ := k
    exact R_throw rfl rfl ⟨Nat.le_of_ble_eq_true rfl, t_11⟩ k
  · have k := k.2 c_9
    refine R_ps 1 (pc2 := 12) (L2 := [some (vr (some w)), some (vi (J x1)), some (vi (J x2)), some (vi (J x3)), some (vi (J x4))]) (st2 := [vr (some w)]) rfl ?_
    refine R_getR rfl t0 ?_
    refine R_ps 1 (pc2 := 16) (L2 := [some (vr (some w)), some (vi (J x1)), some (vi (J x2)), some (vi (J x3)), some (vi (J x4))]) (st2 := [vi (J x2), vr (gr h_6 w 0)]) rfl ?_
    obtain ⟨a_14, e_15, k⟩ := k
    rw [e_15]
    obtain ⟨t_16, k⟩ := k
    refine R_zcI (as := [vr (some a_14), vi (J x2)]) rfl rfl ⟨Nat.le_of_ble_eq_true rfl, Nat.le_of_ble_eq_true rfl, rfl, (Or.inr ⟨_, rfl, t_16⟩)⟩ rfl rfl k (fun x_18 h_17 r_19 k => ?_)
    refine R_zif0 (x := x_18) rfl r_19 (fun c_20 => ?_) (fun c_20 => ?_)
    · have k := k.2 c_20
      refine R_ps 2 (pc2 := 34) (L2 := [some (vr (some w)), some (vi (J x1)), some (vi (J x2)), some (vi (J x3)), some (vi (J x4))]) (st2 := [vi (J x2), vi (J x1)]) rfl ?_
      refine R_zif (x := x1) (z := x2) rfl r1 r2 (fun c_21 => ?_) (fun c_21 => ?_)
      · have k := k.1 c_21
        obtain ⟨t_23, k⟩ := k
        exact R_throw rfl rfl ⟨Nat.le_of_ble_eq_true rfl, t_23⟩ k
      · have k := k.2 c_21
        refine R_ps 2 (pc2 := 39) (L2 := [some (vr (some w)), some (vi (J x1)), some (vi (J x2)), some (vi (J x3)), some (vi (J x4))]) (st2 := [vi (J 1), vi (J x3)]) rfl ?_
        refine R_zif (x := x3) (z := 1) rfl r3 (by decide) (fun c_24 => ?_) (fun c_24 => ?_)
        · have k := k.1 c_24
          obtain ⟨t_26, k⟩ := k
          exact R_throw rfl rfl ⟨Nat.le_of_ble_eq_true rfl, t_26⟩ k
        · have k := k.2 c_24
          refine R_ps 2 (pc2 := 45) (L2 := [some (vr (some w)), some (vi (J x1)), some (vi (J x2)), some (vi (J x3)), some (vi (J x4))]) (st2 := [vi (J 9), vi (J x3)]) rfl ?_
          refine R_zif (x := x3) (z := 9) rfl r3 (by decide) (fun c_27 => ?_) (fun c_27 => ?_)
          · have k := k.1 c_27
            obtain ⟨t_29, k⟩ := k
            exact R_throw rfl rfl ⟨Nat.le_of_ble_eq_true rfl, t_29⟩ k
          · have k := k.2 c_27
            refine R_ps 2 (pc2 := 51) (L2 := [some (vr (some w)), some (vi (J x1)), some (vi (J x2)), some (vi (J x3)), some (vi (J x4))]) (st2 := [vi (J x4), vi (J x3)]) rfl ?_
            refine R_zcI (as := [vi (J x3), vi (J x4)]) rfl rfl ⟨Nat.le_of_ble_eq_true rfl, Nat.le_of_ble_eq_true rfl, rfl, (Or.inl rfl)⟩ rfl rfl k (fun x_32 h_31 r_33 k => ?_)
            refine R_zif0 (x := x_32) rfl r_33 (fun c_34 => ?_) (fun c_34 => ?_)
            · have k := k.2 c_34
              refine R_ps 1 (pc2 := 68) (L2 := [some (vr (some w)), some (vi (J x1)), some (vi (J x2)), some (vi (J x3)), some (vi (J x4))]) (st2 := [vr (some w)]) rfl ?_
              refine R_getR rfl t0 ?_
              obtain ⟨a_37, e_38, k⟩ := k
              rw [e_38]
              obtain ⟨t_39, k⟩ := k
              refine R_zgetI (z := 3) rfl t_39 rfl ?_
              refine R_ps 1 (pc2 := 76) (L2 := [some (vr (some w)), some (vi (J x1)), some (vi (J x2)), some (vi (J x3)), some (vi (J x4))]) (st2 := [vi (J 16), vi (J (ai h_31 a_37 3))]) rfl ?_
              refine R_zif (x := ai h_31 a_37 3) (z := 16) rfl (ai_in _ _ _) (by decide) (fun c_40 => ?_) (fun c_40 => ?_)
              · have k := k.1 c_40
                refine R_ps 1 (pc2 := 90) (L2 := [some (vr (some w)), some (vi (J x1)), some (vi (J x2)), some (vi (J x3)), some (vi (J x4))]) (st2 := [vr (some w)]) rfl ?_
                refine R_getR rfl t0 ?_
                refine R_ps 1 (pc2 := 94) (L2 := [some (vr (some w)), some (vi (J x1)), some (vi (J x2)), some (vi (J x3)), some (vi (J x4))]) (st2 := [vr (some w), vr (gr h_31 w 2)]) rfl ?_
                refine R_getR rfl t0 ?_
                obtain ⟨a_44, e_45, k⟩ := k
                rw [e_45]
                obtain ⟨t_46, k⟩ := k
                refine R_cV (as := [vr (some a_44), vr (gr h_31 w 0)]) rfl rfl ⟨Nat.le_of_ble_eq_true rfl, Nat.le_of_ble_eq_true rfl, rfl, (Or.inr ⟨_, rfl, t_46⟩)⟩ rfl rfl k (fun h_47 k => ?_)
                refine R_ps 1 (pc2 := 101) (L2 := [some (vr (some w)), some (vi (J x1)), some (vi (J x2)), some (vi (J x3)), some (vi (J x4))]) (st2 := [vr (some w)]) rfl ?_
                refine R_getR rfl t0 ?_
                refine R_ps 4 (pc2 := 109) (L2 := [some (vr (some w)), some (vi (J x1)), some (vi (J x2)), some (vi (J x3)), some (vi (J x4))]) (st2 := [vi (J x4), vi (J x3), vi (J x2), vi (J x1), vr (gr h_47 w 0)]) rfl ?_
                obtain ⟨a_51, e_52, k⟩ := k
                rw [e_52]
                obtain ⟨t_53, k⟩ := k
                refine R_zcI (as := [vr (some a_51), vi (J x1), vi (J x2), vi (J x3), vi (J x4)]) rfl rfl ⟨Nat.le_of_ble_eq_true rfl, Nat.le_of_ble_eq_true rfl, rfl, (Or.inr ⟨_, rfl, t_53⟩)⟩ rfl rfl k (fun x_55 h_54 r_56 k => ?_)
                exact R_iret rfl rfl k
              · have k := k.2 c_40
                obtain ⟨t_59, k⟩ := k
                exact R_throw rfl rfl ⟨Nat.le_of_ble_eq_true rfl, t_59⟩ k
            · have k := k.1 (Classical.not_not.mp c_34)
              obtain ⟨t_61, k⟩ := k
              exact R_throw rfl rfl ⟨Nat.le_of_ble_eq_true rfl, t_61⟩ k
    · have k := k.1 (Classical.not_not.mp c_20)
      obtain ⟨t_63, k⟩ := k
      exact R_throw rfl rfl ⟨Nat.le_of_ble_eq_true rfl, t_63⟩ k
/-- DroneCorridors.setWind -/
theorem z108 {T N : Nat → Nat} {h : PH} {w : Nat} {x1 : Int} {x2 : Int} {K : PR → PH → Prop} (t0 : T w = 11) (r1 : In x1) (r2 : In x2) (k : (∃ a_3, (gr h w 0) = some a_3 ∧ T a_3 = 10 ∧ CR T N 89 [vr (some a_3), vi (J x1)] h (fun x_7 h_6 => (((x_7 = none → ((∀ a, nx h_6 ≤ a → T a = 0) ∧ K (.inr 2) (bump h_6))) ∧ (∀ a_9, x_7 = some a_9 → (T a_9 = 2 ∧ ZI T N 147 [vi (J (ai h_6 a_9 2)), vi (J x2)] h_6 (fun x_17 h_16 => (((x_17 = 0 → ((∀ a, nx h_16 ≤ a → T a = 0) ∧ K (.inr 1) (bump h_16))) ∧ (¬ (x_17 = 0) → (∃ a_23, (gr h_16 w 2) = some a_23 ∧ T a_23 = 5 ∧ CV T N 41 [vr (some a_23), vr (gr h_16 w 0)] h_16 (fun h_26 => (∀ h_30, h_30 = wi h_26 a_9 3 x2 → K (.inl (some (vi (J (ai h_26 a_9 3))))) h_30)))))))))))))) : CALL T N 108 [vr (some w), vi (J x1), vi (J x2)] h K := by
  show WP T N 108 0 [some (vr (some w)), some (vi (J x1)), some (vi (J x2)), none, none] [] h _
  refine R_ps 1 (pc2 := 1) (L2 := [some (vr (some w)), some (vi (J x1)), some (vi (J x2)), none, none]) (st2 := [vr (some w)]) rfl ?_
  refine R_getR rfl t0 ?_
  refine R_ps 1 (pc2 := 5) (L2 := [some (vr (some w)), some (vi (J x1)), some (vi (J x2)), none, none]) (st2 := [vi (J x1), vr (gr h w 0)]) rfl ?_
  obtain ⟨a_3, e_4, k⟩ := k
  rw [e_4]
  obtain ⟨t_5, k⟩ := k
  refine R_cR (as := [vr (some a_3), vi (J x1)]) rfl rfl ⟨Nat.le_of_ble_eq_true rfl, Nat.le_of_ble_eq_true rfl, rfl, (Or.inr ⟨_, rfl, t_5⟩)⟩ rfl rfl k (fun x_7 h_6 k => ?_)
  refine R_ps 2 (pc2 := 10) (L2 := [some (vr (some w)), some (vi (J x1)), some (vi (J x2)), some (vr x_7), none]) (st2 := [vr x_7]) rfl ?_
  rcases null_or (x_7) with e_10 | ⟨a_9, e_10⟩
  · have k := k.1 e_10
    rw [e_10]
    refine R_nonnull rfl (fun _ => ?_) (fun _ c_8 => nomatch c_8)
    obtain ⟨t_12, k⟩ := k
    exact R_throw rfl rfl ⟨Nat.le_of_ble_eq_true rfl, t_12⟩ k
  · have k := k.2 a_9 e_10
    rw [e_10]
    refine R_nonnull rfl (fun c_8 => nomatch c_8) (fun _ _ => ?_)
    refine R_ps 1 (pc2 := 24) (L2 := [some (vr (some w)), some (vi (J x1)), some (vi (J x2)), some (vr (some a_9)), none]) (st2 := [vr (some a_9)]) rfl ?_
    obtain ⟨t_14, k⟩ := k
    refine R_zgetI (z := 2) rfl t_14 rfl ?_
    refine R_ps 1 (pc2 := 28) (L2 := [some (vr (some w)), some (vi (J x1)), some (vi (J x2)), some (vr (some a_9)), none]) (st2 := [vi (J x2), vi (J (ai h_6 a_9 2))]) rfl ?_
    refine R_zcI (as := [vi (J (ai h_6 a_9 2)), vi (J x2)]) rfl rfl ⟨Nat.le_of_ble_eq_true rfl, Nat.le_of_ble_eq_true rfl, rfl, (Or.inl rfl)⟩ rfl rfl k (fun x_17 h_16 r_18 k => ?_)
    refine R_zif0 (x := x_17) rfl r_18 (fun c_19 => ?_) (fun c_19 => ?_)
    · have k := k.2 c_19
      refine R_ps 1 (pc2 := 45) (L2 := [some (vr (some w)), some (vi (J x1)), some (vi (J x2)), some (vr (some a_9)), none]) (st2 := [vr (some w)]) rfl ?_
      refine R_getR rfl t0 ?_
      refine R_ps 1 (pc2 := 49) (L2 := [some (vr (some w)), some (vi (J x1)), some (vi (J x2)), some (vr (some a_9)), none]) (st2 := [vr (some w), vr (gr h_16 w 2)]) rfl ?_
      refine R_getR rfl t0 ?_
      obtain ⟨a_23, e_24, k⟩ := k
      rw [e_24]
      obtain ⟨t_25, k⟩ := k
      refine R_cV (as := [vr (some a_23), vr (gr h_16 w 0)]) rfl rfl ⟨Nat.le_of_ble_eq_true rfl, Nat.le_of_ble_eq_true rfl, rfl, (Or.inr ⟨_, rfl, t_25⟩)⟩ rfl rfl k (fun h_26 k => ?_)
      refine R_ps 1 (pc2 := 56) (L2 := [some (vr (some w)), some (vi (J x1)), some (vi (J x2)), some (vr (some a_9)), none]) (st2 := [vr (some a_9)]) rfl ?_
      refine R_zgetI (z := 3) rfl t_14 rfl ?_
      refine R_ps 3 (pc2 := 63) (L2 := [some (vr (some w)), some (vi (J x1)), some (vi (J x2)), some (vr (some a_9)), some (vi (J (ai h_26 a_9 3)))]) (st2 := [vi (J x2), vr (some a_9)]) rfl ?_
      refine R_zputI (x := x2) (z := 3) rfl t_14 rfl ?_
      show WP T N _ _ _ _ (wi h_26 a_9 3 x2) _
      generalize e_31 : wi h_26 a_9 3 x2 = h_30
      replace k := k h_30 e_31.symm
      refine R_ps 1 (pc2 := 68) (L2 := [some (vr (some w)), some (vi (J x1)), some (vi (J x2)), some (vr (some a_9)), some (vi (J (ai h_26 a_9 3)))]) (st2 := [vi (J (ai h_26 a_9 3))]) rfl ?_
      exact R_iret rfl rfl k
    · have k := k.1 (Classical.not_not.mp c_19)
      obtain ⟨t_34, k⟩ := k
      exact R_throw rfl rfl ⟨Nat.le_of_ble_eq_true rfl, t_34⟩ k
/-- DroneCorridors.addFence -/
theorem z109 {T N : Nat → Nat} {h : PH} {w : Nat} {x1 : Int} {x2 : Int} {x3 : Int} {x4 : Int} {K : PR → PH → Prop} (t0 : T w = 11) (r1 : In x1) (r2 : In x2) (r3 : In x3) (r4 : In x4) (k : (∃ a_3, (gr h w 0) = some a_3 ∧ T a_3 = 10 ∧ CR T N 89 [vr (some a_3), vi (J x1)] h (fun x_7 h_6 => (((x_7 = none → ((∀ a, nx h_6 ≤ a → T a = 0) ∧ K (.inr 2) (bump h_6))) ∧ (∀ a_9, x_7 = some a_9 → (((x2 < 1 → ((∀ a, nx h_6 ≤ a → T a = 0) ∧ K (.inr 1) (bump h_6))) ∧ (¬ (x2 < 1) → (((7 < x2 → ((∀ a, nx h_6 ≤ a → T a = 0) ∧ K (.inr 1) (bump h_6))) ∧ (¬ (7 < x2) → (((x3 < 0 → ((∀ a, nx h_6 ≤ a → T a = 0) ∧ K (.inr 1) (bump h_6))) ∧ (¬ (x3 < 0) → (((x3 < x4 → (((10000 < x4 → ((∀ a, nx h_6 ≤ a → T a = 0) ∧ K (.inr 1) (bump h_6))) ∧ (¬ (10000 < x4) → (∃ a_28, (gr h_6 w 0) = some a_28 ∧ T a_28 = 10 ∧ (((ai h_6 a_28 4) < 10 → (∃ a_35, (gr h_6 w 2) = some a_35 ∧ T a_35 = 5 ∧ CV T N 41 [vr (some a_35), vr (gr h_6 w 0)] h_6 (fun h_38 => (∃ a_42, (gr h_38 w 0) = some a_42 ∧ T a_42 = 10 ∧ CV T N 94 [vr (some a_42), vi (J x1), vi (J x2), vi (J x3), vi (J x4)] h_38 (fun h_45 => (∃ a_49, (gr h_45 w 0) = some a_49 ∧ T a_49 = 10 ∧ ZI T N 99 [vr (some a_49)] h_45 (fun x_53 h_52 => (K (.inl (some (vi (J x_53)))) h_52)))))))) ∧ (¬ ((ai h_6 a_28 4) < 10) → ((∀ a, nx h_6 ≤ a → T a = 0) ∧ K (.inr 0) (bump h_6))))))))) ∧ (¬ (x3 < x4) → ((∀ a, nx h_6 ≤ a → T a = 0) ∧ K (.inr 1) (bump h_6)))))))))))))))))))) : CALL T N 109 [vr (some w), vi (J x1), vi (J x2), vi (J x3), vi (J x4)] h K := by
  show WP T N 109 0 [some (vr (some w)), some (vi (J x1)), some (vi (J x2)), some (vi (J x3)), some (vi (J x4))] [] h _
  refine R_ps 1 (pc2 := 1) (L2 := [some (vr (some w)), some (vi (J x1)), some (vi (J x2)), some (vi (J x3)), some (vi (J x4))]) (st2 := [vr (some w)]) rfl ?_
  refine R_getR rfl t0 ?_
  refine R_ps 1 (pc2 := 5) (L2 := [some (vr (some w)), some (vi (J x1)), some (vi (J x2)), some (vi (J x3)), some (vi (J x4))]) (st2 := [vi (J x1), vr (gr h w 0)]) rfl ?_
  obtain ⟨a_3, e_4, k⟩ := k
  rw [e_4]
  obtain ⟨t_5, k⟩ := k
  refine R_cR (as := [vr (some a_3), vi (J x1)]) rfl rfl ⟨Nat.le_of_ble_eq_true rfl, Nat.le_of_ble_eq_true rfl, rfl, (Or.inr ⟨_, rfl, t_5⟩)⟩ rfl rfl k (fun x_7 h_6 k => ?_)
  rcases null_or (x_7) with e_10 | ⟨a_9, e_10⟩
  · have k := k.1 e_10
    rw [e_10]
    refine R_nonnull rfl (fun _ => ?_) (fun _ c_8 => nomatch c_8)
    obtain ⟨t_12, k⟩ := k
    exact R_throw rfl rfl ⟨Nat.le_of_ble_eq_true rfl, t_12⟩ k
  · have k := k.2 a_9 e_10
    rw [e_10]
    refine R_nonnull rfl (fun c_8 => nomatch c_8) (fun _ _ => ?_)
    refine R_ps 2 (pc2 := 23) (L2 := [some (vr (some w)), some (vi (J x1)), some (vi (J x2)), some (vi (J x3)), some (vi (J x4))]) (st2 := [vi (J 1), vi (J x2)]) rfl ?_
    refine R_zif (x := x2) (z := 1) rfl r2 (by decide) (fun c_13 => ?_) (fun c_13 => ?_)
    · have k := k.1 c_13
      obtain ⟨t_15, k⟩ := k
      exact R_throw rfl rfl ⟨Nat.le_of_ble_eq_true rfl, t_15⟩ k
    · have k := k.2 c_13
      refine R_ps 2 (pc2 := 29) (L2 := [some (vr (some w)), some (vi (J x1)), some (vi (J x2)), some (vi (J x3)), some (vi (J x4))]) (st2 := [vi (J 7), vi (J x2)]) rfl ?_
      refine R_zif (x := x2) (z := 7) rfl r2 (by decide) (fun c_16 => ?_) (fun c_16 => ?_)
      · have k := k.1 c_16
        obtain ⟨t_18, k⟩ := k
        exact R_throw rfl rfl ⟨Nat.le_of_ble_eq_true rfl, t_18⟩ k
      · have k := k.2 c_16
        refine R_ps 1 (pc2 := 33) (L2 := [some (vr (some w)), some (vi (J x1)), some (vi (J x2)), some (vi (J x3)), some (vi (J x4))]) (st2 := [vi (J x3)]) rfl ?_
        refine R_zif0 (x := x3) rfl r3 (fun c_19 => ?_) (fun c_19 => ?_)
        · have k := k.1 c_19
          obtain ⟨t_21, k⟩ := k
          exact R_throw rfl rfl ⟨Nat.le_of_ble_eq_true rfl, t_21⟩ k
        · have k := k.2 c_19
          refine R_ps 2 (pc2 := 39) (L2 := [some (vr (some w)), some (vi (J x1)), some (vi (J x2)), some (vi (J x3)), some (vi (J x4))]) (st2 := [vi (J x3), vi (J x4)]) rfl ?_
          refine R_zif (x := x4) (z := x3) rfl r4 r3 (fun c_22 => ?_) (fun c_22 => ?_)
          · have k := k.2 c_22
            obtain ⟨t_24, k⟩ := k
            exact R_throw rfl rfl ⟨Nat.le_of_ble_eq_true rfl, t_24⟩ k
          · have k := k.1 (Classical.not_not.mp c_22)
            refine R_ps 2 (pc2 := 47) (L2 := [some (vr (some w)), some (vi (J x1)), some (vi (J x2)), some (vi (J x3)), some (vi (J x4))]) (st2 := [vi (J 10000), vi (J x4)]) rfl ?_
            refine R_zif (x := x4) (z := 10000) rfl r4 (by decide) (fun c_25 => ?_) (fun c_25 => ?_)
            · have k := k.2 c_25
              refine R_ps 1 (pc2 := 61) (L2 := [some (vr (some w)), some (vi (J x1)), some (vi (J x2)), some (vi (J x3)), some (vi (J x4))]) (st2 := [vr (some w)]) rfl ?_
              refine R_getR rfl t0 ?_
              obtain ⟨a_28, e_29, k⟩ := k
              rw [e_29]
              obtain ⟨t_30, k⟩ := k
              refine R_zgetI (z := 4) rfl t_30 rfl ?_
              refine R_ps 1 (pc2 := 69) (L2 := [some (vr (some w)), some (vi (J x1)), some (vi (J x2)), some (vi (J x3)), some (vi (J x4))]) (st2 := [vi (J 10), vi (J (ai h_6 a_28 4))]) rfl ?_
              refine R_zif (x := ai h_6 a_28 4) (z := 10) rfl (ai_in _ _ _) (by decide) (fun c_31 => ?_) (fun c_31 => ?_)
              · have k := k.1 c_31
                refine R_ps 1 (pc2 := 83) (L2 := [some (vr (some w)), some (vi (J x1)), some (vi (J x2)), some (vi (J x3)), some (vi (J x4))]) (st2 := [vr (some w)]) rfl ?_
                refine R_getR rfl t0 ?_
                refine R_ps 1 (pc2 := 87) (L2 := [some (vr (some w)), some (vi (J x1)), some (vi (J x2)), some (vi (J x3)), some (vi (J x4))]) (st2 := [vr (some w), vr (gr h_6 w 2)]) rfl ?_
                refine R_getR rfl t0 ?_
                obtain ⟨a_35, e_36, k⟩ := k
                rw [e_36]
                obtain ⟨t_37, k⟩ := k
                refine R_cV (as := [vr (some a_35), vr (gr h_6 w 0)]) rfl rfl ⟨Nat.le_of_ble_eq_true rfl, Nat.le_of_ble_eq_true rfl, rfl, (Or.inr ⟨_, rfl, t_37⟩)⟩ rfl rfl k (fun h_38 k => ?_)
                refine R_ps 1 (pc2 := 94) (L2 := [some (vr (some w)), some (vi (J x1)), some (vi (J x2)), some (vi (J x3)), some (vi (J x4))]) (st2 := [vr (some w)]) rfl ?_
                refine R_getR rfl t0 ?_
                refine R_ps 4 (pc2 := 102) (L2 := [some (vr (some w)), some (vi (J x1)), some (vi (J x2)), some (vi (J x3)), some (vi (J x4))]) (st2 := [vi (J x4), vi (J x3), vi (J x2), vi (J x1), vr (gr h_38 w 0)]) rfl ?_
                obtain ⟨a_42, e_43, k⟩ := k
                rw [e_43]
                obtain ⟨t_44, k⟩ := k
                refine R_cV (as := [vr (some a_42), vi (J x1), vi (J x2), vi (J x3), vi (J x4)]) rfl rfl ⟨Nat.le_of_ble_eq_true rfl, Nat.le_of_ble_eq_true rfl, rfl, (Or.inr ⟨_, rfl, t_44⟩)⟩ rfl rfl k (fun h_45 k => ?_)
                refine R_ps 1 (pc2 := 106) (L2 := [some (vr (some w)), some (vi (J x1)), some (vi (J x2)), some (vi (J x3)), some (vi (J x4))]) (st2 := [vr (some w)]) rfl ?_
                refine R_getR rfl t0 ?_
                obtain ⟨a_49, e_50, k⟩ := k
                rw [e_50]
                obtain ⟨t_51, k⟩ := k
                refine R_zcI (as := [vr (some a_49)]) rfl rfl ⟨Nat.le_of_ble_eq_true rfl, Nat.le_of_ble_eq_true rfl, rfl, (Or.inr ⟨_, rfl, t_51⟩)⟩ rfl rfl k (fun x_53 h_52 r_54 k => ?_)
                exact R_iret rfl rfl k
              · have k := k.2 c_31
                obtain ⟨t_57, k⟩ := k
                exact R_throw rfl rfl ⟨Nat.le_of_ble_eq_true rfl, t_57⟩ k
            · have k := k.1 (Classical.not_not.mp c_25)
              obtain ⟨t_59, k⟩ := k
              exact R_throw rfl rfl ⟨Nat.le_of_ble_eq_true rfl, t_59⟩ k
/-- DroneCorridors.removeFence -/
theorem z110 {T N : Nat → Nat} {h : PH} {w : Nat} {x1 : Int} {K : PR → PH → Prop} (t0 : T w = 11) (r1 : In x1) (k : (∃ a_3, (gr h w 0) = some a_3 ∧ T a_3 = 10 ∧ CR T N 90 [vr (some a_3), vi (J x1)] h (fun x_7 h_6 => (((x_7 = none → ((∀ a, nx h_6 ≤ a → T a = 0) ∧ K (.inr 2) (bump h_6))) ∧ (∀ a_9, x_7 = some a_9 → (∃ a_16, (gr h_6 w 2) = some a_16 ∧ T a_16 = 5 ∧ CV T N 41 [vr (some a_16), vr (gr h_6 w 0)] h_6 (fun h_19 => (∃ a_23, (gr h_19 w 0) = some a_23 ∧ T a_23 = 10 ∧ CV T N 95 [vr (some a_23), vi (J x1)] h_19 (fun h_26 => (∃ a_30, (gr h_26 w 0) = some a_30 ∧ T a_30 = 10 ∧ ZI T N 99 [vr (some a_30)] h_26 (fun x_34 h_33 => (K (.inl (some (vi (J x_34)))) h_33))))))))))))) : CALL T N 110 [vr (some w), vi (J x1)] h K := by
  show WP T N 110 0 [some (vr (some w)), some (vi (J x1))] [] h _
  refine R_ps 1 (pc2 := 1) (L2 := [some (vr (some w)), some (vi (J x1))]) (st2 := [vr (some w)]) rfl ?_
  refine R_getR rfl t0 ?_
  refine R_ps 1 (pc2 := 5) (L2 := [some (vr (some w)), some (vi (J x1))]) (st2 := [vi (J x1), vr (gr h w 0)]) rfl ?_
  obtain ⟨a_3, e_4, k⟩ := k
  rw [e_4]
  obtain ⟨t_5, k⟩ := k
  refine R_cR (as := [vr (some a_3), vi (J x1)]) rfl rfl ⟨Nat.le_of_ble_eq_true rfl, Nat.le_of_ble_eq_true rfl, rfl, (Or.inr ⟨_, rfl, t_5⟩)⟩ rfl rfl k (fun x_7 h_6 k => ?_)
  rcases null_or (x_7) with e_10 | ⟨a_9, e_10⟩
  · have k := k.1 e_10
    rw [e_10]
    refine R_nonnull rfl (fun _ => ?_) (fun _ c_8 => nomatch c_8)
    obtain ⟨t_12, k⟩ := k
    exact R_throw rfl rfl ⟨Nat.le_of_ble_eq_true rfl, t_12⟩ k
  · have k := k.2 a_9 e_10
    rw [e_10]
    refine R_nonnull rfl (fun c_8 => nomatch c_8) (fun _ _ => ?_)
    refine R_ps 1 (pc2 := 22) (L2 := [some (vr (some w)), some (vi (J x1))]) (st2 := [vr (some w)]) rfl ?_
    refine R_getR rfl t0 ?_
    refine R_ps 1 (pc2 := 26) (L2 := [some (vr (some w)), some (vi (J x1))]) (st2 := [vr (some w), vr (gr h_6 w 2)]) rfl ?_
    refine R_getR rfl t0 ?_
    obtain ⟨a_16, e_17, k⟩ := k
    rw [e_17]
    obtain ⟨t_18, k⟩ := k
    refine R_cV (as := [vr (some a_16), vr (gr h_6 w 0)]) rfl rfl ⟨Nat.le_of_ble_eq_true rfl, Nat.le_of_ble_eq_true rfl, rfl, (Or.inr ⟨_, rfl, t_18⟩)⟩ rfl rfl k (fun h_19 k => ?_)
    refine R_ps 1 (pc2 := 33) (L2 := [some (vr (some w)), some (vi (J x1))]) (st2 := [vr (some w)]) rfl ?_
    refine R_getR rfl t0 ?_
    refine R_ps 1 (pc2 := 37) (L2 := [some (vr (some w)), some (vi (J x1))]) (st2 := [vi (J x1), vr (gr h_19 w 0)]) rfl ?_
    obtain ⟨a_23, e_24, k⟩ := k
    rw [e_24]
    obtain ⟨t_25, k⟩ := k
    refine R_cV (as := [vr (some a_23), vi (J x1)]) rfl rfl ⟨Nat.le_of_ble_eq_true rfl, Nat.le_of_ble_eq_true rfl, rfl, (Or.inr ⟨_, rfl, t_25⟩)⟩ rfl rfl k (fun h_26 k => ?_)
    refine R_ps 1 (pc2 := 41) (L2 := [some (vr (some w)), some (vi (J x1))]) (st2 := [vr (some w)]) rfl ?_
    refine R_getR rfl t0 ?_
    obtain ⟨a_30, e_31, k⟩ := k
    rw [e_31]
    obtain ⟨t_32, k⟩ := k
    refine R_zcI (as := [vr (some a_30)]) rfl rfl ⟨Nat.le_of_ble_eq_true rfl, Nat.le_of_ble_eq_true rfl, rfl, (Or.inr ⟨_, rfl, t_32⟩)⟩ rfl rfl k (fun x_34 h_33 r_35 k => ?_)
    exact R_iret rfl rfl k
/-- DroneCorridors.fence -/
theorem z111 {T N : Nat → Nat} {h : PH} {w : Nat} {x1 : Int} {x2 : Int} {K : PR → PH → Prop} (t0 : T w = 11) (r1 : In x1) (r2 : In x2) (k : (∃ a_3, (gr h w 0) = some a_3 ∧ T a_3 = 10 ∧ CR T N 90 [vr (some a_3), vi (J x1)] h (fun x_7 h_6 => (((x_7 = none → ((∀ a, nx h_6 ≤ a → T a = 0) ∧ K (.inr 2) (bump h_6))) ∧ (∀ a_9, x_7 = some a_9 → (((x2 = 0 → (T a_9 = 4 ∧ K (.inl (some (vi (J (ai h_6 a_9 0))))) h_6)) ∧ (¬ (x2 = 0) → ((x2 = 1 → (T a_9 = 4 ∧ K (.inl (some (vi (J (ai h_6 a_9 1))))) h_6)) ∧ (¬ (x2 = 1) → ((x2 = 2 → (T a_9 = 4 ∧ K (.inl (some (vi (J (ai h_6 a_9 2))))) h_6)) ∧ (¬ (x2 = 2) → ((x2 = 3 → (T a_9 = 4 ∧ K (.inl (some (vi (J (ai h_6 a_9 3))))) h_6)) ∧ (¬ (x2 = 3) → ((∀ a, nx h_6 ≤ a → T a = 0) ∧ K (.inr 1) (bump h_6))))))))))))))))) : CALL T N 111 [vr (some w), vi (J x1), vi (J x2)] h K := by
  show WP T N 111 0 [some (vr (some w)), some (vi (J x1)), some (vi (J x2)), none] [] h _
  refine R_ps 1 (pc2 := 1) (L2 := [some (vr (some w)), some (vi (J x1)), some (vi (J x2)), none]) (st2 := [vr (some w)]) rfl ?_
  refine R_getR rfl t0 ?_
  refine R_ps 1 (pc2 := 5) (L2 := [some (vr (some w)), some (vi (J x1)), some (vi (J x2)), none]) (st2 := [vi (J x1), vr (gr h w 0)]) rfl ?_
  obtain ⟨a_3, e_4, k⟩ := k
  rw [e_4]
  obtain ⟨t_5, k⟩ := k
  refine R_cR (as := [vr (some a_3), vi (J x1)]) rfl rfl ⟨Nat.le_of_ble_eq_true rfl, Nat.le_of_ble_eq_true rfl, rfl, (Or.inr ⟨_, rfl, t_5⟩)⟩ rfl rfl k (fun x_7 h_6 k => ?_)
  refine R_ps 2 (pc2 := 10) (L2 := [some (vr (some w)), some (vi (J x1)), some (vi (J x2)), some (vr x_7)]) (st2 := [vr x_7]) rfl ?_
  rcases null_or (x_7) with e_10 | ⟨a_9, e_10⟩
  · have k := k.1 e_10
    rw [e_10]
    refine R_nonnull rfl (fun _ => ?_) (fun _ c_8 => nomatch c_8)
    obtain ⟨t_12, k⟩ := k
    exact R_throw rfl rfl ⟨Nat.le_of_ble_eq_true rfl, t_12⟩ k
  · have k := k.2 a_9 e_10
    rw [e_10]
    refine R_nonnull rfl (fun c_8 => nomatch c_8) (fun _ _ => ?_)
    refine R_ps 1 (pc2 := 24) (L2 := [some (vr (some w)), some (vi (J x1)), some (vi (J x2)), some (vr (some a_9))]) (st2 := [vi (J x2)]) rfl ?_
    refine R_ztsw (x := x2) rfl rfl r2 ?_
    refine ⟨fun c_13 => ?_, fun c_13 => ?_⟩
    · have k := k.1 c_13
      show WP T N _ 56 _ _ _ _
      refine R_ps 1 (pc2 := 57) (L2 := [some (vr (some w)), some (vi (J x1)), some (vi (J x2)), some (vr (some a_9))]) (st2 := [vr (some a_9)]) rfl ?_
      obtain ⟨t_15, k⟩ := k
      refine R_zgetI (z := 0) rfl t_15 rfl ?_
      exact R_iret rfl rfl k
    replace k := k.2 c_13
    refine ⟨fun c_13 => ?_, fun c_13 => ?_⟩
    · have k := k.1 c_13
      show WP T N _ 61 _ _ _ _
      refine R_ps 1 (pc2 := 62) (L2 := [some (vr (some w)), some (vi (J x1)), some (vi (J x2)), some (vr (some a_9))]) (st2 := [vr (some a_9)]) rfl ?_
      obtain ⟨t_18, k⟩ := k
      refine R_zgetI (z := 1) rfl t_18 rfl ?_
      exact R_iret rfl rfl k
    replace k := k.2 c_13
    refine ⟨fun c_13 => ?_, fun c_13 => ?_⟩
    · have k := k.1 c_13
      show WP T N _ 66 _ _ _ _
      refine R_ps 1 (pc2 := 67) (L2 := [some (vr (some w)), some (vi (J x1)), some (vi (J x2)), some (vr (some a_9))]) (st2 := [vr (some a_9)]) rfl ?_
      obtain ⟨t_21, k⟩ := k
      refine R_zgetI (z := 2) rfl t_21 rfl ?_
      exact R_iret rfl rfl k
    replace k := k.2 c_13
    refine ⟨fun c_13 => ?_, fun c_13 => ?_⟩
    · have k := k.1 c_13
      show WP T N _ 71 _ _ _ _
      refine R_ps 1 (pc2 := 72) (L2 := [some (vr (some w)), some (vi (J x1)), some (vi (J x2)), some (vr (some a_9))]) (st2 := [vr (some a_9)]) rfl ?_
      obtain ⟨t_24, k⟩ := k
      refine R_zgetI (z := 3) rfl t_24 rfl ?_
      exact R_iret rfl rfl k
    replace k := k.2 c_13
    show WP T N _ 76 _ _ _ _
    obtain ⟨t_27, k⟩ := k
    exact R_throw rfl rfl ⟨Nat.le_of_ble_eq_true rfl, t_27⟩ k
/-- DroneCorridors.corridor -/
theorem z112 {T N : Nat → Nat} {h : PH} {w : Nat} {x1 : Int} {x2 : Int} {K : PR → PH → Prop} (t0 : T w = 11) (r1 : In x1) (r2 : In x2) (k : (∃ a_3, (gr h w 0) = some a_3 ∧ T a_3 = 10 ∧ CR T N 89 [vr (some a_3), vi (J x1)] h (fun x_7 h_6 => (((x_7 = none → ((∀ a, nx h_6 ≤ a → T a = 0) ∧ K (.inr 2) (bump h_6))) ∧ (∀ a_9, x_7 = some a_9 → (((x2 = 0 → (T a_9 = 2 ∧ K (.inl (some (vi (J (ai h_6 a_9 0))))) h_6)) ∧ (¬ (x2 = 0) → ((x2 = 1 → (T a_9 = 2 ∧ K (.inl (some (vi (J (ai h_6 a_9 1))))) h_6)) ∧ (¬ (x2 = 1) → ((x2 = 2 → (T a_9 = 2 ∧ K (.inl (some (vi (J (ai h_6 a_9 2))))) h_6)) ∧ (¬ (x2 = 2) → ((x2 = 3 → (T a_9 = 2 ∧ K (.inl (some (vi (J (ai h_6 a_9 3))))) h_6)) ∧ (¬ (x2 = 3) → ((x2 = 4 → (T a_9 = 2 ∧ ZI T N 10 [vr (some a_9), vi (J 0)] h_6 (fun x_29 h_28 => (K (.inl (some (vi (J x_29)))) h_28)))) ∧ (¬ (x2 = 4) → ((x2 = 5 → (T a_9 = 2 ∧ ZI T N 10 [vr (some a_9), vi (J 1)] h_6 (fun x_35 h_34 => (K (.inl (some (vi (J x_35)))) h_34)))) ∧ (¬ (x2 = 5) → ((x2 = 6 → (∃ a_40, (gr h_6 w 0) = some a_40 ∧ T a_40 = 10 ∧ ZI T N 98 [vr (some a_40), vi (J x1)] h_6 (fun x_44 h_43 => (K (.inl (some (vi (J x_44)))) h_43)))) ∧ (¬ (x2 = 6) → ((∀ a, nx h_6 ≤ a → T a = 0) ∧ K (.inr 1) (bump h_6))))))))))))))))))))))) : CALL T N 112 [vr (some w), vi (J x1), vi (J x2)] h K := by
  show WP T N 112 0 [some (vr (some w)), some (vi (J x1)), some (vi (J x2)), none] [] h _
  refine R_ps 1 (pc2 := 1) (L2 := [some (vr (some w)), some (vi (J x1)), some (vi (J x2)), none]) (st2 := [vr (some w)]) rfl ?_
  refine R_getR rfl t0 ?_
  refine R_ps 1 (pc2 := 5) (L2 := [some (vr (some w)), some (vi (J x1)), some (vi (J x2)), none]) (st2 := [vi (J x1), vr (gr h w 0)]) rfl ?_
  obtain ⟨a_3, e_4, k⟩ := k
  rw [e_4]
  obtain ⟨t_5, k⟩ := k
  refine R_cR (as := [vr (some a_3), vi (J x1)]) rfl rfl ⟨Nat.le_of_ble_eq_true rfl, Nat.le_of_ble_eq_true rfl, rfl, (Or.inr ⟨_, rfl, t_5⟩)⟩ rfl rfl k (fun x_7 h_6 k => ?_)
  refine R_ps 2 (pc2 := 10) (L2 := [some (vr (some w)), some (vi (J x1)), some (vi (J x2)), some (vr x_7)]) (st2 := [vr x_7]) rfl ?_
  rcases null_or (x_7) with e_10 | ⟨a_9, e_10⟩
  · have k := k.1 e_10
    rw [e_10]
    refine R_nonnull rfl (fun _ => ?_) (fun _ c_8 => nomatch c_8)
    obtain ⟨t_12, k⟩ := k
    exact R_throw rfl rfl ⟨Nat.le_of_ble_eq_true rfl, t_12⟩ k
  · have k := k.2 a_9 e_10
    rw [e_10]
    refine R_nonnull rfl (fun c_8 => nomatch c_8) (fun _ _ => ?_)
    refine R_ps 1 (pc2 := 24) (L2 := [some (vr (some w)), some (vi (J x1)), some (vi (J x2)), some (vr (some a_9))]) (st2 := [vi (J x2)]) rfl ?_
    refine R_ztsw (x := x2) rfl rfl r2 ?_
    refine ⟨fun c_13 => ?_, fun c_13 => ?_⟩
    · have k := k.1 c_13
      show WP T N _ 68 _ _ _ _
      refine R_ps 1 (pc2 := 69) (L2 := [some (vr (some w)), some (vi (J x1)), some (vi (J x2)), some (vr (some a_9))]) (st2 := [vr (some a_9)]) rfl ?_
      obtain ⟨t_15, k⟩ := k
      refine R_zgetI (z := 0) rfl t_15 rfl ?_
      exact R_iret rfl rfl k
    replace k := k.2 c_13
    refine ⟨fun c_13 => ?_, fun c_13 => ?_⟩
    · have k := k.1 c_13
      show WP T N _ 73 _ _ _ _
      refine R_ps 1 (pc2 := 74) (L2 := [some (vr (some w)), some (vi (J x1)), some (vi (J x2)), some (vr (some a_9))]) (st2 := [vr (some a_9)]) rfl ?_
      obtain ⟨t_18, k⟩ := k
      refine R_zgetI (z := 1) rfl t_18 rfl ?_
      exact R_iret rfl rfl k
    replace k := k.2 c_13
    refine ⟨fun c_13 => ?_, fun c_13 => ?_⟩
    · have k := k.1 c_13
      show WP T N _ 78 _ _ _ _
      refine R_ps 1 (pc2 := 79) (L2 := [some (vr (some w)), some (vi (J x1)), some (vi (J x2)), some (vr (some a_9))]) (st2 := [vr (some a_9)]) rfl ?_
      obtain ⟨t_21, k⟩ := k
      refine R_zgetI (z := 2) rfl t_21 rfl ?_
      exact R_iret rfl rfl k
    replace k := k.2 c_13
    refine ⟨fun c_13 => ?_, fun c_13 => ?_⟩
    · have k := k.1 c_13
      show WP T N _ 83 _ _ _ _
      refine R_ps 1 (pc2 := 84) (L2 := [some (vr (some w)), some (vi (J x1)), some (vi (J x2)), some (vr (some a_9))]) (st2 := [vr (some a_9)]) rfl ?_
      obtain ⟨t_24, k⟩ := k
      refine R_zgetI (z := 3) rfl t_24 rfl ?_
      exact R_iret rfl rfl k
    replace k := k.2 c_13
    refine ⟨fun c_13 => ?_, fun c_13 => ?_⟩
    · have k := k.1 c_13
      show WP T N _ 88 _ _ _ _
      refine R_ps 2 (pc2 := 90) (L2 := [some (vr (some w)), some (vi (J x1)), some (vi (J x2)), some (vr (some a_9))]) (st2 := [vi (J 0), vr (some a_9)]) rfl ?_
      obtain ⟨t_27, k⟩ := k
      refine R_zcI (as := [vr (some a_9), vi (J 0)]) rfl rfl ⟨Nat.le_of_ble_eq_true rfl, Nat.le_of_ble_eq_true rfl, rfl, (Or.inr ⟨_, rfl, t_27⟩)⟩ rfl rfl k (fun x_29 h_28 r_30 k => ?_)
      exact R_iret rfl rfl k
    replace k := k.2 c_13
    refine ⟨fun c_13 => ?_, fun c_13 => ?_⟩
    · have k := k.1 c_13
      show WP T N _ 94 _ _ _ _
      refine R_ps 2 (pc2 := 96) (L2 := [some (vr (some w)), some (vi (J x1)), some (vi (J x2)), some (vr (some a_9))]) (st2 := [vi (J 1), vr (some a_9)]) rfl ?_
      obtain ⟨t_33, k⟩ := k
      refine R_zcI (as := [vr (some a_9), vi (J 1)]) rfl rfl ⟨Nat.le_of_ble_eq_true rfl, Nat.le_of_ble_eq_true rfl, rfl, (Or.inr ⟨_, rfl, t_33⟩)⟩ rfl rfl k (fun x_35 h_34 r_36 k => ?_)
      exact R_iret rfl rfl k
    replace k := k.2 c_13
    refine ⟨fun c_13 => ?_, fun c_13 => ?_⟩
    · have k := k.1 c_13
      show WP T N _ 100 _ _ _ _
      refine R_ps 1 (pc2 := 101) (L2 := [some (vr (some w)), some (vi (J x1)), some (vi (J x2)), some (vr (some a_9))]) (st2 := [vr (some w)]) rfl ?_
      refine R_getR rfl t0 ?_
      refine R_ps 1 (pc2 := 105) (L2 := [some (vr (some w)), some (vi (J x1)), some (vi (J x2)), some (vr (some a_9))]) (st2 := [vi (J x1), vr (gr h_6 w 0)]) rfl ?_
      obtain ⟨a_40, e_41, k⟩ := k
      rw [e_41]
      obtain ⟨t_42, k⟩ := k
      refine R_zcI (as := [vr (some a_40), vi (J x1)]) rfl rfl ⟨Nat.le_of_ble_eq_true rfl, Nat.le_of_ble_eq_true rfl, rfl, (Or.inr ⟨_, rfl, t_42⟩)⟩ rfl rfl k (fun x_44 h_43 r_45 k => ?_)
      exact R_iret rfl rfl k
    replace k := k.2 c_13
    show WP T N _ 109 _ _ _ _
    obtain ⟨t_48, k⟩ := k
    exact R_throw rfl rfl ⟨Nat.le_of_ble_eq_true rfl, t_48⟩ k
/-- DroneCorridors.isPad -/
theorem z113 {T N : Nat → Nat} {h : PH} {w : Nat} {x1 : Int} {K : PR → PH → Prop} (t0 : T w = 11) (r1 : In x1) (k : (∃ a_3, (gr h w 0) = some a_3 ∧ T a_3 = 10 ∧ ZI T N 88 [vr (some a_3), vi (J x1)] h (fun x_7 h_6 => (((x_7 = 0 → ((∀ a, nx h_6 ≤ a → T a = 0) ∧ K (.inr 2) (bump h_6))) ∧ (¬ (x_7 = 0) → (∃ a_12, (gr h_6 w 0) = some a_12 ∧ T a_12 = 10 ∧ ZI T N 145 [vi (J (ai h_6 a_12 2)), vi (J x1)] h_6 (fun x_17 h_16 => ((x_17 = 0 ∨ x_17 = 1) ∧ K (.inl (some (vi (J x_17)))) h_16))))))))) : CALL T N 113 [vr (some w), vi (J x1)] h K := by
  show WP T N 113 0 [some (vr (some w)), some (vi (J x1))] [] h _
  refine R_ps 1 (pc2 := 1) (L2 := [some (vr (some w)), some (vi (J x1))]) (st2 := [vr (some w)]) rfl ?_
  refine R_getR rfl t0 ?_
  refine R_ps 1 (pc2 := 5) (L2 := [some (vr (some w)), some (vi (J x1))]) (st2 := [vi (J x1), vr (gr h w 0)]) rfl ?_
  obtain ⟨a_3, e_4, k⟩ := k
  rw [e_4]
  obtain ⟨t_5, k⟩ := k
  refine R_zcI (as := [vr (some a_3), vi (J x1)]) rfl rfl ⟨Nat.le_of_ble_eq_true rfl, Nat.le_of_ble_eq_true rfl, rfl, (Or.inr ⟨_, rfl, t_5⟩)⟩ rfl rfl k (fun x_7 h_6 r_8 k => ?_)
  refine R_zif0 (x := x_7) rfl r_8 (fun c_9 => ?_) (fun c_9 => ?_)
  · have k := k.2 c_9
    refine R_ps 1 (pc2 := 22) (L2 := [some (vr (some w)), some (vi (J x1))]) (st2 := [vr (some w)]) rfl ?_
    refine R_getR rfl t0 ?_
    obtain ⟨a_12, e_13, k⟩ := k
    rw [e_13]
    obtain ⟨t_14, k⟩ := k
    refine R_zgetI (z := 2) rfl t_14 rfl ?_
    refine R_ps 1 (pc2 := 29) (L2 := [some (vr (some w)), some (vi (J x1))]) (st2 := [vi (J x1), vi (J (ai h_6 a_12 2))]) rfl ?_
    refine R_zcI (as := [vi (J (ai h_6 a_12 2)), vi (J x1)]) rfl rfl ⟨Nat.le_of_ble_eq_true rfl, Nat.le_of_ble_eq_true rfl, rfl, (Or.inl rfl)⟩ rfl rfl k (fun x_17 h_16 r_18 k => ?_)
    obtain ⟨t_20, k⟩ := k
    exact R_zzret (x := x_17) rfl rfl t_20 k
  · have k := k.1 (Classical.not_not.mp c_9)
    obtain ⟨t_22, k⟩ := k
    exact R_throw rfl rfl ⟨Nat.le_of_ble_eq_true rfl, t_22⟩ k
/-- DroneCorridors.reserve -/
theorem z114 {T N : Nat → Nat} {h : PH} {w : Nat} {x1 : Int} {K : PR → PH → Prop} (t0 : T w = 11) (r1 : In x1) (k : (∃ a_3, (gr h w 0) = some a_3 ∧ T a_3 = 10 ∧ ZI T N 88 [vr (some a_3), vi (J x1)] h (fun x_7 h_6 => (((x_7 = 0 → ((∀ a, nx h_6 ≤ a → T a = 0) ∧ K (.inr 2) (bump h_6))) ∧ (¬ (x_7 = 0) → (∃ a_14, (gr h_6 w 0) = some a_14 ∧ T a_14 = 10 ∧ ∃ a_18, (gr h_6 w 4) = some a_18 ∧ T a_18 = 9 ∧ CV T N 79 [vr (some a_18), vr (some a_14), vi (J (ai h_6 a_14 2)), vi (J 0)] h_6 (fun h_21 => (∃ a_25, (gr h_21 w 4) = some a_25 ∧ T a_25 = 9 ∧ ZI T N 78 [vr (some a_25), vi (J x1)] h_21 (fun x_29 h_28 => (((x_29 < 1000000 → (K (.inl (some (vi (J x_29)))) h_28)) ∧ (¬ (x_29 < 1000000) → ((∀ a, nx h_28 ≤ a → T a = 0) ∧ K (.inr 5) (bump h_28))))))))))))))) : CALL T N 114 [vr (some w), vi (J x1)] h K := by
  show WP T N 114 0 [some (vr (some w)), some (vi (J x1)), none] [] h _
  refine R_ps 1 (pc2 := 1) (L2 := [some (vr (some w)), some (vi (J x1)), none]) (st2 := [vr (some w)]) rfl ?_
  refine R_getR rfl t0 ?_
  refine R_ps 1 (pc2 := 5) (L2 := [some (vr (some w)), some (vi (J x1)), none]) (st2 := [vi (J x1), vr (gr h w 0)]) rfl ?_
  obtain ⟨a_3, e_4, k⟩ := k
  rw [e_4]
  obtain ⟨t_5, k⟩ := k
  refine R_zcI (as := [vr (some a_3), vi (J x1)]) rfl rfl ⟨Nat.le_of_ble_eq_true rfl, Nat.le_of_ble_eq_true rfl, rfl, (Or.inr ⟨_, rfl, t_5⟩)⟩ rfl rfl k (fun x_7 h_6 r_8 k => ?_)
  refine R_zif0 (x := x_7) rfl r_8 (fun c_9 => ?_) (fun c_9 => ?_)
  · have k := k.2 c_9
    refine R_ps 1 (pc2 := 22) (L2 := [some (vr (some w)), some (vi (J x1)), none]) (st2 := [vr (some w)]) rfl ?_
    refine R_getR rfl t0 ?_
    refine R_ps 1 (pc2 := 26) (L2 := [some (vr (some w)), some (vi (J x1)), none]) (st2 := [vr (some w), vr (gr h_6 w 4)]) rfl ?_
    refine R_getR rfl t0 ?_
    refine R_ps 1 (pc2 := 30) (L2 := [some (vr (some w)), some (vi (J x1)), none]) (st2 := [vr (some w), vr (gr h_6 w 0), vr (gr h_6 w 4)]) rfl ?_
    refine R_getR rfl t0 ?_
    obtain ⟨a_14, e_15, k⟩ := k
    rw [e_15]
    obtain ⟨t_16, k⟩ := k
    refine R_zgetI (z := 2) rfl t_16 rfl ?_
    refine R_ps 1 (pc2 := 37) (L2 := [some (vr (some w)), some (vi (J x1)), none]) (st2 := [vi (J 0), vi (J (ai h_6 a_14 2)), vr (some a_14), vr (gr h_6 w 4)]) rfl ?_
    obtain ⟨a_18, e_19, k⟩ := k
    rw [e_19]
    obtain ⟨t_20, k⟩ := k
    refine R_cV (as := [vr (some a_18), vr (some a_14), vi (J (ai h_6 a_14 2)), vi (J 0)]) rfl rfl ⟨Nat.le_of_ble_eq_true rfl, Nat.le_of_ble_eq_true rfl, rfl, (Or.inr ⟨_, rfl, t_20⟩)⟩ rfl rfl k (fun h_21 k => ?_)
    refine R_ps 1 (pc2 := 41) (L2 := [some (vr (some w)), some (vi (J x1)), none]) (st2 := [vr (some w)]) rfl ?_
    refine R_getR rfl t0 ?_
    refine R_ps 1 (pc2 := 45) (L2 := [some (vr (some w)), some (vi (J x1)), none]) (st2 := [vi (J x1), vr (gr h_21 w 4)]) rfl ?_
    obtain ⟨a_25, e_26, k⟩ := k
    rw [e_26]
    obtain ⟨t_27, k⟩ := k
    refine R_zcI (as := [vr (some a_25), vi (J x1)]) rfl rfl ⟨Nat.le_of_ble_eq_true rfl, Nat.le_of_ble_eq_true rfl, rfl, (Or.inr ⟨_, rfl, t_27⟩)⟩ rfl rfl k (fun x_29 h_28 r_30 k => ?_)
    refine R_ps 3 (pc2 := 52) (L2 := [some (vr (some w)), some (vi (J x1)), some (vi (J x_29))]) (st2 := [vi (J 1000000), vi (J x_29)]) rfl ?_
    refine R_zif (x := x_29) (z := 1000000) rfl r_30 (by decide) (fun c_31 => ?_) (fun c_31 => ?_)
    · have k := k.1 c_31
      refine R_ps 1 (pc2 := 66) (L2 := [some (vr (some w)), some (vi (J x1)), some (vi (J x_29))]) (st2 := [vi (J x_29)]) rfl ?_
      exact R_iret rfl rfl k
    · have k := k.2 c_31
      obtain ⟨t_34, k⟩ := k
      exact R_throw rfl rfl ⟨Nat.le_of_ble_eq_true rfl, t_34⟩ k
  · have k := k.1 (Classical.not_not.mp c_9)
    obtain ⟨t_36, k⟩ := k
    exact R_throw rfl rfl ⟨Nat.le_of_ble_eq_true rfl, t_36⟩ k
/-- DroneCorridors.ticksBetween -/
theorem z115 {T N : Nat → Nat} {h : PH} {w : Nat} {x1 : Int} {x2 : Int} {K : PR → PH → Prop} (t0 : T w = 11) (r1 : In x1) (r2 : In x2) (k : (∃ a_3, (gr h w 0) = some a_3 ∧ T a_3 = 10 ∧ ZI T N 88 [vr (some a_3), vi (J x1)] h (fun x_7 h_6 => (((x_7 = 0 → ((∀ a, nx h_6 ≤ a → T a = 0) ∧ K (.inr 2) (bump h_6))) ∧ (¬ (x_7 = 0) → (∃ a_14, (gr h_6 w 0) = some a_14 ∧ T a_14 = 10 ∧ ZI T N 88 [vr (some a_14), vi (J x2)] h_6 (fun x_18 h_17 => (((x_18 = 0 → ((∀ a, nx h_17 ≤ a → T a = 0) ∧ K (.inr 2) (bump h_17))) ∧ (¬ (x_18 = 0) → (∃ a_24, (gr h_17 w 4) = some a_24 ∧ T a_24 = 9 ∧ CV T N 79 [vr (some a_24), vr (gr h_17 w 0), vi (J (zshl 1 x2)), vi (J 1)] h_17 (fun h_27 => (∃ a_31, (gr h_27 w 4) = some a_31 ∧ T a_31 = 9 ∧ ZI T N 78 [vr (some a_31), vi (J x1)] h_27 (fun x_35 h_34 => (((x_35 < 1000000 → (K (.inl (some (vi (J x_35)))) h_34)) ∧ (¬ (x_35 < 1000000) → ((∀ a, nx h_34 ≤ a → T a = 0) ∧ K (.inr 5) (bump h_34)))))))))))))))))))) : CALL T N 115 [vr (some w), vi (J x1), vi (J x2)] h K := by
  show WP T N 115 0 [some (vr (some w)), some (vi (J x1)), some (vi (J x2)), none] [] h _
  refine R_ps 1 (pc2 := 1) (L2 := [some (vr (some w)), some (vi (J x1)), some (vi (J x2)), none]) (st2 := [vr (some w)]) rfl ?_
  refine R_getR rfl t0 ?_
  refine R_ps 1 (pc2 := 5) (L2 := [some (vr (some w)), some (vi (J x1)), some (vi (J x2)), none]) (st2 := [vi (J x1), vr (gr h w 0)]) rfl ?_
  obtain ⟨a_3, e_4, k⟩ := k
  rw [e_4]
  obtain ⟨t_5, k⟩ := k
  refine R_zcI (as := [vr (some a_3), vi (J x1)]) rfl rfl ⟨Nat.le_of_ble_eq_true rfl, Nat.le_of_ble_eq_true rfl, rfl, (Or.inr ⟨_, rfl, t_5⟩)⟩ rfl rfl k (fun x_7 h_6 r_8 k => ?_)
  refine R_zif0 (x := x_7) rfl r_8 (fun c_9 => ?_) (fun c_9 => ?_)
  · have k := k.1 c_9
    obtain ⟨t_11, k⟩ := k
    exact R_throw rfl rfl ⟨Nat.le_of_ble_eq_true rfl, t_11⟩ k
  · have k := k.2 c_9
    refine R_ps 1 (pc2 := 12) (L2 := [some (vr (some w)), some (vi (J x1)), some (vi (J x2)), none]) (st2 := [vr (some w)]) rfl ?_
    refine R_getR rfl t0 ?_
    refine R_ps 1 (pc2 := 16) (L2 := [some (vr (some w)), some (vi (J x1)), some (vi (J x2)), none]) (st2 := [vi (J x2), vr (gr h_6 w 0)]) rfl ?_
    obtain ⟨a_14, e_15, k⟩ := k
    rw [e_15]
    obtain ⟨t_16, k⟩ := k
    refine R_zcI (as := [vr (some a_14), vi (J x2)]) rfl rfl ⟨Nat.le_of_ble_eq_true rfl, Nat.le_of_ble_eq_true rfl, rfl, (Or.inr ⟨_, rfl, t_16⟩)⟩ rfl rfl k (fun x_18 h_17 r_19 k => ?_)
    refine R_zif0 (x := x_18) rfl r_19 (fun c_20 => ?_) (fun c_20 => ?_)
    · have k := k.2 c_20
      refine R_ps 1 (pc2 := 33) (L2 := [some (vr (some w)), some (vi (J x1)), some (vi (J x2)), none]) (st2 := [vr (some w)]) rfl ?_
      refine R_getR rfl t0 ?_
      refine R_ps 1 (pc2 := 37) (L2 := [some (vr (some w)), some (vi (J x1)), some (vi (J x2)), none]) (st2 := [vr (some w), vr (gr h_17 w 4)]) rfl ?_
      refine R_getR rfl t0 ?_
      refine R_ps 4 (pc2 := 44) (L2 := [some (vr (some w)), some (vi (J x1)), some (vi (J x2)), none]) (st2 := [vi (J 1), vi ((J 1) <<< ((J x2) &&& 31)), vr (gr h_17 w 0), vr (gr h_17 w 4)]) rfl ?_
      rw [show ((J 1) <<< ((J x2) &&& 31)) = J (zshl 1 x2) from J_shl' rfl rfl]
      obtain ⟨a_24, e_25, k⟩ := k
      rw [e_25]
      obtain ⟨t_26, k⟩ := k
      refine R_cV (as := [vr (some a_24), vr (gr h_17 w 0), vi (J (zshl 1 x2)), vi (J 1)]) rfl rfl ⟨Nat.le_of_ble_eq_true rfl, Nat.le_of_ble_eq_true rfl, rfl, (Or.inr ⟨_, rfl, t_26⟩)⟩ rfl rfl k (fun h_27 k => ?_)
      refine R_ps 1 (pc2 := 48) (L2 := [some (vr (some w)), some (vi (J x1)), some (vi (J x2)), none]) (st2 := [vr (some w)]) rfl ?_
      refine R_getR rfl t0 ?_
      refine R_ps 1 (pc2 := 52) (L2 := [some (vr (some w)), some (vi (J x1)), some (vi (J x2)), none]) (st2 := [vi (J x1), vr (gr h_27 w 4)]) rfl ?_
      obtain ⟨a_31, e_32, k⟩ := k
      rw [e_32]
      obtain ⟨t_33, k⟩ := k
      refine R_zcI (as := [vr (some a_31), vi (J x1)]) rfl rfl ⟨Nat.le_of_ble_eq_true rfl, Nat.le_of_ble_eq_true rfl, rfl, (Or.inr ⟨_, rfl, t_33⟩)⟩ rfl rfl k (fun x_35 h_34 r_36 k => ?_)
      refine R_ps 3 (pc2 := 59) (L2 := [some (vr (some w)), some (vi (J x1)), some (vi (J x2)), some (vi (J x_35))]) (st2 := [vi (J 1000000), vi (J x_35)]) rfl ?_
      refine R_zif (x := x_35) (z := 1000000) rfl r_36 (by decide) (fun c_37 => ?_) (fun c_37 => ?_)
      · have k := k.1 c_37
        refine R_ps 1 (pc2 := 73) (L2 := [some (vr (some w)), some (vi (J x1)), some (vi (J x2)), some (vi (J x_35))]) (st2 := [vi (J x_35)]) rfl ?_
        exact R_iret rfl rfl k
      · have k := k.2 c_37
        obtain ⟨t_40, k⟩ := k
        exact R_throw rfl rfl ⟨Nat.le_of_ble_eq_true rfl, t_40⟩ k
    · have k := k.1 (Classical.not_not.mp c_20)
      obtain ⟨t_42, k⟩ := k
      exact R_throw rfl rfl ⟨Nat.le_of_ble_eq_true rfl, t_42⟩ k
/-- DroneCorridors.count -/
theorem z116 {T N : Nat → Nat} {h : PH} {w : Nat} {x1 : Int} {K : PR → PH → Prop} (t0 : T w = 11) (r1 : In x1) (k : (((x1 = 0 → (∃ a_4, (gr h w 0) = some a_4 ∧ T a_4 = 10 ∧ K (.inl (some (vi (J (ai h a_4 1))))) h)) ∧ (¬ (x1 = 0) → ((x1 = 1 → (∃ a_10, (gr h w 0) = some a_10 ∧ T a_10 = 10 ∧ K (.inl (some (vi (J (ai h a_10 3))))) h)) ∧ (¬ (x1 = 1) → ((x1 = 2 → (∃ a_16, (gr h w 0) = some a_16 ∧ T a_16 = 10 ∧ K (.inl (some (vi (J (ai h a_16 5))))) h)) ∧ (¬ (x1 = 2) → ((x1 = 3 → (∃ a_22, (gr h w 0) = some a_22 ∧ T a_22 = 10 ∧ K (.inl (some (vi (J (ai h a_22 4))))) h)) ∧ (¬ (x1 = 3) → ((x1 = 4 → (∃ a_28, (gr h w 0) = some a_28 ∧ T a_28 = 10 ∧ K (.inl (some (vi (J (ai h a_28 0))))) h)) ∧ (¬ (x1 = 4) → ((x1 = 5 → (∃ a_34, (gr h w 0) = some a_34 ∧ T a_34 = 10 ∧ ZI T N 97 [vr (some a_34), vi (J (x1 - 5))] h (fun x_38 h_37 => (K (.inl (some (vi (J x_38)))) h_37)))) ∧ (¬ (x1 = 5) → ((x1 = 6 → (∃ a_43, (gr h w 0) = some a_43 ∧ T a_43 = 10 ∧ ZI T N 97 [vr (some a_43), vi (J (x1 - 5))] h (fun x_47 h_46 => (K (.inl (some (vi (J x_47)))) h_46)))) ∧ (¬ (x1 = 6) → ((x1 = 7 → (∃ a_52, (gr h w 0) = some a_52 ∧ T a_52 = 10 ∧ ZI T N 97 [vr (some a_52), vi (J (x1 - 5))] h (fun x_56 h_55 => (K (.inl (some (vi (J x_56)))) h_55)))) ∧ (¬ (x1 = 7) → ((x1 = 8 → (∃ a_61, (gr h w 0) = some a_61 ∧ T a_61 = 10 ∧ ZI T N 97 [vr (some a_61), vi (J (x1 - 5))] h (fun x_65 h_64 => (K (.inl (some (vi (J x_65)))) h_64)))) ∧ (¬ (x1 = 8) → ((∀ a, nx h ≤ a → T a = 0) ∧ K (.inr 1) (bump h)))))))))))))))))))))) : CALL T N 116 [vr (some w), vi (J x1)] h K := by
  show WP T N 116 0 [some (vr (some w)), some (vi (J x1))] [] h _
  refine R_ps 1 (pc2 := 1) (L2 := [some (vr (some w)), some (vi (J x1))]) (st2 := [vi (J x1)]) rfl ?_
  refine R_ztsw (x := x1) rfl rfl r1 ?_
  refine ⟨fun c_1 => ?_, fun c_1 => ?_⟩
  · have k := k.1 c_1
    show WP T N _ 52 _ _ _ _
    refine R_ps 1 (pc2 := 53) (L2 := [some (vr (some w)), some (vi (J x1))]) (st2 := [vr (some w)]) rfl ?_
    refine R_getR rfl t0 ?_
    obtain ⟨a_4, e_5, k⟩ := k
    rw [e_5]
    obtain ⟨t_6, k⟩ := k
    refine R_zgetI (z := 1) rfl t_6 rfl ?_
    exact R_iret rfl rfl k
  replace k := k.2 c_1
  refine ⟨fun c_1 => ?_, fun c_1 => ?_⟩
  · have k := k.1 c_1
    show WP T N _ 60 _ _ _ _
    refine R_ps 1 (pc2 := 61) (L2 := [some (vr (some w)), some (vi (J x1))]) (st2 := [vr (some w)]) rfl ?_
    refine R_getR rfl t0 ?_
    obtain ⟨a_10, e_11, k⟩ := k
    rw [e_11]
    obtain ⟨t_12, k⟩ := k
    refine R_zgetI (z := 3) rfl t_12 rfl ?_
    exact R_iret rfl rfl k
  replace k := k.2 c_1
  refine ⟨fun c_1 => ?_, fun c_1 => ?_⟩
  · have k := k.1 c_1
    show WP T N _ 68 _ _ _ _
    refine R_ps 1 (pc2 := 69) (L2 := [some (vr (some w)), some (vi (J x1))]) (st2 := [vr (some w)]) rfl ?_
    refine R_getR rfl t0 ?_
    obtain ⟨a_16, e_17, k⟩ := k
    rw [e_17]
    obtain ⟨t_18, k⟩ := k
    refine R_zgetI (z := 5) rfl t_18 rfl ?_
    exact R_iret rfl rfl k
  replace k := k.2 c_1
  refine ⟨fun c_1 => ?_, fun c_1 => ?_⟩
  · have k := k.1 c_1
    show WP T N _ 76 _ _ _ _
    refine R_ps 1 (pc2 := 77) (L2 := [some (vr (some w)), some (vi (J x1))]) (st2 := [vr (some w)]) rfl ?_
    refine R_getR rfl t0 ?_
    obtain ⟨a_22, e_23, k⟩ := k
    rw [e_23]
    obtain ⟨t_24, k⟩ := k
    refine R_zgetI (z := 4) rfl t_24 rfl ?_
    exact R_iret rfl rfl k
  replace k := k.2 c_1
  refine ⟨fun c_1 => ?_, fun c_1 => ?_⟩
  · have k := k.1 c_1
    show WP T N _ 84 _ _ _ _
    refine R_ps 1 (pc2 := 85) (L2 := [some (vr (some w)), some (vi (J x1))]) (st2 := [vr (some w)]) rfl ?_
    refine R_getR rfl t0 ?_
    obtain ⟨a_28, e_29, k⟩ := k
    rw [e_29]
    obtain ⟨t_30, k⟩ := k
    refine R_zgetI (z := 0) rfl t_30 rfl ?_
    exact R_iret rfl rfl k
  replace k := k.2 c_1
  refine ⟨fun c_1 => ?_, fun c_1 => ?_⟩
  · have k := k.1 c_1
    show WP T N _ 92 _ _ _ _
    refine R_ps 1 (pc2 := 93) (L2 := [some (vr (some w)), some (vi (J x1))]) (st2 := [vr (some w)]) rfl ?_
    refine R_getR rfl t0 ?_
    refine R_ps 3 (pc2 := 99) (L2 := [some (vr (some w)), some (vi (J x1))]) (st2 := [vi ((J x1) - (J 5)), vr (gr h w 0)]) rfl ?_
    rw [show ((J x1) - (J 5)) = J (x1 - 5) from J_sub' rfl rfl]
    obtain ⟨a_34, e_35, k⟩ := k
    rw [e_35]
    obtain ⟨t_36, k⟩ := k
    refine R_zcI (as := [vr (some a_34), vi (J (x1 - 5))]) rfl rfl ⟨Nat.le_of_ble_eq_true rfl, Nat.le_of_ble_eq_true rfl, rfl, (Or.inr ⟨_, rfl, t_36⟩)⟩ rfl rfl k (fun x_38 h_37 r_39 k => ?_)
    exact R_iret rfl rfl k
  replace k := k.2 c_1
  refine ⟨fun c_1 => ?_, fun c_1 => ?_⟩
  · have k := k.1 c_1
    show WP T N _ 92 _ _ _ _
    refine R_ps 1 (pc2 := 93) (L2 := [some (vr (some w)), some (vi (J x1))]) (st2 := [vr (some w)]) rfl ?_
    refine R_getR rfl t0 ?_
    refine R_ps 3 (pc2 := 99) (L2 := [some (vr (some w)), some (vi (J x1))]) (st2 := [vi ((J x1) - (J 5)), vr (gr h w 0)]) rfl ?_
    rw [show ((J x1) - (J 5)) = J (x1 - 5) from J_sub' rfl rfl]
    obtain ⟨a_43, e_44, k⟩ := k
    rw [e_44]
    obtain ⟨t_45, k⟩ := k
    refine R_zcI (as := [vr (some a_43), vi (J (x1 - 5))]) rfl rfl ⟨Nat.le_of_ble_eq_true rfl, Nat.le_of_ble_eq_true rfl, rfl, (Or.inr ⟨_, rfl, t_45⟩)⟩ rfl rfl k (fun x_47 h_46 r_48 k => ?_)
    exact R_iret rfl rfl k
  replace k := k.2 c_1
  refine ⟨fun c_1 => ?_, fun c_1 => ?_⟩
  · have k := k.1 c_1
    show WP T N _ 92 _ _ _ _
    refine R_ps 1 (pc2 := 93) (L2 := [some (vr (some w)), some (vi (J x1))]) (st2 := [vr (some w)]) rfl ?_
    refine R_getR rfl t0 ?_
    refine R_ps 3 (pc2 := 99) (L2 := [some (vr (some w)), some (vi (J x1))]) (st2 := [vi ((J x1) - (J 5)), vr (gr h w 0)]) rfl ?_
    rw [show ((J x1) - (J 5)) = J (x1 - 5) from J_sub' rfl rfl]
    obtain ⟨a_52, e_53, k⟩ := k
    rw [e_53]
    obtain ⟨t_54, k⟩ := k
    refine R_zcI (as := [vr (some a_52), vi (J (x1 - 5))]) rfl rfl ⟨Nat.le_of_ble_eq_true rfl, Nat.le_of_ble_eq_true rfl, rfl, (Or.inr ⟨_, rfl, t_54⟩)⟩ rfl rfl k (fun x_56 h_55 r_57 k => ?_)
    exact R_iret rfl rfl k
  replace k := k.2 c_1
  refine ⟨fun c_1 => ?_, fun c_1 => ?_⟩
  · have k := k.1 c_1
    show WP T N _ 92 _ _ _ _
    refine R_ps 1 (pc2 := 93) (L2 := [some (vr (some w)), some (vi (J x1))]) (st2 := [vr (some w)]) rfl ?_
    refine R_getR rfl t0 ?_
    refine R_ps 3 (pc2 := 99) (L2 := [some (vr (some w)), some (vi (J x1))]) (st2 := [vi ((J x1) - (J 5)), vr (gr h w 0)]) rfl ?_
    rw [show ((J x1) - (J 5)) = J (x1 - 5) from J_sub' rfl rfl]
    obtain ⟨a_61, e_62, k⟩ := k
    rw [e_62]
    obtain ⟨t_63, k⟩ := k
    refine R_zcI (as := [vr (some a_61), vi (J (x1 - 5))]) rfl rfl ⟨Nat.le_of_ble_eq_true rfl, Nat.le_of_ble_eq_true rfl, rfl, (Or.inr ⟨_, rfl, t_63⟩)⟩ rfl rfl k (fun x_65 h_64 r_66 k => ?_)
    exact R_iret rfl rfl k
  replace k := k.2 c_1
  show WP T N _ 103 _ _ _ _
  obtain ⟨t_69, k⟩ := k
  exact R_throw rfl rfl ⟨Nat.le_of_ble_eq_true rfl, t_69⟩ k
/-- DroneCorridors.addDrone -/
theorem z117 {T N : Nat → Nat} {h : PH} {w : Nat} {x1 : Int} {x2 : Int} {K : PR → PH → Prop} (t0 : T w = 11) (r1 : In x1) (r2 : In x2) (k : (∃ a_3, (gr h w 0) = some a_3 ∧ T a_3 = 10 ∧ ZI T N 88 [vr (some a_3), vi (J x1)] h (fun x_7 h_6 => (((x_7 = 0 → ((∀ a, nx h_6 ≤ a → T a = 0) ∧ K (.inr 2) (bump h_6))) ∧ (¬ (x_7 = 0) → (((x2 < 1 → ((∀ a, nx h_6 ≤ a → T a = 0) ∧ K (.inr 1) (bump h_6))) ∧ (¬ (x2 < 1) → (((200 < x2 → ((∀ a, nx h_6 ≤ a → T a = 0) ∧ K (.inr 1) (bump h_6))) ∧ (¬ (200 < x2) → (∃ a_16, (gr h_6 w 0) = some a_16 ∧ T a_16 = 10 ∧ (((ai h_6 a_16 5) < 6 → (∃ a_23, (gr h_6 w 2) = some a_23 ∧ T a_23 = 5 ∧ CV T N 41 [vr (some a_23), vr (gr h_6 w 0)] h_6 (fun h_26 => (∃ a_30, (gr h_26 w 0) = some a_30 ∧ T a_30 = 10 ∧ ZI T N 96 [vr (some a_30), vi (J x1), vi (J x2)] h_26 (fun x_34 h_33 => (K (.inl (some (vi (J x_34)))) h_33)))))) ∧ (¬ ((ai h_6 a_16 5) < 6) → ((∀ a, nx h_6 ≤ a → T a = 0) ∧ K (.inr 0) (bump h_6))))))))))))))))) : CALL T N 117 [vr (some w), vi (J x1), vi (J x2)] h K := by
  show WP T N 117 0 [some (vr (some w)), some (vi (J x1)), some (vi (J x2))] [] h _
  refine R_ps 1 (pc2 := 1) (L2 := [some (vr (some w)), some (vi (J x1)), some (vi (J x2))]) (st2 := [vr (some w)]) rfl ?_
  refine R_getR rfl t0 ?_
  refine R_ps 1 (pc2 := 5) (L2 := [some (vr (some w)), some (vi (J x1)), some (vi (J x2))]) (st2 := [vi (J x1), vr (gr h w 0)]) rfl ?_
  obtain ⟨a_3, e_4, k⟩ := k
  rw [e_4]
  obtain ⟨t_5, k⟩ := k
  refine R_zcI (as := [vr (some a_3), vi (J x1)]) rfl rfl ⟨Nat.le_of_ble_eq_true rfl, Nat.le_of_ble_eq_true rfl, rfl, (Or.inr ⟨_, rfl, t_5⟩)⟩ rfl rfl k (fun x_7 h_6 r_8 k => ?_)
  refine R_zif0 (x := x_7) rfl r_8 (fun c_9 => ?_) (fun c_9 => ?_)
  · have k := k.2 c_9
    refine R_ps 2 (pc2 := 23) (L2 := [some (vr (some w)), some (vi (J x1)), some (vi (J x2))]) (st2 := [vi (J 1), vi (J x2)]) rfl ?_
    refine R_zif (x := x2) (z := 1) rfl r2 (by decide) (fun c_10 => ?_) (fun c_10 => ?_)
    · have k := k.1 c_10
      obtain ⟨t_12, k⟩ := k
      exact R_throw rfl rfl ⟨Nat.le_of_ble_eq_true rfl, t_12⟩ k
    · have k := k.2 c_10
      refine R_ps 2 (pc2 := 30) (L2 := [some (vr (some w)), some (vi (J x1)), some (vi (J x2))]) (st2 := [vi (J 200), vi (J x2)]) rfl ?_
      refine R_zif (x := x2) (z := 200) rfl r2 (by decide) (fun c_13 => ?_) (fun c_13 => ?_)
      · have k := k.2 c_13
        refine R_ps 1 (pc2 := 44) (L2 := [some (vr (some w)), some (vi (J x1)), some (vi (J x2))]) (st2 := [vr (some w)]) rfl ?_
        refine R_getR rfl t0 ?_
        obtain ⟨a_16, e_17, k⟩ := k
        rw [e_17]
        obtain ⟨t_18, k⟩ := k
        refine R_zgetI (z := 5) rfl t_18 rfl ?_
        refine R_ps 1 (pc2 := 52) (L2 := [some (vr (some w)), some (vi (J x1)), some (vi (J x2))]) (st2 := [vi (J 6), vi (J (ai h_6 a_16 5))]) rfl ?_
        refine R_zif (x := ai h_6 a_16 5) (z := 6) rfl (ai_in _ _ _) (by decide) (fun c_19 => ?_) (fun c_19 => ?_)
        · have k := k.1 c_19
          refine R_ps 1 (pc2 := 66) (L2 := [some (vr (some w)), some (vi (J x1)), some (vi (J x2))]) (st2 := [vr (some w)]) rfl ?_
          refine R_getR rfl t0 ?_
          refine R_ps 1 (pc2 := 70) (L2 := [some (vr (some w)), some (vi (J x1)), some (vi (J x2))]) (st2 := [vr (some w), vr (gr h_6 w 2)]) rfl ?_
          refine R_getR rfl t0 ?_
          obtain ⟨a_23, e_24, k⟩ := k
          rw [e_24]
          obtain ⟨t_25, k⟩ := k
          refine R_cV (as := [vr (some a_23), vr (gr h_6 w 0)]) rfl rfl ⟨Nat.le_of_ble_eq_true rfl, Nat.le_of_ble_eq_true rfl, rfl, (Or.inr ⟨_, rfl, t_25⟩)⟩ rfl rfl k (fun h_26 k => ?_)
          refine R_ps 1 (pc2 := 77) (L2 := [some (vr (some w)), some (vi (J x1)), some (vi (J x2))]) (st2 := [vr (some w)]) rfl ?_
          refine R_getR rfl t0 ?_
          refine R_ps 2 (pc2 := 82) (L2 := [some (vr (some w)), some (vi (J x1)), some (vi (J x2))]) (st2 := [vi (J x2), vi (J x1), vr (gr h_26 w 0)]) rfl ?_
          obtain ⟨a_30, e_31, k⟩ := k
          rw [e_31]
          obtain ⟨t_32, k⟩ := k
          refine R_zcI (as := [vr (some a_30), vi (J x1), vi (J x2)]) rfl rfl ⟨Nat.le_of_ble_eq_true rfl, Nat.le_of_ble_eq_true rfl, rfl, (Or.inr ⟨_, rfl, t_32⟩)⟩ rfl rfl k (fun x_34 h_33 r_35 k => ?_)
          exact R_iret rfl rfl k
        · have k := k.2 c_19
          obtain ⟨t_38, k⟩ := k
          exact R_throw rfl rfl ⟨Nat.le_of_ble_eq_true rfl, t_38⟩ k
      · have k := k.1 (Classical.not_not.mp c_13)
        obtain ⟨t_40, k⟩ := k
        exact R_throw rfl rfl ⟨Nat.le_of_ble_eq_true rfl, t_40⟩ k
  · have k := k.1 (Classical.not_not.mp c_9)
    obtain ⟨t_42, k⟩ := k
    exact R_throw rfl rfl ⟨Nat.le_of_ble_eq_true rfl, t_42⟩ k
/-- DroneCorridors.drone -/
theorem z118 {T N : Nat → Nat} {h : PH} {w : Nat} {x1 : Int} {x2 : Int} {K : PR → PH → Prop} (t0 : T w = 11) (r1 : In x1) (r2 : In x2) (k : (∃ a_3, (gr h w 0) = some a_3 ∧ T a_3 = 10 ∧ CR T N 91 [vr (some a_3), vi (J x1)] h (fun x_7 h_6 => (((x_7 = none → ((∀ a, nx h_6 ≤ a → T a = 0) ∧ K (.inr 2) (bump h_6))) ∧ (∀ a_9, x_7 = some a_9 → (((x2 = 0 → (T a_9 = 3 ∧ K (.inl (some (vi (J (ai h_6 a_9 0))))) h_6)) ∧ (¬ (x2 = 0) → ((x2 = 1 → (T a_9 = 3 ∧ K (.inl (some (vi (J (ai h_6 a_9 1))))) h_6)) ∧ (¬ (x2 = 1) → ((x2 = 2 → (T a_9 = 3 ∧ K (.inl (some (vi (J (ai h_6 a_9 2))))) h_6)) ∧ (¬ (x2 = 2) → ((x2 = 3 → (T a_9 = 3 ∧ K (.inl (some (vi (J (ai h_6 a_9 3))))) h_6)) ∧ (¬ (x2 = 3) → ((x2 = 4 → (T a_9 = 3 ∧ K (.inl (some (vi (J (ai h_6 a_9 4))))) h_6)) ∧ (¬ (x2 = 4) → ((x2 = 5 → (T a_9 = 3 ∧ K (.inl (some (vi (J (ai h_6 a_9 8))))) h_6)) ∧ (¬ (x2 = 5) → ((x2 = 6 → (∃ a_34, (gr h_6 w 0) = some a_34 ∧ T a_34 = 10 ∧ T a_9 = 3 ∧ ZI T N 20 [vr (some a_9), vi (J (ai h_6 a_34 0))] h_6 (fun x_40 h_39 => (K (.inl (some (vi (J x_40)))) h_39)))) ∧ (¬ (x2 = 6) → ((∀ a, nx h_6 ≤ a → T a = 0) ∧ K (.inr 1) (bump h_6))))))))))))))))))))))) : CALL T N 118 [vr (some w), vi (J x1), vi (J x2)] h K := by
  show WP T N 118 0 [some (vr (some w)), some (vi (J x1)), some (vi (J x2)), none] [] h _
  refine R_ps 1 (pc2 := 1) (L2 := [some (vr (some w)), some (vi (J x1)), some (vi (J x2)), none]) (st2 := [vr (some w)]) rfl ?_
  refine R_getR rfl t0 ?_
  refine R_ps 1 (pc2 := 5) (L2 := [some (vr (some w)), some (vi (J x1)), some (vi (J x2)), none]) (st2 := [vi (J x1), vr (gr h w 0)]) rfl ?_
  obtain ⟨a_3, e_4, k⟩ := k
  rw [e_4]
  obtain ⟨t_5, k⟩ := k
  refine R_cR (as := [vr (some a_3), vi (J x1)]) rfl rfl ⟨Nat.le_of_ble_eq_true rfl, Nat.le_of_ble_eq_true rfl, rfl, (Or.inr ⟨_, rfl, t_5⟩)⟩ rfl rfl k (fun x_7 h_6 k => ?_)
  refine R_ps 2 (pc2 := 10) (L2 := [some (vr (some w)), some (vi (J x1)), some (vi (J x2)), some (vr x_7)]) (st2 := [vr x_7]) rfl ?_
  rcases null_or (x_7) with e_10 | ⟨a_9, e_10⟩
  · have k := k.1 e_10
    rw [e_10]
    refine R_nonnull rfl (fun _ => ?_) (fun _ c_8 => nomatch c_8)
    obtain ⟨t_12, k⟩ := k
    exact R_throw rfl rfl ⟨Nat.le_of_ble_eq_true rfl, t_12⟩ k
  · have k := k.2 a_9 e_10
    rw [e_10]
    refine R_nonnull rfl (fun c_8 => nomatch c_8) (fun _ _ => ?_)
    refine R_ps 1 (pc2 := 24) (L2 := [some (vr (some w)), some (vi (J x1)), some (vi (J x2)), some (vr (some a_9))]) (st2 := [vi (J x2)]) rfl ?_
    refine R_ztsw (x := x2) rfl rfl r2 ?_
    refine ⟨fun c_13 => ?_, fun c_13 => ?_⟩
    · have k := k.1 c_13
      show WP T N _ 68 _ _ _ _
      refine R_ps 1 (pc2 := 69) (L2 := [some (vr (some w)), some (vi (J x1)), some (vi (J x2)), some (vr (some a_9))]) (st2 := [vr (some a_9)]) rfl ?_
      obtain ⟨t_15, k⟩ := k
      refine R_zgetI (z := 0) rfl t_15 rfl ?_
      exact R_iret rfl rfl k
    replace k := k.2 c_13
    refine ⟨fun c_13 => ?_, fun c_13 => ?_⟩
    · have k := k.1 c_13
      show WP T N _ 73 _ _ _ _
      refine R_ps 1 (pc2 := 74) (L2 := [some (vr (some w)), some (vi (J x1)), some (vi (J x2)), some (vr (some a_9))]) (st2 := [vr (some a_9)]) rfl ?_
      obtain ⟨t_18, k⟩ := k
      refine R_zgetI (z := 1) rfl t_18 rfl ?_
      exact R_iret rfl rfl k
    replace k := k.2 c_13
    refine ⟨fun c_13 => ?_, fun c_13 => ?_⟩
    · have k := k.1 c_13
      show WP T N _ 78 _ _ _ _
      refine R_ps 1 (pc2 := 79) (L2 := [some (vr (some w)), some (vi (J x1)), some (vi (J x2)), some (vr (some a_9))]) (st2 := [vr (some a_9)]) rfl ?_
      obtain ⟨t_21, k⟩ := k
      refine R_zgetI (z := 2) rfl t_21 rfl ?_
      exact R_iret rfl rfl k
    replace k := k.2 c_13
    refine ⟨fun c_13 => ?_, fun c_13 => ?_⟩
    · have k := k.1 c_13
      show WP T N _ 83 _ _ _ _
      refine R_ps 1 (pc2 := 84) (L2 := [some (vr (some w)), some (vi (J x1)), some (vi (J x2)), some (vr (some a_9))]) (st2 := [vr (some a_9)]) rfl ?_
      obtain ⟨t_24, k⟩ := k
      refine R_zgetI (z := 3) rfl t_24 rfl ?_
      exact R_iret rfl rfl k
    replace k := k.2 c_13
    refine ⟨fun c_13 => ?_, fun c_13 => ?_⟩
    · have k := k.1 c_13
      show WP T N _ 88 _ _ _ _
      refine R_ps 1 (pc2 := 89) (L2 := [some (vr (some w)), some (vi (J x1)), some (vi (J x2)), some (vr (some a_9))]) (st2 := [vr (some a_9)]) rfl ?_
      obtain ⟨t_27, k⟩ := k
      refine R_zgetI (z := 4) rfl t_27 rfl ?_
      exact R_iret rfl rfl k
    replace k := k.2 c_13
    refine ⟨fun c_13 => ?_, fun c_13 => ?_⟩
    · have k := k.1 c_13
      show WP T N _ 93 _ _ _ _
      refine R_ps 1 (pc2 := 94) (L2 := [some (vr (some w)), some (vi (J x1)), some (vi (J x2)), some (vr (some a_9))]) (st2 := [vr (some a_9)]) rfl ?_
      obtain ⟨t_30, k⟩ := k
      refine R_zgetI (z := 8) rfl t_30 rfl ?_
      exact R_iret rfl rfl k
    replace k := k.2 c_13
    refine ⟨fun c_13 => ?_, fun c_13 => ?_⟩
    · have k := k.1 c_13
      show WP T N _ 98 _ _ _ _
      refine R_ps 2 (pc2 := 100) (L2 := [some (vr (some w)), some (vi (J x1)), some (vi (J x2)), some (vr (some a_9))]) (st2 := [vr (some w), vr (some a_9)]) rfl ?_
      refine R_getR rfl t0 ?_
      obtain ⟨a_34, e_35, k⟩ := k
      rw [e_35]
      obtain ⟨t_36, k⟩ := k
      refine R_zgetI (z := 0) rfl t_36 rfl ?_
      obtain ⟨t_38, k⟩ := k
      refine R_zcI (as := [vr (some a_9), vi (J (ai h_6 a_34 0))]) rfl rfl ⟨Nat.le_of_ble_eq_true rfl, Nat.le_of_ble_eq_true rfl, rfl, (Or.inr ⟨_, rfl, t_38⟩)⟩ rfl rfl k (fun x_40 h_39 r_41 k => ?_)
      exact R_iret rfl rfl k
    replace k := k.2 c_13
    show WP T N _ 110 _ _ _ _
    obtain ⟨t_44, k⟩ := k
    exact R_throw rfl rfl ⟨Nat.le_of_ble_eq_true rfl, t_44⟩ k
/-- DroneCorridors.plan -/
theorem z119 {T N : Nat → Nat} {h : PH} {w : Nat} {x1 : Int} {x2 : Int} {K : PR → PH → Prop} (t0 : T w = 11) (r1 : In x1) (r2 : In x2) (k : (∃ a_3, (gr h w 0) = some a_3 ∧ T a_3 = 10 ∧ CR T N 91 [vr (some a_3), vi (J x1)] h (fun x_7 h_6 => (((x_7 = none → ((∀ a, nx h_6 ≤ a → T a = 0) ∧ K (.inr 2) (bump h_6))) ∧ (∀ a_9, x_7 = some a_9 → (∃ a_15, (gr h_6 w 0) = some a_15 ∧ T a_15 = 10 ∧ ZI T N 88 [vr (some a_15), vi (J x2)] h_6 (fun x_19 h_18 => (((x_19 = 0 → ((∀ a, nx h_18 ≤ a → T a = 0) ∧ K (.inr 2) (bump h_18))) ∧ (¬ (x_19 = 0) → (∃ a_25, (gr h_18 w 3) = some a_25 ∧ T a_25 = 8 ∧ ZI T N 59 [vr (some a_25), vr (gr h_18 w 0), vi (J x1), vi (J (zshl 1 x2)), vi (J 2)] h_18 (fun x_29 h_28 => (((x_29 = 0 → (ZI T N 150 [vr (some w), vi (J x1), vi (J x2)] h_28 (fun x_56 h_55 => (∀ h_59, h_59 = wi h_55 w 8 x_56 → (∀ a, nx h_59 ≤ a → T a = 0) ∧ K (.inr 4) (bump h_59))))) ∧ (¬ (x_29 = 0) → (∃ a_35, (gr h_28 w 2) = some a_35 ∧ T a_35 = 5 ∧ CV T N 41 [vr (some a_35), vr (gr h_28 w 0)] h_28 (fun h_38 => (∃ a_43, (gr h_38 w 3) = some a_43 ∧ T a_43 = 8 ∧ CV T N 60 [vr (some a_43), vr (gr h_38 w 0), vr (some a_9)] h_38 (fun h_46 => (∃ a_50, (gr h_46 w 3) = some a_50 ∧ T a_50 = 8 ∧ K (.inl (some (vi (J (ai h_46 a_50 0))))) h_46))))))))))))))))))))) : CALL T N 119 [vr (some w), vi (J x1), vi (J x2)] h K := by
  show WP T N 119 0 [some (vr (some w)), some (vi (J x1)), some (vi (J x2)), none] [] h _
  refine R_ps 1 (pc2 := 1) (L2 := [some (vr (some w)), some (vi (J x1)), some (vi (J x2)), none]) (st2 := [vr (some w)]) rfl ?_
  refine R_getR rfl t0 ?_
  refine R_ps 1 (pc2 := 5) (L2 := [some (vr (some w)), some (vi (J x1)), some (vi (J x2)), none]) (st2 := [vi (J x1), vr (gr h w 0)]) rfl ?_
  obtain ⟨a_3, e_4, k⟩ := k
  rw [e_4]
  obtain ⟨t_5, k⟩ := k
  refine R_cR (as := [vr (some a_3), vi (J x1)]) rfl rfl ⟨Nat.le_of_ble_eq_true rfl, Nat.le_of_ble_eq_true rfl, rfl, (Or.inr ⟨_, rfl, t_5⟩)⟩ rfl rfl k (fun x_7 h_6 k => ?_)
  refine R_ps 2 (pc2 := 10) (L2 := [some (vr (some w)), some (vi (J x1)), some (vi (J x2)), some (vr x_7)]) (st2 := [vr x_7]) rfl ?_
  rcases null_or (x_7) with e_10 | ⟨a_9, e_10⟩
  · have k := k.1 e_10
    rw [e_10]
    refine R_null rfl (fun _ => ?_) (fun _ c_8 => nomatch c_8)
    obtain ⟨t_12, k⟩ := k
    exact R_throw rfl rfl ⟨Nat.le_of_ble_eq_true rfl, t_12⟩ k
  · have k := k.2 a_9 e_10
    rw [e_10]
    refine R_null rfl (fun c_8 => nomatch c_8) (fun _ _ => ?_)
    refine R_ps 1 (pc2 := 14) (L2 := [some (vr (some w)), some (vi (J x1)), some (vi (J x2)), some (vr (some a_9))]) (st2 := [vr (some w)]) rfl ?_
    refine R_getR rfl t0 ?_
    refine R_ps 1 (pc2 := 18) (L2 := [some (vr (some w)), some (vi (J x1)), some (vi (J x2)), some (vr (some a_9))]) (st2 := [vi (J x2), vr (gr h_6 w 0)]) rfl ?_
    obtain ⟨a_15, e_16, k⟩ := k
    rw [e_16]
    obtain ⟨t_17, k⟩ := k
    refine R_zcI (as := [vr (some a_15), vi (J x2)]) rfl rfl ⟨Nat.le_of_ble_eq_true rfl, Nat.le_of_ble_eq_true rfl, rfl, (Or.inr ⟨_, rfl, t_17⟩)⟩ rfl rfl k (fun x_19 h_18 r_20 k => ?_)
    refine R_zif0 (x := x_19) rfl r_20 (fun c_21 => ?_) (fun c_21 => ?_)
    · have k := k.2 c_21
      refine R_ps 1 (pc2 := 35) (L2 := [some (vr (some w)), some (vi (J x1)), some (vi (J x2)), some (vr (some a_9))]) (st2 := [vr (some w)]) rfl ?_
      refine R_getR rfl t0 ?_
      refine R_ps 1 (pc2 := 39) (L2 := [some (vr (some w)), some (vi (J x1)), some (vi (J x2)), some (vr (some a_9))]) (st2 := [vr (some w), vr (gr h_18 w 3)]) rfl ?_
      refine R_getR rfl t0 ?_
      refine R_ps 5 (pc2 := 47) (L2 := [some (vr (some w)), some (vi (J x1)), some (vi (J x2)), some (vr (some a_9))]) (st2 := [vi (J 2), vi ((J 1) <<< ((J x2) &&& 31)), vi (J x1), vr (gr h_18 w 0), vr (gr h_18 w 3)]) rfl ?_
      rw [show ((J 1) <<< ((J x2) &&& 31)) = J (zshl 1 x2) from J_shl' rfl rfl]
      obtain ⟨a_25, e_26, k⟩ := k
      rw [e_26]
      obtain ⟨t_27, k⟩ := k
      refine R_zcI (as := [vr (some a_25), vr (gr h_18 w 0), vi (J x1), vi (J (zshl 1 x2)), vi (J 2)]) rfl rfl ⟨Nat.le_of_ble_eq_true rfl, Nat.le_of_ble_eq_true rfl, rfl, (Or.inr ⟨_, rfl, t_27⟩)⟩ rfl rfl k (fun x_29 h_28 r_30 k => ?_)
      refine R_zif0 (x := x_29) rfl r_30 (fun c_31 => ?_) (fun c_31 => ?_)
      · have k := k.2 c_31
        refine R_ps 1 (pc2 := 75) (L2 := [some (vr (some w)), some (vi (J x1)), some (vi (J x2)), some (vr (some a_9))]) (st2 := [vr (some w)]) rfl ?_
        refine R_getR rfl t0 ?_
        refine R_ps 1 (pc2 := 79) (L2 := [some (vr (some w)), some (vi (J x1)), some (vi (J x2)), some (vr (some a_9))]) (st2 := [vr (some w), vr (gr h_28 w 2)]) rfl ?_
        refine R_getR rfl t0 ?_
        obtain ⟨a_35, e_36, k⟩ := k
        rw [e_36]
        obtain ⟨t_37, k⟩ := k
        refine R_cV (as := [vr (some a_35), vr (gr h_28 w 0)]) rfl rfl ⟨Nat.le_of_ble_eq_true rfl, Nat.le_of_ble_eq_true rfl, rfl, (Or.inr ⟨_, rfl, t_37⟩)⟩ rfl rfl k (fun h_38 k => ?_)
        refine R_ps 1 (pc2 := 86) (L2 := [some (vr (some w)), some (vi (J x1)), some (vi (J x2)), some (vr (some a_9))]) (st2 := [vr (some w)]) rfl ?_
        refine R_getR rfl t0 ?_
        refine R_ps 1 (pc2 := 90) (L2 := [some (vr (some w)), some (vi (J x1)), some (vi (J x2)), some (vr (some a_9))]) (st2 := [vr (some w), vr (gr h_38 w 3)]) rfl ?_
        refine R_getR rfl t0 ?_
        refine R_ps 1 (pc2 := 94) (L2 := [some (vr (some w)), some (vi (J x1)), some (vi (J x2)), some (vr (some a_9))]) (st2 := [vr (some a_9), vr (gr h_38 w 0), vr (gr h_38 w 3)]) rfl ?_
        obtain ⟨a_43, e_44, k⟩ := k
        rw [e_44]
        obtain ⟨t_45, k⟩ := k
        refine R_cV (as := [vr (some a_43), vr (gr h_38 w 0), vr (some a_9)]) rfl rfl ⟨Nat.le_of_ble_eq_true rfl, Nat.le_of_ble_eq_true rfl, rfl, (Or.inr ⟨_, rfl, t_45⟩)⟩ rfl rfl k (fun h_46 k => ?_)
        refine R_ps 1 (pc2 := 98) (L2 := [some (vr (some w)), some (vi (J x1)), some (vi (J x2)), some (vr (some a_9))]) (st2 := [vr (some w)]) rfl ?_
        refine R_getR rfl t0 ?_
        obtain ⟨a_50, e_51, k⟩ := k
        rw [e_51]
        obtain ⟨t_52, k⟩ := k
        refine R_zgetI (z := 0) rfl t_52 rfl ?_
        exact R_iret rfl rfl k
      · have k := k.1 (Classical.not_not.mp c_31)
        refine R_ps 4 (pc2 := 57) (L2 := [some (vr (some w)), some (vi (J x1)), some (vi (J x2)), some (vr (some a_9))]) (st2 := [vi (J x2), vi (J x1), vr (some w), vr (some w)]) rfl ?_
        refine R_zcI (as := [vr (some w), vi (J x1), vi (J x2)]) rfl rfl ⟨Nat.le_of_ble_eq_true rfl, Nat.le_of_ble_eq_true rfl, rfl, (Or.inr ⟨_, rfl, t0⟩)⟩ rfl rfl k (fun x_56 h_55 r_57 k => ?_)
        refine R_zputI (x := x_56) (z := 8) rfl t0 rfl ?_
        show WP T N _ _ _ _ (wi h_55 w 8 x_56) _
        generalize e_60 : wi h_55 w 8 x_56 = h_59
        replace k := k h_59 e_60.symm
        obtain ⟨t_62, k⟩ := k
        exact R_throw rfl rfl ⟨Nat.le_of_ble_eq_true rfl, t_62⟩ k
    · have k := k.1 (Classical.not_not.mp c_21)
      obtain ⟨t_64, k⟩ := k
      exact R_throw rfl rfl ⟨Nat.le_of_ble_eq_true rfl, t_64⟩ k
/-- DroneCorridors.arrival -/
theorem z120 {T N : Nat → Nat} {h : PH} {w : Nat} {x1 : Int} {x2 : Int} {K : PR → PH → Prop} (t0 : T w = 11) (r1 : In x1) (r2 : In x2) (k : (CALL T N 149 [vr (some w), vi (J x1), vi (J x2)] h (fun o_3 h_2 => (o_3 = .inl none ∧ (∃ a_7, (gr h_2 w 3) = some a_7 ∧ T a_7 = 8 ∧ K (.inl (some (vi (J (ai h_2 a_7 0))))) h_2)) ∨ (∃ e_11, o_3 = .inr e_11 ∧ K (.inr e_11) h_2)))) : CALL T N 120 [vr (some w), vi (J x1), vi (J x2)] h K := by
  show WP T N 120 0 [some (vr (some w)), some (vi (J x1)), some (vi (J x2))] [] h _
  refine R_ps 3 (pc2 := 3) (L2 := [some (vr (some w)), some (vi (J x1)), some (vi (J x2))]) (st2 := [vi (J x2), vi (J x1), vr (some w)]) rfl ?_
  refine R_cX (as := [vr (some w), vi (J x1), vi (J x2)]) rfl rfl ⟨Nat.le_of_ble_eq_true rfl, Nat.le_of_ble_eq_true rfl, rfl, (Or.inr ⟨_, rfl, t0⟩)⟩ rfl rfl k (fun o_3 h_2 k => ?_)
  rcases k with ⟨rfl, k⟩ | ⟨e_11, rfl, k⟩
  · show WP T N _ 6 _ _ _ _
    refine R_ps 1 (pc2 := 7) (L2 := [some (vr (some w)), some (vi (J x1)), some (vi (J x2))]) (st2 := [vr (some w)]) rfl ?_
    refine R_getR rfl t0 ?_
    obtain ⟨a_7, e_8, k⟩ := k
    rw [e_8]
    obtain ⟨t_9, k⟩ := k
    refine R_zgetI (z := 0) rfl t_9 rfl ?_
    exact R_iret rfl rfl k
  · exact k
/-- DroneCorridors.planEnergy -/
theorem z121 {T N : Nat → Nat} {h : PH} {w : Nat} {x1 : Int} {x2 : Int} {K : PR → PH → Prop} (t0 : T w = 11) (r1 : In x1) (r2 : In x2) (k : (CALL T N 149 [vr (some w), vi (J x1), vi (J x2)] h (fun o_3 h_2 => (o_3 = .inl none ∧ (∃ a_7, (gr h_2 w 3) = some a_7 ∧ T a_7 = 8 ∧ K (.inl (some (vi (J (ai h_2 a_7 1))))) h_2)) ∨ (∃ e_11, o_3 = .inr e_11 ∧ K (.inr e_11) h_2)))) : CALL T N 121 [vr (some w), vi (J x1), vi (J x2)] h K := by
  show WP T N 121 0 [some (vr (some w)), some (vi (J x1)), some (vi (J x2))] [] h _
  refine R_ps 3 (pc2 := 3) (L2 := [some (vr (some w)), some (vi (J x1)), some (vi (J x2))]) (st2 := [vi (J x2), vi (J x1), vr (some w)]) rfl ?_
  refine R_cX (as := [vr (some w), vi (J x1), vi (J x2)]) rfl rfl ⟨Nat.le_of_ble_eq_true rfl, Nat.le_of_ble_eq_true rfl, rfl, (Or.inr ⟨_, rfl, t0⟩)⟩ rfl rfl k (fun o_3 h_2 k => ?_)
  rcases k with ⟨rfl, k⟩ | ⟨e_11, rfl, k⟩
  · show WP T N _ 6 _ _ _ _
    refine R_ps 1 (pc2 := 7) (L2 := [some (vr (some w)), some (vi (J x1)), some (vi (J x2))]) (st2 := [vr (some w)]) rfl ?_
    refine R_getR rfl t0 ?_
    obtain ⟨a_7, e_8, k⟩ := k
    rw [e_8]
    obtain ⟨t_9, k⟩ := k
    refine R_zgetI (z := 1) rfl t_9 rfl ?_
    exact R_iret rfl rfl k
  · exact k
/-- DroneCorridors.leg -/
theorem z122 {T N : Nat → Nat} {h : PH} {w : Nat} {x1 : Int} {x2 : Int} {x3 : Int} {K : PR → PH → Prop} (t0 : T w = 11) (r1 : In x1) (r2 : In x2) (r3 : In x3) (k : (∃ a_3, (gr h w 0) = some a_3 ∧ T a_3 = 10 ∧ CR T N 91 [vr (some a_3), vi (J x1)] h (fun x_7 h_6 => (((x_7 = none → ((∀ a, nx h_6 ≤ a → T a = 0) ∧ K (.inr 2) (bump h_6))) ∧ (∀ a_9, x_7 = some a_9 → (T a_9 = 3 ∧ CR T N 17 [vr (some a_9), vi (J x2)] h_6 (fun x_16 h_15 => (((x_16 = none → ((∀ a, nx h_15 ≤ a → T a = 0) ∧ K (.inr 2) (bump h_15))) ∧ (∀ a_18, x_16 = some a_18 → (((x3 = 0 → (T a_18 = 7 ∧ K (.inl (some (vi (J (ai h_15 a_18 0))))) h_15)) ∧ (¬ (x3 = 0) → ((x3 = 1 → (T a_18 = 7 ∧ K (.inl (some (vi (J (ai h_15 a_18 1))))) h_15)) ∧ (¬ (x3 = 1) → ((x3 = 2 → (T a_18 = 7 ∧ K (.inl (some (vi (J (ai h_15 a_18 2))))) h_15)) ∧ (¬ (x3 = 2) → ((x3 = 3 → (T a_18 = 7 ∧ K (.inl (some (vi (J (ai h_15 a_18 3))))) h_15)) ∧ (¬ (x3 = 3) → ((x3 = 4 → (T a_18 = 7 ∧ K (.inl (some (vi (J (ai h_15 a_18 4))))) h_15)) ∧ (¬ (x3 = 4) → ((∀ a, nx h_15 ≤ a → T a = 0) ∧ K (.inr 1) (bump h_15)))))))))))))))))))))))) : CALL T N 122 [vr (some w), vi (J x1), vi (J x2), vi (J x3)] h K := by
  show WP T N 122 0 [some (vr (some w)), some (vi (J x1)), some (vi (J x2)), some (vi (J x3)), none, none] [] h _
  refine R_ps 1 (pc2 := 1) (L2 := [some (vr (some w)), some (vi (J x1)), some (vi (J x2)), some (vi (J x3)), none, none]) (st2 := [vr (some w)]) rfl ?_
  refine R_getR rfl t0 ?_
  refine R_ps 1 (pc2 := 5) (L2 := [some (vr (some w)), some (vi (J x1)), some (vi (J x2)), some (vi (J x3)), none, none]) (st2 := [vi (J x1), vr (gr h w 0)]) rfl ?_
  obtain ⟨a_3, e_4, k⟩ := k
  rw [e_4]
  obtain ⟨t_5, k⟩ := k
  refine R_cR (as := [vr (some a_3), vi (J x1)]) rfl rfl ⟨Nat.le_of_ble_eq_true rfl, Nat.le_of_ble_eq_true rfl, rfl, (Or.inr ⟨_, rfl, t_5⟩)⟩ rfl rfl k (fun x_7 h_6 k => ?_)
  refine R_ps 2 (pc2 := 12) (L2 := [some (vr (some w)), some (vi (J x1)), some (vi (J x2)), some (vi (J x3)), some (vr x_7), none]) (st2 := [vr x_7]) rfl ?_
  rcases null_or (x_7) with e_10 | ⟨a_9, e_10⟩
  · have k := k.1 e_10
    rw [e_10]
    refine R_nonnull rfl (fun _ => ?_) (fun _ c_8 => nomatch c_8)
    obtain ⟨t_12, k⟩ := k
    exact R_throw rfl rfl ⟨Nat.le_of_ble_eq_true rfl, t_12⟩ k
  · have k := k.2 a_9 e_10
    rw [e_10]
    refine R_nonnull rfl (fun c_8 => nomatch c_8) (fun _ _ => ?_)
    refine R_ps 2 (pc2 := 28) (L2 := [some (vr (some w)), some (vi (J x1)), some (vi (J x2)), some (vi (J x3)), some (vr (some a_9)), none]) (st2 := [vi (J x2), vr (some a_9)]) rfl ?_
    obtain ⟨t_14, k⟩ := k
    refine R_cR (as := [vr (some a_9), vi (J x2)]) rfl rfl ⟨Nat.le_of_ble_eq_true rfl, Nat.le_of_ble_eq_true rfl, rfl, (Or.inr ⟨_, rfl, t_14⟩)⟩ rfl rfl k (fun x_16 h_15 k => ?_)
    refine R_ps 2 (pc2 := 35) (L2 := [some (vr (some w)), some (vi (J x1)), some (vi (J x2)), some (vi (J x3)), some (vr (some a_9)), some (vr x_16)]) (st2 := [vr x_16]) rfl ?_
    rcases null_or (x_16) with e_19 | ⟨a_18, e_19⟩
    · have k := k.1 e_19
      rw [e_19]
      refine R_nonnull rfl (fun _ => ?_) (fun _ c_17 => nomatch c_17)
      obtain ⟨t_21, k⟩ := k
      exact R_throw rfl rfl ⟨Nat.le_of_ble_eq_true rfl, t_21⟩ k
    · have k := k.2 a_18 e_19
      rw [e_19]
      refine R_nonnull rfl (fun c_17 => nomatch c_17) (fun _ _ => ?_)
      refine R_ps 1 (pc2 := 50) (L2 := [some (vr (some w)), some (vi (J x1)), some (vi (J x2)), some (vi (J x3)), some (vr (some a_9)), some (vr (some a_18))]) (st2 := [vi (J x3)]) rfl ?_
      refine R_ztsw (x := x3) rfl rfl r3 ?_
      refine ⟨fun c_22 => ?_, fun c_22 => ?_⟩
      · have k := k.1 c_22
        show WP T N _ 84 _ _ _ _
        refine R_ps 1 (pc2 := 86) (L2 := [some (vr (some w)), some (vi (J x1)), some (vi (J x2)), some (vi (J x3)), some (vr (some a_9)), some (vr (some a_18))]) (st2 := [vr (some a_18)]) rfl ?_
        obtain ⟨t_24, k⟩ := k
        refine R_zgetI (z := 0) rfl t_24 rfl ?_
        exact R_iret rfl rfl k
      replace k := k.2 c_22
      refine ⟨fun c_22 => ?_, fun c_22 => ?_⟩
      · have k := k.1 c_22
        show WP T N _ 90 _ _ _ _
        refine R_ps 1 (pc2 := 92) (L2 := [some (vr (some w)), some (vi (J x1)), some (vi (J x2)), some (vi (J x3)), some (vr (some a_9)), some (vr (some a_18))]) (st2 := [vr (some a_18)]) rfl ?_
        obtain ⟨t_27, k⟩ := k
        refine R_zgetI (z := 1) rfl t_27 rfl ?_
        exact R_iret rfl rfl k
      replace k := k.2 c_22
      refine ⟨fun c_22 => ?_, fun c_22 => ?_⟩
      · have k := k.1 c_22
        show WP T N _ 96 _ _ _ _
        refine R_ps 1 (pc2 := 98) (L2 := [some (vr (some w)), some (vi (J x1)), some (vi (J x2)), some (vi (J x3)), some (vr (some a_9)), some (vr (some a_18))]) (st2 := [vr (some a_18)]) rfl ?_
        obtain ⟨t_30, k⟩ := k
        refine R_zgetI (z := 2) rfl t_30 rfl ?_
        exact R_iret rfl rfl k
      replace k := k.2 c_22
      refine ⟨fun c_22 => ?_, fun c_22 => ?_⟩
      · have k := k.1 c_22
        show WP T N _ 102 _ _ _ _
        refine R_ps 1 (pc2 := 104) (L2 := [some (vr (some w)), some (vi (J x1)), some (vi (J x2)), some (vi (J x3)), some (vr (some a_9)), some (vr (some a_18))]) (st2 := [vr (some a_18)]) rfl ?_
        obtain ⟨t_33, k⟩ := k
        refine R_zgetI (z := 3) rfl t_33 rfl ?_
        exact R_iret rfl rfl k
      replace k := k.2 c_22
      refine ⟨fun c_22 => ?_, fun c_22 => ?_⟩
      · have k := k.1 c_22
        show WP T N _ 108 _ _ _ _
        refine R_ps 1 (pc2 := 110) (L2 := [some (vr (some w)), some (vi (J x1)), some (vi (J x2)), some (vi (J x3)), some (vr (some a_9)), some (vr (some a_18))]) (st2 := [vr (some a_18)]) rfl ?_
        obtain ⟨t_36, k⟩ := k
        refine R_zgetI (z := 4) rfl t_36 rfl ?_
        exact R_iret rfl rfl k
      replace k := k.2 c_22
      show WP T N _ 114 _ _ _ _
      obtain ⟨t_39, k⟩ := k
      exact R_throw rfl rfl ⟨Nat.le_of_ble_eq_true rfl, t_39⟩ k
/-- DroneCorridors.cancel -/
theorem z123 {T N : Nat → Nat} {h : PH} {w : Nat} {x1 : Int} {K : PR → PH → Prop} (t0 : T w = 11) (r1 : In x1) (k : (∃ a_3, (gr h w 0) = some a_3 ∧ T a_3 = 10 ∧ CR T N 91 [vr (some a_3), vi (J x1)] h (fun x_7 h_6 => (((x_7 = none → ((∀ a, nx h_6 ≤ a → T a = 0) ∧ K (.inr 2) (bump h_6))) ∧ (∀ a_9, x_7 = some a_9 → (∃ a_16, (gr h_6 w 2) = some a_16 ∧ T a_16 = 5 ∧ CV T N 41 [vr (some a_16), vr (gr h_6 w 0)] h_6 (fun h_19 => (T a_9 = 3 ∧ ZI T N 22 [vr (some a_9)] h_19 (fun x_24 h_23 => ((((ai h_23 a_9 0) = 2 → (∀ h_34, h_34 = wi h_23 a_9 4 (ai h_23 a_9 3) → K (.inl (some (vi (J x_24)))) h_34)) ∧ (¬ ((ai h_23 a_9 0) = 2) → (∀ h_29, h_29 = wi h_23 a_9 4 (-1) → K (.inl (some (vi (J x_24)))) h_29)))))))))))))) : CALL T N 123 [vr (some w), vi (J x1)] h K := by
  show WP T N 123 0 [some (vr (some w)), some (vi (J x1)), none, none] [] h _
  refine R_ps 1 (pc2 := 1) (L2 := [some (vr (some w)), some (vi (J x1)), none, none]) (st2 := [vr (some w)]) rfl ?_
  refine R_getR rfl t0 ?_
  refine R_ps 1 (pc2 := 5) (L2 := [some (vr (some w)), some (vi (J x1)), none, none]) (st2 := [vi (J x1), vr (gr h w 0)]) rfl ?_
  obtain ⟨a_3, e_4, k⟩ := k
  rw [e_4]
  obtain ⟨t_5, k⟩ := k
  refine R_cR (as := [vr (some a_3), vi (J x1)]) rfl rfl ⟨Nat.le_of_ble_eq_true rfl, Nat.le_of_ble_eq_true rfl, rfl, (Or.inr ⟨_, rfl, t_5⟩)⟩ rfl rfl k (fun x_7 h_6 k => ?_)
  refine R_ps 2 (pc2 := 10) (L2 := [some (vr (some w)), some (vi (J x1)), some (vr x_7), none]) (st2 := [vr x_7]) rfl ?_
  rcases null_or (x_7) with e_10 | ⟨a_9, e_10⟩
  · have k := k.1 e_10
    rw [e_10]
    refine R_nonnull rfl (fun _ => ?_) (fun _ c_8 => nomatch c_8)
    obtain ⟨t_12, k⟩ := k
    exact R_throw rfl rfl ⟨Nat.le_of_ble_eq_true rfl, t_12⟩ k
  · have k := k.2 a_9 e_10
    rw [e_10]
    refine R_nonnull rfl (fun c_8 => nomatch c_8) (fun _ _ => ?_)
    refine R_ps 1 (pc2 := 24) (L2 := [some (vr (some w)), some (vi (J x1)), some (vr (some a_9)), none]) (st2 := [vr (some w)]) rfl ?_
    refine R_getR rfl t0 ?_
    refine R_ps 1 (pc2 := 28) (L2 := [some (vr (some w)), some (vi (J x1)), some (vr (some a_9)), none]) (st2 := [vr (some w), vr (gr h_6 w 2)]) rfl ?_
    refine R_getR rfl t0 ?_
    obtain ⟨a_16, e_17, k⟩ := k
    rw [e_17]
    obtain ⟨t_18, k⟩ := k
    refine R_cV (as := [vr (some a_16), vr (gr h_6 w 0)]) rfl rfl ⟨Nat.le_of_ble_eq_true rfl, Nat.le_of_ble_eq_true rfl, rfl, (Or.inr ⟨_, rfl, t_18⟩)⟩ rfl rfl k (fun h_19 k => ?_)
    refine R_ps 1 (pc2 := 35) (L2 := [some (vr (some w)), some (vi (J x1)), some (vr (some a_9)), none]) (st2 := [vr (some a_9)]) rfl ?_
    obtain ⟨t_22, k⟩ := k
    refine R_zcI (as := [vr (some a_9)]) rfl rfl ⟨Nat.le_of_ble_eq_true rfl, Nat.le_of_ble_eq_true rfl, rfl, (Or.inr ⟨_, rfl, t_22⟩)⟩ rfl rfl k (fun x_24 h_23 r_25 k => ?_)
    refine R_ps 3 (pc2 := 41) (L2 := [some (vr (some w)), some (vi (J x1)), some (vr (some a_9)), some (vi (J x_24))]) (st2 := [vr (some a_9), vr (some a_9)]) rfl ?_
    refine R_zgetI (z := 0) rfl t_22 rfl ?_
    refine R_ps 1 (pc2 := 45) (L2 := [some (vr (some w)), some (vi (J x1)), some (vr (some a_9)), some (vi (J x_24))]) (st2 := [vi (J 2), vi (J (ai h_23 a_9 0)), vr (some a_9)]) rfl ?_
    refine R_zif (x := ai h_23 a_9 0) (z := 2) rfl (ai_in _ _ _) (by decide) (fun c_27 => ?_) (fun c_27 => ?_)
    · have k := k.2 c_27
      refine R_ps 1 (pc2 := 56) (L2 := [some (vr (some w)), some (vi (J x1)), some (vr (some a_9)), some (vi (J x_24))]) (st2 := [vi (J (-1)), vr (some a_9)]) rfl ?_
      refine R_zputI (x := (-1)) (z := 4) rfl t_22 rfl ?_
      show WP T N _ _ _ _ (wi h_23 a_9 4 (-1)) _
      generalize e_30 : wi h_23 a_9 4 (-1) = h_29
      replace k := k h_29 e_30.symm
      refine R_ps 1 (pc2 := 60) (L2 := [some (vr (some w)), some (vi (J x1)), some (vr (some a_9)), some (vi (J x_24))]) (st2 := [vi (J x_24)]) rfl ?_
      exact R_iret rfl rfl k
    · have k := k.1 (Classical.not_not.mp c_27)
      refine R_ps 1 (pc2 := 49) (L2 := [some (vr (some w)), some (vi (J x1)), some (vr (some a_9)), some (vi (J x_24))]) (st2 := [vr (some a_9), vr (some a_9)]) rfl ?_
      refine R_zgetI (z := 3) rfl t_22 rfl ?_
      refine R_ps 1 (pc2 := 56) (L2 := [some (vr (some w)), some (vi (J x1)), some (vr (some a_9)), some (vi (J x_24))]) (st2 := [vi (J (ai h_23 a_9 3)), vr (some a_9)]) rfl ?_
      refine R_zputI (x := ai h_23 a_9 3) (z := 4) rfl t_22 rfl ?_
      show WP T N _ _ _ _ (wi h_23 a_9 4 (ai h_23 a_9 3)) _
      generalize e_35 : wi h_23 a_9 4 (ai h_23 a_9 3) = h_34
      replace k := k h_34 e_35.symm
      refine R_ps 1 (pc2 := 60) (L2 := [some (vr (some w)), some (vi (J x1)), some (vr (some a_9)), some (vi (J x_24))]) (st2 := [vi (J x_24)]) rfl ?_
      exact R_iret rfl rfl k
/-- DroneCorridors.drain -/
theorem z124 {T N : Nat → Nat} {h : PH} {w : Nat} {x1 : Int} {x2 : Int} {K : PR → PH → Prop} (t0 : T w = 11) (r1 : In x1) (r2 : In x2) (k : (∃ a_3, (gr h w 0) = some a_3 ∧ T a_3 = 10 ∧ CR T N 91 [vr (some a_3), vi (J x1)] h (fun x_7 h_6 => (((x_7 = none → ((∀ a, nx h_6 ≤ a → T a = 0) ∧ K (.inr 2) (bump h_6))) ∧ (∀ a_9, x_7 = some a_9 → (((x2 < 1 → ((∀ a, nx h_6 ≤ a → T a = 0) ∧ K (.inr 1) (bump h_6))) ∧ (¬ (x2 < 1) → (((200 < x2 → ((∀ a, nx h_6 ≤ a → T a = 0) ∧ K (.inr 1) (bump h_6))) ∧ (¬ (200 < x2) → (T a_9 = 3 ∧ (((ai h_6 a_9 0) = 3 → ((∀ a, nx h_6 ≤ a → T a = 0) ∧ K (.inr 0) (bump h_6))) ∧ (¬ ((ai h_6 a_9 0) = 3) → (∃ a_23, (gr h_6 w 2) = some a_23 ∧ T a_23 = 5 ∧ CV T N 41 [vr (some a_23), vr (gr h_6 w 0)] h_6 (fun h_26 => (CV T N 30 [vr (some a_9), vi (J x2)] h_26 (fun h_29 => (K (.inl (some (vi (J (ai h_29 a_9 1))))) h_29)))))))))))))))))))) : CALL T N 124 [vr (some w), vi (J x1), vi (J x2)] h K := by
  show WP T N 124 0 [some (vr (some w)), some (vi (J x1)), some (vi (J x2)), none] [] h _
  refine R_ps 1 (pc2 := 1) (L2 := [some (vr (some w)), some (vi (J x1)), some (vi (J x2)), none]) (st2 := [vr (some w)]) rfl ?_
  refine R_getR rfl t0 ?_
  refine R_ps 1 (pc2 := 5) (L2 := [some (vr (some w)), some (vi (J x1)), some (vi (J x2)), none]) (st2 := [vi (J x1), vr (gr h w 0)]) rfl ?_
  obtain ⟨a_3, e_4, k⟩ := k
  rw [e_4]
  obtain ⟨t_5, k⟩ := k
  refine R_cR (as := [vr (some a_3), vi (J x1)]) rfl rfl ⟨Nat.le_of_ble_eq_true rfl, Nat.le_of_ble_eq_true rfl, rfl, (Or.inr ⟨_, rfl, t_5⟩)⟩ rfl rfl k (fun x_7 h_6 k => ?_)
  refine R_ps 2 (pc2 := 10) (L2 := [some (vr (some w)), some (vi (J x1)), some (vi (J x2)), some (vr x_7)]) (st2 := [vr x_7]) rfl ?_
  rcases null_or (x_7) with e_10 | ⟨a_9, e_10⟩
  · have k := k.1 e_10
    rw [e_10]
    refine R_nonnull rfl (fun _ => ?_) (fun _ c_8 => nomatch c_8)
    obtain ⟨t_12, k⟩ := k
    exact R_throw rfl rfl ⟨Nat.le_of_ble_eq_true rfl, t_12⟩ k
  · have k := k.2 a_9 e_10
    rw [e_10]
    refine R_nonnull rfl (fun c_8 => nomatch c_8) (fun _ _ => ?_)
    refine R_ps 2 (pc2 := 25) (L2 := [some (vr (some w)), some (vi (J x1)), some (vi (J x2)), some (vr (some a_9))]) (st2 := [vi (J 1), vi (J x2)]) rfl ?_
    refine R_zif (x := x2) (z := 1) rfl r2 (by decide) (fun c_13 => ?_) (fun c_13 => ?_)
    · have k := k.1 c_13
      obtain ⟨t_15, k⟩ := k
      exact R_throw rfl rfl ⟨Nat.le_of_ble_eq_true rfl, t_15⟩ k
    · have k := k.2 c_13
      refine R_ps 2 (pc2 := 32) (L2 := [some (vr (some w)), some (vi (J x1)), some (vi (J x2)), some (vr (some a_9))]) (st2 := [vi (J 200), vi (J x2)]) rfl ?_
      refine R_zif (x := x2) (z := 200) rfl r2 (by decide) (fun c_16 => ?_) (fun c_16 => ?_)
      · have k := k.2 c_16
        refine R_ps 1 (pc2 := 46) (L2 := [some (vr (some w)), some (vi (J x1)), some (vi (J x2)), some (vr (some a_9))]) (st2 := [vr (some a_9)]) rfl ?_
        obtain ⟨t_18, k⟩ := k
        refine R_zgetI (z := 0) rfl t_18 rfl ?_
        refine R_ps 1 (pc2 := 50) (L2 := [some (vr (some w)), some (vi (J x1)), some (vi (J x2)), some (vr (some a_9))]) (st2 := [vi (J 3), vi (J (ai h_6 a_9 0))]) rfl ?_
        refine R_zif (x := ai h_6 a_9 0) (z := 3) rfl (ai_in _ _ _) (by decide) (fun c_19 => ?_) (fun c_19 => ?_)
        · have k := k.2 c_19
          refine R_ps 1 (pc2 := 65) (L2 := [some (vr (some w)), some (vi (J x1)), some (vi (J x2)), some (vr (some a_9))]) (st2 := [vr (some w)]) rfl ?_
          refine R_getR rfl t0 ?_
          refine R_ps 1 (pc2 := 69) (L2 := [some (vr (some w)), some (vi (J x1)), some (vi (J x2)), some (vr (some a_9))]) (st2 := [vr (some w), vr (gr h_6 w 2)]) rfl ?_
          refine R_getR rfl t0 ?_
          obtain ⟨a_23, e_24, k⟩ := k
          rw [e_24]
          obtain ⟨t_25, k⟩ := k
          refine R_cV (as := [vr (some a_23), vr (gr h_6 w 0)]) rfl rfl ⟨Nat.le_of_ble_eq_true rfl, Nat.le_of_ble_eq_true rfl, rfl, (Or.inr ⟨_, rfl, t_25⟩)⟩ rfl rfl k (fun h_26 k => ?_)
          refine R_ps 2 (pc2 := 77) (L2 := [some (vr (some w)), some (vi (J x1)), some (vi (J x2)), some (vr (some a_9))]) (st2 := [vi (J x2), vr (some a_9)]) rfl ?_
          refine R_cV (as := [vr (some a_9), vi (J x2)]) rfl rfl ⟨Nat.le_of_ble_eq_true rfl, Nat.le_of_ble_eq_true rfl, rfl, (Or.inr ⟨_, rfl, t_18⟩)⟩ rfl rfl k (fun h_29 k => ?_)
          refine R_ps 1 (pc2 := 81) (L2 := [some (vr (some w)), some (vi (J x1)), some (vi (J x2)), some (vr (some a_9))]) (st2 := [vr (some a_9)]) rfl ?_
          refine R_zgetI (z := 1) rfl t_18 rfl ?_
          exact R_iret rfl rfl k
        · have k := k.1 (Classical.not_not.mp c_19)
          obtain ⟨t_34, k⟩ := k
          exact R_throw rfl rfl ⟨Nat.le_of_ble_eq_true rfl, t_34⟩ k
      · have k := k.1 (Classical.not_not.mp c_16)
        obtain ⟨t_36, k⟩ := k
        exact R_throw rfl rfl ⟨Nat.le_of_ble_eq_true rfl, t_36⟩ k
/-- DroneCorridors.struck -/
theorem z125 {T N : Nat → Nat} {h : PH} {w : Nat} {K : Int → PH → Prop} (t0 : T w = 11) (k : (∃ a_3, (gr h w 0) = some a_3 ∧ T a_3 = 10 ∧ ZI T N 99 [vr (some a_3)] h (fun x_7 h_6 => (K x_7 h_6)))) : ZI T N 125 [vr (some w)] h K := by
  show WP T N 125 0 [some (vr (some w))] [] h _
  refine R_ps 1 (pc2 := 1) (L2 := [some (vr (some w))]) (st2 := [vr (some w)]) rfl ?_
  refine R_getR rfl t0 ?_
  obtain ⟨a_3, e_4, k⟩ := k
  rw [e_4]
  obtain ⟨t_5, k⟩ := k
  refine R_zcI (as := [vr (some a_3)]) rfl rfl ⟨Nat.le_of_ble_eq_true rfl, Nat.le_of_ble_eq_true rfl, rfl, (Or.inr ⟨_, rfl, t_5⟩)⟩ rfl rfl k (fun x_7 h_6 r_8 k => ?_)
  exact R_iret rfl rfl (R_zr (x := x_7) (K := K) r_8 k)
/-- DroneCorridors.reroute -/
theorem z126 {T N : Nat → Nat} {h : PH} {w : Nat} {K : Int → PH → Prop} (t0 : T w = 11) (k : (∃ a_4, (gr h w 2) = some a_4 ∧ T a_4 = 5 ∧ CV T N 41 [vr (some a_4), vr (gr h w 0)] h (fun h_7 => (∃ a_11, (gr h_7 w 0) = some a_11 ∧ T a_11 = 10 ∧ ZI T N 99 [vr (some a_11)] h_7 (fun x_15 h_14 => (ZW T N 126 23 [some (vr (some w)), some (vi (J x_15)), some (vi (J 0)), some (vi (J 0))] [] h_14 K)))))) : ZI T N 126 [vr (some w)] h K := by
  show WP T N 126 0 [some (vr (some w)), none, none, none] [] h _
  refine R_ps 1 (pc2 := 1) (L2 := [some (vr (some w)), none, none, none]) (st2 := [vr (some w)]) rfl ?_
  refine R_getR rfl t0 ?_
  refine R_ps 1 (pc2 := 5) (L2 := [some (vr (some w)), none, none, none]) (st2 := [vr (some w), vr (gr h w 2)]) rfl ?_
  refine R_getR rfl t0 ?_
  obtain ⟨a_4, e_5, k⟩ := k
  rw [e_5]
  obtain ⟨t_6, k⟩ := k
  refine R_cV (as := [vr (some a_4), vr (gr h w 0)]) rfl rfl ⟨Nat.le_of_ble_eq_true rfl, Nat.le_of_ble_eq_true rfl, rfl, (Or.inr ⟨_, rfl, t_6⟩)⟩ rfl rfl k (fun h_7 k => ?_)
  refine R_ps 1 (pc2 := 12) (L2 := [some (vr (some w)), none, none, none]) (st2 := [vr (some w)]) rfl ?_
  refine R_getR rfl t0 ?_
  obtain ⟨a_11, e_12, k⟩ := k
  rw [e_12]
  obtain ⟨t_13, k⟩ := k
  refine R_zcI (as := [vr (some a_11)]) rfl rfl ⟨Nat.le_of_ble_eq_true rfl, Nat.le_of_ble_eq_true rfl, rfl, (Or.inr ⟨_, rfl, t_13⟩)⟩ rfl rfl k (fun x_15 h_14 r_16 k => ?_)
  refine R_ps 5 (pc2 := 23) (L2 := [some (vr (some w)), some (vi (J x_15)), some (vi (J 0)), some (vi (J 0))]) (st2 := []) rfl ?_
  exact k
theorem z126_23 {T N : Nat → Nat} {h : PH} {w : Nat} {x1 : Int} {x2 : Int} {x3 : Int} {K : Int → PH → Prop} (t0 : T w = 11) (r1 : In x1) (r2 : In x2) (r3 : In x3) (k : (∃ a_3, (gr h w 0) = some a_3 ∧ T a_3 = 10 ∧ ((x3 < (ai h a_3 5) → (ZI T N 145 [vi (J x1), vi (J x3)] h (fun x_10 h_9 => (((x_10 = 0 → (ZW T N 126 23 [some (vr (some w)), some (vi (J x1)), some (vi (J x2)), some (vi (J (x3 + 1)))] [] h_9 K)) ∧ (¬ (x_10 = 0) → (ZI T N 151 [vr (some w), vi (J x3)] h_9 (fun x_15 h_14 => (((x_15 = 0 → (ZW T N 126 23 [some (vr (some w)), some (vi (J x1)), some (vi (J x2)), some (vi (J (x3 + 1)))] [] h_14 K)) ∧ (¬ (x_15 = 0) → (ZW T N 126 23 [some (vr (some w)), some (vi (J x1)), some (vi (J (x2 + 1))), some (vi (J (x3 + 1)))] [] h_14 K)))))))))))) ∧ (¬ (x3 < (ai h a_3 5)) → (K x2 h))))) : ZW T N 126 23 [some (vr (some w)), some (vi (J x1)), some (vi (J x2)), some (vi (J x3))] [] h K := by
  show WP T N 126 23 [some (vr (some w)), some (vi (J x1)), some (vi (J x2)), some (vi (J x3))] [] h _
  refine R_ps 2 (pc2 := 25) (L2 := [some (vr (some w)), some (vi (J x1)), some (vi (J x2)), some (vi (J x3))]) (st2 := [vr (some w), vi (J x3)]) rfl ?_
  refine R_getR rfl t0 ?_
  obtain ⟨a_3, e_4, k⟩ := k
  rw [e_4]
  obtain ⟨t_5, k⟩ := k
  refine R_zgetI (z := 5) rfl t_5 rfl ?_
  refine R_zif (x := x3) (z := ai h a_3 5) rfl r3 (ai_in _ _ _) (fun c_6 => ?_) (fun c_6 => ?_)
  · have k := k.2 c_6
    refine R_ps 1 (pc2 := 60) (L2 := [some (vr (some w)), some (vi (J x1)), some (vi (J x2)), some (vi (J x3))]) (st2 := [vi (J x2)]) rfl ?_
    exact R_iret rfl rfl (R_zr (x := x2) (K := K) r2 k)
  · have k := k.1 (Classical.not_not.mp c_6)
    refine R_ps 2 (pc2 := 36) (L2 := [some (vr (some w)), some (vi (J x1)), some (vi (J x2)), some (vi (J x3))]) (st2 := [vi (J x3), vi (J x1)]) rfl ?_
    refine R_zcI (as := [vi (J x1), vi (J x3)]) rfl rfl ⟨Nat.le_of_ble_eq_true rfl, Nat.le_of_ble_eq_true rfl, rfl, (Or.inl rfl)⟩ rfl rfl k (fun x_10 h_9 r_11 k => ?_)
    refine R_zif0 (x := x_10) rfl r_11 (fun c_12 => ?_) (fun c_12 => ?_)
    · have k := k.1 c_12
      refine R_ps 2 (pc2 := 23) (L2 := [some (vr (some w)), some (vi (J x1)), some (vi (J x2)), some (vi ((J x3) + J 1))]) (st2 := []) rfl ?_
      rw [show ((J x3) + J 1) = J (x3 + 1) from J_add' rfl rfl]
      exact k
    · have k := k.2 c_12
      refine R_ps 2 (pc2 := 44) (L2 := [some (vr (some w)), some (vi (J x1)), some (vi (J x2)), some (vi (J x3))]) (st2 := [vi (J x3), vr (some w)]) rfl ?_
      refine R_zcI (as := [vr (some w), vi (J x3)]) rfl rfl ⟨Nat.le_of_ble_eq_true rfl, Nat.le_of_ble_eq_true rfl, rfl, (Or.inr ⟨_, rfl, t0⟩)⟩ rfl rfl k (fun x_15 h_14 r_16 k => ?_)
      refine R_zif0 (x := x_15) rfl r_16 (fun c_17 => ?_) (fun c_17 => ?_)
      · have k := k.1 c_17
        refine R_ps 2 (pc2 := 23) (L2 := [some (vr (some w)), some (vi (J x1)), some (vi (J x2)), some (vi ((J x3) + J 1))]) (st2 := []) rfl ?_
        rw [show ((J x3) + J 1) = J (x3 + 1) from J_add' rfl rfl]
        exact k
      · have k := k.2 c_17
        refine R_ps 3 (pc2 := 23) (L2 := [some (vr (some w)), some (vi (J x1)), some (vi ((J x2) + J 1)), some (vi ((J x3) + J 1))]) (st2 := []) rfl ?_
        rw [show ((J x2) + J 1) = J (x2 + 1) from J_add' rfl rfl]
        rw [show ((J x3) + J 1) = J (x3 + 1) from J_add' rfl rfl]
        exact k
/-- DroneCorridors.nearestPad -/
theorem z127 {T N : Nat → Nat} {h : PH} {w : Nat} {x1 : Int} {K : PR → PH → Prop} (t0 : T w = 11) (r1 : In x1) (k : (∃ a_3, (gr h w 0) = some a_3 ∧ T a_3 = 10 ∧ CR T N 91 [vr (some a_3), vi (J x1)] h (fun x_7 h_6 => (((x_7 = none → ((∀ a, nx h_6 ≤ a → T a = 0) ∧ K (.inr 2) (bump h_6))) ∧ (∀ a_9, x_7 = some a_9 → (∃ a_17, (gr h_6 w 0) = some a_17 ∧ T a_17 = 10 ∧ ∃ a_21, (gr h_6 w 3) = some a_21 ∧ T a_21 = 8 ∧ ZI T N 59 [vr (some a_21), vr (some a_17), vi (J x1), vi (J (ai h_6 a_17 2)), vi (J 2)] h_6 (fun x_25 h_24 => (((x_25 = 0 → ((∀ a, nx h_24 ≤ a → T a = 0) ∧ K (.inr 5) (bump h_24))) ∧ (¬ (x_25 = 0) → (∃ a_30, (gr h_24 w 3) = some a_30 ∧ T a_30 = 8 ∧ K (.inl (some (vi (J (ai h_24 a_30 2))))) h_24)))))))))))) : CALL T N 127 [vr (some w), vi (J x1)] h K := by
  show WP T N 127 0 [some (vr (some w)), some (vi (J x1))] [] h _
  refine R_ps 1 (pc2 := 1) (L2 := [some (vr (some w)), some (vi (J x1))]) (st2 := [vr (some w)]) rfl ?_
  refine R_getR rfl t0 ?_
  refine R_ps 1 (pc2 := 5) (L2 := [some (vr (some w)), some (vi (J x1))]) (st2 := [vi (J x1), vr (gr h w 0)]) rfl ?_
  obtain ⟨a_3, e_4, k⟩ := k
  rw [e_4]
  obtain ⟨t_5, k⟩ := k
  refine R_cR (as := [vr (some a_3), vi (J x1)]) rfl rfl ⟨Nat.le_of_ble_eq_true rfl, Nat.le_of_ble_eq_true rfl, rfl, (Or.inr ⟨_, rfl, t_5⟩)⟩ rfl rfl k (fun x_7 h_6 k => ?_)
  rcases null_or (x_7) with e_10 | ⟨a_9, e_10⟩
  · have k := k.1 e_10
    rw [e_10]
    refine R_nonnull rfl (fun _ => ?_) (fun _ c_8 => nomatch c_8)
    obtain ⟨t_12, k⟩ := k
    exact R_throw rfl rfl ⟨Nat.le_of_ble_eq_true rfl, t_12⟩ k
  · have k := k.2 a_9 e_10
    rw [e_10]
    refine R_nonnull rfl (fun c_8 => nomatch c_8) (fun _ _ => ?_)
    refine R_ps 1 (pc2 := 22) (L2 := [some (vr (some w)), some (vi (J x1))]) (st2 := [vr (some w)]) rfl ?_
    refine R_getR rfl t0 ?_
    refine R_ps 1 (pc2 := 26) (L2 := [some (vr (some w)), some (vi (J x1))]) (st2 := [vr (some w), vr (gr h_6 w 3)]) rfl ?_
    refine R_getR rfl t0 ?_
    refine R_ps 2 (pc2 := 31) (L2 := [some (vr (some w)), some (vi (J x1))]) (st2 := [vr (some w), vi (J x1), vr (gr h_6 w 0), vr (gr h_6 w 3)]) rfl ?_
    refine R_getR rfl t0 ?_
    obtain ⟨a_17, e_18, k⟩ := k
    rw [e_18]
    obtain ⟨t_19, k⟩ := k
    refine R_zgetI (z := 2) rfl t_19 rfl ?_
    refine R_ps 1 (pc2 := 38) (L2 := [some (vr (some w)), some (vi (J x1))]) (st2 := [vi (J 2), vi (J (ai h_6 a_17 2)), vi (J x1), vr (some a_17), vr (gr h_6 w 3)]) rfl ?_
    obtain ⟨a_21, e_22, k⟩ := k
    rw [e_22]
    obtain ⟨t_23, k⟩ := k
    refine R_zcI (as := [vr (some a_21), vr (some a_17), vi (J x1), vi (J (ai h_6 a_17 2)), vi (J 2)]) rfl rfl ⟨Nat.le_of_ble_eq_true rfl, Nat.le_of_ble_eq_true rfl, rfl, (Or.inr ⟨_, rfl, t_23⟩)⟩ rfl rfl k (fun x_25 h_24 r_26 k => ?_)
    refine R_zif0 (x := x_25) rfl r_26 (fun c_27 => ?_) (fun c_27 => ?_)
    · have k := k.2 c_27
      refine R_ps 1 (pc2 := 56) (L2 := [some (vr (some w)), some (vi (J x1))]) (st2 := [vr (some w)]) rfl ?_
      refine R_getR rfl t0 ?_
      obtain ⟨a_30, e_31, k⟩ := k
      rw [e_31]
      obtain ⟨t_32, k⟩ := k
      refine R_zgetI (z := 2) rfl t_32 rfl ?_
      exact R_iret rfl rfl k
    · have k := k.1 (Classical.not_not.mp c_27)
      obtain ⟨t_35, k⟩ := k
      exact R_throw rfl rfl ⟨Nat.le_of_ble_eq_true rfl, t_35⟩ k
/-- DroneCorridors.low -/
theorem z128 {T N : Nat → Nat} {h : PH} {w : Nat} {K : Int → PH → Prop} (t0 : T w = 11) (k : (∃ a_5, (gr h w 0) = some a_5 ∧ T a_5 = 10 ∧ ∃ a_9, (gr h w 4) = some a_9 ∧ T a_9 = 9 ∧ CV T N 79 [vr (some a_9), vr (some a_5), vi (J (ai h a_5 2)), vi (J 0)] h (fun h_12 => (ZW T N 128 23 [some (vr (some w)), some (vi (J 0)), some (vi (J 0)), none] [] h_12 K)))) : ZI T N 128 [vr (some w)] h K := by
  show WP T N 128 0 [some (vr (some w)), none, none, none] [] h _
  refine R_ps 1 (pc2 := 1) (L2 := [some (vr (some w)), none, none, none]) (st2 := [vr (some w)]) rfl ?_
  refine R_getR rfl t0 ?_
  refine R_ps 1 (pc2 := 5) (L2 := [some (vr (some w)), none, none, none]) (st2 := [vr (some w), vr (gr h w 4)]) rfl ?_
  refine R_getR rfl t0 ?_
  refine R_ps 1 (pc2 := 9) (L2 := [some (vr (some w)), none, none, none]) (st2 := [vr (some w), vr (gr h w 0), vr (gr h w 4)]) rfl ?_
  refine R_getR rfl t0 ?_
  obtain ⟨a_5, e_6, k⟩ := k
  rw [e_6]
  obtain ⟨t_7, k⟩ := k
  refine R_zgetI (z := 2) rfl t_7 rfl ?_
  refine R_ps 1 (pc2 := 16) (L2 := [some (vr (some w)), none, none, none]) (st2 := [vi (J 0), vi (J (ai h a_5 2)), vr (some a_5), vr (gr h w 4)]) rfl ?_
  obtain ⟨a_9, e_10, k⟩ := k
  rw [e_10]
  obtain ⟨t_11, k⟩ := k
  refine R_cV (as := [vr (some a_9), vr (some a_5), vi (J (ai h a_5 2)), vi (J 0)]) rfl rfl ⟨Nat.le_of_ble_eq_true rfl, Nat.le_of_ble_eq_true rfl, rfl, (Or.inr ⟨_, rfl, t_11⟩)⟩ rfl rfl k (fun h_12 k => ?_)
  refine R_ps 4 (pc2 := 23) (L2 := [some (vr (some w)), some (vi (J 0)), some (vi (J 0)), none]) (st2 := []) rfl ?_
  exact k
theorem z128_23 {T N : Nat → Nat} {h : PH} {w : Nat} {x1 : Int} {x2 : Int} {K : Int → PH → Prop} (t0 : T w = 11) (r1 : In x1) (r2 : In x2) (k : (∃ a_3, (gr h w 0) = some a_3 ∧ T a_3 = 10 ∧ ((x2 < (ai h a_3 5) → (∃ a_10, (gr h w 0) = some a_10 ∧ T a_10 = 10 ∧ CR T N 91 [vr (some a_10), vi (J x2)] h (fun x_14 h_13 => (((x_14 = none → (ZW T N 128 23 [some (vr (some w)), some (vi (J x1)), some (vi (J (x2 + 1))), none] [] h_13 K)) ∧ (∀ a_16, x_14 = some a_16 → (T a_16 = 3 ∧ (((ai h_13 a_16 0) = 1 → (∃ a_25, (gr h_13 w 4) = some a_25 ∧ T a_25 = 9 ∧ ZI T N 78 [vr (some a_25), vi (J (ai h_13 a_16 3))] h_13 (fun x_29 h_28 => ((((ai h_13 a_16 1) < x_29 → (ZW T N 128 23 [some (vr (some w)), some (vi (J (zor x1 (zshl 1 x2)))), some (vi (J (x2 + 1))), none] [] h_28 K)) ∧ (¬ ((ai h_13 a_16 1) < x_29) → (ZW T N 128 23 [some (vr (some w)), some (vi (J x1)), some (vi (J (x2 + 1))), none] [] h_28 K))))))) ∧ (¬ ((ai h_13 a_16 0) = 1) → (ZW T N 128 23 [some (vr (some w)), some (vi (J x1)), some (vi (J (x2 + 1))), none] [] h_13 K)))))))))) ∧ (¬ (x2 < (ai h a_3 5)) → (K x1 h))))) : ZW T N 128 23 [some (vr (some w)), some (vi (J x1)), some (vi (J x2)), none] [] h K := by
  show WP T N 128 23 [some (vr (some w)), some (vi (J x1)), some (vi (J x2)), none] [] h _
  refine R_ps 2 (pc2 := 25) (L2 := [some (vr (some w)), some (vi (J x1)), some (vi (J x2)), none]) (st2 := [vr (some w), vi (J x2)]) rfl ?_
  refine R_getR rfl t0 ?_
  obtain ⟨a_3, e_4, k⟩ := k
  rw [e_4]
  obtain ⟨t_5, k⟩ := k
  refine R_zgetI (z := 5) rfl t_5 rfl ?_
  refine R_zif (x := x2) (z := ai h a_3 5) rfl r2 (ai_in _ _ _) (fun c_6 => ?_) (fun c_6 => ?_)
  · have k := k.2 c_6
    refine R_ps 1 (pc2 := 86) (L2 := [some (vr (some w)), some (vi (J x1)), some (vi (J x2)), none]) (st2 := [vi (J x1)]) rfl ?_
    exact R_iret rfl rfl (R_zr (x := x1) (K := K) r1 k)
  · have k := k.1 (Classical.not_not.mp c_6)
    refine R_ps 1 (pc2 := 35) (L2 := [some (vr (some w)), some (vi (J x1)), some (vi (J x2)), none]) (st2 := [vr (some w)]) rfl ?_
    refine R_getR rfl t0 ?_
    refine R_ps 1 (pc2 := 39) (L2 := [some (vr (some w)), some (vi (J x1)), some (vi (J x2)), none]) (st2 := [vi (J x2), vr (gr h w 0)]) rfl ?_
    obtain ⟨a_10, e_11, k⟩ := k
    rw [e_11]
    obtain ⟨t_12, k⟩ := k
    refine R_cR (as := [vr (some a_10), vi (J x2)]) rfl rfl ⟨Nat.le_of_ble_eq_true rfl, Nat.le_of_ble_eq_true rfl, rfl, (Or.inr ⟨_, rfl, t_12⟩)⟩ rfl rfl k (fun x_14 h_13 k => ?_)
    refine R_ps 2 (pc2 := 44) (L2 := [some (vr (some w)), some (vi (J x1)), some (vi (J x2)), some (vr x_14)]) (st2 := [vr x_14]) rfl ?_
    rcases null_or (x_14) with e_17 | ⟨a_16, e_17⟩
    · have k := k.1 e_17
      rw [e_17]
      refine R_null rfl (fun _ => ?_) (fun _ c_15 => nomatch c_15)
      refine R_ps 2 (pc2 := 23) (L2 := [some (vr (some w)), some (vi (J x1)), some (vi ((J x2) + J 1)), some (vr none)]) (st2 := []) rfl ?_
      rw [show ((J x2) + J 1) = J (x2 + 1) from J_add' rfl rfl]
      exact R_drop k (LE_of (L := [some (vr (some w)), some (vi (J x1)), some (vi (J (x2 + 1))), none]) (L2 := [some (vr (some w)), some (vi (J x1)), some (vi (J (x2 + 1))), some (vr none)]) ⟨rfl, rfl, rfl, trivial⟩)
    · have k := k.2 a_16 e_17
      rw [e_17]
      refine R_null rfl (fun c_15 => nomatch c_15) (fun _ _ => ?_)
      refine R_ps 1 (pc2 := 48) (L2 := [some (vr (some w)), some (vi (J x1)), some (vi (J x2)), some (vr (some a_16))]) (st2 := [vr (some a_16)]) rfl ?_
      obtain ⟨t_19, k⟩ := k
      refine R_zgetI (z := 0) rfl t_19 rfl ?_
      refine R_ps 1 (pc2 := 52) (L2 := [some (vr (some w)), some (vi (J x1)), some (vi (J x2)), some (vr (some a_16))]) (st2 := [vi (J 1), vi (J (ai h_13 a_16 0))]) rfl ?_
      refine R_zif (x := ai h_13 a_16 0) (z := 1) rfl (ai_in _ _ _) (by decide) (fun c_20 => ?_) (fun c_20 => ?_)
      · have k := k.2 c_20
        refine R_ps 2 (pc2 := 23) (L2 := [some (vr (some w)), some (vi (J x1)), some (vi ((J x2) + J 1)), some (vr (some a_16))]) (st2 := []) rfl ?_
        rw [show ((J x2) + J 1) = J (x2 + 1) from J_add' rfl rfl]
        exact R_drop k (LE_of (L := [some (vr (some w)), some (vi (J x1)), some (vi (J (x2 + 1))), none]) (L2 := [some (vr (some w)), some (vi (J x1)), some (vi (J (x2 + 1))), some (vr (some a_16))]) ⟨rfl, rfl, rfl, trivial⟩)
      · have k := k.1 (Classical.not_not.mp c_20)
        refine R_ps 1 (pc2 := 56) (L2 := [some (vr (some w)), some (vi (J x1)), some (vi (J x2)), some (vr (some a_16))]) (st2 := [vr (some a_16)]) rfl ?_
        refine R_zgetI (z := 1) rfl t_19 rfl ?_
        refine R_ps 1 (pc2 := 60) (L2 := [some (vr (some w)), some (vi (J x1)), some (vi (J x2)), some (vr (some a_16))]) (st2 := [vr (some w), vi (J (ai h_13 a_16 1))]) rfl ?_
        refine R_getR rfl t0 ?_
        refine R_ps 1 (pc2 := 64) (L2 := [some (vr (some w)), some (vi (J x1)), some (vi (J x2)), some (vr (some a_16))]) (st2 := [vr (some a_16), vr (gr h_13 w 4), vi (J (ai h_13 a_16 1))]) rfl ?_
        refine R_zgetI (z := 3) rfl t_19 rfl ?_
        obtain ⟨a_25, e_26, k⟩ := k
        rw [e_26]
        obtain ⟨t_27, k⟩ := k
        refine R_zcI (as := [vr (some a_25), vi (J (ai h_13 a_16 3))]) rfl rfl ⟨Nat.le_of_ble_eq_true rfl, Nat.le_of_ble_eq_true rfl, rfl, (Or.inr ⟨_, rfl, t_27⟩)⟩ rfl rfl k (fun x_29 h_28 r_30 k => ?_)
        refine R_zif (x := ai h_13 a_16 1) (z := x_29) rfl (ai_in _ _ _) r_30 (fun c_31 => ?_) (fun c_31 => ?_)
        · have k := k.2 c_31
          refine R_ps 2 (pc2 := 23) (L2 := [some (vr (some w)), some (vi (J x1)), some (vi ((J x2) + J 1)), some (vr (some a_16))]) (st2 := []) rfl ?_
          rw [show ((J x2) + J 1) = J (x2 + 1) from J_add' rfl rfl]
          exact R_drop k (LE_of (L := [some (vr (some w)), some (vi (J x1)), some (vi (J (x2 + 1))), none]) (L2 := [some (vr (some w)), some (vi (J x1)), some (vi (J (x2 + 1))), some (vr (some a_16))]) ⟨rfl, rfl, rfl, trivial⟩)
        · have k := k.1 (Classical.not_not.mp c_31)
          refine R_ps 8 (pc2 := 23) (L2 := [some (vr (some w)), some (vi ((J x1) ||| ((J 1) <<< ((J x2) &&& 31)))), some (vi ((J x2) + J 1)), some (vr (some a_16))]) (st2 := []) rfl ?_
          rw [show ((J x1) ||| ((J 1) <<< ((J x2) &&& 31))) = J (zor x1 (zshl 1 x2)) from J_or' rfl (J_shl' rfl rfl)]
          rw [show ((J x2) + J 1) = J (x2 + 1) from J_add' rfl rfl]
          exact R_drop k (LE_of (L := [some (vr (some w)), some (vi (J (zor x1 (zshl 1 x2)))), some (vi (J (x2 + 1))), none]) (L2 := [some (vr (some w)), some (vi (J (zor x1 (zshl 1 x2)))), some (vi (J (x2 + 1))), some (vr (some a_16))]) ⟨rfl, rfl, rfl, trivial⟩)
/-- DroneCorridors.reason -/
theorem z129 {T N : Nat → Nat} {h : PH} {w : Nat} {K : PR → PH → Prop} (t0 : T w = 11) (k : ((((ai h w 8) = (-1) → ((∀ a, nx h ≤ a → T a = 0) ∧ K (.inr 5) (bump h))) ∧ (¬ ((ai h w 8) = (-1)) → (K (.inl (some (vi (J (ai h w 8))))) h))))) : CALL T N 129 [vr (some w)] h K := by
  show WP T N 129 0 [some (vr (some w))] [] h _
  refine R_ps 1 (pc2 := 1) (L2 := [some (vr (some w))]) (st2 := [vr (some w)]) rfl ?_
  refine R_zgetI (z := 8) rfl t0 rfl ?_
  refine R_ps 1 (pc2 := 5) (L2 := [some (vr (some w))]) (st2 := [vi (J (-1)), vi (J (ai h w 8))]) rfl ?_
  refine R_zif (x := ai h w 8) (z := (-1)) rfl (ai_in _ _ _) (by decide) (fun c_2 => ?_) (fun c_2 => ?_)
  · have k := k.2 c_2
    refine R_ps 1 (pc2 := 20) (L2 := [some (vr (some w))]) (st2 := [vr (some w)]) rfl ?_
    refine R_zgetI (z := 8) rfl t0 rfl ?_
    exact R_iret rfl rfl k
  · have k := k.1 (Classical.not_not.mp c_2)
    obtain ⟨t_6, k⟩ := k
    exact R_throw rfl rfl ⟨Nat.le_of_ble_eq_true rfl, t_6⟩ k
/-- DroneCorridors.advance -/
theorem z130 {T N : Nat → Nat} {h : PH} {w : Nat} {x1 : Int} {K : PR → PH → Prop} (t0 : T w = 11) (r1 : In x1) (k : (((x1 < 1 → ((∀ a, nx h ≤ a → T a = 0) ∧ K (.inr 1) (bump h))) ∧ (¬ (x1 < 1) → (((40 < x1 → ((∀ a, nx h ≤ a → T a = 0) ∧ K (.inr 1) (bump h))) ∧ (¬ (40 < x1) → (∃ a_7, (gr h w 0) = some a_7 ∧ T a_7 = 10 ∧ In ((ai h a_7 0) + x1) ∧ ((10000 < ((ai h a_7 0) + x1) → ((∀ a, nx h ≤ a → T a = 0) ∧ K (.inr 0) (bump h))) ∧ (¬ (10000 < ((ai h a_7 0) + x1)) → (∃ a_15, (gr h w 2) = some a_15 ∧ T a_15 = 5 ∧ CV T N 41 [vr (some a_15), vr (gr h w 0)] h (fun h_18 => (∃ a_22, (gr h_18 w 0) = some a_22 ∧ T a_22 = 10 ∧ ZI T N 103 [vr (some a_22), vi (J x1)] h_18 (fun x_26 h_25 => (K (.inl (some (vi (J x_26)))) h_25))))))))))))))) : CALL T N 130 [vr (some w), vi (J x1)] h K := by
  show WP T N 130 0 [some (vr (some w)), some (vi (J x1))] [] h _
  refine R_ps 2 (pc2 := 2) (L2 := [some (vr (some w)), some (vi (J x1))]) (st2 := [vi (J 1), vi (J x1)]) rfl ?_
  refine R_zif (x := x1) (z := 1) rfl r1 (by decide) (fun c_1 => ?_) (fun c_1 => ?_)
  · have k := k.1 c_1
    obtain ⟨t_3, k⟩ := k
    exact R_throw rfl rfl ⟨Nat.le_of_ble_eq_true rfl, t_3⟩ k
  · have k := k.2 c_1
    refine R_ps 2 (pc2 := 8) (L2 := [some (vr (some w)), some (vi (J x1))]) (st2 := [vi (J 40), vi (J x1)]) rfl ?_
    refine R_zif (x := x1) (z := 40) rfl r1 (by decide) (fun c_4 => ?_) (fun c_4 => ?_)
    · have k := k.2 c_4
      refine R_ps 1 (pc2 := 23) (L2 := [some (vr (some w)), some (vi (J x1))]) (st2 := [vr (some w)]) rfl ?_
      refine R_getR rfl t0 ?_
      obtain ⟨a_7, e_8, k⟩ := k
      rw [e_8]
      obtain ⟨t_9, k⟩ := k
      refine R_zgetI (z := 0) rfl t_9 rfl ?_
      refine R_ps 3 (pc2 := 34) (L2 := [some (vr (some w)), some (vi (J x1))]) (st2 := [vi (J 10000), vi ((J (ai h a_7 0)) + (J x1))]) rfl ?_
      rw [show ((J (ai h a_7 0)) + (J x1)) = J ((ai h a_7 0) + x1) from J_add' rfl rfl]
      obtain ⟨t_11, k⟩ := k
      refine R_zif (x := (ai h a_7 0) + x1) (z := 10000) rfl t_11 (by decide) (fun c_10 => ?_) (fun c_10 => ?_)
      · have k := k.2 c_10
        refine R_ps 1 (pc2 := 49) (L2 := [some (vr (some w)), some (vi (J x1))]) (st2 := [vr (some w)]) rfl ?_
        refine R_getR rfl t0 ?_
        refine R_ps 1 (pc2 := 53) (L2 := [some (vr (some w)), some (vi (J x1))]) (st2 := [vr (some w), vr (gr h w 2)]) rfl ?_
        refine R_getR rfl t0 ?_
        obtain ⟨a_15, e_16, k⟩ := k
        rw [e_16]
        obtain ⟨t_17, k⟩ := k
        refine R_cV (as := [vr (some a_15), vr (gr h w 0)]) rfl rfl ⟨Nat.le_of_ble_eq_true rfl, Nat.le_of_ble_eq_true rfl, rfl, (Or.inr ⟨_, rfl, t_17⟩)⟩ rfl rfl k (fun h_18 k => ?_)
        refine R_ps 1 (pc2 := 60) (L2 := [some (vr (some w)), some (vi (J x1))]) (st2 := [vr (some w)]) rfl ?_
        refine R_getR rfl t0 ?_
        refine R_ps 1 (pc2 := 64) (L2 := [some (vr (some w)), some (vi (J x1))]) (st2 := [vi (J x1), vr (gr h_18 w 0)]) rfl ?_
        obtain ⟨a_22, e_23, k⟩ := k
        rw [e_23]
        obtain ⟨t_24, k⟩ := k
        refine R_zcI (as := [vr (some a_22), vi (J x1)]) rfl rfl ⟨Nat.le_of_ble_eq_true rfl, Nat.le_of_ble_eq_true rfl, rfl, (Or.inr ⟨_, rfl, t_24⟩)⟩ rfl rfl k (fun x_26 h_25 r_27 k => ?_)
        exact R_iret rfl rfl k
      · have k := k.1 (Classical.not_not.mp c_10)
        obtain ⟨t_30, k⟩ := k
        exact R_throw rfl rfl ⟨Nat.le_of_ble_eq_true rfl, t_30⟩ k
    · have k := k.1 (Classical.not_not.mp c_4)
      obtain ⟨t_32, k⟩ := k
      exact R_throw rfl rfl ⟨Nat.le_of_ble_eq_true rfl, t_32⟩ k
/-- DroneCorridors.placeAfter -/
theorem z131 {T N : Nat → Nat} {h : PH} {w : Nat} {x1 : Int} {x2 : Int} {K : PR → PH → Prop} (t0 : T w = 11) (r1 : In x1) (r2 : In x2) (k : (∃ a_3, (gr h w 0) = some a_3 ∧ T a_3 = 10 ∧ CR T N 91 [vr (some a_3), vi (J x1)] h (fun x_7 h_6 => (((x_7 = none → ((∀ a, nx h_6 ≤ a → T a = 0) ∧ K (.inr 2) (bump h_6))) ∧ (∀ a_9, x_7 = some a_9 → (((x2 < 0 → ((∀ a, nx h_6 ≤ a → T a = 0) ∧ K (.inr 1) (bump h_6))) ∧ (¬ (x2 < 0) → (((40 < x2 → ((∀ a, nx h_6 ≤ a → T a = 0) ∧ K (.inr 1) (bump h_6))) ∧ (¬ (40 < x2) → (∃ a_19, (gr h_6 w 6) = some a_19 ∧ T a_19 = 3 ∧ CV T N 16 [vr (some a_19), vr (some a_9)] h_6 (fun h_22 => (WX T N 131 55 [some (vr (some w)), none, some (vi (J x2)), none, some (vi (J 0))] [] h_22 K))))))))))))))) : CALL T N 131 [vr (some w), vi (J x1), vi (J x2)] h K := by
  show WP T N 131 0 [some (vr (some w)), some (vi (J x1)), some (vi (J x2)), none, none] [] h _
  refine R_ps 1 (pc2 := 1) (L2 := [some (vr (some w)), some (vi (J x1)), some (vi (J x2)), none, none]) (st2 := [vr (some w)]) rfl ?_
  refine R_getR rfl t0 ?_
  refine R_ps 1 (pc2 := 5) (L2 := [some (vr (some w)), some (vi (J x1)), some (vi (J x2)), none, none]) (st2 := [vi (J x1), vr (gr h w 0)]) rfl ?_
  obtain ⟨a_3, e_4, k⟩ := k
  rw [e_4]
  obtain ⟨t_5, k⟩ := k
  refine R_cR (as := [vr (some a_3), vi (J x1)]) rfl rfl ⟨Nat.le_of_ble_eq_true rfl, Nat.le_of_ble_eq_true rfl, rfl, (Or.inr ⟨_, rfl, t_5⟩)⟩ rfl rfl k (fun x_7 h_6 k => ?_)
  refine R_ps 2 (pc2 := 10) (L2 := [some (vr (some w)), some (vi (J x1)), some (vi (J x2)), some (vr x_7), none]) (st2 := [vr x_7]) rfl ?_
  rcases null_or (x_7) with e_10 | ⟨a_9, e_10⟩
  · have k := k.1 e_10
    rw [e_10]
    refine R_nonnull rfl (fun _ => ?_) (fun _ c_8 => nomatch c_8)
    obtain ⟨t_12, k⟩ := k
    exact R_throw rfl rfl ⟨Nat.le_of_ble_eq_true rfl, t_12⟩ k
  · have k := k.2 a_9 e_10
    rw [e_10]
    refine R_nonnull rfl (fun c_8 => nomatch c_8) (fun _ _ => ?_)
    refine R_ps 1 (pc2 := 24) (L2 := [some (vr (some w)), some (vi (J x1)), some (vi (J x2)), some (vr (some a_9)), none]) (st2 := [vi (J x2)]) rfl ?_
    refine R_zif0 (x := x2) rfl r2 (fun c_13 => ?_) (fun c_13 => ?_)
    · have k := k.1 c_13
      obtain ⟨t_15, k⟩ := k
      exact R_throw rfl rfl ⟨Nat.le_of_ble_eq_true rfl, t_15⟩ k
    · have k := k.2 c_13
      refine R_ps 2 (pc2 := 30) (L2 := [some (vr (some w)), some (vi (J x1)), some (vi (J x2)), some (vr (some a_9)), none]) (st2 := [vi (J 40), vi (J x2)]) rfl ?_
      refine R_zif (x := x2) (z := 40) rfl r2 (by decide) (fun c_16 => ?_) (fun c_16 => ?_)
      · have k := k.2 c_16
        refine R_ps 1 (pc2 := 45) (L2 := [some (vr (some w)), some (vi (J x1)), some (vi (J x2)), some (vr (some a_9)), none]) (st2 := [vr (some w)]) rfl ?_
        refine R_getR rfl t0 ?_
        refine R_ps 1 (pc2 := 49) (L2 := [some (vr (some w)), some (vi (J x1)), some (vi (J x2)), some (vr (some a_9)), none]) (st2 := [vr (some a_9), vr (gr h_6 w 6)]) rfl ?_
        obtain ⟨a_19, e_20, k⟩ := k
        rw [e_20]
        obtain ⟨t_21, k⟩ := k
        refine R_cV (as := [vr (some a_19), vr (some a_9)]) rfl rfl ⟨Nat.le_of_ble_eq_true rfl, Nat.le_of_ble_eq_true rfl, rfl, (Or.inr ⟨_, rfl, t_21⟩)⟩ rfl rfl k (fun h_22 k => ?_)
        refine R_ps 2 (pc2 := 55) (L2 := [some (vr (some w)), some (vi (J x1)), some (vi (J x2)), some (vr (some a_9)), some (vi (J 0))]) (st2 := []) rfl ?_
        exact R_drop k (LE_of (L := [some (vr (some w)), none, some (vi (J x2)), none, some (vi (J 0))]) (L2 := [some (vr (some w)), some (vi (J x1)), some (vi (J x2)), some (vr (some a_9)), some (vi (J 0))]) ⟨rfl, rfl, rfl, trivial⟩)
      · have k := k.1 (Classical.not_not.mp c_16)
        obtain ⟨t_25, k⟩ := k
        exact R_throw rfl rfl ⟨Nat.le_of_ble_eq_true rfl, t_25⟩ k
theorem z131_55 {T N : Nat → Nat} {h : PH} {w : Nat} {x2 : Int} {x4 : Int} {K : PR → PH → Prop} (t0 : T w = 11) (r2 : In x2) (r4 : In x4) (k : (((x4 < x2 → (∃ a_15, (gr h w 0) = some a_15 ∧ T a_15 = 10 ∧ ∃ a_19, (gr h w 6) = some a_19 ∧ T a_19 = 3 ∧ ZI T N 31 [vr (some a_19), vr (some a_15), vi (J ((ai h a_15 0) + x4))] h (fun x_23 h_22 => (WX T N 131 55 [some (vr (some w)), none, some (vi (J x2)), none, some (vi (J (x4 + 1)))] [] h_22 K)))) ∧ (¬ (x4 < x2) → (∃ a_4, (gr h w 6) = some a_4 ∧ T a_4 = 3 ∧ ZI T N 21 [vr (some a_4)] h (fun x_8 h_7 => (K (.inl (some (vi (J x_8)))) h_7))))))) : WX T N 131 55 [some (vr (some w)), none, some (vi (J x2)), none, some (vi (J x4))] [] h K := by
  show WP T N 131 55 [some (vr (some w)), none, some (vi (J x2)), none, some (vi (J x4))] [] h _
  refine R_ps 2 (pc2 := 58) (L2 := [some (vr (some w)), none, some (vi (J x2)), none, some (vi (J x4))]) (st2 := [vi (J x2), vi (J x4)]) rfl ?_
  refine R_zif (x := x4) (z := x2) rfl r4 r2 (fun c_1 => ?_) (fun c_1 => ?_)
  · have k := k.2 c_1
    refine R_ps 1 (pc2 := 90) (L2 := [some (vr (some w)), none, some (vi (J x2)), none, some (vi (J x4))]) (st2 := [vr (some w)]) rfl ?_
    refine R_getR rfl t0 ?_
    obtain ⟨a_4, e_5, k⟩ := k
    rw [e_5]
    obtain ⟨t_6, k⟩ := k
    refine R_zcI (as := [vr (some a_4)]) rfl rfl ⟨Nat.le_of_ble_eq_true rfl, Nat.le_of_ble_eq_true rfl, rfl, (Or.inr ⟨_, rfl, t_6⟩)⟩ rfl rfl k (fun x_8 h_7 r_9 k => ?_)
    exact R_iret rfl rfl k
  · have k := k.1 (Classical.not_not.mp c_1)
    refine R_ps 1 (pc2 := 62) (L2 := [some (vr (some w)), none, some (vi (J x2)), none, some (vi (J x4))]) (st2 := [vr (some w)]) rfl ?_
    refine R_getR rfl t0 ?_
    refine R_ps 1 (pc2 := 66) (L2 := [some (vr (some w)), none, some (vi (J x2)), none, some (vi (J x4))]) (st2 := [vr (some w), vr (gr h w 6)]) rfl ?_
    refine R_getR rfl t0 ?_
    refine R_ps 1 (pc2 := 70) (L2 := [some (vr (some w)), none, some (vi (J x2)), none, some (vi (J x4))]) (st2 := [vr (some w), vr (gr h w 0), vr (gr h w 6)]) rfl ?_
    refine R_getR rfl t0 ?_
    obtain ⟨a_15, e_16, k⟩ := k
    rw [e_16]
    obtain ⟨t_17, k⟩ := k
    refine R_zgetI (z := 0) rfl t_17 rfl ?_
    refine R_ps 2 (pc2 := 79) (L2 := [some (vr (some w)), none, some (vi (J x2)), none, some (vi (J x4))]) (st2 := [vi ((J (ai h a_15 0)) + (J x4)), vr (some a_15), vr (gr h w 6)]) rfl ?_
    rw [show ((J (ai h a_15 0)) + (J x4)) = J ((ai h a_15 0) + x4) from J_add' rfl rfl]
    obtain ⟨a_19, e_20, k⟩ := k
    rw [e_20]
    obtain ⟨t_21, k⟩ := k
    refine R_zcI (as := [vr (some a_19), vr (some a_15), vi (J ((ai h a_15 0) + x4))]) rfl rfl ⟨Nat.le_of_ble_eq_true rfl, Nat.le_of_ble_eq_true rfl, rfl, (Or.inr ⟨_, rfl, t_21⟩)⟩ rfl rfl k (fun x_23 h_22 r_24 k => ?_)
    refine R_ps 3 (pc2 := 55) (L2 := [some (vr (some w)), none, some (vi (J x2)), none, some (vi ((J x4) + J 1))]) (st2 := []) rfl ?_
    rw [show ((J x4) + J 1) = J (x4 + 1) from J_add' rfl rfl]
    exact k
/-- DroneCorridors.pairs -/
theorem z132 {T N : Nat → Nat} {h : PH} {w : Nat} {x1 : Int} {K : Int → PH → Prop} (r1 : In x1) (k : (ZW T N 132 4 [some (vr (some w)), some (vi (J x1)), some (vi (J 0)), some (vi (J 0)), none] [] h K)) : ZI T N 132 [vr (some w), vi (J x1)] h K := by
  show WP T N 132 0 [some (vr (some w)), some (vi (J x1)), none, none, none] [] h _
  refine R_ps 4 (pc2 := 4) (L2 := [some (vr (some w)), some (vi (J x1)), some (vi (J 0)), some (vi (J 0)), none]) (st2 := []) rfl ?_
  exact k
theorem z132_4 {T N : Nat → Nat} {h : PH} {w : Nat} {x1 : Int} {x2 : Int} {x3 : Int} {K : Int → PH → Prop} (t0 : T w = 11) (r1 : In x1) (r2 : In x2) (r3 : In x3) (k : (∃ a_3, (gr h w 0) = some a_3 ∧ T a_3 = 10 ∧ ((x3 < (ai h a_3 5) → (ZW T N 132 20 [some (vr (some w)), some (vi (J x1)), some (vi (J x2)), some (vi (J x3)), some (vi (J (x3 + 1)))] [] h K)) ∧ (¬ (x3 < (ai h a_3 5)) → (K x2 h))))) : ZW T N 132 4 [some (vr (some w)), some (vi (J x1)), some (vi (J x2)), some (vi (J x3)), none] [] h K := by
  show WP T N 132 4 [some (vr (some w)), some (vi (J x1)), some (vi (J x2)), some (vi (J x3)), none] [] h _
  refine R_ps 2 (pc2 := 6) (L2 := [some (vr (some w)), some (vi (J x1)), some (vi (J x2)), some (vi (J x3)), none]) (st2 := [vr (some w), vi (J x3)]) rfl ?_
  refine R_getR rfl t0 ?_
  obtain ⟨a_3, e_4, k⟩ := k
  rw [e_4]
  obtain ⟨t_5, k⟩ := k
  refine R_zgetI (z := 5) rfl t_5 rfl ?_
  refine R_zif (x := x3) (z := ai h a_3 5) rfl r3 (ai_in _ _ _) (fun c_6 => ?_) (fun c_6 => ?_)
  · have k := k.2 c_6
    refine R_ps 1 (pc2 := 69) (L2 := [some (vr (some w)), some (vi (J x1)), some (vi (J x2)), some (vi (J x3)), none]) (st2 := [vi (J x2)]) rfl ?_
    exact R_iret rfl rfl (R_zr (x := x2) (K := K) r2 k)
  · have k := k.1 (Classical.not_not.mp c_6)
    refine R_ps 4 (pc2 := 20) (L2 := [some (vr (some w)), some (vi (J x1)), some (vi (J x2)), some (vi (J x3)), some (vi ((J x3) + (J 1)))]) (st2 := []) rfl ?_
    rw [show ((J x3) + (J 1)) = J (x3 + 1) from J_add' rfl rfl]
    exact k
theorem z132_20 {T N : Nat → Nat} {h : PH} {w : Nat} {x1 : Int} {x2 : Int} {x3 : Int} {x4 : Int} {K : Int → PH → Prop} (t0 : T w = 11) (r1 : In x1) (r2 : In x2) (r3 : In x3) (r4 : In x4) (k : (∃ a_3, (gr h w 0) = some a_3 ∧ T a_3 = 10 ∧ ((x4 < (ai h a_3 5) → (∃ a_9, (gr h w 0) = some a_9 ∧ T a_9 = 10 ∧ CR T N 91 [vr (some a_9), vi (J x3)] h (fun x_13 h_12 => (∃ a_16, (gr h_12 w 0) = some a_16 ∧ T a_16 = 10 ∧ CR T N 91 [vr (some a_16), vi (J x4)] h_12 (fun x_20 h_19 => (ZI T N 148 [vr x_13, vr x_20, vi (J x1)] h_19 (fun x_23 h_22 => (ZW T N 132 20 [some (vr (some w)), some (vi (J x1)), some (vi (J (x2 + x_23))), some (vi (J x3)), some (vi (J (x4 + 1)))] [] h_22 K)))))))) ∧ (¬ (x4 < (ai h a_3 5)) → (ZW T N 132 4 [some (vr (some w)), some (vi (J x1)), some (vi (J x2)), some (vi (J (x3 + 1))), none] [] h K))))) : ZW T N 132 20 [some (vr (some w)), some (vi (J x1)), some (vi (J x2)), some (vi (J x3)), some (vi (J x4))] [] h K := by
  show WP T N 132 20 [some (vr (some w)), some (vi (J x1)), some (vi (J x2)), some (vi (J x3)), some (vi (J x4))] [] h _
  refine R_ps 2 (pc2 := 23) (L2 := [some (vr (some w)), some (vi (J x1)), some (vi (J x2)), some (vi (J x3)), some (vi (J x4))]) (st2 := [vr (some w), vi (J x4)]) rfl ?_
  refine R_getR rfl t0 ?_
  obtain ⟨a_3, e_4, k⟩ := k
  rw [e_4]
  obtain ⟨t_5, k⟩ := k
  refine R_zgetI (z := 5) rfl t_5 rfl ?_
  refine R_zif (x := x4) (z := ai h a_3 5) rfl r4 (ai_in _ _ _) (fun c_6 => ?_) (fun c_6 => ?_)
  · have k := k.2 c_6
    refine R_ps 2 (pc2 := 4) (L2 := [some (vr (some w)), some (vi (J x1)), some (vi (J x2)), some (vi ((J x3) + J 1)), some (vi (J x4))]) (st2 := []) rfl ?_
    rw [show ((J x3) + J 1) = J (x3 + 1) from J_add' rfl rfl]
    exact R_drop k (LE_of (L := [some (vr (some w)), some (vi (J x1)), some (vi (J x2)), some (vi (J (x3 + 1))), none]) (L2 := [some (vr (some w)), some (vi (J x1)), some (vi (J x2)), some (vi (J (x3 + 1))), some (vi (J x4))]) ⟨rfl, rfl, rfl, rfl, trivial⟩)
  · have k := k.1 (Classical.not_not.mp c_6)
    refine R_ps 2 (pc2 := 34) (L2 := [some (vr (some w)), some (vi (J x1)), some (vi (J x2)), some (vi (J x3)), some (vi (J x4))]) (st2 := [vr (some w), vi (J x2)]) rfl ?_
    refine R_getR rfl t0 ?_
    refine R_ps 1 (pc2 := 38) (L2 := [some (vr (some w)), some (vi (J x1)), some (vi (J x2)), some (vi (J x3)), some (vi (J x4))]) (st2 := [vi (J x3), vr (gr h w 0), vi (J x2)]) rfl ?_
    obtain ⟨a_9, e_10, k⟩ := k
    rw [e_10]
    obtain ⟨t_11, k⟩ := k
    refine R_cR (as := [vr (some a_9), vi (J x3)]) rfl rfl ⟨Nat.le_of_ble_eq_true rfl, Nat.le_of_ble_eq_true rfl, rfl, (Or.inr ⟨_, rfl, t_11⟩)⟩ rfl rfl k (fun x_13 h_12 k => ?_)
    refine R_ps 1 (pc2 := 42) (L2 := [some (vr (some w)), some (vi (J x1)), some (vi (J x2)), some (vi (J x3)), some (vi (J x4))]) (st2 := [vr (some w), vr x_13, vi (J x2)]) rfl ?_
    refine R_getR rfl t0 ?_
    refine R_ps 1 (pc2 := 47) (L2 := [some (vr (some w)), some (vi (J x1)), some (vi (J x2)), some (vi (J x3)), some (vi (J x4))]) (st2 := [vi (J x4), vr (gr h_12 w 0), vr x_13, vi (J x2)]) rfl ?_
    obtain ⟨a_16, e_17, k⟩ := k
    rw [e_17]
    obtain ⟨t_18, k⟩ := k
    refine R_cR (as := [vr (some a_16), vi (J x4)]) rfl rfl ⟨Nat.le_of_ble_eq_true rfl, Nat.le_of_ble_eq_true rfl, rfl, (Or.inr ⟨_, rfl, t_18⟩)⟩ rfl rfl k (fun x_20 h_19 k => ?_)
    refine R_ps 1 (pc2 := 51) (L2 := [some (vr (some w)), some (vi (J x1)), some (vi (J x2)), some (vi (J x3)), some (vi (J x4))]) (st2 := [vi (J x1), vr x_20, vr x_13, vi (J x2)]) rfl ?_
    refine R_zcI (as := [vr x_13, vr x_20, vi (J x1)]) rfl rfl ⟨Nat.le_of_ble_eq_true rfl, Nat.le_of_ble_eq_true rfl, rfl, (Or.inl rfl)⟩ rfl rfl k (fun x_23 h_22 r_24 k => ?_)
    refine R_ps 4 (pc2 := 20) (L2 := [some (vr (some w)), some (vi (J x1)), some (vi ((J x2) + (J x_23))), some (vi (J x3)), some (vi ((J x4) + J 1))]) (st2 := []) rfl ?_
    rw [show ((J x2) + (J x_23)) = J (x2 + x_23) from J_add' rfl rfl]
    rw [show ((J x4) + J 1) = J (x4 + 1) from J_add' rfl rfl]
    exact k
/-- DroneCorridors.uses -/
theorem z133 {T N : Nat → Nat} {h : PH} {w : Nat} {x1 : Int} {x2 : Int} {K : PR → PH → Prop} (t0 : T w = 11) (r1 : In x1) (r2 : In x2) (k : (∃ a_3, (gr h w 0) = some a_3 ∧ T a_3 = 10 ∧ CR T N 89 [vr (some a_3), vi (J x1)] h (fun x_7 h_6 => (((x_7 = none → ((∀ a, nx h_6 ≤ a → T a = 0) ∧ K (.inr 2) (bump h_6))) ∧ (∀ a_9, x_7 = some a_9 → (((x2 < (-1) → ((∀ a, nx h_6 ≤ a → T a = 0) ∧ K (.inr 1) (bump h_6))) ∧ (¬ (x2 < (-1)) → (((x2 < 3 → (WX T N 133 47 [some (vr (some w)), some (vi (J x1)), some (vi (J x2)), some (vi (J 0)), some (vi (J 0)), none] [] h_6 K)) ∧ (¬ (x2 < 3) → ((∀ a, nx h_6 ≤ a → T a = 0) ∧ K (.inr 1) (bump h_6)))))))))))))) : CALL T N 133 [vr (some w), vi (J x1), vi (J x2)] h K := by
  show WP T N 133 0 [some (vr (some w)), some (vi (J x1)), some (vi (J x2)), none, none, none] [] h _
  refine R_ps 1 (pc2 := 1) (L2 := [some (vr (some w)), some (vi (J x1)), some (vi (J x2)), none, none, none]) (st2 := [vr (some w)]) rfl ?_
  refine R_getR rfl t0 ?_
  refine R_ps 1 (pc2 := 5) (L2 := [some (vr (some w)), some (vi (J x1)), some (vi (J x2)), none, none, none]) (st2 := [vi (J x1), vr (gr h w 0)]) rfl ?_
  obtain ⟨a_3, e_4, k⟩ := k
  rw [e_4]
  obtain ⟨t_5, k⟩ := k
  refine R_cR (as := [vr (some a_3), vi (J x1)]) rfl rfl ⟨Nat.le_of_ble_eq_true rfl, Nat.le_of_ble_eq_true rfl, rfl, (Or.inr ⟨_, rfl, t_5⟩)⟩ rfl rfl k (fun x_7 h_6 k => ?_)
  rcases null_or (x_7) with e_10 | ⟨a_9, e_10⟩
  · have k := k.1 e_10
    rw [e_10]
    refine R_nonnull rfl (fun _ => ?_) (fun _ c_8 => nomatch c_8)
    obtain ⟨t_12, k⟩ := k
    exact R_throw rfl rfl ⟨Nat.le_of_ble_eq_true rfl, t_12⟩ k
  · have k := k.2 a_9 e_10
    rw [e_10]
    refine R_nonnull rfl (fun c_8 => nomatch c_8) (fun _ _ => ?_)
    refine R_ps 2 (pc2 := 23) (L2 := [some (vr (some w)), some (vi (J x1)), some (vi (J x2)), none, none, none]) (st2 := [vi (J (-1)), vi (J x2)]) rfl ?_
    refine R_zif (x := x2) (z := (-1)) rfl r2 (by decide) (fun c_13 => ?_) (fun c_13 => ?_)
    · have k := k.1 c_13
      obtain ⟨t_15, k⟩ := k
      exact R_throw rfl rfl ⟨Nat.le_of_ble_eq_true rfl, t_15⟩ k
    · have k := k.2 c_13
      refine R_ps 2 (pc2 := 28) (L2 := [some (vr (some w)), some (vi (J x1)), some (vi (J x2)), none, none, none]) (st2 := [vi (J 3), vi (J x2)]) rfl ?_
      refine R_zif (x := x2) (z := 3) rfl r2 (by decide) (fun c_16 => ?_) (fun c_16 => ?_)
      · have k := k.1 c_16
        refine R_ps 4 (pc2 := 47) (L2 := [some (vr (some w)), some (vi (J x1)), some (vi (J x2)), some (vi (J 0)), some (vi (J 0)), none]) (st2 := []) rfl ?_
        exact k
      · have k := k.2 c_16
        obtain ⟨t_18, k⟩ := k
        exact R_throw rfl rfl ⟨Nat.le_of_ble_eq_true rfl, t_18⟩ k
theorem z133_47 {T N : Nat → Nat} {h : PH} {w : Nat} {x1 : Int} {x2 : Int} {x3 : Int} {x4 : Int} {K : PR → PH → Prop} (t0 : T w = 11) (r1 : In x1) (r2 : In x2) (r3 : In x3) (r4 : In x4) (k : (∃ a_3, (gr h w 0) = some a_3 ∧ T a_3 = 10 ∧ ((x4 < (ai h a_3 5) → (∃ a_10, (gr h w 0) = some a_10 ∧ T a_10 = 10 ∧ CR T N 91 [vr (some a_10), vi (J x4)] h (fun x_14 h_13 => (((x_14 = none → (WX T N 133 47 [some (vr (some w)), some (vi (J x1)), some (vi (J x2)), some (vi (J x3)), some (vi (J (x4 + 1))), none] [] h_13 K)) ∧ (∀ a_16, x_14 = some a_16 → (T a_16 = 3 ∧ ZI T N 25 [vr (some a_16), vi (J x1), vi (J x2)] h_13 (fun x_21 h_20 => (WX T N 133 47 [some (vr (some w)), some (vi (J x1)), some (vi (J x2)), some (vi (J (x3 + x_21))), some (vi (J (x4 + 1))), none] [] h_20 K))))))))) ∧ (¬ (x4 < (ai h a_3 5)) → (K (.inl (some (vi (J x3)))) h))))) : WX T N 133 47 [some (vr (some w)), some (vi (J x1)), some (vi (J x2)), some (vi (J x3)), some (vi (J x4)), none] [] h K := by
  show WP T N 133 47 [some (vr (some w)), some (vi (J x1)), some (vi (J x2)), some (vi (J x3)), some (vi (J x4)), none] [] h _
  refine R_ps 2 (pc2 := 50) (L2 := [some (vr (some w)), some (vi (J x1)), some (vi (J x2)), some (vi (J x3)), some (vi (J x4)), none]) (st2 := [vr (some w), vi (J x4)]) rfl ?_
  refine R_getR rfl t0 ?_
  obtain ⟨a_3, e_4, k⟩ := k
  rw [e_4]
  obtain ⟨t_5, k⟩ := k
  refine R_zgetI (z := 5) rfl t_5 rfl ?_
  refine R_zif (x := x4) (z := ai h a_3 5) rfl r4 (ai_in _ _ _) (fun c_6 => ?_) (fun c_6 => ?_)
  · have k := k.2 c_6
    refine R_ps 1 (pc2 := 92) (L2 := [some (vr (some w)), some (vi (J x1)), some (vi (J x2)), some (vi (J x3)), some (vi (J x4)), none]) (st2 := [vi (J x3)]) rfl ?_
    exact R_iret rfl rfl k
  · have k := k.1 (Classical.not_not.mp c_6)
    refine R_ps 1 (pc2 := 60) (L2 := [some (vr (some w)), some (vi (J x1)), some (vi (J x2)), some (vi (J x3)), some (vi (J x4)), none]) (st2 := [vr (some w)]) rfl ?_
    refine R_getR rfl t0 ?_
    refine R_ps 1 (pc2 := 65) (L2 := [some (vr (some w)), some (vi (J x1)), some (vi (J x2)), some (vi (J x3)), some (vi (J x4)), none]) (st2 := [vi (J x4), vr (gr h w 0)]) rfl ?_
    obtain ⟨a_10, e_11, k⟩ := k
    rw [e_11]
    obtain ⟨t_12, k⟩ := k
    refine R_cR (as := [vr (some a_10), vi (J x4)]) rfl rfl ⟨Nat.le_of_ble_eq_true rfl, Nat.le_of_ble_eq_true rfl, rfl, (Or.inr ⟨_, rfl, t_12⟩)⟩ rfl rfl k (fun x_14 h_13 k => ?_)
    refine R_ps 2 (pc2 := 72) (L2 := [some (vr (some w)), some (vi (J x1)), some (vi (J x2)), some (vi (J x3)), some (vi (J x4)), some (vr x_14)]) (st2 := [vr x_14]) rfl ?_
    rcases null_or (x_14) with e_17 | ⟨a_16, e_17⟩
    · have k := k.1 e_17
      rw [e_17]
      refine R_null rfl (fun _ => ?_) (fun _ c_15 => nomatch c_15)
      refine R_ps 2 (pc2 := 47) (L2 := [some (vr (some w)), some (vi (J x1)), some (vi (J x2)), some (vi (J x3)), some (vi ((J x4) + J 1)), some (vr none)]) (st2 := []) rfl ?_
      rw [show ((J x4) + J 1) = J (x4 + 1) from J_add' rfl rfl]
      exact R_drop k (LE_of (L := [some (vr (some w)), some (vi (J x1)), some (vi (J x2)), some (vi (J x3)), some (vi (J (x4 + 1))), none]) (L2 := [some (vr (some w)), some (vi (J x1)), some (vi (J x2)), some (vi (J x3)), some (vi (J (x4 + 1))), some (vr none)]) ⟨rfl, rfl, rfl, rfl, rfl, trivial⟩)
    · have k := k.2 a_16 e_17
      rw [e_17]
      refine R_null rfl (fun c_15 => nomatch c_15) (fun _ _ => ?_)
      refine R_ps 4 (pc2 := 80) (L2 := [some (vr (some w)), some (vi (J x1)), some (vi (J x2)), some (vi (J x3)), some (vi (J x4)), some (vr (some a_16))]) (st2 := [vi (J x2), vi (J x1), vr (some a_16), vi (J x3)]) rfl ?_
      obtain ⟨t_19, k⟩ := k
      refine R_zcI (as := [vr (some a_16), vi (J x1), vi (J x2)]) rfl rfl ⟨Nat.le_of_ble_eq_true rfl, Nat.le_of_ble_eq_true rfl, rfl, (Or.inr ⟨_, rfl, t_19⟩)⟩ rfl rfl k (fun x_21 h_20 r_22 k => ?_)
      refine R_ps 4 (pc2 := 47) (L2 := [some (vr (some w)), some (vi (J x1)), some (vi (J x2)), some (vi ((J x3) + (J x_21))), some (vi ((J x4) + J 1)), some (vr (some a_16))]) (st2 := []) rfl ?_
      rw [show ((J x3) + (J x_21)) = J (x3 + x_21) from J_add' rfl rfl]
      rw [show ((J x4) + J 1) = J (x4 + 1) from J_add' rfl rfl]
      exact R_drop k (LE_of (L := [some (vr (some w)), some (vi (J x1)), some (vi (J x2)), some (vi (J (x3 + x_21))), some (vi (J (x4 + 1))), none]) (L2 := [some (vr (some w)), some (vi (J x1)), some (vi (J x2)), some (vi (J (x3 + x_21))), some (vi (J (x4 + 1))), some (vr (some a_16))]) ⟨rfl, rfl, rfl, rfl, rfl, trivial⟩)
/-- DroneCorridors.account -/
theorem z134 {T N : Nat → Nat} {h : PH} {w : Nat} {x1 : Int} {x2 : Int} {K : PR → PH → Prop} (t0 : T w = 11) (r1 : In x1) (r2 : In x2) (k : (∃ a_3, (gr h w 0) = some a_3 ∧ T a_3 = 10 ∧ CR T N 91 [vr (some a_3), vi (J x1)] h (fun x_7 h_6 => (((x_7 = none → ((∀ a, nx h_6 ≤ a → T a = 0) ∧ K (.inr 2) (bump h_6))) ∧ (∀ a_9, x_7 = some a_9 → (((x2 < 0 → ((∀ a, nx h_6 ≤ a → T a = 0) ∧ K (.inr 1) (bump h_6))) ∧ (¬ (x2 < 0) → (((x2 < 5 → (T a_9 = 3 ∧ ZI T N 18 [vr (some a_9), vi (J x2)] h_6 (fun x_20 h_19 => (K (.inl (some (vi (J x_20)))) h_19)))) ∧ (¬ (x2 < 5) → ((∀ a, nx h_6 ≤ a → T a = 0) ∧ K (.inr 1) (bump h_6)))))))))))))) : CALL T N 134 [vr (some w), vi (J x1), vi (J x2)] h K := by
  show WP T N 134 0 [some (vr (some w)), some (vi (J x1)), some (vi (J x2)), none] [] h _
  refine R_ps 1 (pc2 := 1) (L2 := [some (vr (some w)), some (vi (J x1)), some (vi (J x2)), none]) (st2 := [vr (some w)]) rfl ?_
  refine R_getR rfl t0 ?_
  refine R_ps 1 (pc2 := 5) (L2 := [some (vr (some w)), some (vi (J x1)), some (vi (J x2)), none]) (st2 := [vi (J x1), vr (gr h w 0)]) rfl ?_
  obtain ⟨a_3, e_4, k⟩ := k
  rw [e_4]
  obtain ⟨t_5, k⟩ := k
  refine R_cR (as := [vr (some a_3), vi (J x1)]) rfl rfl ⟨Nat.le_of_ble_eq_true rfl, Nat.le_of_ble_eq_true rfl, rfl, (Or.inr ⟨_, rfl, t_5⟩)⟩ rfl rfl k (fun x_7 h_6 k => ?_)
  refine R_ps 2 (pc2 := 10) (L2 := [some (vr (some w)), some (vi (J x1)), some (vi (J x2)), some (vr x_7)]) (st2 := [vr x_7]) rfl ?_
  rcases null_or (x_7) with e_10 | ⟨a_9, e_10⟩
  · have k := k.1 e_10
    rw [e_10]
    refine R_nonnull rfl (fun _ => ?_) (fun _ c_8 => nomatch c_8)
    obtain ⟨t_12, k⟩ := k
    exact R_throw rfl rfl ⟨Nat.le_of_ble_eq_true rfl, t_12⟩ k
  · have k := k.2 a_9 e_10
    rw [e_10]
    refine R_nonnull rfl (fun c_8 => nomatch c_8) (fun _ _ => ?_)
    refine R_ps 1 (pc2 := 24) (L2 := [some (vr (some w)), some (vi (J x1)), some (vi (J x2)), some (vr (some a_9))]) (st2 := [vi (J x2)]) rfl ?_
    refine R_zif0 (x := x2) rfl r2 (fun c_13 => ?_) (fun c_13 => ?_)
    · have k := k.1 c_13
      obtain ⟨t_15, k⟩ := k
      exact R_throw rfl rfl ⟨Nat.le_of_ble_eq_true rfl, t_15⟩ k
    · have k := k.2 c_13
      refine R_ps 2 (pc2 := 29) (L2 := [some (vr (some w)), some (vi (J x1)), some (vi (J x2)), some (vr (some a_9))]) (st2 := [vi (J 5), vi (J x2)]) rfl ?_
      refine R_zif (x := x2) (z := 5) rfl r2 (by decide) (fun c_16 => ?_) (fun c_16 => ?_)
      · have k := k.1 c_16
        refine R_ps 2 (pc2 := 45) (L2 := [some (vr (some w)), some (vi (J x1)), some (vi (J x2)), some (vr (some a_9))]) (st2 := [vi (J x2), vr (some a_9)]) rfl ?_
        obtain ⟨t_18, k⟩ := k
        refine R_zcI (as := [vr (some a_9), vi (J x2)]) rfl rfl ⟨Nat.le_of_ble_eq_true rfl, Nat.le_of_ble_eq_true rfl, rfl, (Or.inr ⟨_, rfl, t_18⟩)⟩ rfl rfl k (fun x_20 h_19 r_21 k => ?_)
        exact R_iret rfl rfl k
      · have k := k.2 c_16
        obtain ⟨t_24, k⟩ := k
        exact R_throw rfl rfl ⟨Nat.le_of_ble_eq_true rfl, t_24⟩ k
/-- DroneCorridors.audit -/
theorem z135 {T N : Nat → Nat} {h : PH} {w : Nat} {K : Int → PH → Prop} (k : (ZW T N 135 4 [some (vr (some w)), some (vi (J 0)), some (vi (J 0)), none] [] h K)) : ZI T N 135 [vr (some w)] h K := by
  show WP T N 135 0 [some (vr (some w)), none, none, none] [] h _
  refine R_ps 4 (pc2 := 4) (L2 := [some (vr (some w)), some (vi (J 0)), some (vi (J 0)), none]) (st2 := []) rfl ?_
  exact k
theorem z135_4 {T N : Nat → Nat} {h : PH} {w : Nat} {x1 : Int} {x2 : Int} {K : Int → PH → Prop} (t0 : T w = 11) (r1 : In x1) (r2 : In x2) (k : (∃ a_3, (gr h w 0) = some a_3 ∧ T a_3 = 10 ∧ ((x2 < (ai h a_3 5) → (∃ a_10, (gr h w 0) = some a_10 ∧ T a_10 = 10 ∧ CR T N 91 [vr (some a_10), vi (J x2)] h (fun x_14 h_13 => (((x_14 = none → (ZW T N 135 4 [some (vr (some w)), some (vi (J x1)), some (vi (J (x2 + 1))), none] [] h_13 K)) ∧ (∀ a_16, x_14 = some a_16 → (T a_16 = 3 ∧ ZI T N 27 [vr (some a_16)] h_13 (fun x_21 h_20 => (((x_21 = 0 → (ZW T N 135 4 [some (vr (some w)), some (vi (J (x1 + 1))), some (vi (J (x2 + 1))), none] [] h_20 K)) ∧ (¬ (x_21 = 0) → (ZW T N 135 4 [some (vr (some w)), some (vi (J x1)), some (vi (J (x2 + 1))), none] [] h_20 K)))))))))))) ∧ (¬ (x2 < (ai h a_3 5)) → (K x1 h))))) : ZW T N 135 4 [some (vr (some w)), some (vi (J x1)), some (vi (J x2)), none] [] h K := by
  show WP T N 135 4 [some (vr (some w)), some (vi (J x1)), some (vi (J x2)), none] [] h _
  refine R_ps 2 (pc2 := 6) (L2 := [some (vr (some w)), some (vi (J x1)), some (vi (J x2)), none]) (st2 := [vr (some w), vi (J x2)]) rfl ?_
  refine R_getR rfl t0 ?_
  obtain ⟨a_3, e_4, k⟩ := k
  rw [e_4]
  obtain ⟨t_5, k⟩ := k
  refine R_zgetI (z := 5) rfl t_5 rfl ?_
  refine R_zif (x := x2) (z := ai h a_3 5) rfl r2 (ai_in _ _ _) (fun c_6 => ?_) (fun c_6 => ?_)
  · have k := k.2 c_6
    refine R_ps 1 (pc2 := 45) (L2 := [some (vr (some w)), some (vi (J x1)), some (vi (J x2)), none]) (st2 := [vi (J x1)]) rfl ?_
    exact R_iret rfl rfl (R_zr (x := x1) (K := K) r1 k)
  · have k := k.1 (Classical.not_not.mp c_6)
    refine R_ps 1 (pc2 := 16) (L2 := [some (vr (some w)), some (vi (J x1)), some (vi (J x2)), none]) (st2 := [vr (some w)]) rfl ?_
    refine R_getR rfl t0 ?_
    refine R_ps 1 (pc2 := 20) (L2 := [some (vr (some w)), some (vi (J x1)), some (vi (J x2)), none]) (st2 := [vi (J x2), vr (gr h w 0)]) rfl ?_
    obtain ⟨a_10, e_11, k⟩ := k
    rw [e_11]
    obtain ⟨t_12, k⟩ := k
    refine R_cR (as := [vr (some a_10), vi (J x2)]) rfl rfl ⟨Nat.le_of_ble_eq_true rfl, Nat.le_of_ble_eq_true rfl, rfl, (Or.inr ⟨_, rfl, t_12⟩)⟩ rfl rfl k (fun x_14 h_13 k => ?_)
    refine R_ps 2 (pc2 := 25) (L2 := [some (vr (some w)), some (vi (J x1)), some (vi (J x2)), some (vr x_14)]) (st2 := [vr x_14]) rfl ?_
    rcases null_or (x_14) with e_17 | ⟨a_16, e_17⟩
    · have k := k.1 e_17
      rw [e_17]
      refine R_null rfl (fun _ => ?_) (fun _ c_15 => nomatch c_15)
      refine R_ps 2 (pc2 := 4) (L2 := [some (vr (some w)), some (vi (J x1)), some (vi ((J x2) + J 1)), some (vr none)]) (st2 := []) rfl ?_
      rw [show ((J x2) + J 1) = J (x2 + 1) from J_add' rfl rfl]
      exact R_drop k (LE_of (L := [some (vr (some w)), some (vi (J x1)), some (vi (J (x2 + 1))), none]) (L2 := [some (vr (some w)), some (vi (J x1)), some (vi (J (x2 + 1))), some (vr none)]) ⟨rfl, rfl, rfl, trivial⟩)
    · have k := k.2 a_16 e_17
      rw [e_17]
      refine R_null rfl (fun c_15 => nomatch c_15) (fun _ _ => ?_)
      refine R_ps 1 (pc2 := 29) (L2 := [some (vr (some w)), some (vi (J x1)), some (vi (J x2)), some (vr (some a_16))]) (st2 := [vr (some a_16)]) rfl ?_
      obtain ⟨t_19, k⟩ := k
      refine R_zcI (as := [vr (some a_16)]) rfl rfl ⟨Nat.le_of_ble_eq_true rfl, Nat.le_of_ble_eq_true rfl, rfl, (Or.inr ⟨_, rfl, t_19⟩)⟩ rfl rfl k (fun x_21 h_20 r_22 k => ?_)
      refine R_zif0 (x := x_21) rfl r_22 (fun c_23 => ?_) (fun c_23 => ?_)
      · have k := k.2 c_23
        refine R_ps 2 (pc2 := 4) (L2 := [some (vr (some w)), some (vi (J x1)), some (vi ((J x2) + J 1)), some (vr (some a_16))]) (st2 := []) rfl ?_
        rw [show ((J x2) + J 1) = J (x2 + 1) from J_add' rfl rfl]
        exact R_drop k (LE_of (L := [some (vr (some w)), some (vi (J x1)), some (vi (J (x2 + 1))), none]) (L2 := [some (vr (some w)), some (vi (J x1)), some (vi (J (x2 + 1))), some (vr (some a_16))]) ⟨rfl, rfl, rfl, trivial⟩)
      · have k := k.1 (Classical.not_not.mp c_23)
        refine R_ps 3 (pc2 := 4) (L2 := [some (vr (some w)), some (vi ((J x1) + J 1)), some (vi ((J x2) + J 1)), some (vr (some a_16))]) (st2 := []) rfl ?_
        rw [show ((J x1) + J 1) = J (x1 + 1) from J_add' rfl rfl]
        rw [show ((J x2) + J 1) = J (x2 + 1) from J_add' rfl rfl]
        exact R_drop k (LE_of (L := [some (vr (some w)), some (vi (J (x1 + 1))), some (vi (J (x2 + 1))), none]) (L2 := [some (vr (some w)), some (vi (J (x1 + 1))), some (vi (J (x2 + 1))), some (vr (some a_16))]) ⟨rfl, rfl, rfl, trivial⟩)
/-- DroneCorridors.flyingShare -/
theorem z136 {T N : Nat → Nat} {h : PH} {w : Nat} {K : PR → PH → Prop} (t0 : T w = 11) (k : (∃ a_3, (gr h w 0) = some a_3 ∧ T a_3 = 10 ∧ ZI T N 102 [vr (some a_3), vi (J 0)] h (fun x_7 h_6 => (∃ a_11, (gr h_6 w 0) = some a_11 ∧ T a_11 = 10 ∧ ZI T N 102 [vr (some a_11), vi (J 1)] h_6 (fun x_15 h_14 => (∃ a_19, (gr h_14 w 0) = some a_19 ∧ T a_19 = 10 ∧ ZI T N 102 [vr (some a_19), vi (J 2)] h_14 (fun x_23 h_22 => (In ((x_7 + x_15) + x_23) ∧ ((((x_7 + x_15) + x_23) = 0 → ((∀ a, nx h_22 ≤ a → T a = 0) ∧ K (.inr 3) (bump h_22))) ∧ (¬ (((x_7 + x_15) + x_23) = 0) → (vf_n64 (FP.ddiv (FP.i2d (J x_7)) (FP.i2d (J ((x_7 + x_15) + x_23)))) ∧ K (.inl (some (vd (FP.ddiv (FP.i2d (J x_7)) (FP.i2d (J ((x_7 + x_15) + x_23))))))) h_22))))))))))) : CALL T N 136 [vr (some w)] h K := by
  show WP T N 136 0 [some (vr (some w)), none, none] [] h _
  refine R_ps 1 (pc2 := 1) (L2 := [some (vr (some w)), none, none]) (st2 := [vr (some w)]) rfl ?_
  refine R_getR rfl t0 ?_
  refine R_ps 1 (pc2 := 5) (L2 := [some (vr (some w)), none, none]) (st2 := [vi (J 0), vr (gr h w 0)]) rfl ?_
  obtain ⟨a_3, e_4, k⟩ := k
  rw [e_4]
  obtain ⟨t_5, k⟩ := k
  refine R_zcI (as := [vr (some a_3), vi (J 0)]) rfl rfl ⟨Nat.le_of_ble_eq_true rfl, Nat.le_of_ble_eq_true rfl, rfl, (Or.inr ⟨_, rfl, t_5⟩)⟩ rfl rfl k (fun x_7 h_6 r_8 k => ?_)
  refine R_ps 3 (pc2 := 11) (L2 := [some (vr (some w)), some (vi (J x_7)), none]) (st2 := [vr (some w), vi (J x_7)]) rfl ?_
  refine R_getR rfl t0 ?_
  refine R_ps 1 (pc2 := 15) (L2 := [some (vr (some w)), some (vi (J x_7)), none]) (st2 := [vi (J 1), vr (gr h_6 w 0), vi (J x_7)]) rfl ?_
  obtain ⟨a_11, e_12, k⟩ := k
  rw [e_12]
  obtain ⟨t_13, k⟩ := k
  refine R_zcI (as := [vr (some a_11), vi (J 1)]) rfl rfl ⟨Nat.le_of_ble_eq_true rfl, Nat.le_of_ble_eq_true rfl, rfl, (Or.inr ⟨_, rfl, t_13⟩)⟩ rfl rfl k (fun x_15 h_14 r_16 k => ?_)
  refine R_ps 2 (pc2 := 20) (L2 := [some (vr (some w)), some (vi (J x_7)), none]) (st2 := [vr (some w), vi ((J x_7) + (J x_15))]) rfl ?_
  rw [show ((J x_7) + (J x_15)) = J (x_7 + x_15) from J_add' rfl rfl]
  refine R_getR rfl t0 ?_
  refine R_ps 1 (pc2 := 24) (L2 := [some (vr (some w)), some (vi (J x_7)), none]) (st2 := [vi (J 2), vr (gr h_14 w 0), vi (J (x_7 + x_15))]) rfl ?_
  obtain ⟨a_19, e_20, k⟩ := k
  rw [e_20]
  obtain ⟨t_21, k⟩ := k
  refine R_zcI (as := [vr (some a_19), vi (J 2)]) rfl rfl ⟨Nat.le_of_ble_eq_true rfl, Nat.le_of_ble_eq_true rfl, rfl, (Or.inr ⟨_, rfl, t_21⟩)⟩ rfl rfl k (fun x_23 h_22 r_24 k => ?_)
  refine R_ps 3 (pc2 := 30) (L2 := [some (vr (some w)), some (vi (J x_7)), some (vi ((J (x_7 + x_15)) + (J x_23)))]) (st2 := [vi ((J (x_7 + x_15)) + (J x_23))]) rfl ?_
  rw [show ((J (x_7 + x_15)) + (J x_23)) = J ((x_7 + x_15) + x_23) from J_add' rfl rfl]
  obtain ⟨t_26, k⟩ := k
  refine R_zif0 (x := (x_7 + x_15) + x_23) rfl t_26 (fun c_25 => ?_) (fun c_25 => ?_)
  · have k := k.2 c_25
    refine R_ps 4 (pc2 := 48) (L2 := [some (vr (some w)), some (vi (J x_7)), some (vi (J ((x_7 + x_15) + x_23)))]) (st2 := [vd (FP.i2d (J ((x_7 + x_15) + x_23))), vd (FP.i2d (J x_7))]) rfl ?_
    obtain ⟨t_28, k⟩ := k
    refine R_ddiv rfl t_28 ?_
    exact R_dret rfl rfl k
  · have k := k.1 (Classical.not_not.mp c_25)
    obtain ⟨t_31, k⟩ := k
    exact R_throw rfl rfl ⟨Nat.le_of_ble_eq_true rfl, t_31⟩ k
/-- DroneCorridors.busiest -/
theorem z137 {T N : Nat → Nat} {h : PH} {w : Nat} {K : PR → PH → Prop} (k : (WX T N 137 6 [some (vr (some w)), some (vi (J (-1))), some (vi (J 0)), some (vi (J 0)), none] [] h K)) : CALL T N 137 [vr (some w)] h K := by
  show WP T N 137 0 [some (vr (some w)), none, none, none, none] [] h _
  refine R_ps 6 (pc2 := 6) (L2 := [some (vr (some w)), some (vi (J (-1))), some (vi (J 0)), some (vi (J 0)), none]) (st2 := []) rfl ?_
  exact k
theorem z137_6 {T N : Nat → Nat} {h : PH} {w : Nat} {x1 : Int} {x2 : Int} {x3 : Int} {K : PR → PH → Prop} (t0 : T w = 11) (r1 : In x1) (r2 : In x2) (r3 : In x3) (k : (∃ a_3, (gr h w 0) = some a_3 ∧ T a_3 = 10 ∧ ((x3 < (ai h a_3 5) → (∃ a_13, (gr h w 0) = some a_13 ∧ T a_13 = 10 ∧ CR T N 91 [vr (some a_13), vi (J x3)] h (fun x_17 h_16 => (((x_17 = none → (WX T N 137 6 [some (vr (some w)), some (vi (J x1)), some (vi (J x2)), some (vi (J (x3 + 1))), none] [] h_16 K)) ∧ (∀ a_19, x_17 = some a_19 → (T a_19 = 3 ∧ ZI T N 18 [vr (some a_19), vi (J 4)] h_16 (fun x_24 h_23 => (((x2 < x_24 → (ZI T N 18 [vr (some a_19), vi (J 4)] h_23 (fun x_29 h_28 => (WX T N 137 6 [some (vr (some w)), some (vi (J x3)), some (vi (J x_29)), some (vi (J (x3 + 1))), none] [] h_28 K)))) ∧ (¬ (x2 < x_24) → (WX T N 137 6 [some (vr (some w)), some (vi (J x1)), some (vi (J x2)), some (vi (J (x3 + 1))), none] [] h_23 K)))))))))))) ∧ (¬ (x3 < (ai h a_3 5)) → (((x1 = (-1) → ((∀ a, nx h ≤ a → T a = 0) ∧ K (.inr 5) (bump h))) ∧ (¬ (x1 = (-1)) → (K (.inl (some (vi (J x1)))) h)))))))) : WX T N 137 6 [some (vr (some w)), some (vi (J x1)), some (vi (J x2)), some (vi (J x3)), none] [] h K := by
  show WP T N 137 6 [some (vr (some w)), some (vi (J x1)), some (vi (J x2)), some (vi (J x3)), none] [] h _
  refine R_ps 2 (pc2 := 8) (L2 := [some (vr (some w)), some (vi (J x1)), some (vi (J x2)), some (vi (J x3)), none]) (st2 := [vr (some w), vi (J x3)]) rfl ?_
  refine R_getR rfl t0 ?_
  obtain ⟨a_3, e_4, k⟩ := k
  rw [e_4]
  obtain ⟨t_5, k⟩ := k
  refine R_zgetI (z := 5) rfl t_5 rfl ?_
  refine R_zif (x := x3) (z := ai h a_3 5) rfl r3 (ai_in _ _ _) (fun c_6 => ?_) (fun c_6 => ?_)
  · have k := k.2 c_6
    refine R_ps 2 (pc2 := 59) (L2 := [some (vr (some w)), some (vi (J x1)), some (vi (J x2)), some (vi (J x3)), none]) (st2 := [vi (J (-1)), vi (J x1)]) rfl ?_
    refine R_zif (x := x1) (z := (-1)) rfl r1 (by decide) (fun c_7 => ?_) (fun c_7 => ?_)
    · have k := k.2 c_7
      refine R_ps 1 (pc2 := 74) (L2 := [some (vr (some w)), some (vi (J x1)), some (vi (J x2)), some (vi (J x3)), none]) (st2 := [vi (J x1)]) rfl ?_
      exact R_iret rfl rfl k
    · have k := k.1 (Classical.not_not.mp c_7)
      obtain ⟨t_10, k⟩ := k
      exact R_throw rfl rfl ⟨Nat.le_of_ble_eq_true rfl, t_10⟩ k
  · have k := k.1 (Classical.not_not.mp c_6)
    refine R_ps 1 (pc2 := 18) (L2 := [some (vr (some w)), some (vi (J x1)), some (vi (J x2)), some (vi (J x3)), none]) (st2 := [vr (some w)]) rfl ?_
    refine R_getR rfl t0 ?_
    refine R_ps 1 (pc2 := 22) (L2 := [some (vr (some w)), some (vi (J x1)), some (vi (J x2)), some (vi (J x3)), none]) (st2 := [vi (J x3), vr (gr h w 0)]) rfl ?_
    obtain ⟨a_13, e_14, k⟩ := k
    rw [e_14]
    obtain ⟨t_15, k⟩ := k
    refine R_cR (as := [vr (some a_13), vi (J x3)]) rfl rfl ⟨Nat.le_of_ble_eq_true rfl, Nat.le_of_ble_eq_true rfl, rfl, (Or.inr ⟨_, rfl, t_15⟩)⟩ rfl rfl k (fun x_17 h_16 k => ?_)
    refine R_ps 2 (pc2 := 29) (L2 := [some (vr (some w)), some (vi (J x1)), some (vi (J x2)), some (vi (J x3)), some (vr x_17)]) (st2 := [vr x_17]) rfl ?_
    rcases null_or (x_17) with e_20 | ⟨a_19, e_20⟩
    · have k := k.1 e_20
      rw [e_20]
      refine R_null rfl (fun _ => ?_) (fun _ c_18 => nomatch c_18)
      refine R_ps 2 (pc2 := 6) (L2 := [some (vr (some w)), some (vi (J x1)), some (vi (J x2)), some (vi ((J x3) + J 1)), some (vr none)]) (st2 := []) rfl ?_
      rw [show ((J x3) + J 1) = J (x3 + 1) from J_add' rfl rfl]
      exact R_drop k (LE_of (L := [some (vr (some w)), some (vi (J x1)), some (vi (J x2)), some (vi (J (x3 + 1))), none]) (L2 := [some (vr (some w)), some (vi (J x1)), some (vi (J x2)), some (vi (J (x3 + 1))), some (vr none)]) ⟨rfl, rfl, rfl, rfl, trivial⟩)
    · have k := k.2 a_19 e_20
      rw [e_20]
      refine R_null rfl (fun c_18 => nomatch c_18) (fun _ _ => ?_)
      refine R_ps 2 (pc2 := 35) (L2 := [some (vr (some w)), some (vi (J x1)), some (vi (J x2)), some (vi (J x3)), some (vr (some a_19))]) (st2 := [vi (J 4), vr (some a_19)]) rfl ?_
      obtain ⟨t_22, k⟩ := k
      refine R_zcI (as := [vr (some a_19), vi (J 4)]) rfl rfl ⟨Nat.le_of_ble_eq_true rfl, Nat.le_of_ble_eq_true rfl, rfl, (Or.inr ⟨_, rfl, t_22⟩)⟩ rfl rfl k (fun x_24 h_23 r_25 k => ?_)
      refine R_ps 1 (pc2 := 39) (L2 := [some (vr (some w)), some (vi (J x1)), some (vi (J x2)), some (vi (J x3)), some (vr (some a_19))]) (st2 := [vi (J x2), vi (J x_24)]) rfl ?_
      refine R_zif (x := x_24) (z := x2) rfl r_25 r2 (fun c_26 => ?_) (fun c_26 => ?_)
      · have k := k.2 c_26
        refine R_ps 2 (pc2 := 6) (L2 := [some (vr (some w)), some (vi (J x1)), some (vi (J x2)), some (vi ((J x3) + J 1)), some (vr (some a_19))]) (st2 := []) rfl ?_
        rw [show ((J x3) + J 1) = J (x3 + 1) from J_add' rfl rfl]
        exact R_drop k (LE_of (L := [some (vr (some w)), some (vi (J x1)), some (vi (J x2)), some (vi (J (x3 + 1))), none]) (L2 := [some (vr (some w)), some (vi (J x1)), some (vi (J x2)), some (vi (J (x3 + 1))), some (vr (some a_19))]) ⟨rfl, rfl, rfl, rfl, trivial⟩)
      · have k := k.1 (Classical.not_not.mp c_26)
        refine R_ps 4 (pc2 := 47) (L2 := [some (vr (some w)), some (vi (J x3)), some (vi (J x2)), some (vi (J x3)), some (vr (some a_19))]) (st2 := [vi (J 4), vr (some a_19)]) rfl ?_
        refine R_zcI (as := [vr (some a_19), vi (J 4)]) rfl rfl ⟨Nat.le_of_ble_eq_true rfl, Nat.le_of_ble_eq_true rfl, rfl, (Or.inr ⟨_, rfl, t_22⟩)⟩ rfl rfl k (fun x_29 h_28 r_30 k => ?_)
        refine R_ps 3 (pc2 := 6) (L2 := [some (vr (some w)), some (vi (J x3)), some (vi (J x_29)), some (vi ((J x3) + J 1)), some (vr (some a_19))]) (st2 := []) rfl ?_
        rw [show ((J x3) + J 1) = J (x3 + 1) from J_add' rfl rfl]
        exact R_drop k (LE_of (L := [some (vr (some w)), some (vi (J x3)), some (vi (J x_29)), some (vi (J (x3 + 1))), none]) (L2 := [some (vr (some w)), some (vi (J x3)), some (vi (J x_29)), some (vi (J (x3 + 1))), some (vr (some a_19))]) ⟨rfl, rfl, rfl, rfl, trivial⟩)
/-- DroneCorridors.append -/
theorem z138 {T N : Nat → Nat} {h : PH} {w : Nat} {x1 : Int} {K : PR → PH → Prop} (t0 : T w = 11) (r1 : In x1) (k : (((x1 < 32 → ((∀ a, nx h ≤ a → T a = 0) ∧ K (.inr 1) (bump h))) ∧ (¬ (x1 < 32) → (((126 < x1 → ((∀ a, nx h ≤ a → T a = 0) ∧ K (.inr 1) (bump h))) ∧ (¬ (126 < x1) → (∃ a_7, (gr h w 5) = some a_7 ∧ T a_7 = 6 ∧ (((ai h a_7 0) < 60 → (∃ a_13, (gr h w 5) = some a_13 ∧ T a_13 = 6 ∧ CV T N 48 [vr (some a_13), vi (J x1)] h (fun h_16 => (∃ a_20, (gr h_16 w 5) = some a_20 ∧ T a_20 = 6 ∧ K (.inl (some (vi (J (ai h_16 a_20 0))))) h_16)))) ∧ (¬ ((ai h a_7 0) < 60) → ((∀ a, nx h ≤ a → T a = 0) ∧ K (.inr 0) (bump h)))))))))))) : CALL T N 138 [vr (some w), vi (J x1)] h K := by
  show WP T N 138 0 [some (vr (some w)), some (vi (J x1))] [] h _
  refine R_ps 2 (pc2 := 3) (L2 := [some (vr (some w)), some (vi (J x1))]) (st2 := [vi (J 32), vi (J x1)]) rfl ?_
  refine R_zif (x := x1) (z := 32) rfl r1 (by decide) (fun c_1 => ?_) (fun c_1 => ?_)
  · have k := k.1 c_1
    obtain ⟨t_3, k⟩ := k
    exact R_throw rfl rfl ⟨Nat.le_of_ble_eq_true rfl, t_3⟩ k
  · have k := k.2 c_1
    refine R_ps 2 (pc2 := 9) (L2 := [some (vr (some w)), some (vi (J x1))]) (st2 := [vi (J 126), vi (J x1)]) rfl ?_
    refine R_zif (x := x1) (z := 126) rfl r1 (by decide) (fun c_4 => ?_) (fun c_4 => ?_)
    · have k := k.2 c_4
      refine R_ps 1 (pc2 := 24) (L2 := [some (vr (some w)), some (vi (J x1))]) (st2 := [vr (some w)]) rfl ?_
      refine R_getR rfl t0 ?_
      obtain ⟨a_7, e_8, k⟩ := k
      rw [e_8]
      obtain ⟨t_9, k⟩ := k
      refine R_zgetI (z := 0) rfl t_9 rfl ?_
      refine R_ps 1 (pc2 := 32) (L2 := [some (vr (some w)), some (vi (J x1))]) (st2 := [vi (J 60), vi (J (ai h a_7 0))]) rfl ?_
      refine R_zif (x := ai h a_7 0) (z := 60) rfl (ai_in _ _ _) (by decide) (fun c_10 => ?_) (fun c_10 => ?_)
      · have k := k.1 c_10
        refine R_ps 1 (pc2 := 47) (L2 := [some (vr (some w)), some (vi (J x1))]) (st2 := [vr (some w)]) rfl ?_
        refine R_getR rfl t0 ?_
        refine R_ps 1 (pc2 := 51) (L2 := [some (vr (some w)), some (vi (J x1))]) (st2 := [vi (J x1), vr (gr h w 5)]) rfl ?_
        obtain ⟨a_13, e_14, k⟩ := k
        rw [e_14]
        obtain ⟨t_15, k⟩ := k
        refine R_cV (as := [vr (some a_13), vi (J x1)]) rfl rfl ⟨Nat.le_of_ble_eq_true rfl, Nat.le_of_ble_eq_true rfl, rfl, (Or.inr ⟨_, rfl, t_15⟩)⟩ rfl rfl k (fun h_16 k => ?_)
        refine R_ps 1 (pc2 := 55) (L2 := [some (vr (some w)), some (vi (J x1))]) (st2 := [vr (some w)]) rfl ?_
        refine R_getR rfl t0 ?_
        obtain ⟨a_20, e_21, k⟩ := k
        rw [e_21]
        obtain ⟨t_22, k⟩ := k
        refine R_zgetI (z := 0) rfl t_22 rfl ?_
        exact R_iret rfl rfl k
      · have k := k.2 c_10
        obtain ⟨t_25, k⟩ := k
        exact R_throw rfl rfl ⟨Nat.le_of_ble_eq_true rfl, t_25⟩ k
    · have k := k.1 (Classical.not_not.mp c_4)
      obtain ⟨t_27, k⟩ := k
      exact R_throw rfl rfl ⟨Nat.le_of_ble_eq_true rfl, t_27⟩ k
/-- DroneCorridors.read -/
theorem z139 {T N : Nat → Nat} {h : PH} {w : Nat} {K : PR → PH → Prop} (t0 : T w = 11) (k : (∃ a_3, (gr h w 5) = some a_3 ∧ T a_3 = 6 ∧ ZI T N 52 [vr (some a_3)] h (fun x_7 h_6 => (((x_7 = (-1) → (∃ a_13, (gr h_6 w 2) = some a_13 ∧ T a_13 = 5 ∧ CV T N 42 [vr (some a_13), vr (gr h_6 w 0)] h_6 (fun h_16 => (ZI T N 152 [vr (some w)] h_16 (fun x_20 h_19 => (∃ a_24, (gr h_19 w 5) = some a_24 ∧ T a_24 = 6 ∧ ∀ h_27, h_27 = wi h_19 a_24 0 0 → ((x_20 = (-1) → (∃ a_41, (gr h_27 w 2) = some a_41 ∧ T a_41 = 5 ∧ CV T N 44 [vr (some a_41), vr (gr h_27 w 0)] h_27 (fun h_44 => ((∀ a, nx h_44 ≤ a → T a = 0) ∧ K (.inr 0) (bump h_44))))) ∧ (¬ (x_20 = (-1)) → (∃ a_32, (gr h_27 w 2) = some a_32 ∧ T a_32 = 5 ∧ CV T N 43 [vr (some a_32)] h_27 (fun h_35 => (K (.inl (some (vi (J x_20)))) h_35))))))))))) ∧ (¬ (x_7 = (-1)) → (∀ h_49, h_49 = wi h_6 w 9 x_7 → ∃ a_53, (gr h_49 w 5) = some a_53 ∧ T a_53 = 6 ∧ ∀ h_56, h_56 = wi h_49 a_53 0 0 → (∀ a, nx h_56 ≤ a → T a = 0) ∧ K (.inr 1) (bump h_56)))))))) : CALL T N 139 [vr (some w)] h K := by
  show WP T N 139 0 [some (vr (some w)), none, none] [] h _
  refine R_ps 1 (pc2 := 1) (L2 := [some (vr (some w)), none, none]) (st2 := [vr (some w)]) rfl ?_
  refine R_getR rfl t0 ?_
  obtain ⟨a_3, e_4, k⟩ := k
  rw [e_4]
  obtain ⟨t_5, k⟩ := k
  refine R_zcI (as := [vr (some a_3)]) rfl rfl ⟨Nat.le_of_ble_eq_true rfl, Nat.le_of_ble_eq_true rfl, rfl, (Or.inr ⟨_, rfl, t_5⟩)⟩ rfl rfl k (fun x_7 h_6 r_8 k => ?_)
  refine R_ps 3 (pc2 := 10) (L2 := [some (vr (some w)), some (vi (J x_7)), none]) (st2 := [vi (J (-1)), vi (J x_7)]) rfl ?_
  refine R_zif (x := x_7) (z := (-1)) rfl r_8 (by decide) (fun c_9 => ?_) (fun c_9 => ?_)
  · have k := k.1 c_9
    refine R_ps 1 (pc2 := 38) (L2 := [some (vr (some w)), some (vi (J x_7)), none]) (st2 := [vr (some w)]) rfl ?_
    refine R_getR rfl t0 ?_
    refine R_ps 1 (pc2 := 42) (L2 := [some (vr (some w)), some (vi (J x_7)), none]) (st2 := [vr (some w), vr (gr h_6 w 2)]) rfl ?_
    refine R_getR rfl t0 ?_
    obtain ⟨a_13, e_14, k⟩ := k
    rw [e_14]
    obtain ⟨t_15, k⟩ := k
    refine R_cV (as := [vr (some a_13), vr (gr h_6 w 0)]) rfl rfl ⟨Nat.le_of_ble_eq_true rfl, Nat.le_of_ble_eq_true rfl, rfl, (Or.inr ⟨_, rfl, t_15⟩)⟩ rfl rfl k (fun h_16 k => ?_)
    refine R_ps 1 (pc2 := 49) (L2 := [some (vr (some w)), some (vi (J x_7)), none]) (st2 := [vr (some w)]) rfl ?_
    refine R_zcI (as := [vr (some w)]) rfl rfl ⟨Nat.le_of_ble_eq_true rfl, Nat.le_of_ble_eq_true rfl, rfl, (Or.inr ⟨_, rfl, t0⟩)⟩ rfl rfl k (fun x_20 h_19 r_21 k => ?_)
    refine R_ps 2 (pc2 := 54) (L2 := [some (vr (some w)), some (vi (J x_7)), some (vi (J x_20))]) (st2 := [vr (some w)]) rfl ?_
    refine R_getR rfl t0 ?_
    refine R_ps 1 (pc2 := 58) (L2 := [some (vr (some w)), some (vi (J x_7)), some (vi (J x_20))]) (st2 := [vi (J 0), vr (gr h_19 w 5)]) rfl ?_
    obtain ⟨a_24, e_25, k⟩ := k
    rw [e_25]
    obtain ⟨t_26, k⟩ := k
    refine R_zputI (x := 0) (z := 0) rfl t_26 rfl ?_
    show WP T N _ _ _ _ (wi h_19 a_24 0 0) _
    generalize e_28 : wi h_19 a_24 0 0 = h_27
    replace k := k h_27 e_28.symm
    refine R_ps 2 (pc2 := 63) (L2 := [some (vr (some w)), some (vi (J x_7)), some (vi (J x_20))]) (st2 := [vi (J (-1)), vi (J x_20)]) rfl ?_
    refine R_zif (x := x_20) (z := (-1)) rfl r_21 (by decide) (fun c_29 => ?_) (fun c_29 => ?_)
    · have k := k.2 c_29
      refine R_ps 1 (pc2 := 89) (L2 := [some (vr (some w)), some (vi (J x_7)), some (vi (J x_20))]) (st2 := [vr (some w)]) rfl ?_
      refine R_getR rfl t0 ?_
      obtain ⟨a_32, e_33, k⟩ := k
      rw [e_33]
      obtain ⟨t_34, k⟩ := k
      refine R_cV (as := [vr (some a_32)]) rfl rfl ⟨Nat.le_of_ble_eq_true rfl, Nat.le_of_ble_eq_true rfl, rfl, (Or.inr ⟨_, rfl, t_34⟩)⟩ rfl rfl k (fun h_35 k => ?_)
      refine R_ps 1 (pc2 := 96) (L2 := [some (vr (some w)), some (vi (J x_7)), some (vi (J x_20))]) (st2 := [vi (J x_20)]) rfl ?_
      exact R_iret rfl rfl k
    · have k := k.1 (Classical.not_not.mp c_29)
      refine R_ps 1 (pc2 := 67) (L2 := [some (vr (some w)), some (vi (J x_7)), some (vi (J x_20))]) (st2 := [vr (some w)]) rfl ?_
      refine R_getR rfl t0 ?_
      refine R_ps 1 (pc2 := 71) (L2 := [some (vr (some w)), some (vi (J x_7)), some (vi (J x_20))]) (st2 := [vr (some w), vr (gr h_27 w 2)]) rfl ?_
      refine R_getR rfl t0 ?_
      obtain ⟨a_41, e_42, k⟩ := k
      rw [e_42]
      obtain ⟨t_43, k⟩ := k
      refine R_cV (as := [vr (some a_41), vr (gr h_27 w 0)]) rfl rfl ⟨Nat.le_of_ble_eq_true rfl, Nat.le_of_ble_eq_true rfl, rfl, (Or.inr ⟨_, rfl, t_43⟩)⟩ rfl rfl k (fun h_44 k => ?_)
      obtain ⟨t_47, k⟩ := k
      exact R_throw rfl rfl ⟨Nat.le_of_ble_eq_true rfl, t_47⟩ k
  · have k := k.2 c_9
    refine R_ps 2 (pc2 := 15) (L2 := [some (vr (some w)), some (vi (J x_7)), none]) (st2 := [vi (J x_7), vr (some w)]) rfl ?_
    refine R_zputI (x := x_7) (z := 9) rfl t0 rfl ?_
    show WP T N _ _ _ _ (wi h_6 w 9 x_7) _
    generalize e_50 : wi h_6 w 9 x_7 = h_49
    replace k := k h_49 e_50.symm
    refine R_ps 1 (pc2 := 19) (L2 := [some (vr (some w)), some (vi (J x_7)), none]) (st2 := [vr (some w)]) rfl ?_
    refine R_getR rfl t0 ?_
    refine R_ps 1 (pc2 := 23) (L2 := [some (vr (some w)), some (vi (J x_7)), none]) (st2 := [vi (J 0), vr (gr h_49 w 5)]) rfl ?_
    obtain ⟨a_53, e_54, k⟩ := k
    rw [e_54]
    obtain ⟨t_55, k⟩ := k
    refine R_zputI (x := 0) (z := 0) rfl t_55 rfl ?_
    show WP T N _ _ _ _ (wi h_49 a_53 0 0) _
    generalize e_57 : wi h_49 a_53 0 0 = h_56
    replace k := k h_56 e_57.symm
    obtain ⟨t_59, k⟩ := k
    exact R_throw rfl rfl ⟨Nat.le_of_ble_eq_true rfl, t_59⟩ k
/-- DroneCorridors.errorPosition -/
theorem z140 {T N : Nat → Nat} {h : PH} {w : Nat} {K : PR → PH → Prop} (t0 : T w = 11) (k : ((((ai h w 9) = (-1) → ((∀ a, nx h ≤ a → T a = 0) ∧ K (.inr 5) (bump h))) ∧ (¬ ((ai h w 9) = (-1)) → (K (.inl (some (vi (J (ai h w 9))))) h))))) : CALL T N 140 [vr (some w)] h K := by
  show WP T N 140 0 [some (vr (some w))] [] h _
  refine R_ps 1 (pc2 := 1) (L2 := [some (vr (some w))]) (st2 := [vr (some w)]) rfl ?_
  refine R_zgetI (z := 9) rfl t0 rfl ?_
  refine R_ps 1 (pc2 := 5) (L2 := [some (vr (some w))]) (st2 := [vi (J (-1)), vi (J (ai h w 9))]) rfl ?_
  refine R_zif (x := ai h w 9) (z := (-1)) rfl (ai_in _ _ _) (by decide) (fun c_2 => ?_) (fun c_2 => ?_)
  · have k := k.2 c_2
    refine R_ps 1 (pc2 := 20) (L2 := [some (vr (some w))]) (st2 := [vr (some w)]) rfl ?_
    refine R_zgetI (z := 9) rfl t0 rfl ?_
    exact R_iret rfl rfl k
  · have k := k.1 (Classical.not_not.mp c_2)
    obtain ⟨t_6, k⟩ := k
    exact R_throw rfl rfl ⟨Nat.le_of_ble_eq_true rfl, t_6⟩ k
/-- DroneCorridors.describe -/
theorem z141 {T N : Nat → Nat} {h : PH} {w : Nat} {x1 : Int} {x2 : Int} {K : PR → PH → Prop} (t0 : T w = 11) (r1 : In x1) (r2 : In x2) (k : (∃ a_3, (gr h w 0) = some a_3 ∧ T a_3 = 10 ∧ CR T N 89 [vr (some a_3), vi (J x1)] h (fun x_7 h_6 => (((x_7 = none → ((∀ a, nx h_6 ≤ a → T a = 0) ∧ K (.inr 2) (bump h_6))) ∧ (∀ a_9, x_7 = some a_9 → (((x2 = (-1) → (K (.inl (some (vi (J 7)))) h_6)) ∧ (¬ (x2 = (-1)) → ((x2 = 0 → (K (.inl (some (vi (J 99)))) h_6)) ∧ (¬ (x2 = 0) → ((x2 = 1 → (T a_9 = 2 ∧ K (.inl (some (vi (J (48 + (ai h_6 a_9 0)))))) h_6)) ∧ (¬ (x2 = 1) → ((x2 = 2 → (K (.inl (some (vi (J 45)))) h_6)) ∧ (¬ (x2 = 2) → ((x2 = 3 → (T a_9 = 2 ∧ K (.inl (some (vi (J (48 + (ai h_6 a_9 1)))))) h_6)) ∧ (¬ (x2 = 3) → ((x2 = 4 → (K (.inl (some (vi (J 42)))) h_6)) ∧ (¬ (x2 = 4) → ((x2 = 5 → (T a_9 = 2 ∧ K (.inl (some (vi (J (48 + (ai h_6 a_9 2)))))) h_6)) ∧ (¬ (x2 = 5) → ((x2 = 6 → (K (.inl (some (vi (J 59)))) h_6)) ∧ (¬ (x2 = 6) → ((∀ a, nx h_6 ≤ a → T a = 0) ∧ K (.inr 5) (bump h_6))))))))))))))))))))))))) : CALL T N 141 [vr (some w), vi (J x1), vi (J x2)] h K := by
  show WP T N 141 0 [some (vr (some w)), some (vi (J x1)), some (vi (J x2)), none] [] h _
  refine R_ps 1 (pc2 := 1) (L2 := [some (vr (some w)), some (vi (J x1)), some (vi (J x2)), none]) (st2 := [vr (some w)]) rfl ?_
  refine R_getR rfl t0 ?_
  refine R_ps 1 (pc2 := 5) (L2 := [some (vr (some w)), some (vi (J x1)), some (vi (J x2)), none]) (st2 := [vi (J x1), vr (gr h w 0)]) rfl ?_
  obtain ⟨a_3, e_4, k⟩ := k
  rw [e_4]
  obtain ⟨t_5, k⟩ := k
  refine R_cR (as := [vr (some a_3), vi (J x1)]) rfl rfl ⟨Nat.le_of_ble_eq_true rfl, Nat.le_of_ble_eq_true rfl, rfl, (Or.inr ⟨_, rfl, t_5⟩)⟩ rfl rfl k (fun x_7 h_6 k => ?_)
  refine R_ps 2 (pc2 := 10) (L2 := [some (vr (some w)), some (vi (J x1)), some (vi (J x2)), some (vr x_7)]) (st2 := [vr x_7]) rfl ?_
  rcases null_or (x_7) with e_10 | ⟨a_9, e_10⟩
  · have k := k.1 e_10
    rw [e_10]
    refine R_nonnull rfl (fun _ => ?_) (fun _ c_8 => nomatch c_8)
    obtain ⟨t_12, k⟩ := k
    exact R_throw rfl rfl ⟨Nat.le_of_ble_eq_true rfl, t_12⟩ k
  · have k := k.2 a_9 e_10
    rw [e_10]
    refine R_nonnull rfl (fun c_8 => nomatch c_8) (fun _ _ => ?_)
    refine R_ps 1 (pc2 := 24) (L2 := [some (vr (some w)), some (vi (J x1)), some (vi (J x2)), some (vr (some a_9))]) (st2 := [vi (J x2)]) rfl ?_
    refine R_ztsw (x := x2) rfl rfl r2 ?_
    refine ⟨fun c_13 => ?_, fun c_13 => ?_⟩
    · have k := k.1 c_13
      show WP T N _ 72 _ _ _ _
      refine R_ps 1 (pc2 := 74) (L2 := [some (vr (some w)), some (vi (J x1)), some (vi (J x2)), some (vr (some a_9))]) (st2 := [vi (J 7)]) rfl ?_
      exact R_iret rfl rfl k
    replace k := k.2 c_13
    refine ⟨fun c_13 => ?_, fun c_13 => ?_⟩
    · have k := k.1 c_13
      show WP T N _ 75 _ _ _ _
      refine R_ps 1 (pc2 := 77) (L2 := [some (vr (some w)), some (vi (J x1)), some (vi (J x2)), some (vr (some a_9))]) (st2 := [vi (J 99)]) rfl ?_
      exact R_iret rfl rfl k
    replace k := k.2 c_13
    refine ⟨fun c_13 => ?_, fun c_13 => ?_⟩
    · have k := k.1 c_13
      show WP T N _ 78 _ _ _ _
      refine R_ps 2 (pc2 := 81) (L2 := [some (vr (some w)), some (vi (J x1)), some (vi (J x2)), some (vr (some a_9))]) (st2 := [vr (some a_9), vi (J 48)]) rfl ?_
      obtain ⟨t_17, k⟩ := k
      refine R_zgetI (z := 0) rfl t_17 rfl ?_
      refine R_ps 1 (pc2 := 85) (L2 := [some (vr (some w)), some (vi (J x1)), some (vi (J x2)), some (vr (some a_9))]) (st2 := [vi ((J 48) + (J (ai h_6 a_9 0)))]) rfl ?_
      rw [show ((J 48) + (J (ai h_6 a_9 0))) = J (48 + (ai h_6 a_9 0)) from J_add' rfl rfl]
      exact R_iret rfl rfl k
    replace k := k.2 c_13
    refine ⟨fun c_13 => ?_, fun c_13 => ?_⟩
    · have k := k.1 c_13
      show WP T N _ 86 _ _ _ _
      refine R_ps 1 (pc2 := 88) (L2 := [some (vr (some w)), some (vi (J x1)), some (vi (J x2)), some (vr (some a_9))]) (st2 := [vi (J 45)]) rfl ?_
      exact R_iret rfl rfl k
    replace k := k.2 c_13
    refine ⟨fun c_13 => ?_, fun c_13 => ?_⟩
    · have k := k.1 c_13
      show WP T N _ 89 _ _ _ _
      refine R_ps 2 (pc2 := 92) (L2 := [some (vr (some w)), some (vi (J x1)), some (vi (J x2)), some (vr (some a_9))]) (st2 := [vr (some a_9), vi (J 48)]) rfl ?_
      obtain ⟨t_21, k⟩ := k
      refine R_zgetI (z := 1) rfl t_21 rfl ?_
      refine R_ps 1 (pc2 := 96) (L2 := [some (vr (some w)), some (vi (J x1)), some (vi (J x2)), some (vr (some a_9))]) (st2 := [vi ((J 48) + (J (ai h_6 a_9 1)))]) rfl ?_
      rw [show ((J 48) + (J (ai h_6 a_9 1))) = J (48 + (ai h_6 a_9 1)) from J_add' rfl rfl]
      exact R_iret rfl rfl k
    replace k := k.2 c_13
    refine ⟨fun c_13 => ?_, fun c_13 => ?_⟩
    · have k := k.1 c_13
      show WP T N _ 97 _ _ _ _
      refine R_ps 1 (pc2 := 99) (L2 := [some (vr (some w)), some (vi (J x1)), some (vi (J x2)), some (vr (some a_9))]) (st2 := [vi (J 42)]) rfl ?_
      exact R_iret rfl rfl k
    replace k := k.2 c_13
    refine ⟨fun c_13 => ?_, fun c_13 => ?_⟩
    · have k := k.1 c_13
      show WP T N _ 100 _ _ _ _
      refine R_ps 2 (pc2 := 103) (L2 := [some (vr (some w)), some (vi (J x1)), some (vi (J x2)), some (vr (some a_9))]) (st2 := [vr (some a_9), vi (J 48)]) rfl ?_
      obtain ⟨t_25, k⟩ := k
      refine R_zgetI (z := 2) rfl t_25 rfl ?_
      refine R_ps 1 (pc2 := 107) (L2 := [some (vr (some w)), some (vi (J x1)), some (vi (J x2)), some (vr (some a_9))]) (st2 := [vi ((J 48) + (J (ai h_6 a_9 2)))]) rfl ?_
      rw [show ((J 48) + (J (ai h_6 a_9 2))) = J (48 + (ai h_6 a_9 2)) from J_add' rfl rfl]
      exact R_iret rfl rfl k
    replace k := k.2 c_13
    refine ⟨fun c_13 => ?_, fun c_13 => ?_⟩
    · have k := k.1 c_13
      show WP T N _ 108 _ _ _ _
      refine R_ps 1 (pc2 := 110) (L2 := [some (vr (some w)), some (vi (J x1)), some (vi (J x2)), some (vr (some a_9))]) (st2 := [vi (J 59)]) rfl ?_
      exact R_iret rfl rfl k
    replace k := k.2 c_13
    show WP T N _ 111 _ _ _ _
    obtain ⟨t_29, k⟩ := k
    exact R_throw rfl rfl ⟨Nat.le_of_ble_eq_true rfl, t_29⟩ k
/-- DroneCorridors.undo -/
theorem z142 {T N : Nat → Nat} {h : PH} {w : Nat} {K : PR → PH → Prop} (t0 : T w = 11) (k : (∃ a_3, (gr h w 2) = some a_3 ∧ T a_3 = 5 ∧ (((ai h a_3 0) = 0 → ((∀ a, nx h ≤ a → T a = 0) ∧ K (.inr 5) (bump h))) ∧ (¬ ((ai h a_3 0) = 0) → (∃ a_10, (gr h w 2) = some a_10 ∧ T a_10 = 5 ∧ CV T N 45 [vr (some a_10), vr (gr h w 0)] h (fun h_13 => (∃ a_17, (gr h_13 w 2) = some a_17 ∧ T a_17 = 5 ∧ K (.inl (some (vi (J (ai h_13 a_17 0))))) h_13))))))) : CALL T N 142 [vr (some w)] h K := by
  show WP T N 142 0 [some (vr (some w))] [] h _
  refine R_ps 1 (pc2 := 1) (L2 := [some (vr (some w))]) (st2 := [vr (some w)]) rfl ?_
  refine R_getR rfl t0 ?_
  obtain ⟨a_3, e_4, k⟩ := k
  rw [e_4]
  obtain ⟨t_5, k⟩ := k
  refine R_zgetI (z := 0) rfl t_5 rfl ?_
  refine R_zif0 (x := ai h a_3 0) rfl (ai_in _ _ _) (fun c_6 => ?_) (fun c_6 => ?_)
  · have k := k.2 c_6
    refine R_ps 1 (pc2 := 22) (L2 := [some (vr (some w))]) (st2 := [vr (some w)]) rfl ?_
    refine R_getR rfl t0 ?_
    refine R_ps 1 (pc2 := 26) (L2 := [some (vr (some w))]) (st2 := [vr (some w), vr (gr h w 2)]) rfl ?_
    refine R_getR rfl t0 ?_
    obtain ⟨a_10, e_11, k⟩ := k
    rw [e_11]
    obtain ⟨t_12, k⟩ := k
    refine R_cV (as := [vr (some a_10), vr (gr h w 0)]) rfl rfl ⟨Nat.le_of_ble_eq_true rfl, Nat.le_of_ble_eq_true rfl, rfl, (Or.inr ⟨_, rfl, t_12⟩)⟩ rfl rfl k (fun h_13 k => ?_)
    refine R_ps 1 (pc2 := 33) (L2 := [some (vr (some w))]) (st2 := [vr (some w)]) rfl ?_
    refine R_getR rfl t0 ?_
    obtain ⟨a_17, e_18, k⟩ := k
    rw [e_18]
    obtain ⟨t_19, k⟩ := k
    refine R_zgetI (z := 0) rfl t_19 rfl ?_
    exact R_iret rfl rfl k
  · have k := k.1 (Classical.not_not.mp c_6)
    obtain ⟨t_22, k⟩ := k
    exact R_throw rfl rfl ⟨Nat.le_of_ble_eq_true rfl, t_22⟩ k
/-- DroneCorridors.save -/
theorem z143 {T N : Nat → Nat} {h : PH} {w : Nat} {K : Int → PH → Prop} (t0 : T w = 11) (k : (∃ a_4, (gr h w 1) = some a_4 ∧ T a_4 = 10 ∧ CV T N 84 [vr (some a_4), vr (gr h w 0)] h (fun h_7 => (∀ h_10, h_10 = wi h_7 w 7 1 → ∃ a_14, (gr h_10 w 0) = some a_14 ∧ T a_14 = 10 ∧ K (ai h_10 a_14 1) h_10)))) : ZI T N 143 [vr (some w)] h K := by
  show WP T N 143 0 [some (vr (some w))] [] h _
  refine R_ps 1 (pc2 := 1) (L2 := [some (vr (some w))]) (st2 := [vr (some w)]) rfl ?_
  refine R_getR rfl t0 ?_
  refine R_ps 1 (pc2 := 5) (L2 := [some (vr (some w))]) (st2 := [vr (some w), vr (gr h w 1)]) rfl ?_
  refine R_getR rfl t0 ?_
  obtain ⟨a_4, e_5, k⟩ := k
  rw [e_5]
  obtain ⟨t_6, k⟩ := k
  refine R_cV (as := [vr (some a_4), vr (gr h w 0)]) rfl rfl ⟨Nat.le_of_ble_eq_true rfl, Nat.le_of_ble_eq_true rfl, rfl, (Or.inr ⟨_, rfl, t_6⟩)⟩ rfl rfl k (fun h_7 k => ?_)
  refine R_ps 2 (pc2 := 13) (L2 := [some (vr (some w))]) (st2 := [vi (J 1), vr (some w)]) rfl ?_
  refine R_zputZ (x := 1) (z := 7) rfl t0 (Or.inr rfl) rfl ?_
  show WP T N _ _ _ _ (wi h_7 w 7 1) _
  generalize e_11 : wi h_7 w 7 1 = h_10
  replace k := k h_10 e_11.symm
  refine R_ps 1 (pc2 := 17) (L2 := [some (vr (some w))]) (st2 := [vr (some w)]) rfl ?_
  refine R_getR rfl t0 ?_
  obtain ⟨a_14, e_15, k⟩ := k
  rw [e_15]
  obtain ⟨t_16, k⟩ := k
  refine R_zgetI (z := 1) rfl t_16 rfl ?_
  exact R_iret rfl rfl (R_zr (x := ai h_10 a_14 1) (K := K) (ai_in _ _ _) k)
/-- DroneCorridors.restore -/
theorem z144 {T N : Nat → Nat} {h : PH} {w : Nat} {K : PR → PH → Prop} (t0 : T w = 11) (k : ((((ai h w 7) = 0 → ((∀ a, nx h ≤ a → T a = 0) ∧ K (.inr 0) (bump h))) ∧ (¬ ((ai h w 7) = 0) → (∃ a_6, (gr h w 0) = some a_6 ∧ T a_6 = 10 ∧ CV T N 84 [vr (some a_6), vr (gr h w 1)] h (fun h_9 => (∃ a_13, (gr h_9 w 2) = some a_13 ∧ T a_13 = 5 ∧ CV T N 40 [vr (some a_13)] h_9 (fun h_16 => (∃ a_20, (gr h_16 w 0) = some a_20 ∧ T a_20 = 10 ∧ K (.inl (some (vi (J (ai h_16 a_20 1))))) h_16))))))))) : CALL T N 144 [vr (some w)] h K := by
  show WP T N 144 0 [some (vr (some w))] [] h _
  refine R_ps 1 (pc2 := 1) (L2 := [some (vr (some w))]) (st2 := [vr (some w)]) rfl ?_
  refine R_zgetZ (z := 7) rfl t0 rfl ?_
  refine R_zif0 (x := ai h w 7) rfl (ai_in _ _ _) (fun c_2 => ?_) (fun c_2 => ?_)
  · have k := k.2 c_2
    refine R_ps 1 (pc2 := 19) (L2 := [some (vr (some w))]) (st2 := [vr (some w)]) rfl ?_
    refine R_getR rfl t0 ?_
    refine R_ps 1 (pc2 := 23) (L2 := [some (vr (some w))]) (st2 := [vr (some w), vr (gr h w 0)]) rfl ?_
    refine R_getR rfl t0 ?_
    obtain ⟨a_6, e_7, k⟩ := k
    rw [e_7]
    obtain ⟨t_8, k⟩ := k
    refine R_cV (as := [vr (some a_6), vr (gr h w 1)]) rfl rfl ⟨Nat.le_of_ble_eq_true rfl, Nat.le_of_ble_eq_true rfl, rfl, (Or.inr ⟨_, rfl, t_8⟩)⟩ rfl rfl k (fun h_9 k => ?_)
    refine R_ps 1 (pc2 := 30) (L2 := [some (vr (some w))]) (st2 := [vr (some w)]) rfl ?_
    refine R_getR rfl t0 ?_
    obtain ⟨a_13, e_14, k⟩ := k
    rw [e_14]
    obtain ⟨t_15, k⟩ := k
    refine R_cV (as := [vr (some a_13)]) rfl rfl ⟨Nat.le_of_ble_eq_true rfl, Nat.le_of_ble_eq_true rfl, rfl, (Or.inr ⟨_, rfl, t_15⟩)⟩ rfl rfl k (fun h_16 k => ?_)
    refine R_ps 1 (pc2 := 37) (L2 := [some (vr (some w))]) (st2 := [vr (some w)]) rfl ?_
    refine R_getR rfl t0 ?_
    obtain ⟨a_20, e_21, k⟩ := k
    rw [e_21]
    obtain ⟨t_22, k⟩ := k
    refine R_zgetI (z := 1) rfl t_22 rfl ?_
    exact R_iret rfl rfl k
  · have k := k.1 (Classical.not_not.mp c_2)
    obtain ⟨t_25, k⟩ := k
    exact R_throw rfl rfl ⟨Nat.le_of_ble_eq_true rfl, t_25⟩ k
/-- DroneCorridors.holds -/
theorem z145 {T N : Nat → Nat} {h : PH} {x0 : Int} {x1 : Int} {K : Int → PH → Prop} (r0 : In x0) (r1 : In x1) (k : ((((zand (zshr x0 x1) 1) = 0 → (K 0 h)) ∧ (¬ ((zand (zshr x0 x1) 1) = 0) → (K 1 h))))) : ZI T N 145 [vi (J x0), vi (J x1)] h K := by
  show WP T N 145 0 [some (vi (J x0)), some (vi (J x1))] [] h _
  refine R_ps 5 (pc2 := 5) (L2 := [some (vi (J x0)), some (vi (J x1))]) (st2 := [vi (((J x0) >>> ((J x1) &&& 31)) &&& (J 1))]) rfl ?_
  rw [show (((J x0) >>> ((J x1) &&& 31)) &&& (J 1)) = J (zand (zshr x0 x1) 1) from J_and' (J_shr' rfl rfl) rfl]
  refine R_zif0 (x := zand (zshr x0 x1) 1) rfl (zand_in _ _) (fun c_1 => ?_) (fun c_1 => ?_)
  · have k := k.1 c_1
    refine R_ps 1 (pc2 := 13) (L2 := [some (vi (J x0)), some (vi (J x1))]) (st2 := [vi (J 0)]) rfl ?_
    exact R_zzret (x := 0) rfl rfl (Or.inl rfl) (R_zr (x := 0) (K := K) (by decide) k)
  · have k := k.2 c_1
    refine R_ps 2 (pc2 := 13) (L2 := [some (vi (J x0)), some (vi (J x1))]) (st2 := [vi (J 1)]) rfl ?_
    exact R_zzret (x := 1) rfl rfl (Or.inr rfl) (R_zr (x := 1) (K := K) (by decide) k)
/-- DroneCorridors.lowestOf -/
theorem z146 {T N : Nat → Nat} {h : PH} {x0 : Int} {K : Int → PH → Prop} (r0 : In x0) (k : (ZW T N 146 2 [some (vi (J x0)), some (vi (J 0))] [] h K)) : ZI T N 146 [vi (J x0)] h K := by
  show WP T N 146 0 [some (vi (J x0)), none] [] h _
  refine R_ps 2 (pc2 := 2) (L2 := [some (vi (J x0)), some (vi (J 0))]) (st2 := []) rfl ?_
  exact k
theorem z146_2 {T N : Nat → Nat} {h : PH} {x0 : Int} {x1 : Int} {K : Int → PH → Prop} (r0 : In x0) (r1 : In x1) (k : (((x1 < 10 → (ZI T N 145 [vi (J x0), vi (J x1)] h (fun x_5 h_4 => (((x_5 = 0 → (ZW T N 146 2 [some (vi (J x0)), some (vi (J (x1 + 1)))] [] h_4 K)) ∧ (¬ (x_5 = 0) → (K x1 h_4))))))) ∧ (¬ (x1 < 10) → (K (-1) h))))) : ZW T N 146 2 [some (vi (J x0)), some (vi (J x1))] [] h K := by
  show WP T N 146 2 [some (vi (J x0)), some (vi (J x1))] [] h _
  refine R_ps 2 (pc2 := 5) (L2 := [some (vi (J x0)), some (vi (J x1))]) (st2 := [vi (J 10), vi (J x1)]) rfl ?_
  refine R_zif (x := x1) (z := 10) rfl r1 (by decide) (fun c_1 => ?_) (fun c_1 => ?_)
  · have k := k.2 c_1
    refine R_ps 1 (pc2 := 25) (L2 := [some (vi (J x0)), some (vi (J x1))]) (st2 := [vi (J (-1))]) rfl ?_
    exact R_iret rfl rfl (R_zr (x := (-1)) (K := K) (by decide) k)
  · have k := k.1 (Classical.not_not.mp c_1)
    refine R_ps 2 (pc2 := 10) (L2 := [some (vi (J x0)), some (vi (J x1))]) (st2 := [vi (J x1), vi (J x0)]) rfl ?_
    refine R_zcI (as := [vi (J x0), vi (J x1)]) rfl rfl ⟨Nat.le_of_ble_eq_true rfl, Nat.le_of_ble_eq_true rfl, rfl, (Or.inl rfl)⟩ rfl rfl k (fun x_5 h_4 r_6 k => ?_)
    refine R_zif0 (x := x_5) rfl r_6 (fun c_7 => ?_) (fun c_7 => ?_)
    · have k := k.1 c_7
      refine R_ps 2 (pc2 := 2) (L2 := [some (vi (J x0)), some (vi ((J x1) + J 1))]) (st2 := []) rfl ?_
      rw [show ((J x1) + J 1) = J (x1 + 1) from J_add' rfl rfl]
      exact k
    · have k := k.2 c_7
      refine R_ps 1 (pc2 := 17) (L2 := [some (vi (J x0)), some (vi (J x1))]) (st2 := [vi (J x1)]) rfl ?_
      exact R_iret rfl rfl (R_zr (x := x1) (K := K) r1 k)
/-- DroneCorridors.isWindFor -/
theorem z147 {T N : Nat → Nat} {h : PH} {x0 : Int} {x1 : Int} {K : Int → PH → Prop} (r0 : In x0) (r1 : In x1) (k : (In (-x0) ∧ ((x1 < (-x0) → (K 0 h)) ∧ (¬ (x1 < (-x0)) → (((x0 < x1 → (K 0 h)) ∧ (¬ (x0 < x1) → (K 1 h)))))))) : ZI T N 147 [vi (J x0), vi (J x1)] h K := by
  show WP T N 147 0 [some (vi (J x0)), some (vi (J x1))] [] h _
  refine R_ps 3 (pc2 := 3) (L2 := [some (vi (J x0)), some (vi (J x1))]) (st2 := [vi (-(J x0)), vi (J x1)]) rfl ?_
  rw [show (-(J x0)) = J (-x0) from J_neg' rfl]
  obtain ⟨t_2, k⟩ := k
  refine R_zif (x := x1) (z := -x0) rfl r1 t_2 (fun c_1 => ?_) (fun c_1 => ?_)
  · have k := k.1 c_1
    refine R_ps 1 (pc2 := 16) (L2 := [some (vi (J x0)), some (vi (J x1))]) (st2 := [vi (J 0)]) rfl ?_
    exact R_zzret (x := 0) rfl rfl (Or.inl rfl) (R_zr (x := 0) (K := K) (by decide) k)
  · have k := k.2 c_1
    refine R_ps 2 (pc2 := 8) (L2 := [some (vi (J x0)), some (vi (J x1))]) (st2 := [vi (J x0), vi (J x1)]) rfl ?_
    refine R_zif (x := x1) (z := x0) rfl r1 r0 (fun c_4 => ?_) (fun c_4 => ?_)
    · have k := k.1 c_4
      refine R_ps 1 (pc2 := 16) (L2 := [some (vi (J x0)), some (vi (J x1))]) (st2 := [vi (J 0)]) rfl ?_
      exact R_zzret (x := 0) rfl rfl (Or.inl rfl) (R_zr (x := 0) (K := K) (by decide) k)
    · have k := k.2 c_4
      refine R_ps 2 (pc2 := 16) (L2 := [some (vi (J x0)), some (vi (J x1))]) (st2 := [vi (J 1)]) rfl ?_
      exact R_zzret (x := 1) rfl rfl (Or.inr rfl) (R_zr (x := 1) (K := K) (by decide) k)
/-- DroneCorridors.pairsBetween -/
theorem z148 {T N : Nat → Nat} {h : PH} {a0 : Nat} {a1 : Nat} {x2 : Int} {K : Int → PH → Prop} (r2 : In x2) (k : (ZW T N 148 15 [some (vr (some a0)), some (vr (some a1)), some (vi (J x2)), some (vi (J 0)), some (vi (J 0)), none] [] h K)) : ZI T N 148 [vr (some a0), vr (some a1), vi (J x2)] h K := by
  show WP T N 148 0 [some (vr (some a0)), some (vr (some a1)), some (vi (J x2)), none, none, none] [] h _
  refine R_ps 1 (pc2 := 1) (L2 := [some (vr (some a0)), some (vr (some a1)), some (vi (J x2)), none, none, none]) (st2 := [vr (some a0)]) rfl ?_
  refine R_null rfl (fun c_1 => nomatch c_1) (fun _ _ => ?_)
  refine R_ps 1 (pc2 := 5) (L2 := [some (vr (some a0)), some (vr (some a1)), some (vi (J x2)), none, none, none]) (st2 := [vr (some a1)]) rfl ?_
  refine R_nonnull rfl (fun c_2 => nomatch c_2) (fun _ _ => ?_)
  refine R_ps 4 (pc2 := 15) (L2 := [some (vr (some a0)), some (vr (some a1)), some (vi (J x2)), some (vi (J 0)), some (vi (J 0)), none]) (st2 := []) rfl ?_
  exact k
theorem z148_15 {T N : Nat → Nat} {h : PH} {a0 : Nat} {a1 : Nat} {x2 : Int} {x3 : Int} {x4 : Int} {K : Int → PH → Prop} (t0 : T a0 = 3) (t1 : T a1 = 3) (r2 : In x2) (r3 : In x3) (r4 : In x4) (k : (((x4 < (ai h a0 8) → (CR T N 17 [vr (some a0), vi (J x4)] h (fun x_6 h_5 => (((x_6 = none → (ZW T N 148 15 [some (vr (some a0)), some (vr (some a1)), some (vi (J x2)), some (vi (J x3)), some (vi (J (x4 + 1))), none] [] h_5 K)) ∧ (∀ a_8, x_6 = some a_8 → (ZI T N 26 [vr (some a1), vr (some a_8), vi (J x2)] h_5 (fun x_12 h_11 => (ZW T N 148 15 [some (vr (some a0)), some (vr (some a1)), some (vi (J x2)), some (vi (J (x3 + x_12))), some (vi (J (x4 + 1))), none] [] h_11 K))))))))) ∧ (¬ (x4 < (ai h a0 8)) → (K x3 h))))) : ZW T N 148 15 [some (vr (some a0)), some (vr (some a1)), some (vi (J x2)), some (vi (J x3)), some (vi (J x4)), none] [] h K := by
  show WP T N 148 15 [some (vr (some a0)), some (vr (some a1)), some (vi (J x2)), some (vi (J x3)), some (vi (J x4)), none] [] h _
  refine R_ps 2 (pc2 := 18) (L2 := [some (vr (some a0)), some (vr (some a1)), some (vi (J x2)), some (vi (J x3)), some (vi (J x4)), none]) (st2 := [vr (some a0), vi (J x4)]) rfl ?_
  refine R_zgetI (z := 8) rfl t0 rfl ?_
  refine R_zif (x := x4) (z := ai h a0 8) rfl r4 (ai_in _ _ _) (fun c_2 => ?_) (fun c_2 => ?_)
  · have k := k.2 c_2
    refine R_ps 1 (pc2 := 54) (L2 := [some (vr (some a0)), some (vr (some a1)), some (vi (J x2)), some (vi (J x3)), some (vi (J x4)), none]) (st2 := [vi (J x3)]) rfl ?_
    exact R_iret rfl rfl (R_zr (x := x3) (K := K) r3 k)
  · have k := k.1 (Classical.not_not.mp c_2)
    refine R_ps 2 (pc2 := 27) (L2 := [some (vr (some a0)), some (vr (some a1)), some (vi (J x2)), some (vi (J x3)), some (vi (J x4)), none]) (st2 := [vi (J x4), vr (some a0)]) rfl ?_
    refine R_cR (as := [vr (some a0), vi (J x4)]) rfl rfl ⟨Nat.le_of_ble_eq_true rfl, Nat.le_of_ble_eq_true rfl, rfl, (Or.inr ⟨_, rfl, t0⟩)⟩ rfl rfl k (fun x_6 h_5 k => ?_)
    refine R_ps 2 (pc2 := 34) (L2 := [some (vr (some a0)), some (vr (some a1)), some (vi (J x2)), some (vi (J x3)), some (vi (J x4)), some (vr x_6)]) (st2 := [vr x_6]) rfl ?_
    rcases null_or (x_6) with e_9 | ⟨a_8, e_9⟩
    · have k := k.1 e_9
      rw [e_9]
      refine R_null rfl (fun _ => ?_) (fun _ c_7 => nomatch c_7)
      refine R_ps 2 (pc2 := 15) (L2 := [some (vr (some a0)), some (vr (some a1)), some (vi (J x2)), some (vi (J x3)), some (vi ((J x4) + J 1)), some (vr none)]) (st2 := []) rfl ?_
      rw [show ((J x4) + J 1) = J (x4 + 1) from J_add' rfl rfl]
      exact R_drop k (LE_of (L := [some (vr (some a0)), some (vr (some a1)), some (vi (J x2)), some (vi (J x3)), some (vi (J (x4 + 1))), none]) (L2 := [some (vr (some a0)), some (vr (some a1)), some (vi (J x2)), some (vi (J x3)), some (vi (J (x4 + 1))), some (vr none)]) ⟨rfl, rfl, rfl, rfl, rfl, trivial⟩)
    · have k := k.2 a_8 e_9
      rw [e_9]
      refine R_null rfl (fun c_7 => nomatch c_7) (fun _ _ => ?_)
      refine R_ps 4 (pc2 := 42) (L2 := [some (vr (some a0)), some (vr (some a1)), some (vi (J x2)), some (vi (J x3)), some (vi (J x4)), some (vr (some a_8))]) (st2 := [vi (J x2), vr (some a_8), vr (some a1), vi (J x3)]) rfl ?_
      refine R_zcI (as := [vr (some a1), vr (some a_8), vi (J x2)]) rfl rfl ⟨Nat.le_of_ble_eq_true rfl, Nat.le_of_ble_eq_true rfl, rfl, (Or.inr ⟨_, rfl, t1⟩)⟩ rfl rfl k (fun x_12 h_11 r_13 k => ?_)
      refine R_ps 4 (pc2 := 15) (L2 := [some (vr (some a0)), some (vr (some a1)), some (vi (J x2)), some (vi ((J x3) + (J x_12))), some (vi ((J x4) + J 1)), some (vr (some a_8))]) (st2 := []) rfl ?_
      rw [show ((J x3) + (J x_12)) = J (x3 + x_12) from J_add' rfl rfl]
      rw [show ((J x4) + J 1) = J (x4 + 1) from J_add' rfl rfl]
      exact R_drop k (LE_of (L := [some (vr (some a0)), some (vr (some a1)), some (vi (J x2)), some (vi (J (x3 + x_12))), some (vi (J (x4 + 1))), none]) (L2 := [some (vr (some a0)), some (vr (some a1)), some (vi (J x2)), some (vi (J (x3 + x_12))), some (vi (J (x4 + 1))), some (vr (some a_8))]) ⟨rfl, rfl, rfl, rfl, rfl, trivial⟩)
/-- DroneCorridors.findOrRefuse -/
theorem z149 {T N : Nat → Nat} {h : PH} {w : Nat} {x1 : Int} {x2 : Int} {K : PR → PH → Prop} (t0 : T w = 11) (r1 : In x1) (r2 : In x2) (k : (∃ a_3, (gr h w 0) = some a_3 ∧ T a_3 = 10 ∧ CR T N 91 [vr (some a_3), vi (J x1)] h (fun x_7 h_6 => (((x_7 = none → ((∀ a, nx h_6 ≤ a → T a = 0) ∧ K (.inr 2) (bump h_6))) ∧ (∀ a_9, x_7 = some a_9 → (∃ a_15, (gr h_6 w 0) = some a_15 ∧ T a_15 = 10 ∧ ZI T N 88 [vr (some a_15), vi (J x2)] h_6 (fun x_19 h_18 => (((x_19 = 0 → ((∀ a, nx h_18 ≤ a → T a = 0) ∧ K (.inr 2) (bump h_18))) ∧ (¬ (x_19 = 0) → (∃ a_25, (gr h_18 w 3) = some a_25 ∧ T a_25 = 8 ∧ ZI T N 59 [vr (some a_25), vr (gr h_18 w 0), vi (J x1), vi (J (zshl 1 x2)), vi (J 2)] h_18 (fun x_29 h_28 => (((x_29 = 0 → ((∀ a, nx h_28 ≤ a → T a = 0) ∧ K (.inr 5) (bump h_28))) ∧ (¬ (x_29 = 0) → (K (.inl none) h_28))))))))))))))))) : CALL T N 149 [vr (some w), vi (J x1), vi (J x2)] h K := by
  show WP T N 149 0 [some (vr (some w)), some (vi (J x1)), some (vi (J x2))] [] h _
  refine R_ps 1 (pc2 := 1) (L2 := [some (vr (some w)), some (vi (J x1)), some (vi (J x2))]) (st2 := [vr (some w)]) rfl ?_
  refine R_getR rfl t0 ?_
  refine R_ps 1 (pc2 := 5) (L2 := [some (vr (some w)), some (vi (J x1)), some (vi (J x2))]) (st2 := [vi (J x1), vr (gr h w 0)]) rfl ?_
  obtain ⟨a_3, e_4, k⟩ := k
  rw [e_4]
  obtain ⟨t_5, k⟩ := k
  refine R_cR (as := [vr (some a_3), vi (J x1)]) rfl rfl ⟨Nat.le_of_ble_eq_true rfl, Nat.le_of_ble_eq_true rfl, rfl, (Or.inr ⟨_, rfl, t_5⟩)⟩ rfl rfl k (fun x_7 h_6 k => ?_)
  rcases null_or (x_7) with e_10 | ⟨a_9, e_10⟩
  · have k := k.1 e_10
    rw [e_10]
    refine R_null rfl (fun _ => ?_) (fun _ c_8 => nomatch c_8)
    obtain ⟨t_12, k⟩ := k
    exact R_throw rfl rfl ⟨Nat.le_of_ble_eq_true rfl, t_12⟩ k
  · have k := k.2 a_9 e_10
    rw [e_10]
    refine R_null rfl (fun c_8 => nomatch c_8) (fun _ _ => ?_)
    refine R_ps 1 (pc2 := 12) (L2 := [some (vr (some w)), some (vi (J x1)), some (vi (J x2))]) (st2 := [vr (some w)]) rfl ?_
    refine R_getR rfl t0 ?_
    refine R_ps 1 (pc2 := 16) (L2 := [some (vr (some w)), some (vi (J x1)), some (vi (J x2))]) (st2 := [vi (J x2), vr (gr h_6 w 0)]) rfl ?_
    obtain ⟨a_15, e_16, k⟩ := k
    rw [e_16]
    obtain ⟨t_17, k⟩ := k
    refine R_zcI (as := [vr (some a_15), vi (J x2)]) rfl rfl ⟨Nat.le_of_ble_eq_true rfl, Nat.le_of_ble_eq_true rfl, rfl, (Or.inr ⟨_, rfl, t_17⟩)⟩ rfl rfl k (fun x_19 h_18 r_20 k => ?_)
    refine R_zif0 (x := x_19) rfl r_20 (fun c_21 => ?_) (fun c_21 => ?_)
    · have k := k.2 c_21
      refine R_ps 1 (pc2 := 33) (L2 := [some (vr (some w)), some (vi (J x1)), some (vi (J x2))]) (st2 := [vr (some w)]) rfl ?_
      refine R_getR rfl t0 ?_
      refine R_ps 1 (pc2 := 37) (L2 := [some (vr (some w)), some (vi (J x1)), some (vi (J x2))]) (st2 := [vr (some w), vr (gr h_18 w 3)]) rfl ?_
      refine R_getR rfl t0 ?_
      refine R_ps 5 (pc2 := 45) (L2 := [some (vr (some w)), some (vi (J x1)), some (vi (J x2))]) (st2 := [vi (J 2), vi ((J 1) <<< ((J x2) &&& 31)), vi (J x1), vr (gr h_18 w 0), vr (gr h_18 w 3)]) rfl ?_
      rw [show ((J 1) <<< ((J x2) &&& 31)) = J (zshl 1 x2) from J_shl' rfl rfl]
      obtain ⟨a_25, e_26, k⟩ := k
      rw [e_26]
      obtain ⟨t_27, k⟩ := k
      refine R_zcI (as := [vr (some a_25), vr (gr h_18 w 0), vi (J x1), vi (J (zshl 1 x2)), vi (J 2)]) rfl rfl ⟨Nat.le_of_ble_eq_true rfl, Nat.le_of_ble_eq_true rfl, rfl, (Or.inr ⟨_, rfl, t_27⟩)⟩ rfl rfl k (fun x_29 h_28 r_30 k => ?_)
      refine R_zif0 (x := x_29) rfl r_30 (fun c_31 => ?_) (fun c_31 => ?_)
      · have k := k.2 c_31
        exact R_ret rfl rfl k
      · have k := k.1 (Classical.not_not.mp c_31)
        obtain ⟨t_34, k⟩ := k
        exact R_throw rfl rfl ⟨Nat.le_of_ble_eq_true rfl, t_34⟩ k
    · have k := k.1 (Classical.not_not.mp c_21)
      obtain ⟨t_36, k⟩ := k
      exact R_throw rfl rfl ⟨Nat.le_of_ble_eq_true rfl, t_36⟩ k
/-- DroneCorridors.whyNotPlanned -/
theorem z150 {T N : Nat → Nat} {h : PH} {w : Nat} {x1 : Int} {x2 : Int} {K : Int → PH → Prop} (t0 : T w = 11) (r1 : In x1) (r2 : In x2) (k : (∃ a_3, (gr h w 0) = some a_3 ∧ T a_3 = 10 ∧ CR T N 91 [vr (some a_3), vi (J x1)] h (fun x_7 h_6 => (((x_7 = none → (K 1 h_6)) ∧ (∀ a_9, x_7 = some a_9 → (T a_9 = 3 ∧ (((ai h_6 a_9 0) = 3 → (K 1 h_6)) ∧ (¬ ((ai h_6 a_9 0) = 3) → (∃ a_19, (gr h_6 w 0) = some a_19 ∧ T a_19 = 10 ∧ ∃ a_23, (gr h_6 w 4) = some a_23 ∧ T a_23 = 9 ∧ CV T N 79 [vr (some a_23), vr (some a_19), vi (J (ai h_6 a_19 2)), vi (J 0)] h_6 (fun h_26 => (∃ a_30, (gr h_26 w 4) = some a_30 ∧ T a_30 = 9 ∧ ZI T N 78 [vr (some a_30), vi (J x2)] h_26 (fun x_34 h_33 => (((x_34 < 1000000 → (∃ a_40, (gr h_33 w 3) = some a_40 ∧ T a_40 = 8 ∧ ZI T N 59 [vr (some a_40), vr (gr h_33 w 0), vi (J x1), vi (J (zshl 1 x2)), vi (J 0)] h_33 (fun x_44 h_43 => (((x_44 = 0 → (K 3 h_43)) ∧ (¬ (x_44 = 0) → (∃ a_50, (gr h_43 w 3) = some a_50 ∧ T a_50 = 8 ∧ ZI T N 59 [vr (some a_50), vr (gr h_43 w 0), vi (J x1), vi (J (zshl 1 x2)), vi (J 1)] h_43 (fun x_54 h_53 => (((x_54 = 0 → (K 4 h_53)) ∧ (¬ (x_54 = 0) → (K 5 h_53)))))))))))) ∧ (¬ (x_34 < 1000000) → (K 2 h_33))))))))))))))))) : ZI T N 150 [vr (some w), vi (J x1), vi (J x2)] h K := by
  show WP T N 150 0 [some (vr (some w)), some (vi (J x1)), some (vi (J x2)), none] [] h _
  refine R_ps 1 (pc2 := 1) (L2 := [some (vr (some w)), some (vi (J x1)), some (vi (J x2)), none]) (st2 := [vr (some w)]) rfl ?_
  refine R_getR rfl t0 ?_
  refine R_ps 1 (pc2 := 5) (L2 := [some (vr (some w)), some (vi (J x1)), some (vi (J x2)), none]) (st2 := [vi (J x1), vr (gr h w 0)]) rfl ?_
  obtain ⟨a_3, e_4, k⟩ := k
  rw [e_4]
  obtain ⟨t_5, k⟩ := k
  refine R_cR (as := [vr (some a_3), vi (J x1)]) rfl rfl ⟨Nat.le_of_ble_eq_true rfl, Nat.le_of_ble_eq_true rfl, rfl, (Or.inr ⟨_, rfl, t_5⟩)⟩ rfl rfl k (fun x_7 h_6 k => ?_)
  refine R_ps 2 (pc2 := 10) (L2 := [some (vr (some w)), some (vi (J x1)), some (vi (J x2)), some (vr x_7)]) (st2 := [vr x_7]) rfl ?_
  rcases null_or (x_7) with e_10 | ⟨a_9, e_10⟩
  · have k := k.1 e_10
    rw [e_10]
    refine R_null rfl (fun _ => ?_) (fun _ c_8 => nomatch c_8)
    refine R_ps 1 (pc2 := 22) (L2 := [some (vr (some w)), some (vi (J x1)), some (vi (J x2)), some (vr none)]) (st2 := [vi (J 1)]) rfl ?_
    exact R_iret rfl rfl (R_zr (x := 1) (K := K) (by decide) k)
  · have k := k.2 a_9 e_10
    rw [e_10]
    refine R_null rfl (fun c_8 => nomatch c_8) (fun _ _ => ?_)
    refine R_ps 1 (pc2 := 14) (L2 := [some (vr (some w)), some (vi (J x1)), some (vi (J x2)), some (vr (some a_9))]) (st2 := [vr (some a_9)]) rfl ?_
    obtain ⟨t_13, k⟩ := k
    refine R_zgetI (z := 0) rfl t_13 rfl ?_
    refine R_ps 1 (pc2 := 18) (L2 := [some (vr (some w)), some (vi (J x1)), some (vi (J x2)), some (vr (some a_9))]) (st2 := [vi (J 3), vi (J (ai h_6 a_9 0))]) rfl ?_
    refine R_zif (x := ai h_6 a_9 0) (z := 3) rfl (ai_in _ _ _) (by decide) (fun c_14 => ?_) (fun c_14 => ?_)
    · have k := k.2 c_14
      refine R_ps 1 (pc2 := 24) (L2 := [some (vr (some w)), some (vi (J x1)), some (vi (J x2)), some (vr (some a_9))]) (st2 := [vr (some w)]) rfl ?_
      refine R_getR rfl t0 ?_
      refine R_ps 1 (pc2 := 28) (L2 := [some (vr (some w)), some (vi (J x1)), some (vi (J x2)), some (vr (some a_9))]) (st2 := [vr (some w), vr (gr h_6 w 4)]) rfl ?_
      refine R_getR rfl t0 ?_
      refine R_ps 1 (pc2 := 32) (L2 := [some (vr (some w)), some (vi (J x1)), some (vi (J x2)), some (vr (some a_9))]) (st2 := [vr (some w), vr (gr h_6 w 0), vr (gr h_6 w 4)]) rfl ?_
      refine R_getR rfl t0 ?_
      obtain ⟨a_19, e_20, k⟩ := k
      rw [e_20]
      obtain ⟨t_21, k⟩ := k
      refine R_zgetI (z := 2) rfl t_21 rfl ?_
      refine R_ps 1 (pc2 := 39) (L2 := [some (vr (some w)), some (vi (J x1)), some (vi (J x2)), some (vr (some a_9))]) (st2 := [vi (J 0), vi (J (ai h_6 a_19 2)), vr (some a_19), vr (gr h_6 w 4)]) rfl ?_
      obtain ⟨a_23, e_24, k⟩ := k
      rw [e_24]
      obtain ⟨t_25, k⟩ := k
      refine R_cV (as := [vr (some a_23), vr (some a_19), vi (J (ai h_6 a_19 2)), vi (J 0)]) rfl rfl ⟨Nat.le_of_ble_eq_true rfl, Nat.le_of_ble_eq_true rfl, rfl, (Or.inr ⟨_, rfl, t_25⟩)⟩ rfl rfl k (fun h_26 k => ?_)
      refine R_ps 1 (pc2 := 43) (L2 := [some (vr (some w)), some (vi (J x1)), some (vi (J x2)), some (vr (some a_9))]) (st2 := [vr (some w)]) rfl ?_
      refine R_getR rfl t0 ?_
      refine R_ps 1 (pc2 := 47) (L2 := [some (vr (some w)), some (vi (J x1)), some (vi (J x2)), some (vr (some a_9))]) (st2 := [vi (J x2), vr (gr h_26 w 4)]) rfl ?_
      obtain ⟨a_30, e_31, k⟩ := k
      rw [e_31]
      obtain ⟨t_32, k⟩ := k
      refine R_zcI (as := [vr (some a_30), vi (J x2)]) rfl rfl ⟨Nat.le_of_ble_eq_true rfl, Nat.le_of_ble_eq_true rfl, rfl, (Or.inr ⟨_, rfl, t_32⟩)⟩ rfl rfl k (fun x_34 h_33 r_35 k => ?_)
      refine R_ps 1 (pc2 := 52) (L2 := [some (vr (some w)), some (vi (J x1)), some (vi (J x2)), some (vr (some a_9))]) (st2 := [vi (J 1000000), vi (J x_34)]) rfl ?_
      refine R_zif (x := x_34) (z := 1000000) rfl r_35 (by decide) (fun c_36 => ?_) (fun c_36 => ?_)
      · have k := k.1 c_36
        refine R_ps 1 (pc2 := 58) (L2 := [some (vr (some w)), some (vi (J x1)), some (vi (J x2)), some (vr (some a_9))]) (st2 := [vr (some w)]) rfl ?_
        refine R_getR rfl t0 ?_
        refine R_ps 1 (pc2 := 62) (L2 := [some (vr (some w)), some (vi (J x1)), some (vi (J x2)), some (vr (some a_9))]) (st2 := [vr (some w), vr (gr h_33 w 3)]) rfl ?_
        refine R_getR rfl t0 ?_
        refine R_ps 5 (pc2 := 70) (L2 := [some (vr (some w)), some (vi (J x1)), some (vi (J x2)), some (vr (some a_9))]) (st2 := [vi (J 0), vi ((J 1) <<< ((J x2) &&& 31)), vi (J x1), vr (gr h_33 w 0), vr (gr h_33 w 3)]) rfl ?_
        rw [show ((J 1) <<< ((J x2) &&& 31)) = J (zshl 1 x2) from J_shl' rfl rfl]
        obtain ⟨a_40, e_41, k⟩ := k
        rw [e_41]
        obtain ⟨t_42, k⟩ := k
        refine R_zcI (as := [vr (some a_40), vr (gr h_33 w 0), vi (J x1), vi (J (zshl 1 x2)), vi (J 0)]) rfl rfl ⟨Nat.le_of_ble_eq_true rfl, Nat.le_of_ble_eq_true rfl, rfl, (Or.inr ⟨_, rfl, t_42⟩)⟩ rfl rfl k (fun x_44 h_43 r_45 k => ?_)
        refine R_zif0 (x := x_44) rfl r_45 (fun c_46 => ?_) (fun c_46 => ?_)
        · have k := k.2 c_46
          refine R_ps 1 (pc2 := 79) (L2 := [some (vr (some w)), some (vi (J x1)), some (vi (J x2)), some (vr (some a_9))]) (st2 := [vr (some w)]) rfl ?_
          refine R_getR rfl t0 ?_
          refine R_ps 1 (pc2 := 83) (L2 := [some (vr (some w)), some (vi (J x1)), some (vi (J x2)), some (vr (some a_9))]) (st2 := [vr (some w), vr (gr h_43 w 3)]) rfl ?_
          refine R_getR rfl t0 ?_
          refine R_ps 5 (pc2 := 91) (L2 := [some (vr (some w)), some (vi (J x1)), some (vi (J x2)), some (vr (some a_9))]) (st2 := [vi (J 1), vi ((J 1) <<< ((J x2) &&& 31)), vi (J x1), vr (gr h_43 w 0), vr (gr h_43 w 3)]) rfl ?_
          rw [show ((J 1) <<< ((J x2) &&& 31)) = J (zshl 1 x2) from J_shl' rfl rfl]
          obtain ⟨a_50, e_51, k⟩ := k
          rw [e_51]
          obtain ⟨t_52, k⟩ := k
          refine R_zcI (as := [vr (some a_50), vr (gr h_43 w 0), vi (J x1), vi (J (zshl 1 x2)), vi (J 1)]) rfl rfl ⟨Nat.le_of_ble_eq_true rfl, Nat.le_of_ble_eq_true rfl, rfl, (Or.inr ⟨_, rfl, t_52⟩)⟩ rfl rfl k (fun x_54 h_53 r_55 k => ?_)
          refine R_zif0 (x := x_54) rfl r_55 (fun c_56 => ?_) (fun c_56 => ?_)
          · have k := k.1 c_56
            refine R_ps 1 (pc2 := 102) (L2 := [some (vr (some w)), some (vi (J x1)), some (vi (J x2)), some (vr (some a_9))]) (st2 := [vi (J 4)]) rfl ?_
            exact R_iret rfl rfl (R_zr (x := 4) (K := K) (by decide) k)
          · have k := k.2 c_56
            refine R_ps 2 (pc2 := 102) (L2 := [some (vr (some w)), some (vi (J x1)), some (vi (J x2)), some (vr (some a_9))]) (st2 := [vi (J 5)]) rfl ?_
            exact R_iret rfl rfl (R_zr (x := 5) (K := K) (by decide) k)
        · have k := k.1 (Classical.not_not.mp c_46)
          refine R_ps 1 (pc2 := 77) (L2 := [some (vr (some w)), some (vi (J x1)), some (vi (J x2)), some (vr (some a_9))]) (st2 := [vi (J 3)]) rfl ?_
          exact R_iret rfl rfl (R_zr (x := 3) (K := K) (by decide) k)
      · have k := k.2 c_36
        refine R_ps 1 (pc2 := 56) (L2 := [some (vr (some w)), some (vi (J x1)), some (vi (J x2)), some (vr (some a_9))]) (st2 := [vi (J 2)]) rfl ?_
        exact R_iret rfl rfl (R_zr (x := 2) (K := K) (by decide) k)
    · have k := k.1 (Classical.not_not.mp c_14)
      refine R_ps 1 (pc2 := 22) (L2 := [some (vr (some w)), some (vi (J x1)), some (vi (J x2)), some (vr (some a_9))]) (st2 := [vi (J 1)]) rfl ?_
      exact R_iret rfl rfl (R_zr (x := 1) (K := K) (by decide) k)
/-- DroneCorridors.divert -/
theorem z151 {T N : Nat → Nat} {h : PH} {w : Nat} {x1 : Int} {K : Int → PH → Prop} (t0 : T w = 11) (r1 : In x1) (k : (∃ a_3, (gr h w 0) = some a_3 ∧ T a_3 = 10 ∧ CR T N 91 [vr (some a_3), vi (J x1)] h (fun x_7 h_6 => (((x_7 = none → (K 0 h_6)) ∧ (∀ a_9, x_7 = some a_9 → (T a_9 = 3 ∧ ∃ a_16, (gr h_6 w 0) = some a_16 ∧ T a_16 = 10 ∧ ZI T N 88 [vr (some a_16), vi (J (ai h_6 a_9 4))] h_6 (fun x_20 h_19 => (((x_20 = 0 → (∃ a_28, (gr h_19 w 0) = some a_28 ∧ T a_28 = 10 ∧ ∃ a_32, (gr h_19 w 3) = some a_32 ∧ T a_32 = 8 ∧ ZI T N 59 [vr (some a_32), vr (some a_28), vi (J x1), vi (J (ai h_19 a_28 2)), vi (J 2)] h_19 (fun x_36 h_35 => (((x_36 = 0 → (ZI T N 22 [vr (some a_9)] h_35 (fun x_41 h_40 => (∀ h_44, h_44 = wi h_40 a_9 4 (-1) → K 0 h_44)))) ∧ (¬ (x_36 = 0) → (∃ a_50, (gr h_35 w 3) = some a_50 ∧ T a_50 = 8 ∧ CV T N 60 [vr (some a_50), vr (gr h_35 w 0), vr (some a_9)] h_35 (fun h_53 => (K 0 h_53))))))))) ∧ (¬ (x_20 = 0) → (∃ a_60, (gr h_19 w 3) = some a_60 ∧ T a_60 = 8 ∧ ZI T N 59 [vr (some a_60), vr (gr h_19 w 0), vi (J x1), vi (J (zshl 1 (ai h_19 a_9 4))), vi (J 2)] h_19 (fun x_64 h_63 => (((x_64 = 0 → (∃ a_72, (gr h_63 w 0) = some a_72 ∧ T a_72 = 10 ∧ ∃ a_76, (gr h_63 w 3) = some a_76 ∧ T a_76 = 8 ∧ ZI T N 59 [vr (some a_76), vr (some a_72), vi (J x1), vi (J (ai h_63 a_72 2)), vi (J 2)] h_63 (fun x_80 h_79 => (((x_80 = 0 → (ZI T N 22 [vr (some a_9)] h_79 (fun x_85 h_84 => (∀ h_88, h_88 = wi h_84 a_9 4 (-1) → K 0 h_88)))) ∧ (¬ (x_80 = 0) → (∃ a_94, (gr h_79 w 3) = some a_94 ∧ T a_94 = 8 ∧ CV T N 60 [vr (some a_94), vr (gr h_79 w 0), vr (some a_9)] h_79 (fun h_97 => (K 0 h_97))))))))) ∧ (¬ (x_64 = 0) → (∃ a_104, (gr h_63 w 3) = some a_104 ∧ T a_104 = 8 ∧ CV T N 60 [vr (some a_104), vr (gr h_63 w 0), vr (some a_9)] h_63 (fun h_107 => (K 1 h_107))))))))))))))))))) : ZI T N 151 [vr (some w), vi (J x1)] h K := by
  show WP T N 151 0 [some (vr (some w)), some (vi (J x1)), none, none] [] h _
  refine R_ps 1 (pc2 := 1) (L2 := [some (vr (some w)), some (vi (J x1)), none, none]) (st2 := [vr (some w)]) rfl ?_
  refine R_getR rfl t0 ?_
  refine R_ps 1 (pc2 := 5) (L2 := [some (vr (some w)), some (vi (J x1)), none, none]) (st2 := [vi (J x1), vr (gr h w 0)]) rfl ?_
  obtain ⟨a_3, e_4, k⟩ := k
  rw [e_4]
  obtain ⟨t_5, k⟩ := k
  refine R_cR (as := [vr (some a_3), vi (J x1)]) rfl rfl ⟨Nat.le_of_ble_eq_true rfl, Nat.le_of_ble_eq_true rfl, rfl, (Or.inr ⟨_, rfl, t_5⟩)⟩ rfl rfl k (fun x_7 h_6 k => ?_)
  refine R_ps 2 (pc2 := 10) (L2 := [some (vr (some w)), some (vi (J x1)), some (vr x_7), none]) (st2 := [vr x_7]) rfl ?_
  rcases null_or (x_7) with e_10 | ⟨a_9, e_10⟩
  · have k := k.1 e_10
    rw [e_10]
    refine R_nonnull rfl (fun _ => ?_) (fun _ c_8 => nomatch c_8)
    refine R_ps 1 (pc2 := 14) (L2 := [some (vr (some w)), some (vi (J x1)), some (vr none), none]) (st2 := [vi (J 0)]) rfl ?_
    exact R_zzret (x := 0) rfl rfl (Or.inl rfl) (R_zr (x := 0) (K := K) (by decide) k)
  · have k := k.2 a_9 e_10
    rw [e_10]
    refine R_nonnull rfl (fun c_8 => nomatch c_8) (fun _ _ => ?_)
    refine R_ps 1 (pc2 := 16) (L2 := [some (vr (some w)), some (vi (J x1)), some (vr (some a_9)), none]) (st2 := [vr (some w)]) rfl ?_
    refine R_getR rfl t0 ?_
    refine R_ps 1 (pc2 := 20) (L2 := [some (vr (some w)), some (vi (J x1)), some (vr (some a_9)), none]) (st2 := [vr (some a_9), vr (gr h_6 w 0)]) rfl ?_
    obtain ⟨t_14, k⟩ := k
    refine R_zgetI (z := 4) rfl t_14 rfl ?_
    obtain ⟨a_16, e_17, k⟩ := k
    rw [e_17]
    obtain ⟨t_18, k⟩ := k
    refine R_zcI (as := [vr (some a_16), vi (J (ai h_6 a_9 4))]) rfl rfl ⟨Nat.le_of_ble_eq_true rfl, Nat.le_of_ble_eq_true rfl, rfl, (Or.inr ⟨_, rfl, t_18⟩)⟩ rfl rfl k (fun x_20 h_19 r_21 k => ?_)
    refine R_zif0 (x := x_20) rfl r_21 (fun c_22 => ?_) (fun c_22 => ?_)
    · have k := k.1 c_22
      refine R_ps 3 (pc2 := 58) (L2 := [some (vr (some w)), some (vi (J x1)), some (vr (some a_9)), some (vi (J 0))]) (st2 := [vi (J 0)]) rfl ?_
      refine R_zif0 (x := 0) rfl (by decide) (fun c_23 => absurd (show ¬ (0 : Int) = (0 : Int) from c_23) (by decide)) (fun _ => ?_)
      refine R_ps 1 (pc2 := 62) (L2 := [some (vr (some w)), some (vi (J x1)), some (vr (some a_9)), some (vi (J 0))]) (st2 := [vr (some w)]) rfl ?_
      refine R_getR rfl t0 ?_
      refine R_ps 1 (pc2 := 66) (L2 := [some (vr (some w)), some (vi (J x1)), some (vr (some a_9)), some (vi (J 0))]) (st2 := [vr (some w), vr (gr h_19 w 3)]) rfl ?_
      refine R_getR rfl t0 ?_
      refine R_ps 2 (pc2 := 71) (L2 := [some (vr (some w)), some (vi (J x1)), some (vr (some a_9)), some (vi (J 0))]) (st2 := [vr (some w), vi (J x1), vr (gr h_19 w 0), vr (gr h_19 w 3)]) rfl ?_
      refine R_getR rfl t0 ?_
      obtain ⟨a_28, e_29, k⟩ := k
      rw [e_29]
      obtain ⟨t_30, k⟩ := k
      refine R_zgetI (z := 2) rfl t_30 rfl ?_
      refine R_ps 1 (pc2 := 78) (L2 := [some (vr (some w)), some (vi (J x1)), some (vr (some a_9)), some (vi (J 0))]) (st2 := [vi (J 2), vi (J (ai h_19 a_28 2)), vi (J x1), vr (some a_28), vr (gr h_19 w 3)]) rfl ?_
      obtain ⟨a_32, e_33, k⟩ := k
      rw [e_33]
      obtain ⟨t_34, k⟩ := k
      refine R_zcI (as := [vr (some a_32), vr (some a_28), vi (J x1), vi (J (ai h_19 a_28 2)), vi (J 2)]) rfl rfl ⟨Nat.le_of_ble_eq_true rfl, Nat.le_of_ble_eq_true rfl, rfl, (Or.inr ⟨_, rfl, t_34⟩)⟩ rfl rfl k (fun x_36 h_35 r_37 k => ?_)
      refine R_zif0 (x := x_36) rfl r_37 (fun c_38 => ?_) (fun c_38 => ?_)
      · have k := k.1 c_38
        refine R_ps 1 (pc2 := 100) (L2 := [some (vr (some w)), some (vi (J x1)), some (vr (some a_9)), some (vi (J 0))]) (st2 := [vr (some a_9)]) rfl ?_
        refine R_zcI (as := [vr (some a_9)]) rfl rfl ⟨Nat.le_of_ble_eq_true rfl, Nat.le_of_ble_eq_true rfl, rfl, (Or.inr ⟨_, rfl, t_14⟩)⟩ rfl rfl k (fun x_41 h_40 r_42 k => ?_)
        refine R_ps 3 (pc2 := 106) (L2 := [some (vr (some w)), some (vi (J x1)), some (vr (some a_9)), some (vi (J 0))]) (st2 := [vi (J (-1)), vr (some a_9)]) rfl ?_
        refine R_zputI (x := (-1)) (z := 4) rfl t_14 rfl ?_
        show WP T N _ _ _ _ (wi h_40 a_9 4 (-1)) _
        generalize e_45 : wi h_40 a_9 4 (-1) = h_44
        replace k := k h_44 e_45.symm
        refine R_ps 1 (pc2 := 110) (L2 := [some (vr (some w)), some (vi (J x1)), some (vr (some a_9)), some (vi (J 0))]) (st2 := [vi (J 0)]) rfl ?_
        exact R_zzret (x := 0) rfl rfl (Or.inl rfl) (R_zr (x := 0) (K := K) (by decide) k)
      · have k := k.2 c_38
        refine R_ps 1 (pc2 := 85) (L2 := [some (vr (some w)), some (vi (J x1)), some (vr (some a_9)), some (vi (J 0))]) (st2 := [vr (some w)]) rfl ?_
        refine R_getR rfl t0 ?_
        refine R_ps 1 (pc2 := 89) (L2 := [some (vr (some w)), some (vi (J x1)), some (vr (some a_9)), some (vi (J 0))]) (st2 := [vr (some w), vr (gr h_35 w 3)]) rfl ?_
        refine R_getR rfl t0 ?_
        refine R_ps 1 (pc2 := 93) (L2 := [some (vr (some w)), some (vi (J x1)), some (vr (some a_9)), some (vi (J 0))]) (st2 := [vr (some a_9), vr (gr h_35 w 0), vr (gr h_35 w 3)]) rfl ?_
        obtain ⟨a_50, e_51, k⟩ := k
        rw [e_51]
        obtain ⟨t_52, k⟩ := k
        refine R_cV (as := [vr (some a_50), vr (gr h_35 w 0), vr (some a_9)]) rfl rfl ⟨Nat.le_of_ble_eq_true rfl, Nat.le_of_ble_eq_true rfl, rfl, (Or.inr ⟨_, rfl, t_52⟩)⟩ rfl rfl k (fun h_53 k => ?_)
        refine R_ps 2 (pc2 := 110) (L2 := [some (vr (some w)), some (vi (J x1)), some (vr (some a_9)), some (vi (J 0))]) (st2 := [vi (J 0)]) rfl ?_
        exact R_zzret (x := 0) rfl rfl (Or.inl rfl) (R_zr (x := 0) (K := K) (by decide) k)
    · have k := k.2 c_22
      refine R_ps 1 (pc2 := 30) (L2 := [some (vr (some w)), some (vi (J x1)), some (vr (some a_9)), none]) (st2 := [vr (some w)]) rfl ?_
      refine R_getR rfl t0 ?_
      refine R_ps 1 (pc2 := 34) (L2 := [some (vr (some w)), some (vi (J x1)), some (vr (some a_9)), none]) (st2 := [vr (some w), vr (gr h_19 w 3)]) rfl ?_
      refine R_getR rfl t0 ?_
      refine R_ps 3 (pc2 := 40) (L2 := [some (vr (some w)), some (vi (J x1)), some (vr (some a_9)), none]) (st2 := [vr (some a_9), vi (J 1), vi (J x1), vr (gr h_19 w 0), vr (gr h_19 w 3)]) rfl ?_
      refine R_zgetI (z := 4) rfl t_14 rfl ?_
      refine R_ps 2 (pc2 := 45) (L2 := [some (vr (some w)), some (vi (J x1)), some (vr (some a_9)), none]) (st2 := [vi (J 2), vi ((J 1) <<< ((J (ai h_19 a_9 4)) &&& 31)), vi (J x1), vr (gr h_19 w 0), vr (gr h_19 w 3)]) rfl ?_
      rw [show ((J 1) <<< ((J (ai h_19 a_9 4)) &&& 31)) = J (zshl 1 (ai h_19 a_9 4)) from J_shl' rfl rfl]
      obtain ⟨a_60, e_61, k⟩ := k
      rw [e_61]
      obtain ⟨t_62, k⟩ := k
      refine R_zcI (as := [vr (some a_60), vr (gr h_19 w 0), vi (J x1), vi (J (zshl 1 (ai h_19 a_9 4))), vi (J 2)]) rfl rfl ⟨Nat.le_of_ble_eq_true rfl, Nat.le_of_ble_eq_true rfl, rfl, (Or.inr ⟨_, rfl, t_62⟩)⟩ rfl rfl k (fun x_64 h_63 r_65 k => ?_)
      refine R_zif0 (x := x_64) rfl r_65 (fun c_66 => ?_) (fun c_66 => ?_)
      · have k := k.1 c_66
        refine R_ps 3 (pc2 := 58) (L2 := [some (vr (some w)), some (vi (J x1)), some (vr (some a_9)), some (vi (J 0))]) (st2 := [vi (J 0)]) rfl ?_
        refine R_zif0 (x := 0) rfl (by decide) (fun c_67 => absurd (show ¬ (0 : Int) = (0 : Int) from c_67) (by decide)) (fun _ => ?_)
        refine R_ps 1 (pc2 := 62) (L2 := [some (vr (some w)), some (vi (J x1)), some (vr (some a_9)), some (vi (J 0))]) (st2 := [vr (some w)]) rfl ?_
        refine R_getR rfl t0 ?_
        refine R_ps 1 (pc2 := 66) (L2 := [some (vr (some w)), some (vi (J x1)), some (vr (some a_9)), some (vi (J 0))]) (st2 := [vr (some w), vr (gr h_63 w 3)]) rfl ?_
        refine R_getR rfl t0 ?_
        refine R_ps 2 (pc2 := 71) (L2 := [some (vr (some w)), some (vi (J x1)), some (vr (some a_9)), some (vi (J 0))]) (st2 := [vr (some w), vi (J x1), vr (gr h_63 w 0), vr (gr h_63 w 3)]) rfl ?_
        refine R_getR rfl t0 ?_
        obtain ⟨a_72, e_73, k⟩ := k
        rw [e_73]
        obtain ⟨t_74, k⟩ := k
        refine R_zgetI (z := 2) rfl t_74 rfl ?_
        refine R_ps 1 (pc2 := 78) (L2 := [some (vr (some w)), some (vi (J x1)), some (vr (some a_9)), some (vi (J 0))]) (st2 := [vi (J 2), vi (J (ai h_63 a_72 2)), vi (J x1), vr (some a_72), vr (gr h_63 w 3)]) rfl ?_
        obtain ⟨a_76, e_77, k⟩ := k
        rw [e_77]
        obtain ⟨t_78, k⟩ := k
        refine R_zcI (as := [vr (some a_76), vr (some a_72), vi (J x1), vi (J (ai h_63 a_72 2)), vi (J 2)]) rfl rfl ⟨Nat.le_of_ble_eq_true rfl, Nat.le_of_ble_eq_true rfl, rfl, (Or.inr ⟨_, rfl, t_78⟩)⟩ rfl rfl k (fun x_80 h_79 r_81 k => ?_)
        refine R_zif0 (x := x_80) rfl r_81 (fun c_82 => ?_) (fun c_82 => ?_)
        · have k := k.1 c_82
          refine R_ps 1 (pc2 := 100) (L2 := [some (vr (some w)), some (vi (J x1)), some (vr (some a_9)), some (vi (J 0))]) (st2 := [vr (some a_9)]) rfl ?_
          refine R_zcI (as := [vr (some a_9)]) rfl rfl ⟨Nat.le_of_ble_eq_true rfl, Nat.le_of_ble_eq_true rfl, rfl, (Or.inr ⟨_, rfl, t_14⟩)⟩ rfl rfl k (fun x_85 h_84 r_86 k => ?_)
          refine R_ps 3 (pc2 := 106) (L2 := [some (vr (some w)), some (vi (J x1)), some (vr (some a_9)), some (vi (J 0))]) (st2 := [vi (J (-1)), vr (some a_9)]) rfl ?_
          refine R_zputI (x := (-1)) (z := 4) rfl t_14 rfl ?_
          show WP T N _ _ _ _ (wi h_84 a_9 4 (-1)) _
          generalize e_89 : wi h_84 a_9 4 (-1) = h_88
          replace k := k h_88 e_89.symm
          refine R_ps 1 (pc2 := 110) (L2 := [some (vr (some w)), some (vi (J x1)), some (vr (some a_9)), some (vi (J 0))]) (st2 := [vi (J 0)]) rfl ?_
          exact R_zzret (x := 0) rfl rfl (Or.inl rfl) (R_zr (x := 0) (K := K) (by decide) k)
        · have k := k.2 c_82
          refine R_ps 1 (pc2 := 85) (L2 := [some (vr (some w)), some (vi (J x1)), some (vr (some a_9)), some (vi (J 0))]) (st2 := [vr (some w)]) rfl ?_
          refine R_getR rfl t0 ?_
          refine R_ps 1 (pc2 := 89) (L2 := [some (vr (some w)), some (vi (J x1)), some (vr (some a_9)), some (vi (J 0))]) (st2 := [vr (some w), vr (gr h_79 w 3)]) rfl ?_
          refine R_getR rfl t0 ?_
          refine R_ps 1 (pc2 := 93) (L2 := [some (vr (some w)), some (vi (J x1)), some (vr (some a_9)), some (vi (J 0))]) (st2 := [vr (some a_9), vr (gr h_79 w 0), vr (gr h_79 w 3)]) rfl ?_
          obtain ⟨a_94, e_95, k⟩ := k
          rw [e_95]
          obtain ⟨t_96, k⟩ := k
          refine R_cV (as := [vr (some a_94), vr (gr h_79 w 0), vr (some a_9)]) rfl rfl ⟨Nat.le_of_ble_eq_true rfl, Nat.le_of_ble_eq_true rfl, rfl, (Or.inr ⟨_, rfl, t_96⟩)⟩ rfl rfl k (fun h_97 k => ?_)
          refine R_ps 2 (pc2 := 110) (L2 := [some (vr (some w)), some (vi (J x1)), some (vr (some a_9)), some (vi (J 0))]) (st2 := [vi (J 0)]) rfl ?_
          exact R_zzret (x := 0) rfl rfl (Or.inl rfl) (R_zr (x := 0) (K := K) (by decide) k)
      · have k := k.2 c_66
        refine R_ps 4 (pc2 := 58) (L2 := [some (vr (some w)), some (vi (J x1)), some (vr (some a_9)), some (vi (J 1))]) (st2 := [vi (J 1)]) rfl ?_
        refine R_zif0 (x := 1) rfl (by decide) (fun _ => ?_) (fun c_100 => absurd (show ¬ (1 : Int) = (0 : Int) by decide) c_100)
        refine R_ps 1 (pc2 := 85) (L2 := [some (vr (some w)), some (vi (J x1)), some (vr (some a_9)), some (vi (J 1))]) (st2 := [vr (some w)]) rfl ?_
        refine R_getR rfl t0 ?_
        refine R_ps 1 (pc2 := 89) (L2 := [some (vr (some w)), some (vi (J x1)), some (vr (some a_9)), some (vi (J 1))]) (st2 := [vr (some w), vr (gr h_63 w 3)]) rfl ?_
        refine R_getR rfl t0 ?_
        refine R_ps 1 (pc2 := 93) (L2 := [some (vr (some w)), some (vi (J x1)), some (vr (some a_9)), some (vi (J 1))]) (st2 := [vr (some a_9), vr (gr h_63 w 0), vr (gr h_63 w 3)]) rfl ?_
        obtain ⟨a_104, e_105, k⟩ := k
        rw [e_105]
        obtain ⟨t_106, k⟩ := k
        refine R_cV (as := [vr (some a_104), vr (gr h_63 w 0), vr (some a_9)]) rfl rfl ⟨Nat.le_of_ble_eq_true rfl, Nat.le_of_ble_eq_true rfl, rfl, (Or.inr ⟨_, rfl, t_106⟩)⟩ rfl rfl k (fun h_107 k => ?_)
        refine R_ps 2 (pc2 := 110) (L2 := [some (vr (some w)), some (vi (J x1)), some (vr (some a_9)), some (vi (J 1))]) (st2 := [vi (J 1)]) rfl ?_
        exact R_zzret (x := 1) rfl rfl (Or.inr rfl) (R_zr (x := 1) (K := K) (by decide) k)
/-- DroneCorridors.doEntries -/
theorem z152 {T N : Nat → Nat} {h : PH} {w : Nat} {K : Int → PH → Prop} (k : (ZW T N 152 4 [some (vr (some w)), some (vi (J 0)), some (vi (J 0))] [] h K)) : ZI T N 152 [vr (some w)] h K := by
  show WP T N 152 0 [some (vr (some w)), none, none] [] h _
  refine R_ps 4 (pc2 := 4) (L2 := [some (vr (some w)), some (vi (J 0)), some (vi (J 0))]) (st2 := []) rfl ?_
  exact k
theorem z152_4 {T N : Nat → Nat} {h : PH} {w : Nat} {x1 : Int} {x2 : Int} {K : Int → PH → Prop} (t0 : T w = 11) (r1 : In x1) (r2 : In x2) (k : (∃ a_3, (gr h w 5) = some a_3 ∧ T a_3 = 6 ∧ ((x2 < (ai h a_3 0) → (ZI T N 153 [vr (some w), vi (J x2)] h (fun x_10 h_9 => (((x_10 = 0 → (K (-1) h_9)) ∧ (¬ (x_10 = 0) → (∃ a_15, (gr h_9 w 5) = some a_15 ∧ T a_15 = 6 ∧ CS T N 51 [vr (some a_15), vi (J x2)] h_9 (fun x_19 h_18 => (x_19 < 5 ∧ ZW T N 152 4 [some (vr (some w)), some (vi (J (x1 + 1))), some (vi (J ((x2 + (txl x_19)) + 1)))] [] h_18 K))))))))) ∧ (¬ (x2 < (ai h a_3 0)) → (K x1 h))))) : ZW T N 152 4 [some (vr (some w)), some (vi (J x1)), some (vi (J x2))] [] h K := by
  show WP T N 152 4 [some (vr (some w)), some (vi (J x1)), some (vi (J x2))] [] h _
  refine R_ps 2 (pc2 := 6) (L2 := [some (vr (some w)), some (vi (J x1)), some (vi (J x2))]) (st2 := [vr (some w), vi (J x2)]) rfl ?_
  refine R_getR rfl t0 ?_
  obtain ⟨a_3, e_4, k⟩ := k
  rw [e_4]
  obtain ⟨t_5, k⟩ := k
  refine R_zgetI (z := 0) rfl t_5 rfl ?_
  refine R_zif (x := x2) (z := ai h a_3 0) rfl r2 (ai_in _ _ _) (fun c_6 => ?_) (fun c_6 => ?_)
  · have k := k.2 c_6
    refine R_ps 1 (pc2 := 49) (L2 := [some (vr (some w)), some (vi (J x1)), some (vi (J x2))]) (st2 := [vi (J x1)]) rfl ?_
    exact R_iret rfl rfl (R_zr (x := x1) (K := K) r1 k)
  · have k := k.1 (Classical.not_not.mp c_6)
    refine R_ps 2 (pc2 := 17) (L2 := [some (vr (some w)), some (vi (J x1)), some (vi (J x2))]) (st2 := [vi (J x2), vr (some w)]) rfl ?_
    refine R_zcI (as := [vr (some w), vi (J x2)]) rfl rfl ⟨Nat.le_of_ble_eq_true rfl, Nat.le_of_ble_eq_true rfl, rfl, (Or.inr ⟨_, rfl, t0⟩)⟩ rfl rfl k (fun x_10 h_9 r_11 k => ?_)
    refine R_zif0 (x := x_10) rfl r_11 (fun c_12 => ?_) (fun c_12 => ?_)
    · have k := k.2 c_12
      refine R_ps 3 (pc2 := 30) (L2 := [some (vr (some w)), some (vi ((J x1) + J 1)), some (vi (J x2))]) (st2 := [vr (some w), vi (J x2)]) rfl ?_
      rw [show ((J x1) + J 1) = J (x1 + 1) from J_add' rfl rfl]
      refine R_getR rfl t0 ?_
      refine R_ps 1 (pc2 := 34) (L2 := [some (vr (some w)), some (vi (J (x1 + 1))), some (vi (J x2))]) (st2 := [vi (J x2), vr (gr h_9 w 5), vi (J x2)]) rfl ?_
      obtain ⟨a_15, e_16, k⟩ := k
      rw [e_16]
      obtain ⟨t_17, k⟩ := k
      refine R_cS (as := [vr (some a_15), vi (J x2)]) rfl rfl ⟨Nat.le_of_ble_eq_true rfl, Nat.le_of_ble_eq_true rfl, rfl, (Or.inr ⟨_, rfl, t_17⟩)⟩ rfl rfl k (fun x_19 h_18 k => ?_)
      obtain ⟨t_21, k⟩ := k
      refine R_jdkz (st2 := [vi (Int32.ofNat (txt x_19).length), vi (J x2)]) (st3 := [vi (J (txl x_19)), vi (J x2)]) rfl rfl rfl rfl rfl rfl (pif_pos t_21) rfl (congrArg (fun q => vi q :: [vi (J x2)]) (Int32.ofInt_eq_ofNat.symm)) ?_
      refine R_ps 4 (pc2 := 4) (L2 := [some (vr (some w)), some (vi (J (x1 + 1))), some (vi (((J x2) + (J (txl x_19))) + J 1))]) (st2 := []) rfl ?_
      rw [show (((J x2) + (J (txl x_19))) + J 1) = J ((x2 + (txl x_19)) + 1) from J_add' (J_add' rfl rfl) rfl]
      exact k
    · have k := k.1 (Classical.not_not.mp c_12)
      refine R_ps 1 (pc2 := 24) (L2 := [some (vr (some w)), some (vi (J x1)), some (vi (J x2))]) (st2 := [vi (J (-1))]) rfl ?_
      exact R_iret rfl rfl (R_zr (x := (-1)) (K := K) (by decide) k)
/-- DroneCorridors.doEntry -/
theorem z153 {T N : Nat → Nat} {h : PH} {w : Nat} {x1 : Int} {K : Int → PH → Prop} (t0 : T w = 11) (r1 : In x1) (k : (∃ a_3, (gr h w 5) = some a_3 ∧ T a_3 = 6 ∧ ZI T N 50 [vr (some a_3), vi (J (x1 + 1))] h (fun x_7 h_6 => (∃ a_11, (gr h_6 w 5) = some a_11 ∧ T a_11 = 6 ∧ ZI T N 49 [vr (some a_11), vi (J x1)] h_6 (fun x_15 h_14 => (((x_15 = 99 → (∃ a_20, (gr h_14 w 5) = some a_20 ∧ T a_20 = 6 ∧ ZI T N 50 [vr (some a_20), vi (J (x1 + 3))] h_14 (fun x_24 h_23 => (∃ a_28, (gr h_23 w 5) = some a_28 ∧ T a_28 = 6 ∧ ZI T N 50 [vr (some a_28), vi (J (x1 + 5))] h_23 (fun x_32 h_31 => (ZI T N 154 [vr (some w), vi (J x_7), vi (J x_24), vi (J x_32)] h_31 (fun x_36 h_35 => ((x_36 = 0 ∨ x_36 = 1) ∧ K x_36 h_35)))))))) ∧ (¬ (x_15 = 99) → ((x_15 = 100 → (∃ a_42, (gr h_14 w 0) = some a_42 ∧ T a_42 = 10 ∧ ZI T N 88 [vr (some a_42), vi (J x_7)] h_14 (fun x_46 h_45 => (((x_46 = 0 → (K 0 h_45)) ∧ (¬ (x_46 = 0) → (∃ a_52, (gr h_45 w 0) = some a_52 ∧ T a_52 = 10 ∧ ZI T N 96 [vr (some a_52), vi (J x_7), vi (J 100)] h_45 (fun x_56 h_55 => (((x_56 = (-1) → (K 0 h_55)) ∧ (¬ (x_56 = (-1)) → (K 1 h_55)))))))))))) ∧ (¬ (x_15 = 100) → ((x_15 = 110 → (∃ a_63, (gr h_14 w 0) = some a_63 ∧ T a_63 = 10 ∧ ZI T N 92 [vr (some a_63), vi (J 0)] h_14 (fun x_67 h_66 => (((x_67 = (-1) → (K 0 h_66)) ∧ (¬ (x_67 = (-1)) → (K 1 h_66))))))) ∧ (¬ (x_15 = 110) → ((x_15 = 112 → (∃ a_74, (gr h_14 w 0) = some a_74 ∧ T a_74 = 10 ∧ ZI T N 92 [vr (some a_74), vi (J 1)] h_14 (fun x_78 h_77 => (((x_78 = (-1) → (K 0 h_77)) ∧ (¬ (x_78 = (-1)) → (K 1 h_77))))))) ∧ (¬ (x_15 = 112) → ((x_15 = 116 → (∃ a_85, (gr h_14 w 0) = some a_85 ∧ T a_85 = 10 ∧ In ((ai h_14 a_85 0) + x_7) ∧ ((10000 < ((ai h_14 a_85 0) + x_7) → (K 0 h_14)) ∧ (¬ (10000 < ((ai h_14 a_85 0) + x_7)) → (∃ a_92, (gr h_14 w 0) = some a_92 ∧ T a_92 = 10 ∧ ZI T N 103 [vr (some a_92), vi (J x_7)] h_14 (fun x_96 h_95 => (K 1 h_95))))))) ∧ (¬ (x_15 = 116) → (K 0 h_14))))))))))))))))) : ZI T N 153 [vr (some w), vi (J x1)] h K := by
  show WP T N 153 0 [some (vr (some w)), some (vi (J x1)), none] [] h _
  refine R_ps 1 (pc2 := 1) (L2 := [some (vr (some w)), some (vi (J x1)), none]) (st2 := [vr (some w)]) rfl ?_
  refine R_getR rfl t0 ?_
  refine R_ps 3 (pc2 := 7) (L2 := [some (vr (some w)), some (vi (J x1)), none]) (st2 := [vi ((J x1) + (J 1)), vr (gr h w 5)]) rfl ?_
  rw [show ((J x1) + (J 1)) = J (x1 + 1) from J_add' rfl rfl]
  obtain ⟨a_3, e_4, k⟩ := k
  rw [e_4]
  obtain ⟨t_5, k⟩ := k
  refine R_zcI (as := [vr (some a_3), vi (J (x1 + 1))]) rfl rfl ⟨Nat.le_of_ble_eq_true rfl, Nat.le_of_ble_eq_true rfl, rfl, (Or.inr ⟨_, rfl, t_5⟩)⟩ rfl rfl k (fun x_7 h_6 r_8 k => ?_)
  refine R_ps 2 (pc2 := 12) (L2 := [some (vr (some w)), some (vi (J x1)), some (vi (J x_7))]) (st2 := [vr (some w)]) rfl ?_
  refine R_getR rfl t0 ?_
  refine R_ps 1 (pc2 := 16) (L2 := [some (vr (some w)), some (vi (J x1)), some (vi (J x_7))]) (st2 := [vi (J x1), vr (gr h_6 w 5)]) rfl ?_
  obtain ⟨a_11, e_12, k⟩ := k
  rw [e_12]
  obtain ⟨t_13, k⟩ := k
  refine R_zcI (as := [vr (some a_11), vi (J x1)]) rfl rfl ⟨Nat.le_of_ble_eq_true rfl, Nat.le_of_ble_eq_true rfl, rfl, (Or.inr ⟨_, rfl, t_13⟩)⟩ rfl rfl k (fun x_15 h_14 r_16 k => ?_)
  refine R_zlsw (x := x_15) rfl rfl r_16 ?_
  refine ⟨fun c_17 => ?_, fun c_17 => ?_⟩
  · have k := k.1 c_17
    show WP T N _ 104 _ _ _ _
    refine R_ps 3 (pc2 := 107) (L2 := [some (vr (some w)), some (vi (J x1)), some (vi (J x_7))]) (st2 := [vr (some w), vi (J x_7), vr (some w)]) rfl ?_
    refine R_getR rfl t0 ?_
    refine R_ps 3 (pc2 := 113) (L2 := [some (vr (some w)), some (vi (J x1)), some (vi (J x_7))]) (st2 := [vi ((J x1) + (J 3)), vr (gr h_14 w 5), vi (J x_7), vr (some w)]) rfl ?_
    rw [show ((J x1) + (J 3)) = J (x1 + 3) from J_add' rfl rfl]
    obtain ⟨a_20, e_21, k⟩ := k
    rw [e_21]
    obtain ⟨t_22, k⟩ := k
    refine R_zcI (as := [vr (some a_20), vi (J (x1 + 3))]) rfl rfl ⟨Nat.le_of_ble_eq_true rfl, Nat.le_of_ble_eq_true rfl, rfl, (Or.inr ⟨_, rfl, t_22⟩)⟩ rfl rfl k (fun x_24 h_23 r_25 k => ?_)
    refine R_ps 1 (pc2 := 117) (L2 := [some (vr (some w)), some (vi (J x1)), some (vi (J x_7))]) (st2 := [vr (some w), vi (J x_24), vi (J x_7), vr (some w)]) rfl ?_
    refine R_getR rfl t0 ?_
    refine R_ps 3 (pc2 := 123) (L2 := [some (vr (some w)), some (vi (J x1)), some (vi (J x_7))]) (st2 := [vi ((J x1) + (J 5)), vr (gr h_23 w 5), vi (J x_24), vi (J x_7), vr (some w)]) rfl ?_
    rw [show ((J x1) + (J 5)) = J (x1 + 5) from J_add' rfl rfl]
    obtain ⟨a_28, e_29, k⟩ := k
    rw [e_29]
    obtain ⟨t_30, k⟩ := k
    refine R_zcI (as := [vr (some a_28), vi (J (x1 + 5))]) rfl rfl ⟨Nat.le_of_ble_eq_true rfl, Nat.le_of_ble_eq_true rfl, rfl, (Or.inr ⟨_, rfl, t_30⟩)⟩ rfl rfl k (fun x_32 h_31 r_33 k => ?_)
    refine R_zcI (as := [vr (some w), vi (J x_7), vi (J x_24), vi (J x_32)]) rfl rfl ⟨Nat.le_of_ble_eq_true rfl, Nat.le_of_ble_eq_true rfl, rfl, (Or.inr ⟨_, rfl, t0⟩)⟩ rfl rfl k (fun x_36 h_35 r_37 k => ?_)
    obtain ⟨t_39, k⟩ := k
    exact R_zzret (x := x_36) rfl rfl t_39 (R_zr (x := x_36) (K := K) r_37 k)
  replace k := k.2 c_17
  refine ⟨fun c_17 => ?_, fun c_17 => ?_⟩
  · have k := k.1 c_17
    show WP T N _ 130 _ _ _ _
    refine R_ps 1 (pc2 := 131) (L2 := [some (vr (some w)), some (vi (J x1)), some (vi (J x_7))]) (st2 := [vr (some w)]) rfl ?_
    refine R_getR rfl t0 ?_
    refine R_ps 1 (pc2 := 135) (L2 := [some (vr (some w)), some (vi (J x1)), some (vi (J x_7))]) (st2 := [vi (J x_7), vr (gr h_14 w 0)]) rfl ?_
    obtain ⟨a_42, e_43, k⟩ := k
    rw [e_43]
    obtain ⟨t_44, k⟩ := k
    refine R_zcI (as := [vr (some a_42), vi (J x_7)]) rfl rfl ⟨Nat.le_of_ble_eq_true rfl, Nat.le_of_ble_eq_true rfl, rfl, (Or.inr ⟨_, rfl, t_44⟩)⟩ rfl rfl k (fun x_46 h_45 r_47 k => ?_)
    refine R_zif0 (x := x_46) rfl r_47 (fun c_48 => ?_) (fun c_48 => ?_)
    · have k := k.1 c_48
      refine R_ps 1 (pc2 := 160) (L2 := [some (vr (some w)), some (vi (J x1)), some (vi (J x_7))]) (st2 := [vi (J 0)]) rfl ?_
      exact R_zzret (x := 0) rfl rfl (Or.inl rfl) (R_zr (x := 0) (K := K) (by decide) k)
    · have k := k.2 c_48
      refine R_ps 1 (pc2 := 142) (L2 := [some (vr (some w)), some (vi (J x1)), some (vi (J x_7))]) (st2 := [vr (some w)]) rfl ?_
      refine R_getR rfl t0 ?_
      refine R_ps 2 (pc2 := 148) (L2 := [some (vr (some w)), some (vi (J x1)), some (vi (J x_7))]) (st2 := [vi (J 100), vi (J x_7), vr (gr h_45 w 0)]) rfl ?_
      obtain ⟨a_52, e_53, k⟩ := k
      rw [e_53]
      obtain ⟨t_54, k⟩ := k
      refine R_zcI (as := [vr (some a_52), vi (J x_7), vi (J 100)]) rfl rfl ⟨Nat.le_of_ble_eq_true rfl, Nat.le_of_ble_eq_true rfl, rfl, (Or.inr ⟨_, rfl, t_54⟩)⟩ rfl rfl k (fun x_56 h_55 r_57 k => ?_)
      refine R_ps 1 (pc2 := 152) (L2 := [some (vr (some w)), some (vi (J x1)), some (vi (J x_7))]) (st2 := [vi (J (-1)), vi (J x_56)]) rfl ?_
      refine R_zif (x := x_56) (z := (-1)) rfl r_57 (by decide) (fun c_58 => ?_) (fun c_58 => ?_)
      · have k := k.1 c_58
        refine R_ps 1 (pc2 := 160) (L2 := [some (vr (some w)), some (vi (J x1)), some (vi (J x_7))]) (st2 := [vi (J 0)]) rfl ?_
        exact R_zzret (x := 0) rfl rfl (Or.inl rfl) (R_zr (x := 0) (K := K) (by decide) k)
      · have k := k.2 c_58
        refine R_ps 2 (pc2 := 160) (L2 := [some (vr (some w)), some (vi (J x1)), some (vi (J x_7))]) (st2 := [vi (J 1)]) rfl ?_
        exact R_zzret (x := 1) rfl rfl (Or.inr rfl) (R_zr (x := 1) (K := K) (by decide) k)
  replace k := k.2 c_17
  refine ⟨fun c_17 => ?_, fun c_17 => ?_⟩
  · have k := k.1 c_17
    show WP T N _ 68 _ _ _ _
    refine R_ps 1 (pc2 := 69) (L2 := [some (vr (some w)), some (vi (J x1)), some (vi (J x_7))]) (st2 := [vr (some w)]) rfl ?_
    refine R_getR rfl t0 ?_
    refine R_ps 1 (pc2 := 73) (L2 := [some (vr (some w)), some (vi (J x1)), some (vi (J x_7))]) (st2 := [vi (J 0), vr (gr h_14 w 0)]) rfl ?_
    obtain ⟨a_63, e_64, k⟩ := k
    rw [e_64]
    obtain ⟨t_65, k⟩ := k
    refine R_zcI (as := [vr (some a_63), vi (J 0)]) rfl rfl ⟨Nat.le_of_ble_eq_true rfl, Nat.le_of_ble_eq_true rfl, rfl, (Or.inr ⟨_, rfl, t_65⟩)⟩ rfl rfl k (fun x_67 h_66 r_68 k => ?_)
    refine R_ps 1 (pc2 := 77) (L2 := [some (vr (some w)), some (vi (J x1)), some (vi (J x_7))]) (st2 := [vi (J (-1)), vi (J x_67)]) rfl ?_
    refine R_zif (x := x_67) (z := (-1)) rfl r_68 (by decide) (fun c_69 => ?_) (fun c_69 => ?_)
    · have k := k.1 c_69
      refine R_ps 1 (pc2 := 85) (L2 := [some (vr (some w)), some (vi (J x1)), some (vi (J x_7))]) (st2 := [vi (J 0)]) rfl ?_
      exact R_zzret (x := 0) rfl rfl (Or.inl rfl) (R_zr (x := 0) (K := K) (by decide) k)
    · have k := k.2 c_69
      refine R_ps 2 (pc2 := 85) (L2 := [some (vr (some w)), some (vi (J x1)), some (vi (J x_7))]) (st2 := [vi (J 1)]) rfl ?_
      exact R_zzret (x := 1) rfl rfl (Or.inr rfl) (R_zr (x := 1) (K := K) (by decide) k)
  replace k := k.2 c_17
  refine ⟨fun c_17 => ?_, fun c_17 => ?_⟩
  · have k := k.1 c_17
    show WP T N _ 86 _ _ _ _
    refine R_ps 1 (pc2 := 87) (L2 := [some (vr (some w)), some (vi (J x1)), some (vi (J x_7))]) (st2 := [vr (some w)]) rfl ?_
    refine R_getR rfl t0 ?_
    refine R_ps 1 (pc2 := 91) (L2 := [some (vr (some w)), some (vi (J x1)), some (vi (J x_7))]) (st2 := [vi (J 1), vr (gr h_14 w 0)]) rfl ?_
    obtain ⟨a_74, e_75, k⟩ := k
    rw [e_75]
    obtain ⟨t_76, k⟩ := k
    refine R_zcI (as := [vr (some a_74), vi (J 1)]) rfl rfl ⟨Nat.le_of_ble_eq_true rfl, Nat.le_of_ble_eq_true rfl, rfl, (Or.inr ⟨_, rfl, t_76⟩)⟩ rfl rfl k (fun x_78 h_77 r_79 k => ?_)
    refine R_ps 1 (pc2 := 95) (L2 := [some (vr (some w)), some (vi (J x1)), some (vi (J x_7))]) (st2 := [vi (J (-1)), vi (J x_78)]) rfl ?_
    refine R_zif (x := x_78) (z := (-1)) rfl r_79 (by decide) (fun c_80 => ?_) (fun c_80 => ?_)
    · have k := k.1 c_80
      refine R_ps 1 (pc2 := 103) (L2 := [some (vr (some w)), some (vi (J x1)), some (vi (J x_7))]) (st2 := [vi (J 0)]) rfl ?_
      exact R_zzret (x := 0) rfl rfl (Or.inl rfl) (R_zr (x := 0) (K := K) (by decide) k)
    · have k := k.2 c_80
      refine R_ps 2 (pc2 := 103) (L2 := [some (vr (some w)), some (vi (J x1)), some (vi (J x_7))]) (st2 := [vi (J 1)]) rfl ?_
      exact R_zzret (x := 1) rfl rfl (Or.inr rfl) (R_zr (x := 1) (K := K) (by decide) k)
  replace k := k.2 c_17
  refine ⟨fun c_17 => ?_, fun c_17 => ?_⟩
  · have k := k.1 c_17
    show WP T N _ 161 _ _ _ _
    refine R_ps 1 (pc2 := 162) (L2 := [some (vr (some w)), some (vi (J x1)), some (vi (J x_7))]) (st2 := [vr (some w)]) rfl ?_
    refine R_getR rfl t0 ?_
    obtain ⟨a_85, e_86, k⟩ := k
    rw [e_86]
    obtain ⟨t_87, k⟩ := k
    refine R_zgetI (z := 0) rfl t_87 rfl ?_
    refine R_ps 3 (pc2 := 173) (L2 := [some (vr (some w)), some (vi (J x1)), some (vi (J x_7))]) (st2 := [vi (J 10000), vi ((J (ai h_14 a_85 0)) + (J x_7))]) rfl ?_
    rw [show ((J (ai h_14 a_85 0)) + (J x_7)) = J ((ai h_14 a_85 0) + x_7) from J_add' rfl rfl]
    obtain ⟨t_89, k⟩ := k
    refine R_zif (x := (ai h_14 a_85 0) + x_7) (z := 10000) rfl t_89 (by decide) (fun c_88 => ?_) (fun c_88 => ?_)
    · have k := k.2 c_88
      refine R_ps 1 (pc2 := 179) (L2 := [some (vr (some w)), some (vi (J x1)), some (vi (J x_7))]) (st2 := [vr (some w)]) rfl ?_
      refine R_getR rfl t0 ?_
      refine R_ps 1 (pc2 := 183) (L2 := [some (vr (some w)), some (vi (J x1)), some (vi (J x_7))]) (st2 := [vi (J x_7), vr (gr h_14 w 0)]) rfl ?_
      obtain ⟨a_92, e_93, k⟩ := k
      rw [e_93]
      obtain ⟨t_94, k⟩ := k
      refine R_zcI (as := [vr (some a_92), vi (J x_7)]) rfl rfl ⟨Nat.le_of_ble_eq_true rfl, Nat.le_of_ble_eq_true rfl, rfl, (Or.inr ⟨_, rfl, t_94⟩)⟩ rfl rfl k (fun x_96 h_95 r_97 k => ?_)
      refine R_ps 2 (pc2 := 188) (L2 := [some (vr (some w)), some (vi (J x1)), some (vi (J x_7))]) (st2 := [vi (J 1)]) rfl ?_
      exact R_zzret (x := 1) rfl rfl (Or.inr rfl) (R_zr (x := 1) (K := K) (by decide) k)
    · have k := k.1 (Classical.not_not.mp c_88)
      refine R_ps 1 (pc2 := 177) (L2 := [some (vr (some w)), some (vi (J x1)), some (vi (J x_7))]) (st2 := [vi (J 0)]) rfl ?_
      exact R_zzret (x := 0) rfl rfl (Or.inl rfl) (R_zr (x := 0) (K := K) (by decide) k)
  replace k := k.2 c_17
  show WP T N _ 189 _ _ _ _
  refine R_ps 1 (pc2 := 190) (L2 := [some (vr (some w)), some (vi (J x1)), some (vi (J x_7))]) (st2 := [vi (J 0)]) rfl ?_
  exact R_zzret (x := 0) rfl rfl (Or.inl rfl) (R_zr (x := 0) (K := K) (by decide) k)
/-- DroneCorridors.doCorridorEntry -/
theorem z154 {T N : Nat → Nat} {h : PH} {w : Nat} {x1 : Int} {x2 : Int} {x3 : Int} {K : Int → PH → Prop} (t0 : T w = 11) (r1 : In x1) (r2 : In x2) (r3 : In x3) (k : (∃ a_3, (gr h w 0) = some a_3 ∧ T a_3 = 10 ∧ ZI T N 88 [vr (some a_3), vi (J x1)] h (fun x_7 h_6 => (((x_7 = 0 → (K 0 h_6)) ∧ (¬ (x_7 = 0) → (∃ a_13, (gr h_6 w 0) = some a_13 ∧ T a_13 = 10 ∧ ZI T N 88 [vr (some a_13), vi (J x2)] h_6 (fun x_17 h_16 => (((x_17 = 0 → (K 0 h_16)) ∧ (¬ (x_17 = 0) → (((x1 = x2 → (K 0 h_16)) ∧ (¬ (x1 = x2) → (∃ a_25, (gr h_16 w 0) = some a_25 ∧ T a_25 = 10 ∧ ZI T N 93 [vr (some a_25), vi (J x1), vi (J x2), vi (J x3), vi (J 0)] h_16 (fun x_29 h_28 => (((x_29 = (-1) → (K 0 h_28)) ∧ (¬ (x_29 = (-1)) → (K 1 h_28)))))))))))))))))))) : ZI T N 154 [vr (some w), vi (J x1), vi (J x2), vi (J x3)] h K := by
  show WP T N 154 0 [some (vr (some w)), some (vi (J x1)), some (vi (J x2)), some (vi (J x3))] [] h _
  refine R_ps 1 (pc2 := 1) (L2 := [some (vr (some w)), some (vi (J x1)), some (vi (J x2)), some (vi (J x3))]) (st2 := [vr (some w)]) rfl ?_
  refine R_getR rfl t0 ?_
  refine R_ps 1 (pc2 := 5) (L2 := [some (vr (some w)), some (vi (J x1)), some (vi (J x2)), some (vi (J x3))]) (st2 := [vi (J x1), vr (gr h w 0)]) rfl ?_
  obtain ⟨a_3, e_4, k⟩ := k
  rw [e_4]
  obtain ⟨t_5, k⟩ := k
  refine R_zcI (as := [vr (some a_3), vi (J x1)]) rfl rfl ⟨Nat.le_of_ble_eq_true rfl, Nat.le_of_ble_eq_true rfl, rfl, (Or.inr ⟨_, rfl, t_5⟩)⟩ rfl rfl k (fun x_7 h_6 r_8 k => ?_)
  refine R_zif0 (x := x_7) rfl r_8 (fun c_9 => ?_) (fun c_9 => ?_)
  · have k := k.1 c_9
    refine R_ps 1 (pc2 := 47) (L2 := [some (vr (some w)), some (vi (J x1)), some (vi (J x2)), some (vi (J x3))]) (st2 := [vi (J 0)]) rfl ?_
    exact R_zzret (x := 0) rfl rfl (Or.inl rfl) (R_zr (x := 0) (K := K) (by decide) k)
  · have k := k.2 c_9
    refine R_ps 1 (pc2 := 12) (L2 := [some (vr (some w)), some (vi (J x1)), some (vi (J x2)), some (vi (J x3))]) (st2 := [vr (some w)]) rfl ?_
    refine R_getR rfl t0 ?_
    refine R_ps 1 (pc2 := 16) (L2 := [some (vr (some w)), some (vi (J x1)), some (vi (J x2)), some (vi (J x3))]) (st2 := [vi (J x2), vr (gr h_6 w 0)]) rfl ?_
    obtain ⟨a_13, e_14, k⟩ := k
    rw [e_14]
    obtain ⟨t_15, k⟩ := k
    refine R_zcI (as := [vr (some a_13), vi (J x2)]) rfl rfl ⟨Nat.le_of_ble_eq_true rfl, Nat.le_of_ble_eq_true rfl, rfl, (Or.inr ⟨_, rfl, t_15⟩)⟩ rfl rfl k (fun x_17 h_16 r_18 k => ?_)
    refine R_zif0 (x := x_17) rfl r_18 (fun c_19 => ?_) (fun c_19 => ?_)
    · have k := k.1 c_19
      refine R_ps 1 (pc2 := 47) (L2 := [some (vr (some w)), some (vi (J x1)), some (vi (J x2)), some (vi (J x3))]) (st2 := [vi (J 0)]) rfl ?_
      exact R_zzret (x := 0) rfl rfl (Or.inl rfl) (R_zr (x := 0) (K := K) (by decide) k)
    · have k := k.2 c_19
      refine R_ps 2 (pc2 := 24) (L2 := [some (vr (some w)), some (vi (J x1)), some (vi (J x2)), some (vi (J x3))]) (st2 := [vi (J x2), vi (J x1)]) rfl ?_
      refine R_zif (x := x1) (z := x2) rfl r1 r2 (fun c_21 => ?_) (fun c_21 => ?_)
      · have k := k.1 c_21
        refine R_ps 1 (pc2 := 47) (L2 := [some (vr (some w)), some (vi (J x1)), some (vi (J x2)), some (vi (J x3))]) (st2 := [vi (J 0)]) rfl ?_
        exact R_zzret (x := 0) rfl rfl (Or.inl rfl) (R_zr (x := 0) (K := K) (by decide) k)
      · have k := k.2 c_21
        refine R_ps 1 (pc2 := 28) (L2 := [some (vr (some w)), some (vi (J x1)), some (vi (J x2)), some (vi (J x3))]) (st2 := [vr (some w)]) rfl ?_
        refine R_getR rfl t0 ?_
        refine R_ps 4 (pc2 := 35) (L2 := [some (vr (some w)), some (vi (J x1)), some (vi (J x2)), some (vi (J x3))]) (st2 := [vi (J 0), vi (J x3), vi (J x2), vi (J x1), vr (gr h_16 w 0)]) rfl ?_
        obtain ⟨a_25, e_26, k⟩ := k
        rw [e_26]
        obtain ⟨t_27, k⟩ := k
        refine R_zcI (as := [vr (some a_25), vi (J x1), vi (J x2), vi (J x3), vi (J 0)]) rfl rfl ⟨Nat.le_of_ble_eq_true rfl, Nat.le_of_ble_eq_true rfl, rfl, (Or.inr ⟨_, rfl, t_27⟩)⟩ rfl rfl k (fun x_29 h_28 r_30 k => ?_)
        refine R_ps 1 (pc2 := 39) (L2 := [some (vr (some w)), some (vi (J x1)), some (vi (J x2)), some (vi (J x3))]) (st2 := [vi (J (-1)), vi (J x_29)]) rfl ?_
        refine R_zif (x := x_29) (z := (-1)) rfl r_30 (by decide) (fun c_31 => ?_) (fun c_31 => ?_)
        · have k := k.1 c_31
          refine R_ps 1 (pc2 := 47) (L2 := [some (vr (some w)), some (vi (J x1)), some (vi (J x2)), some (vi (J x3))]) (st2 := [vi (J 0)]) rfl ?_
          exact R_zzret (x := 0) rfl rfl (Or.inl rfl) (R_zr (x := 0) (K := K) (by decide) k)
        · have k := k.2 c_31
          refine R_ps 2 (pc2 := 47) (L2 := [some (vr (some w)), some (vi (J x1)), some (vi (J x2)), some (vi (J x3))]) (st2 := [vi (J 1)]) rfl ?_
          exact R_zzret (x := 1) rfl rfl (Or.inr rfl) (R_zr (x := 1) (K := K) (by decide) k)
