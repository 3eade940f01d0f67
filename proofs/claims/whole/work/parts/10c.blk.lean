/-! WHAT IS TO BE SHOWN OF EACH METHOD, by program (gen_blk.py): 104 to 155 -/
/-- DroneCorridors.<init> -/
theorem m104 {T N : Nat → Nat} {h : PH} {w : Nat} {K : PH → Prop} (t0 : T w = 11) (k : (T (nx h) = 10 ∧ ∀ a_3 h_4, a_3 = nx h → h_4 = grow h 9 → CV T N 82 [vr (some a_3)] h_4 (fun h_9 => (∀ h_12, h_12 = sr h_9 w 0 (some a_3) → T (nx h_12) = 10 ∧ ∀ a_15 h_16, a_15 = nx h_12 → h_16 = grow h_12 9 → CV T N 82 [vr (some a_15)] h_16 (fun h_21 => (∀ h_24, h_24 = sr h_21 w 1 (some a_15) → T (nx h_24) = 5 ∧ ∀ a_27 h_28, a_27 = nx h_24 → h_28 = grow h_24 3 → CV T N 39 [vr (some a_27)] h_28 (fun h_33 => (∀ h_36, h_36 = sr h_33 w 2 (some a_27) → T (nx h_36) = 8 ∧ ∀ a_39 h_40, a_39 = nx h_36 → h_40 = grow h_36 18 → CV T N 58 [vr (some a_39)] h_40 (fun h_45 => (∀ h_48, h_48 = sr h_45 w 3 (some a_39) → T (nx h_48) = 9 ∧ ∀ a_51 h_52, a_51 = nx h_48 → h_52 = grow h_48 1 → CV T N 77 [vr (some a_51)] h_52 (fun h_57 => (∀ h_60, h_60 = sr h_57 w 4 (some a_51) → T (nx h_60) = 6 ∧ ∀ a_63 h_64, a_63 = nx h_60 → h_64 = grow h_60 2 → CV T N 47 [vr (some a_63)] h_64 (fun h_69 => (∀ h_72, h_72 = sr h_69 w 5 (some a_63) → T (nx h_72) = 3 ∧ ∀ a_75 h_76, a_75 = nx h_72 → h_76 = grow h_72 10 → CV T N 14 [vr (some a_75)] h_76 (fun h_81 => (∀ h_84, h_84 = sr h_81 w 6 (some a_75) → ∀ h_87, h_87 = si h_84 w 7 0 → ∀ h_90, h_90 = si h_87 w 8 (-1) → ∀ h_93, h_93 = si h_90 w 9 (-1) → K h_93)))))))))))))))) : CV T N 104 [vr (some w)] h K := by
  show WP T N 104 0 [some (vr (some w))] [] h _
  refine R_ps 1 (pc2 := 1) (L2 := [some (vr (some w))]) (st2 := [vr (some w)]) rfl ?_
  refine R_jdk (st2 := []) rfl rfl rfl rfl rfl rfl rfl rfl ?_
  refine R_ps 1 (pc2 := 5) (L2 := [some (vr (some w))]) (st2 := [vr (some w)]) rfl ?_
  obtain ⟨t_7, k⟩ := k
  refine R_new rfl ⟨by decide, t_7⟩ ?_
  show WP T N _ _ _ _ (grow h 9) _
  generalize e_5 : nx h = a_3
  generalize e_6 : grow h 9 = h_4
  replace k := k a_3 h_4 e_5.symm e_6.symm
  refine R_ps 1 (pc2 := 9) (L2 := [some (vr (some w))]) (st2 := [vr (some a_3), vr (some a_3), vr (some w)]) rfl ?_
  refine R_cV (as := [vr (some a_3)]) rfl rfl ⟨Nat.le_of_ble_eq_true rfl, Nat.le_of_ble_eq_true rfl, rfl, (Or.inr ⟨_, rfl, (e_5 ▸ t_7)⟩)⟩ rfl rfl k (fun h_9 k => ?_)
  refine R_putR rfl t0 ?_
  show WP T N _ _ _ _ (sr h_9 w 0 (some a_3)) _
  generalize e_13 : sr h_9 w 0 (some a_3) = h_12
  replace k := k h_12 e_13.symm
  refine R_ps 1 (pc2 := 16) (L2 := [some (vr (some w))]) (st2 := [vr (some w)]) rfl ?_
  obtain ⟨t_19, k⟩ := k
  refine R_new rfl ⟨by decide, t_19⟩ ?_
  show WP T N _ _ _ _ (grow h_12 9) _
  generalize e_17 : nx h_12 = a_15
  generalize e_18 : grow h_12 9 = h_16
  replace k := k a_15 h_16 e_17.symm e_18.symm
  refine R_ps 1 (pc2 := 20) (L2 := [some (vr (some w))]) (st2 := [vr (some a_15), vr (some a_15), vr (some w)]) rfl ?_
  refine R_cV (as := [vr (some a_15)]) rfl rfl ⟨Nat.le_of_ble_eq_true rfl, Nat.le_of_ble_eq_true rfl, rfl, (Or.inr ⟨_, rfl, (e_17 ▸ t_19)⟩)⟩ rfl rfl k (fun h_21 k => ?_)
  refine R_putR rfl t0 ?_
  show WP T N _ _ _ _ (sr h_21 w 1 (some a_15)) _
  generalize e_25 : sr h_21 w 1 (some a_15) = h_24
  replace k := k h_24 e_25.symm
  refine R_ps 1 (pc2 := 27) (L2 := [some (vr (some w))]) (st2 := [vr (some w)]) rfl ?_
  obtain ⟨t_31, k⟩ := k
  refine R_new rfl ⟨by decide, t_31⟩ ?_
  show WP T N _ _ _ _ (grow h_24 3) _
  generalize e_29 : nx h_24 = a_27
  generalize e_30 : grow h_24 3 = h_28
  replace k := k a_27 h_28 e_29.symm e_30.symm
  refine R_ps 1 (pc2 := 31) (L2 := [some (vr (some w))]) (st2 := [vr (some a_27), vr (some a_27), vr (some w)]) rfl ?_
  refine R_cV (as := [vr (some a_27)]) rfl rfl ⟨Nat.le_of_ble_eq_true rfl, Nat.le_of_ble_eq_true rfl, rfl, (Or.inr ⟨_, rfl, (e_29 ▸ t_31)⟩)⟩ rfl rfl k (fun h_33 k => ?_)
  refine R_putR rfl t0 ?_
  show WP T N _ _ _ _ (sr h_33 w 2 (some a_27)) _
  generalize e_37 : sr h_33 w 2 (some a_27) = h_36
  replace k := k h_36 e_37.symm
  refine R_ps 1 (pc2 := 38) (L2 := [some (vr (some w))]) (st2 := [vr (some w)]) rfl ?_
  obtain ⟨t_43, k⟩ := k
  refine R_new rfl ⟨by decide, t_43⟩ ?_
  show WP T N _ _ _ _ (grow h_36 18) _
  generalize e_41 : nx h_36 = a_39
  generalize e_42 : grow h_36 18 = h_40
  replace k := k a_39 h_40 e_41.symm e_42.symm
  refine R_ps 1 (pc2 := 42) (L2 := [some (vr (some w))]) (st2 := [vr (some a_39), vr (some a_39), vr (some w)]) rfl ?_
  refine R_cV (as := [vr (some a_39)]) rfl rfl ⟨Nat.le_of_ble_eq_true rfl, Nat.le_of_ble_eq_true rfl, rfl, (Or.inr ⟨_, rfl, (e_41 ▸ t_43)⟩)⟩ rfl rfl k (fun h_45 k => ?_)
  refine R_putR rfl t0 ?_
  show WP T N _ _ _ _ (sr h_45 w 3 (some a_39)) _
  generalize e_49 : sr h_45 w 3 (some a_39) = h_48
  replace k := k h_48 e_49.symm
  refine R_ps 1 (pc2 := 49) (L2 := [some (vr (some w))]) (st2 := [vr (some w)]) rfl ?_
  obtain ⟨t_55, k⟩ := k
  refine R_new rfl ⟨by decide, t_55⟩ ?_
  show WP T N _ _ _ _ (grow h_48 1) _
  generalize e_53 : nx h_48 = a_51
  generalize e_54 : grow h_48 1 = h_52
  replace k := k a_51 h_52 e_53.symm e_54.symm
  refine R_ps 1 (pc2 := 53) (L2 := [some (vr (some w))]) (st2 := [vr (some a_51), vr (some a_51), vr (some w)]) rfl ?_
  refine R_cV (as := [vr (some a_51)]) rfl rfl ⟨Nat.le_of_ble_eq_true rfl, Nat.le_of_ble_eq_true rfl, rfl, (Or.inr ⟨_, rfl, (e_53 ▸ t_55)⟩)⟩ rfl rfl k (fun h_57 k => ?_)
  refine R_putR rfl t0 ?_
  show WP T N _ _ _ _ (sr h_57 w 4 (some a_51)) _
  generalize e_61 : sr h_57 w 4 (some a_51) = h_60
  replace k := k h_60 e_61.symm
  refine R_ps 1 (pc2 := 60) (L2 := [some (vr (some w))]) (st2 := [vr (some w)]) rfl ?_
  obtain ⟨t_67, k⟩ := k
  refine R_new rfl ⟨by decide, t_67⟩ ?_
  show WP T N _ _ _ _ (grow h_60 2) _
  generalize e_65 : nx h_60 = a_63
  generalize e_66 : grow h_60 2 = h_64
  replace k := k a_63 h_64 e_65.symm e_66.symm
  refine R_ps 1 (pc2 := 64) (L2 := [some (vr (some w))]) (st2 := [vr (some a_63), vr (some a_63), vr (some w)]) rfl ?_
  refine R_cV (as := [vr (some a_63)]) rfl rfl ⟨Nat.le_of_ble_eq_true rfl, Nat.le_of_ble_eq_true rfl, rfl, (Or.inr ⟨_, rfl, (e_65 ▸ t_67)⟩)⟩ rfl rfl k (fun h_69 k => ?_)
  refine R_putR rfl t0 ?_
  show WP T N _ _ _ _ (sr h_69 w 5 (some a_63)) _
  generalize e_73 : sr h_69 w 5 (some a_63) = h_72
  replace k := k h_72 e_73.symm
  refine R_ps 1 (pc2 := 71) (L2 := [some (vr (some w))]) (st2 := [vr (some w)]) rfl ?_
  obtain ⟨t_79, k⟩ := k
  refine R_new rfl ⟨by decide, t_79⟩ ?_
  show WP T N _ _ _ _ (grow h_72 10) _
  generalize e_77 : nx h_72 = a_75
  generalize e_78 : grow h_72 10 = h_76
  replace k := k a_75 h_76 e_77.symm e_78.symm
  refine R_ps 1 (pc2 := 75) (L2 := [some (vr (some w))]) (st2 := [vr (some a_75), vr (some a_75), vr (some w)]) rfl ?_
  refine R_cV (as := [vr (some a_75)]) rfl rfl ⟨Nat.le_of_ble_eq_true rfl, Nat.le_of_ble_eq_true rfl, rfl, (Or.inr ⟨_, rfl, (e_77 ▸ t_79)⟩)⟩ rfl rfl k (fun h_81 k => ?_)
  refine R_putR rfl t0 ?_
  show WP T N _ _ _ _ (sr h_81 w 6 (some a_75)) _
  generalize e_85 : sr h_81 w 6 (some a_75) = h_84
  replace k := k h_84 e_85.symm
  refine R_ps 2 (pc2 := 83) (L2 := [some (vr (some w))]) (st2 := [vi 0, vr (some w)]) rfl ?_
  refine R_putZ rfl t0 (Or.inl rfl) ?_
  show WP T N _ _ _ _ (si h_84 w 7 0) _
  generalize e_88 : si h_84 w 7 0 = h_87
  replace k := k h_87 e_88.symm
  refine R_ps 2 (pc2 := 88) (L2 := [some (vr (some w))]) (st2 := [vi (-1), vr (some w)]) rfl ?_
  refine R_putI rfl t0 ?_
  show WP T N _ _ _ _ (si h_87 w 8 (-1)) _
  generalize e_91 : si h_87 w 8 (-1) = h_90
  replace k := k h_90 e_91.symm
  refine R_ps 2 (pc2 := 93) (L2 := [some (vr (some w))]) (st2 := [vi (-1), vr (some w)]) rfl ?_
  refine R_putI rfl t0 ?_
  show WP T N _ _ _ _ (si h_90 w 9 (-1)) _
  generalize e_94 : si h_90 w 9 (-1) = h_93
  replace k := k h_93 e_94.symm
  exact R_ret rfl rfl ⟨rfl, k⟩
/-- DroneCorridors.clear -/
theorem m105 {T N : Nat → Nat} {h : PH} {w : Nat} {K : Int32 → PH → Prop} (t0 : T w = 11) (k : (∃ a_3, (gr h w 0) = some a_3 ∧ T a_3 = 10 ∧ ∃ a_8, (gr h w 0) = some a_8 ∧ T a_8 = 10 ∧ CV T N 83 [vr (some a_8)] h (fun h_11 => (∃ a_15, (gr h_11 w 2) = some a_15 ∧ T a_15 = 5 ∧ CV T N 40 [vr (some a_15)] h_11 (fun h_18 => (K (gi h a_3 1) h_18)))))) : CI T N 105 [vr (some w)] h K := by
  show WP T N 105 0 [some (vr (some w)), none] [] h _
  refine R_ps 1 (pc2 := 1) (L2 := [some (vr (some w)), none]) (st2 := [vr (some w)]) rfl ?_
  refine R_getR rfl t0 ?_
  obtain ⟨a_3, e_4, k⟩ := k
  rw [e_4]
  obtain ⟨t_5, k⟩ := k
  refine R_getI rfl t_5 ?_
  refine R_ps 2 (pc2 := 9) (L2 := [some (vr (some w)), some (vi (gi h a_3 1))]) (st2 := [vr (some w)]) rfl ?_
  refine R_getR rfl t0 ?_
  obtain ⟨a_8, e_9, k⟩ := k
  rw [e_9]
  obtain ⟨t_10, k⟩ := k
  refine R_cV (as := [vr (some a_8)]) rfl rfl ⟨Nat.le_of_ble_eq_true rfl, Nat.le_of_ble_eq_true rfl, rfl, (Or.inr ⟨_, rfl, t_10⟩)⟩ rfl rfl k (fun h_11 k => ?_)
  refine R_ps 1 (pc2 := 16) (L2 := [some (vr (some w)), some (vi (gi h a_3 1))]) (st2 := [vr (some w)]) rfl ?_
  refine R_getR rfl t0 ?_
  obtain ⟨a_15, e_16, k⟩ := k
  rw [e_16]
  obtain ⟨t_17, k⟩ := k
  refine R_cV (as := [vr (some a_15)]) rfl rfl ⟨Nat.le_of_ble_eq_true rfl, Nat.le_of_ble_eq_true rfl, rfl, (Or.inr ⟨_, rfl, t_17⟩)⟩ rfl rfl k (fun h_18 k => ?_)
  refine R_ps 1 (pc2 := 23) (L2 := [some (vr (some w)), some (vi (gi h a_3 1))]) (st2 := [vi (gi h a_3 1)]) rfl ?_
  exact R_iret rfl rfl ⟨_, rfl, k⟩
/-- DroneCorridors.addNode -/
theorem m106 {T N : Nat → Nat} {h : PH} {w : Nat} {x1 : Int32} {K : PR → PH → Prop} (t0 : T w = 11) (k : (∃ a_3, (gr h w 0) = some a_3 ∧ T a_3 = 10 ∧ (((gi h a_3 1) < 10 → (∃ a_10, (gr h w 2) = some a_10 ∧ T a_10 = 5 ∧ CV T N 41 [vr (some a_10), vr (gr h w 0)] h (fun h_13 => (∃ a_17, (gr h_13 w 0) = some a_17 ∧ T a_17 = 10 ∧ CI T N 92 [vr (some a_17), vi x1] h_13 (fun x_21 h_20 => (K (.inl (some (vi x_21))) h_20)))))) ∧ (¬ ((gi h a_3 1) < 10) → ((∀ a, nx h ≤ a → T a = 0) ∧ K (.inr 0) (bump h)))))) : CALL T N 106 [vr (some w), vi x1] h K := by
  show WP T N 106 0 [some (vr (some w)), some (vi x1)] [] h _
  refine R_ps 1 (pc2 := 1) (L2 := [some (vr (some w)), some (vi x1)]) (st2 := [vr (some w)]) rfl ?_
  refine R_getR rfl t0 ?_
  obtain ⟨a_3, e_4, k⟩ := k
  rw [e_4]
  obtain ⟨t_5, k⟩ := k
  refine R_getI rfl t_5 ?_
  refine R_ps 1 (pc2 := 9) (L2 := [some (vr (some w)), some (vi x1)]) (st2 := [vi 10, vi (gi h a_3 1)]) rfl ?_
  refine R_if rfl (fun c_6 => ?_) (fun c_6 => ?_)
  · have k := k.1 c_6
    refine R_ps 1 (pc2 := 23) (L2 := [some (vr (some w)), some (vi x1)]) (st2 := [vr (some w)]) rfl ?_
    refine R_getR rfl t0 ?_
    refine R_ps 1 (pc2 := 27) (L2 := [some (vr (some w)), some (vi x1)]) (st2 := [vr (some w), vr (gr h w 2)]) rfl ?_
    refine R_getR rfl t0 ?_
    obtain ⟨a_10, e_11, k⟩ := k
    rw [e_11]
    obtain ⟨t_12, k⟩ := k
    refine R_cV (as := [vr (some a_10), vr (gr h w 0)]) rfl rfl ⟨Nat.le_of_ble_eq_true rfl, Nat.le_of_ble_eq_true rfl, rfl, (Or.inr ⟨_, rfl, t_12⟩)⟩ rfl rfl k (fun h_13 k => ?_)
    refine R_ps 1 (pc2 := 34) (L2 := [some (vr (some w)), some (vi x1)]) (st2 := [vr (some w)]) rfl ?_
    refine R_getR rfl t0 ?_
    refine R_ps 1 (pc2 := 38) (L2 := [some (vr (some w)), some (vi x1)]) (st2 := [vi x1, vr (gr h_13 w 0)]) rfl ?_
    obtain ⟨a_17, e_18, k⟩ := k
    rw [e_18]
    obtain ⟨t_19, k⟩ := k
    refine R_cI (as := [vr (some a_17), vi x1]) rfl rfl ⟨Nat.le_of_ble_eq_true rfl, Nat.le_of_ble_eq_true rfl, rfl, (Or.inr ⟨_, rfl, t_19⟩)⟩ rfl rfl k (fun x_21 h_20 k => ?_)
    exact R_iret rfl rfl k
  · have k := k.2 c_6
    obtain ⟨t_24, k⟩ := k
    exact R_throw rfl rfl ⟨Nat.le_of_ble_eq_true rfl, t_24⟩ k
/-- DroneCorridors.addCorridor -/
theorem m107 {T N : Nat → Nat} {h : PH} {w : Nat} {x1 : Int32} {x2 : Int32} {x3 : Int32} {x4 : Int32} {K : PR → PH → Prop} (t0 : T w = 11) (k : (∃ a_3, (gr h w 0) = some a_3 ∧ T a_3 = 10 ∧ CI T N 88 [vr (some a_3), vi x1] h (fun x_7 h_6 => (((x_7 = 0 → ((∀ a, nx h_6 ≤ a → T a = 0) ∧ K (.inr 2) (bump h_6))) ∧ (¬ (x_7 = 0) → (∃ a_13, (gr h_6 w 0) = some a_13 ∧ T a_13 = 10 ∧ CI T N 88 [vr (some a_13), vi x2] h_6 (fun x_17 h_16 => (((x_17 = 0 → ((∀ a, nx h_16 ≤ a → T a = 0) ∧ K (.inr 2) (bump h_16))) ∧ (¬ (x_17 = 0) → (((x1 = x2 → ((∀ a, nx h_16 ≤ a → T a = 0) ∧ K (.inr 1) (bump h_16))) ∧ (¬ (x1 = x2) → (((x3 < 1 → ((∀ a, nx h_16 ≤ a → T a = 0) ∧ K (.inr 1) (bump h_16))) ∧ (¬ (x3 < 1) → (((9 < x3 → ((∀ a, nx h_16 ≤ a → T a = 0) ∧ K (.inr 1) (bump h_16))) ∧ (¬ (9 < x3) → (CI T N 147 [vi x3, vi x4] h_16 (fun x_30 h_29 => (((x_30 = 0 → ((∀ a, nx h_29 ≤ a → T a = 0) ∧ K (.inr 1) (bump h_29))) ∧ (¬ (x_30 = 0) → (∃ a_34, (gr h_29 w 0) = some a_34 ∧ T a_34 = 10 ∧ (((gi h_29 a_34 3) < 16 → (∃ a_41, (gr h_29 w 2) = some a_41 ∧ T a_41 = 5 ∧ CV T N 41 [vr (some a_41), vr (gr h_29 w 0)] h_29 (fun h_44 => (∃ a_48, (gr h_44 w 0) = some a_48 ∧ T a_48 = 10 ∧ CI T N 93 [vr (some a_48), vi x1, vi x2, vi x3, vi x4] h_44 (fun x_52 h_51 => (K (.inl (some (vi x_52))) h_51)))))) ∧ (¬ ((gi h_29 a_34 3) < 16) → ((∀ a, nx h_29 ≤ a → T a = 0) ∧ K (.inr 0) (bump h_29)))))))))))))))))))))))))))))) : CALL T N 107 [vr (some w), vi x1, vi x2, vi x3, vi x4] h K := by
  show WP T N 107 0 [some (vr (some w)), some (vi x1), some (vi x2), some (vi x3), some (vi x4)] [] h _
  refine R_ps 1 (pc2 := 1) (L2 := [some (vr (some w)), some (vi x1), some (vi x2), some (vi x3), some (vi x4)]) (st2 := [vr (some w)]) rfl ?_
  refine R_getR rfl t0 ?_
  refine R_ps 1 (pc2 := 5) (L2 := [some (vr (some w)), some (vi x1), some (vi x2), some (vi x3), some (vi x4)]) (st2 := [vi x1, vr (gr h w 0)]) rfl ?_
  obtain ⟨a_3, e_4, k⟩ := k
  rw [e_4]
  obtain ⟨t_5, k⟩ := k
  refine R_cI (as := [vr (some a_3), vi x1]) rfl rfl ⟨Nat.le_of_ble_eq_true rfl, Nat.le_of_ble_eq_true rfl, rfl, (Or.inr ⟨_, rfl, t_5⟩)⟩ rfl rfl k (fun x_7 h_6 k => ?_)
  refine R_if0 rfl (fun c_8 => ?_) (fun c_8 => ?_)
  · have k := k.1 c_8
    obtain ⟨t_10, k⟩ := k
    exact R_throw rfl rfl ⟨Nat.le_of_ble_eq_true rfl, t_10⟩ k
  · have k := k.2 c_8
    refine R_ps 1 (pc2 := 12) (L2 := [some (vr (some w)), some (vi x1), some (vi x2), some (vi x3), some (vi x4)]) (st2 := [vr (some w)]) rfl ?_
    refine R_getR rfl t0 ?_
    refine R_ps 1 (pc2 := 16) (L2 := [some (vr (some w)), some (vi x1), some (vi x2), some (vi x3), some (vi x4)]) (st2 := [vi x2, vr (gr h_6 w 0)]) rfl ?_
    obtain ⟨a_13, e_14, k⟩ := k
    rw [e_14]
    obtain ⟨t_15, k⟩ := k
    refine R_cI (as := [vr (some a_13), vi x2]) rfl rfl ⟨Nat.le_of_ble_eq_true rfl, Nat.le_of_ble_eq_true rfl, rfl, (Or.inr ⟨_, rfl, t_15⟩)⟩ rfl rfl k (fun x_17 h_16 k => ?_)
    refine R_if0 rfl (fun c_18 => ?_) (fun c_18 => ?_)
    · have k := k.2 c_18
      refine R_ps 2 (pc2 := 34) (L2 := [some (vr (some w)), some (vi x1), some (vi x2), some (vi x3), some (vi x4)]) (st2 := [vi x2, vi x1]) rfl ?_
      refine R_if rfl (fun c_19 => ?_) (fun c_19 => ?_)
      · have k := k.1 c_19
        obtain ⟨t_21, k⟩ := k
        exact R_throw rfl rfl ⟨Nat.le_of_ble_eq_true rfl, t_21⟩ k
      · have k := k.2 c_19
        refine R_ps 2 (pc2 := 39) (L2 := [some (vr (some w)), some (vi x1), some (vi x2), some (vi x3), some (vi x4)]) (st2 := [vi 1, vi x3]) rfl ?_
        refine R_if rfl (fun c_22 => ?_) (fun c_22 => ?_)
        · have k := k.1 c_22
          obtain ⟨t_24, k⟩ := k
          exact R_throw rfl rfl ⟨Nat.le_of_ble_eq_true rfl, t_24⟩ k
        · have k := k.2 c_22
          refine R_ps 2 (pc2 := 45) (L2 := [some (vr (some w)), some (vi x1), some (vi x2), some (vi x3), some (vi x4)]) (st2 := [vi 9, vi x3]) rfl ?_
          refine R_if rfl (fun c_25 => ?_) (fun c_25 => ?_)
          · have k := k.1 c_25
            obtain ⟨t_27, k⟩ := k
            exact R_throw rfl rfl ⟨Nat.le_of_ble_eq_true rfl, t_27⟩ k
          · have k := k.2 c_25
            refine R_ps 2 (pc2 := 51) (L2 := [some (vr (some w)), some (vi x1), some (vi x2), some (vi x3), some (vi x4)]) (st2 := [vi x4, vi x3]) rfl ?_
            refine R_cI (as := [vi x3, vi x4]) rfl rfl ⟨Nat.le_of_ble_eq_true rfl, Nat.le_of_ble_eq_true rfl, rfl, (Or.inl rfl)⟩ rfl rfl k (fun x_30 h_29 k => ?_)
            refine R_if0 rfl (fun c_31 => ?_) (fun c_31 => ?_)
            · have k := k.2 c_31
              refine R_ps 1 (pc2 := 68) (L2 := [some (vr (some w)), some (vi x1), some (vi x2), some (vi x3), some (vi x4)]) (st2 := [vr (some w)]) rfl ?_
              refine R_getR rfl t0 ?_
              obtain ⟨a_34, e_35, k⟩ := k
              rw [e_35]
              obtain ⟨t_36, k⟩ := k
              refine R_getI rfl t_36 ?_
              refine R_ps 1 (pc2 := 76) (L2 := [some (vr (some w)), some (vi x1), some (vi x2), some (vi x3), some (vi x4)]) (st2 := [vi 16, vi (gi h_29 a_34 3)]) rfl ?_
              refine R_if rfl (fun c_37 => ?_) (fun c_37 => ?_)
              · have k := k.1 c_37
                refine R_ps 1 (pc2 := 90) (L2 := [some (vr (some w)), some (vi x1), some (vi x2), some (vi x3), some (vi x4)]) (st2 := [vr (some w)]) rfl ?_
                refine R_getR rfl t0 ?_
                refine R_ps 1 (pc2 := 94) (L2 := [some (vr (some w)), some (vi x1), some (vi x2), some (vi x3), some (vi x4)]) (st2 := [vr (some w), vr (gr h_29 w 2)]) rfl ?_
                refine R_getR rfl t0 ?_
                obtain ⟨a_41, e_42, k⟩ := k
                rw [e_42]
                obtain ⟨t_43, k⟩ := k
                refine R_cV (as := [vr (some a_41), vr (gr h_29 w 0)]) rfl rfl ⟨Nat.le_of_ble_eq_true rfl, Nat.le_of_ble_eq_true rfl, rfl, (Or.inr ⟨_, rfl, t_43⟩)⟩ rfl rfl k (fun h_44 k => ?_)
                refine R_ps 1 (pc2 := 101) (L2 := [some (vr (some w)), some (vi x1), some (vi x2), some (vi x3), some (vi x4)]) (st2 := [vr (some w)]) rfl ?_
                refine R_getR rfl t0 ?_
                refine R_ps 4 (pc2 := 109) (L2 := [some (vr (some w)), some (vi x1), some (vi x2), some (vi x3), some (vi x4)]) (st2 := [vi x4, vi x3, vi x2, vi x1, vr (gr h_44 w 0)]) rfl ?_
                obtain ⟨a_48, e_49, k⟩ := k
                rw [e_49]
                obtain ⟨t_50, k⟩ := k
                refine R_cI (as := [vr (some a_48), vi x1, vi x2, vi x3, vi x4]) rfl rfl ⟨Nat.le_of_ble_eq_true rfl, Nat.le_of_ble_eq_true rfl, rfl, (Or.inr ⟨_, rfl, t_50⟩)⟩ rfl rfl k (fun x_52 h_51 k => ?_)
                exact R_iret rfl rfl k
              · have k := k.2 c_37
                obtain ⟨t_55, k⟩ := k
                exact R_throw rfl rfl ⟨Nat.le_of_ble_eq_true rfl, t_55⟩ k
            · have k := k.1 (Classical.not_not.mp c_31)
              obtain ⟨t_57, k⟩ := k
              exact R_throw rfl rfl ⟨Nat.le_of_ble_eq_true rfl, t_57⟩ k
    · have k := k.1 (Classical.not_not.mp c_18)
      obtain ⟨t_59, k⟩ := k
      exact R_throw rfl rfl ⟨Nat.le_of_ble_eq_true rfl, t_59⟩ k
/-- DroneCorridors.setWind -/
theorem m108 {T N : Nat → Nat} {h : PH} {w : Nat} {x1 : Int32} {x2 : Int32} {K : PR → PH → Prop} (t0 : T w = 11) (k : (∃ a_3, (gr h w 0) = some a_3 ∧ T a_3 = 10 ∧ CR T N 89 [vr (some a_3), vi x1] h (fun x_7 h_6 => (((x_7 = none → ((∀ a, nx h_6 ≤ a → T a = 0) ∧ K (.inr 2) (bump h_6))) ∧ (∀ a_9, x_7 = some a_9 → (T a_9 = 2 ∧ CI T N 147 [vi (gi h_6 a_9 2), vi x2] h_6 (fun x_17 h_16 => (((x_17 = 0 → ((∀ a, nx h_16 ≤ a → T a = 0) ∧ K (.inr 1) (bump h_16))) ∧ (¬ (x_17 = 0) → (∃ a_22, (gr h_16 w 2) = some a_22 ∧ T a_22 = 5 ∧ CV T N 41 [vr (some a_22), vr (gr h_16 w 0)] h_16 (fun h_25 => (∀ h_29, h_29 = si h_25 a_9 3 x2 → K (.inl (some (vi (gi h_25 a_9 3)))) h_29)))))))))))))) : CALL T N 108 [vr (some w), vi x1, vi x2] h K := by
  show WP T N 108 0 [some (vr (some w)), some (vi x1), some (vi x2), none, none] [] h _
  refine R_ps 1 (pc2 := 1) (L2 := [some (vr (some w)), some (vi x1), some (vi x2), none, none]) (st2 := [vr (some w)]) rfl ?_
  refine R_getR rfl t0 ?_
  refine R_ps 1 (pc2 := 5) (L2 := [some (vr (some w)), some (vi x1), some (vi x2), none, none]) (st2 := [vi x1, vr (gr h w 0)]) rfl ?_
  obtain ⟨a_3, e_4, k⟩ := k
  rw [e_4]
  obtain ⟨t_5, k⟩ := k
  refine R_cR (as := [vr (some a_3), vi x1]) rfl rfl ⟨Nat.le_of_ble_eq_true rfl, Nat.le_of_ble_eq_true rfl, rfl, (Or.inr ⟨_, rfl, t_5⟩)⟩ rfl rfl k (fun x_7 h_6 k => ?_)
  refine R_ps 2 (pc2 := 10) (L2 := [some (vr (some w)), some (vi x1), some (vi x2), some (vr x_7), none]) (st2 := [vr x_7]) rfl ?_
  rcases null_or (x_7) with e_10 | ⟨a_9, e_10⟩
  · have k := k.1 e_10
    rw [e_10]
    refine R_nonnull rfl (fun _ => ?_) (fun _ c_8 => nomatch c_8)
    obtain ⟨t_12, k⟩ := k
    exact R_throw rfl rfl ⟨Nat.le_of_ble_eq_true rfl, t_12⟩ k
  · have k := k.2 a_9 e_10
    rw [e_10]
    refine R_nonnull rfl (fun c_8 => nomatch c_8) (fun _ _ => ?_)
    refine R_ps 1 (pc2 := 24) (L2 := [some (vr (some w)), some (vi x1), some (vi x2), some (vr (some a_9)), none]) (st2 := [vr (some a_9)]) rfl ?_
    obtain ⟨t_14, k⟩ := k
    refine R_getI rfl t_14 ?_
    refine R_ps 1 (pc2 := 28) (L2 := [some (vr (some w)), some (vi x1), some (vi x2), some (vr (some a_9)), none]) (st2 := [vi x2, vi (gi h_6 a_9 2)]) rfl ?_
    refine R_cI (as := [vi (gi h_6 a_9 2), vi x2]) rfl rfl ⟨Nat.le_of_ble_eq_true rfl, Nat.le_of_ble_eq_true rfl, rfl, (Or.inl rfl)⟩ rfl rfl k (fun x_17 h_16 k => ?_)
    refine R_if0 rfl (fun c_18 => ?_) (fun c_18 => ?_)
    · have k := k.2 c_18
      refine R_ps 1 (pc2 := 45) (L2 := [some (vr (some w)), some (vi x1), some (vi x2), some (vr (some a_9)), none]) (st2 := [vr (some w)]) rfl ?_
      refine R_getR rfl t0 ?_
      refine R_ps 1 (pc2 := 49) (L2 := [some (vr (some w)), some (vi x1), some (vi x2), some (vr (some a_9)), none]) (st2 := [vr (some w), vr (gr h_16 w 2)]) rfl ?_
      refine R_getR rfl t0 ?_
      obtain ⟨a_22, e_23, k⟩ := k
      rw [e_23]
      obtain ⟨t_24, k⟩ := k
      refine R_cV (as := [vr (some a_22), vr (gr h_16 w 0)]) rfl rfl ⟨Nat.le_of_ble_eq_true rfl, Nat.le_of_ble_eq_true rfl, rfl, (Or.inr ⟨_, rfl, t_24⟩)⟩ rfl rfl k (fun h_25 k => ?_)
      refine R_ps 1 (pc2 := 56) (L2 := [some (vr (some w)), some (vi x1), some (vi x2), some (vr (some a_9)), none]) (st2 := [vr (some a_9)]) rfl ?_
      refine R_getI rfl t_14 ?_
      refine R_ps 3 (pc2 := 63) (L2 := [some (vr (some w)), some (vi x1), some (vi x2), some (vr (some a_9)), some (vi (gi h_25 a_9 3))]) (st2 := [vi x2, vr (some a_9)]) rfl ?_
      refine R_putI rfl t_14 ?_
      show WP T N _ _ _ _ (si h_25 a_9 3 x2) _
      generalize e_30 : si h_25 a_9 3 x2 = h_29
      replace k := k h_29 e_30.symm
      refine R_ps 1 (pc2 := 68) (L2 := [some (vr (some w)), some (vi x1), some (vi x2), some (vr (some a_9)), some (vi (gi h_25 a_9 3))]) (st2 := [vi (gi h_25 a_9 3)]) rfl ?_
      exact R_iret rfl rfl k
    · have k := k.1 (Classical.not_not.mp c_18)
      obtain ⟨t_33, k⟩ := k
      exact R_throw rfl rfl ⟨Nat.le_of_ble_eq_true rfl, t_33⟩ k
/-- DroneCorridors.addFence -/
theorem m109 {T N : Nat → Nat} {h : PH} {w : Nat} {x1 : Int32} {x2 : Int32} {x3 : Int32} {x4 : Int32} {K : PR → PH → Prop} (t0 : T w = 11) (k : (∃ a_3, (gr h w 0) = some a_3 ∧ T a_3 = 10 ∧ CR T N 89 [vr (some a_3), vi x1] h (fun x_7 h_6 => (((x_7 = none → ((∀ a, nx h_6 ≤ a → T a = 0) ∧ K (.inr 2) (bump h_6))) ∧ (∀ a_9, x_7 = some a_9 → (((x2 < 1 → ((∀ a, nx h_6 ≤ a → T a = 0) ∧ K (.inr 1) (bump h_6))) ∧ (¬ (x2 < 1) → (((7 < x2 → ((∀ a, nx h_6 ≤ a → T a = 0) ∧ K (.inr 1) (bump h_6))) ∧ (¬ (7 < x2) → (((x3 < 0 → ((∀ a, nx h_6 ≤ a → T a = 0) ∧ K (.inr 1) (bump h_6))) ∧ (¬ (x3 < 0) → (((x3 < x4 → (((10000 < x4 → ((∀ a, nx h_6 ≤ a → T a = 0) ∧ K (.inr 1) (bump h_6))) ∧ (¬ (10000 < x4) → (∃ a_28, (gr h_6 w 0) = some a_28 ∧ T a_28 = 10 ∧ (((gi h_6 a_28 4) < 10 → (∃ a_35, (gr h_6 w 2) = some a_35 ∧ T a_35 = 5 ∧ CV T N 41 [vr (some a_35), vr (gr h_6 w 0)] h_6 (fun h_38 => (∃ a_42, (gr h_38 w 0) = some a_42 ∧ T a_42 = 10 ∧ CV T N 94 [vr (some a_42), vi x1, vi x2, vi x3, vi x4] h_38 (fun h_45 => (∃ a_49, (gr h_45 w 0) = some a_49 ∧ T a_49 = 10 ∧ CI T N 99 [vr (some a_49)] h_45 (fun x_53 h_52 => (K (.inl (some (vi x_53))) h_52)))))))) ∧ (¬ ((gi h_6 a_28 4) < 10) → ((∀ a, nx h_6 ≤ a → T a = 0) ∧ K (.inr 0) (bump h_6))))))))) ∧ (¬ (x3 < x4) → ((∀ a, nx h_6 ≤ a → T a = 0) ∧ K (.inr 1) (bump h_6)))))))))))))))))))) : CALL T N 109 [vr (some w), vi x1, vi x2, vi x3, vi x4] h K := by
  show WP T N 109 0 [some (vr (some w)), some (vi x1), some (vi x2), some (vi x3), some (vi x4)] [] h _
  refine R_ps 1 (pc2 := 1) (L2 := [some (vr (some w)), some (vi x1), some (vi x2), some (vi x3), some (vi x4)]) (st2 := [vr (some w)]) rfl ?_
  refine R_getR rfl t0 ?_
  refine R_ps 1 (pc2 := 5) (L2 := [some (vr (some w)), some (vi x1), some (vi x2), some (vi x3), some (vi x4)]) (st2 := [vi x1, vr (gr h w 0)]) rfl ?_
  obtain ⟨a_3, e_4, k⟩ := k
  rw [e_4]
  obtain ⟨t_5, k⟩ := k
  refine R_cR (as := [vr (some a_3), vi x1]) rfl rfl ⟨Nat.le_of_ble_eq_true rfl, Nat.le_of_ble_eq_true rfl, rfl, (Or.inr ⟨_, rfl, t_5⟩)⟩ rfl rfl k (fun x_7 h_6 k => ?_)
  rcases null_or (x_7) with e_10 | ⟨a_9, e_10⟩
  · have k := k.1 e_10
    rw [e_10]
    refine R_nonnull rfl (fun _ => ?_) (fun _ c_8 => nomatch c_8)
    obtain ⟨t_12, k⟩ := k
    exact R_throw rfl rfl ⟨Nat.le_of_ble_eq_true rfl, t_12⟩ k
  · have k := k.2 a_9 e_10
    rw [e_10]
    refine R_nonnull rfl (fun c_8 => nomatch c_8) (fun _ _ => ?_)
    refine R_ps 2 (pc2 := 23) (L2 := [some (vr (some w)), some (vi x1), some (vi x2), some (vi x3), some (vi x4)]) (st2 := [vi 1, vi x2]) rfl ?_
    refine R_if rfl (fun c_13 => ?_) (fun c_13 => ?_)
    · have k := k.1 c_13
      obtain ⟨t_15, k⟩ := k
      exact R_throw rfl rfl ⟨Nat.le_of_ble_eq_true rfl, t_15⟩ k
    · have k := k.2 c_13
      refine R_ps 2 (pc2 := 29) (L2 := [some (vr (some w)), some (vi x1), some (vi x2), some (vi x3), some (vi x4)]) (st2 := [vi 7, vi x2]) rfl ?_
      refine R_if rfl (fun c_16 => ?_) (fun c_16 => ?_)
      · have k := k.1 c_16
        obtain ⟨t_18, k⟩ := k
        exact R_throw rfl rfl ⟨Nat.le_of_ble_eq_true rfl, t_18⟩ k
      · have k := k.2 c_16
        refine R_ps 1 (pc2 := 33) (L2 := [some (vr (some w)), some (vi x1), some (vi x2), some (vi x3), some (vi x4)]) (st2 := [vi x3]) rfl ?_
        refine R_if0 rfl (fun c_19 => ?_) (fun c_19 => ?_)
        · have k := k.1 c_19
          obtain ⟨t_21, k⟩ := k
          exact R_throw rfl rfl ⟨Nat.le_of_ble_eq_true rfl, t_21⟩ k
        · have k := k.2 c_19
          refine R_ps 2 (pc2 := 39) (L2 := [some (vr (some w)), some (vi x1), some (vi x2), some (vi x3), some (vi x4)]) (st2 := [vi x3, vi x4]) rfl ?_
          refine R_if rfl (fun c_22 => ?_) (fun c_22 => ?_)
          · have k := k.2 (i32_nlt c_22)
            obtain ⟨t_24, k⟩ := k
            exact R_throw rfl rfl ⟨Nat.le_of_ble_eq_true rfl, t_24⟩ k
          · have k := k.1 (i32_lt c_22)
            refine R_ps 2 (pc2 := 47) (L2 := [some (vr (some w)), some (vi x1), some (vi x2), some (vi x3), some (vi x4)]) (st2 := [vi 10000, vi x4]) rfl ?_
            refine R_if rfl (fun c_25 => ?_) (fun c_25 => ?_)
            · have k := k.2 (i32_nlt c_25)
              refine R_ps 1 (pc2 := 61) (L2 := [some (vr (some w)), some (vi x1), some (vi x2), some (vi x3), some (vi x4)]) (st2 := [vr (some w)]) rfl ?_
              refine R_getR rfl t0 ?_
              obtain ⟨a_28, e_29, k⟩ := k
              rw [e_29]
              obtain ⟨t_30, k⟩ := k
              refine R_getI rfl t_30 ?_
              refine R_ps 1 (pc2 := 69) (L2 := [some (vr (some w)), some (vi x1), some (vi x2), some (vi x3), some (vi x4)]) (st2 := [vi 10, vi (gi h_6 a_28 4)]) rfl ?_
              refine R_if rfl (fun c_31 => ?_) (fun c_31 => ?_)
              · have k := k.1 c_31
                refine R_ps 1 (pc2 := 83) (L2 := [some (vr (some w)), some (vi x1), some (vi x2), some (vi x3), some (vi x4)]) (st2 := [vr (some w)]) rfl ?_
                refine R_getR rfl t0 ?_
                refine R_ps 1 (pc2 := 87) (L2 := [some (vr (some w)), some (vi x1), some (vi x2), some (vi x3), some (vi x4)]) (st2 := [vr (some w), vr (gr h_6 w 2)]) rfl ?_
                refine R_getR rfl t0 ?_
                obtain ⟨a_35, e_36, k⟩ := k
                rw [e_36]
                obtain ⟨t_37, k⟩ := k
                refine R_cV (as := [vr (some a_35), vr (gr h_6 w 0)]) rfl rfl ⟨Nat.le_of_ble_eq_true rfl, Nat.le_of_ble_eq_true rfl, rfl, (Or.inr ⟨_, rfl, t_37⟩)⟩ rfl rfl k (fun h_38 k => ?_)
                refine R_ps 1 (pc2 := 94) (L2 := [some (vr (some w)), some (vi x1), some (vi x2), some (vi x3), some (vi x4)]) (st2 := [vr (some w)]) rfl ?_
                refine R_getR rfl t0 ?_
                refine R_ps 4 (pc2 := 102) (L2 := [some (vr (some w)), some (vi x1), some (vi x2), some (vi x3), some (vi x4)]) (st2 := [vi x4, vi x3, vi x2, vi x1, vr (gr h_38 w 0)]) rfl ?_
                obtain ⟨a_42, e_43, k⟩ := k
                rw [e_43]
                obtain ⟨t_44, k⟩ := k
                refine R_cV (as := [vr (some a_42), vi x1, vi x2, vi x3, vi x4]) rfl rfl ⟨Nat.le_of_ble_eq_true rfl, Nat.le_of_ble_eq_true rfl, rfl, (Or.inr ⟨_, rfl, t_44⟩)⟩ rfl rfl k (fun h_45 k => ?_)
                refine R_ps 1 (pc2 := 106) (L2 := [some (vr (some w)), some (vi x1), some (vi x2), some (vi x3), some (vi x4)]) (st2 := [vr (some w)]) rfl ?_
                refine R_getR rfl t0 ?_
                obtain ⟨a_49, e_50, k⟩ := k
                rw [e_50]
                obtain ⟨t_51, k⟩ := k
                refine R_cI (as := [vr (some a_49)]) rfl rfl ⟨Nat.le_of_ble_eq_true rfl, Nat.le_of_ble_eq_true rfl, rfl, (Or.inr ⟨_, rfl, t_51⟩)⟩ rfl rfl k (fun x_53 h_52 k => ?_)
                exact R_iret rfl rfl k
              · have k := k.2 c_31
                obtain ⟨t_56, k⟩ := k
                exact R_throw rfl rfl ⟨Nat.le_of_ble_eq_true rfl, t_56⟩ k
            · have k := k.1 (i32_lt c_25)
              obtain ⟨t_58, k⟩ := k
              exact R_throw rfl rfl ⟨Nat.le_of_ble_eq_true rfl, t_58⟩ k
/-- DroneCorridors.removeFence -/
theorem m110 {T N : Nat → Nat} {h : PH} {w : Nat} {x1 : Int32} {K : PR → PH → Prop} (t0 : T w = 11) (k : (∃ a_3, (gr h w 0) = some a_3 ∧ T a_3 = 10 ∧ CR T N 90 [vr (some a_3), vi x1] h (fun x_7 h_6 => (((x_7 = none → ((∀ a, nx h_6 ≤ a → T a = 0) ∧ K (.inr 2) (bump h_6))) ∧ (∀ a_9, x_7 = some a_9 → (∃ a_16, (gr h_6 w 2) = some a_16 ∧ T a_16 = 5 ∧ CV T N 41 [vr (some a_16), vr (gr h_6 w 0)] h_6 (fun h_19 => (∃ a_23, (gr h_19 w 0) = some a_23 ∧ T a_23 = 10 ∧ CV T N 95 [vr (some a_23), vi x1] h_19 (fun h_26 => (∃ a_30, (gr h_26 w 0) = some a_30 ∧ T a_30 = 10 ∧ CI T N 99 [vr (some a_30)] h_26 (fun x_34 h_33 => (K (.inl (some (vi x_34))) h_33))))))))))))) : CALL T N 110 [vr (some w), vi x1] h K := by
  show WP T N 110 0 [some (vr (some w)), some (vi x1)] [] h _
  refine R_ps 1 (pc2 := 1) (L2 := [some (vr (some w)), some (vi x1)]) (st2 := [vr (some w)]) rfl ?_
  refine R_getR rfl t0 ?_
  refine R_ps 1 (pc2 := 5) (L2 := [some (vr (some w)), some (vi x1)]) (st2 := [vi x1, vr (gr h w 0)]) rfl ?_
  obtain ⟨a_3, e_4, k⟩ := k
  rw [e_4]
  obtain ⟨t_5, k⟩ := k
  refine R_cR (as := [vr (some a_3), vi x1]) rfl rfl ⟨Nat.le_of_ble_eq_true rfl, Nat.le_of_ble_eq_true rfl, rfl, (Or.inr ⟨_, rfl, t_5⟩)⟩ rfl rfl k (fun x_7 h_6 k => ?_)
  rcases null_or (x_7) with e_10 | ⟨a_9, e_10⟩
  · have k := k.1 e_10
    rw [e_10]
    refine R_nonnull rfl (fun _ => ?_) (fun _ c_8 => nomatch c_8)
    obtain ⟨t_12, k⟩ := k
    exact R_throw rfl rfl ⟨Nat.le_of_ble_eq_true rfl, t_12⟩ k
  · have k := k.2 a_9 e_10
    rw [e_10]
    refine R_nonnull rfl (fun c_8 => nomatch c_8) (fun _ _ => ?_)
    refine R_ps 1 (pc2 := 22) (L2 := [some (vr (some w)), some (vi x1)]) (st2 := [vr (some w)]) rfl ?_
    refine R_getR rfl t0 ?_
    refine R_ps 1 (pc2 := 26) (L2 := [some (vr (some w)), some (vi x1)]) (st2 := [vr (some w), vr (gr h_6 w 2)]) rfl ?_
    refine R_getR rfl t0 ?_
    obtain ⟨a_16, e_17, k⟩ := k
    rw [e_17]
    obtain ⟨t_18, k⟩ := k
    refine R_cV (as := [vr (some a_16), vr (gr h_6 w 0)]) rfl rfl ⟨Nat.le_of_ble_eq_true rfl, Nat.le_of_ble_eq_true rfl, rfl, (Or.inr ⟨_, rfl, t_18⟩)⟩ rfl rfl k (fun h_19 k => ?_)
    refine R_ps 1 (pc2 := 33) (L2 := [some (vr (some w)), some (vi x1)]) (st2 := [vr (some w)]) rfl ?_
    refine R_getR rfl t0 ?_
    refine R_ps 1 (pc2 := 37) (L2 := [some (vr (some w)), some (vi x1)]) (st2 := [vi x1, vr (gr h_19 w 0)]) rfl ?_
    obtain ⟨a_23, e_24, k⟩ := k
    rw [e_24]
    obtain ⟨t_25, k⟩ := k
    refine R_cV (as := [vr (some a_23), vi x1]) rfl rfl ⟨Nat.le_of_ble_eq_true rfl, Nat.le_of_ble_eq_true rfl, rfl, (Or.inr ⟨_, rfl, t_25⟩)⟩ rfl rfl k (fun h_26 k => ?_)
    refine R_ps 1 (pc2 := 41) (L2 := [some (vr (some w)), some (vi x1)]) (st2 := [vr (some w)]) rfl ?_
    refine R_getR rfl t0 ?_
    obtain ⟨a_30, e_31, k⟩ := k
    rw [e_31]
    obtain ⟨t_32, k⟩ := k
    refine R_cI (as := [vr (some a_30)]) rfl rfl ⟨Nat.le_of_ble_eq_true rfl, Nat.le_of_ble_eq_true rfl, rfl, (Or.inr ⟨_, rfl, t_32⟩)⟩ rfl rfl k (fun x_34 h_33 k => ?_)
    exact R_iret rfl rfl k
/-- DroneCorridors.fence -/
theorem m111 {T N : Nat → Nat} {h : PH} {w : Nat} {x1 : Int32} {x2 : Int32} {K : PR → PH → Prop} (t0 : T w = 11) (k : (∃ a_3, (gr h w 0) = some a_3 ∧ T a_3 = 10 ∧ CR T N 90 [vr (some a_3), vi x1] h (fun x_7 h_6 => (((x_7 = none → ((∀ a, nx h_6 ≤ a → T a = 0) ∧ K (.inr 2) (bump h_6))) ∧ (∀ a_9, x_7 = some a_9 → (((x2 = 0 → (T a_9 = 4 ∧ K (.inl (some (vi (gi h_6 a_9 0)))) h_6)) ∧ (¬ (x2 = 0) → ((x2 = 1 → (T a_9 = 4 ∧ K (.inl (some (vi (gi h_6 a_9 1)))) h_6)) ∧ (¬ (x2 = 1) → ((x2 = 2 → (T a_9 = 4 ∧ K (.inl (some (vi (gi h_6 a_9 2)))) h_6)) ∧ (¬ (x2 = 2) → ((x2 = 3 → (T a_9 = 4 ∧ K (.inl (some (vi (gi h_6 a_9 3)))) h_6)) ∧ (¬ (x2 = 3) → ((∀ a, nx h_6 ≤ a → T a = 0) ∧ K (.inr 1) (bump h_6))))))))))))))))) : CALL T N 111 [vr (some w), vi x1, vi x2] h K := by
  show WP T N 111 0 [some (vr (some w)), some (vi x1), some (vi x2), none] [] h _
  refine R_ps 1 (pc2 := 1) (L2 := [some (vr (some w)), some (vi x1), some (vi x2), none]) (st2 := [vr (some w)]) rfl ?_
  refine R_getR rfl t0 ?_
  refine R_ps 1 (pc2 := 5) (L2 := [some (vr (some w)), some (vi x1), some (vi x2), none]) (st2 := [vi x1, vr (gr h w 0)]) rfl ?_
  obtain ⟨a_3, e_4, k⟩ := k
  rw [e_4]
  obtain ⟨t_5, k⟩ := k
  refine R_cR (as := [vr (some a_3), vi x1]) rfl rfl ⟨Nat.le_of_ble_eq_true rfl, Nat.le_of_ble_eq_true rfl, rfl, (Or.inr ⟨_, rfl, t_5⟩)⟩ rfl rfl k (fun x_7 h_6 k => ?_)
  refine R_ps 2 (pc2 := 10) (L2 := [some (vr (some w)), some (vi x1), some (vi x2), some (vr x_7)]) (st2 := [vr x_7]) rfl ?_
  rcases null_or (x_7) with e_10 | ⟨a_9, e_10⟩
  · have k := k.1 e_10
    rw [e_10]
    refine R_nonnull rfl (fun _ => ?_) (fun _ c_8 => nomatch c_8)
    obtain ⟨t_12, k⟩ := k
    exact R_throw rfl rfl ⟨Nat.le_of_ble_eq_true rfl, t_12⟩ k
  · have k := k.2 a_9 e_10
    rw [e_10]
    refine R_nonnull rfl (fun c_8 => nomatch c_8) (fun _ _ => ?_)
    refine R_ps 1 (pc2 := 24) (L2 := [some (vr (some w)), some (vi x1), some (vi x2), some (vr (some a_9))]) (st2 := [vi x2]) rfl ?_
    refine R_tsw rfl rfl ?_
    refine ⟨fun c_13 => ?_, fun c_13 => ?_⟩
    · have k := k.1 c_13
      show WP T N _ 56 _ _ _ _
      refine R_ps 1 (pc2 := 57) (L2 := [some (vr (some w)), some (vi x1), some (vi x2), some (vr (some a_9))]) (st2 := [vr (some a_9)]) rfl ?_
      obtain ⟨t_15, k⟩ := k
      refine R_getI rfl t_15 ?_
      exact R_iret rfl rfl k
    replace k := k.2 c_13
    refine ⟨fun c_13 => ?_, fun c_13 => ?_⟩
    · have k := k.1 c_13
      show WP T N _ 61 _ _ _ _
      refine R_ps 1 (pc2 := 62) (L2 := [some (vr (some w)), some (vi x1), some (vi x2), some (vr (some a_9))]) (st2 := [vr (some a_9)]) rfl ?_
      obtain ⟨t_18, k⟩ := k
      refine R_getI rfl t_18 ?_
      exact R_iret rfl rfl k
    replace k := k.2 c_13
    refine ⟨fun c_13 => ?_, fun c_13 => ?_⟩
    · have k := k.1 c_13
      show WP T N _ 66 _ _ _ _
      refine R_ps 1 (pc2 := 67) (L2 := [some (vr (some w)), some (vi x1), some (vi x2), some (vr (some a_9))]) (st2 := [vr (some a_9)]) rfl ?_
      obtain ⟨t_21, k⟩ := k
      refine R_getI rfl t_21 ?_
      exact R_iret rfl rfl k
    replace k := k.2 c_13
    refine ⟨fun c_13 => ?_, fun c_13 => ?_⟩
    · have k := k.1 c_13
      show WP T N _ 71 _ _ _ _
      refine R_ps 1 (pc2 := 72) (L2 := [some (vr (some w)), some (vi x1), some (vi x2), some (vr (some a_9))]) (st2 := [vr (some a_9)]) rfl ?_
      obtain ⟨t_24, k⟩ := k
      refine R_getI rfl t_24 ?_
      exact R_iret rfl rfl k
    replace k := k.2 c_13
    show WP T N _ 76 _ _ _ _
    obtain ⟨t_27, k⟩ := k
    exact R_throw rfl rfl ⟨Nat.le_of_ble_eq_true rfl, t_27⟩ k
/-- DroneCorridors.corridor -/
theorem m112 {T N : Nat → Nat} {h : PH} {w : Nat} {x1 : Int32} {x2 : Int32} {K : PR → PH → Prop} (t0 : T w = 11) (k : (∃ a_3, (gr h w 0) = some a_3 ∧ T a_3 = 10 ∧ CR T N 89 [vr (some a_3), vi x1] h (fun x_7 h_6 => (((x_7 = none → ((∀ a, nx h_6 ≤ a → T a = 0) ∧ K (.inr 2) (bump h_6))) ∧ (∀ a_9, x_7 = some a_9 → (((x2 = 0 → (T a_9 = 2 ∧ K (.inl (some (vi (gi h_6 a_9 0)))) h_6)) ∧ (¬ (x2 = 0) → ((x2 = 1 → (T a_9 = 2 ∧ K (.inl (some (vi (gi h_6 a_9 1)))) h_6)) ∧ (¬ (x2 = 1) → ((x2 = 2 → (T a_9 = 2 ∧ K (.inl (some (vi (gi h_6 a_9 2)))) h_6)) ∧ (¬ (x2 = 2) → ((x2 = 3 → (T a_9 = 2 ∧ K (.inl (some (vi (gi h_6 a_9 3)))) h_6)) ∧ (¬ (x2 = 3) → ((x2 = 4 → (T a_9 = 2 ∧ CI T N 10 [vr (some a_9), vi 0] h_6 (fun x_29 h_28 => (K (.inl (some (vi x_29))) h_28)))) ∧ (¬ (x2 = 4) → ((x2 = 5 → (T a_9 = 2 ∧ CI T N 10 [vr (some a_9), vi 1] h_6 (fun x_34 h_33 => (K (.inl (some (vi x_34))) h_33)))) ∧ (¬ (x2 = 5) → ((x2 = 6 → (∃ a_38, (gr h_6 w 0) = some a_38 ∧ T a_38 = 10 ∧ CI T N 98 [vr (some a_38), vi x1] h_6 (fun x_42 h_41 => (K (.inl (some (vi x_42))) h_41)))) ∧ (¬ (x2 = 6) → ((∀ a, nx h_6 ≤ a → T a = 0) ∧ K (.inr 1) (bump h_6))))))))))))))))))))))) : CALL T N 112 [vr (some w), vi x1, vi x2] h K := by
  show WP T N 112 0 [some (vr (some w)), some (vi x1), some (vi x2), none] [] h _
  refine R_ps 1 (pc2 := 1) (L2 := [some (vr (some w)), some (vi x1), some (vi x2), none]) (st2 := [vr (some w)]) rfl ?_
  refine R_getR rfl t0 ?_
  refine R_ps 1 (pc2 := 5) (L2 := [some (vr (some w)), some (vi x1), some (vi x2), none]) (st2 := [vi x1, vr (gr h w 0)]) rfl ?_
  obtain ⟨a_3, e_4, k⟩ := k
  rw [e_4]
  obtain ⟨t_5, k⟩ := k
  refine R_cR (as := [vr (some a_3), vi x1]) rfl rfl ⟨Nat.le_of_ble_eq_true rfl, Nat.le_of_ble_eq_true rfl, rfl, (Or.inr ⟨_, rfl, t_5⟩)⟩ rfl rfl k (fun x_7 h_6 k => ?_)
  refine R_ps 2 (pc2 := 10) (L2 := [some (vr (some w)), some (vi x1), some (vi x2), some (vr x_7)]) (st2 := [vr x_7]) rfl ?_
  rcases null_or (x_7) with e_10 | ⟨a_9, e_10⟩
  · have k := k.1 e_10
    rw [e_10]
    refine R_nonnull rfl (fun _ => ?_) (fun _ c_8 => nomatch c_8)
    obtain ⟨t_12, k⟩ := k
    exact R_throw rfl rfl ⟨Nat.le_of_ble_eq_true rfl, t_12⟩ k
  · have k := k.2 a_9 e_10
    rw [e_10]
    refine R_nonnull rfl (fun c_8 => nomatch c_8) (fun _ _ => ?_)
    refine R_ps 1 (pc2 := 24) (L2 := [some (vr (some w)), some (vi x1), some (vi x2), some (vr (some a_9))]) (st2 := [vi x2]) rfl ?_
    refine R_tsw rfl rfl ?_
    refine ⟨fun c_13 => ?_, fun c_13 => ?_⟩
    · have k := k.1 c_13
      show WP T N _ 68 _ _ _ _
      refine R_ps 1 (pc2 := 69) (L2 := [some (vr (some w)), some (vi x1), some (vi x2), some (vr (some a_9))]) (st2 := [vr (some a_9)]) rfl ?_
      obtain ⟨t_15, k⟩ := k
      refine R_getI rfl t_15 ?_
      exact R_iret rfl rfl k
    replace k := k.2 c_13
    refine ⟨fun c_13 => ?_, fun c_13 => ?_⟩
    · have k := k.1 c_13
      show WP T N _ 73 _ _ _ _
      refine R_ps 1 (pc2 := 74) (L2 := [some (vr (some w)), some (vi x1), some (vi x2), some (vr (some a_9))]) (st2 := [vr (some a_9)]) rfl ?_
      obtain ⟨t_18, k⟩ := k
      refine R_getI rfl t_18 ?_
      exact R_iret rfl rfl k
    replace k := k.2 c_13
    refine ⟨fun c_13 => ?_, fun c_13 => ?_⟩
    · have k := k.1 c_13
      show WP T N _ 78 _ _ _ _
      refine R_ps 1 (pc2 := 79) (L2 := [some (vr (some w)), some (vi x1), some (vi x2), some (vr (some a_9))]) (st2 := [vr (some a_9)]) rfl ?_
      obtain ⟨t_21, k⟩ := k
      refine R_getI rfl t_21 ?_
      exact R_iret rfl rfl k
    replace k := k.2 c_13
    refine ⟨fun c_13 => ?_, fun c_13 => ?_⟩
    · have k := k.1 c_13
      show WP T N _ 83 _ _ _ _
      refine R_ps 1 (pc2 := 84) (L2 := [some (vr (some w)), some (vi x1), some (vi x2), some (vr (some a_9))]) (st2 := [vr (some a_9)]) rfl ?_
      obtain ⟨t_24, k⟩ := k
      refine R_getI rfl t_24 ?_
      exact R_iret rfl rfl k
    replace k := k.2 c_13
    refine ⟨fun c_13 => ?_, fun c_13 => ?_⟩
    · have k := k.1 c_13
      show WP T N _ 88 _ _ _ _
      refine R_ps 2 (pc2 := 90) (L2 := [some (vr (some w)), some (vi x1), some (vi x2), some (vr (some a_9))]) (st2 := [vi 0, vr (some a_9)]) rfl ?_
      obtain ⟨t_27, k⟩ := k
      refine R_cI (as := [vr (some a_9), vi 0]) rfl rfl ⟨Nat.le_of_ble_eq_true rfl, Nat.le_of_ble_eq_true rfl, rfl, (Or.inr ⟨_, rfl, t_27⟩)⟩ rfl rfl k (fun x_29 h_28 k => ?_)
      exact R_iret rfl rfl k
    replace k := k.2 c_13
    refine ⟨fun c_13 => ?_, fun c_13 => ?_⟩
    · have k := k.1 c_13
      show WP T N _ 94 _ _ _ _
      refine R_ps 2 (pc2 := 96) (L2 := [some (vr (some w)), some (vi x1), some (vi x2), some (vr (some a_9))]) (st2 := [vi 1, vr (some a_9)]) rfl ?_
      obtain ⟨t_32, k⟩ := k
      refine R_cI (as := [vr (some a_9), vi 1]) rfl rfl ⟨Nat.le_of_ble_eq_true rfl, Nat.le_of_ble_eq_true rfl, rfl, (Or.inr ⟨_, rfl, t_32⟩)⟩ rfl rfl k (fun x_34 h_33 k => ?_)
      exact R_iret rfl rfl k
    replace k := k.2 c_13
    refine ⟨fun c_13 => ?_, fun c_13 => ?_⟩
    · have k := k.1 c_13
      show WP T N _ 100 _ _ _ _
      refine R_ps 1 (pc2 := 101) (L2 := [some (vr (some w)), some (vi x1), some (vi x2), some (vr (some a_9))]) (st2 := [vr (some w)]) rfl ?_
      refine R_getR rfl t0 ?_
      refine R_ps 1 (pc2 := 105) (L2 := [some (vr (some w)), some (vi x1), some (vi x2), some (vr (some a_9))]) (st2 := [vi x1, vr (gr h_6 w 0)]) rfl ?_
      obtain ⟨a_38, e_39, k⟩ := k
      rw [e_39]
      obtain ⟨t_40, k⟩ := k
      refine R_cI (as := [vr (some a_38), vi x1]) rfl rfl ⟨Nat.le_of_ble_eq_true rfl, Nat.le_of_ble_eq_true rfl, rfl, (Or.inr ⟨_, rfl, t_40⟩)⟩ rfl rfl k (fun x_42 h_41 k => ?_)
      exact R_iret rfl rfl k
    replace k := k.2 c_13
    show WP T N _ 109 _ _ _ _
    obtain ⟨t_45, k⟩ := k
    exact R_throw rfl rfl ⟨Nat.le_of_ble_eq_true rfl, t_45⟩ k
/-- DroneCorridors.isPad -/
theorem m113 {T N : Nat → Nat} {h : PH} {w : Nat} {x1 : Int32} {K : PR → PH → Prop} (t0 : T w = 11) (k : (∃ a_3, (gr h w 0) = some a_3 ∧ T a_3 = 10 ∧ CI T N 88 [vr (some a_3), vi x1] h (fun x_7 h_6 => (((x_7 = 0 → ((∀ a, nx h_6 ≤ a → T a = 0) ∧ K (.inr 2) (bump h_6))) ∧ (¬ (x_7 = 0) → (∃ a_11, (gr h_6 w 0) = some a_11 ∧ T a_11 = 10 ∧ CI T N 145 [vi (gi h_6 a_11 2), vi x1] h_6 (fun x_16 h_15 => ((x_16 = 0 ∨ x_16 = 1) ∧ K (.inl (some (vi x_16))) h_15))))))))) : CALL T N 113 [vr (some w), vi x1] h K := by
  show WP T N 113 0 [some (vr (some w)), some (vi x1)] [] h _
  refine R_ps 1 (pc2 := 1) (L2 := [some (vr (some w)), some (vi x1)]) (st2 := [vr (some w)]) rfl ?_
  refine R_getR rfl t0 ?_
  refine R_ps 1 (pc2 := 5) (L2 := [some (vr (some w)), some (vi x1)]) (st2 := [vi x1, vr (gr h w 0)]) rfl ?_
  obtain ⟨a_3, e_4, k⟩ := k
  rw [e_4]
  obtain ⟨t_5, k⟩ := k
  refine R_cI (as := [vr (some a_3), vi x1]) rfl rfl ⟨Nat.le_of_ble_eq_true rfl, Nat.le_of_ble_eq_true rfl, rfl, (Or.inr ⟨_, rfl, t_5⟩)⟩ rfl rfl k (fun x_7 h_6 k => ?_)
  refine R_if0 rfl (fun c_8 => ?_) (fun c_8 => ?_)
  · have k := k.2 c_8
    refine R_ps 1 (pc2 := 22) (L2 := [some (vr (some w)), some (vi x1)]) (st2 := [vr (some w)]) rfl ?_
    refine R_getR rfl t0 ?_
    obtain ⟨a_11, e_12, k⟩ := k
    rw [e_12]
    obtain ⟨t_13, k⟩ := k
    refine R_getI rfl t_13 ?_
    refine R_ps 1 (pc2 := 29) (L2 := [some (vr (some w)), some (vi x1)]) (st2 := [vi x1, vi (gi h_6 a_11 2)]) rfl ?_
    refine R_cI (as := [vi (gi h_6 a_11 2), vi x1]) rfl rfl ⟨Nat.le_of_ble_eq_true rfl, Nat.le_of_ble_eq_true rfl, rfl, (Or.inl rfl)⟩ rfl rfl k (fun x_16 h_15 k => ?_)
    obtain ⟨t_18, k⟩ := k
    exact R_zret rfl rfl t_18 k
  · have k := k.1 (Classical.not_not.mp c_8)
    obtain ⟨t_20, k⟩ := k
    exact R_throw rfl rfl ⟨Nat.le_of_ble_eq_true rfl, t_20⟩ k
/-- DroneCorridors.reserve -/
theorem m114 {T N : Nat → Nat} {h : PH} {w : Nat} {x1 : Int32} {K : PR → PH → Prop} (t0 : T w = 11) (k : (∃ a_3, (gr h w 0) = some a_3 ∧ T a_3 = 10 ∧ CI T N 88 [vr (some a_3), vi x1] h (fun x_7 h_6 => (((x_7 = 0 → ((∀ a, nx h_6 ≤ a → T a = 0) ∧ K (.inr 2) (bump h_6))) ∧ (¬ (x_7 = 0) → (∃ a_13, (gr h_6 w 0) = some a_13 ∧ T a_13 = 10 ∧ ∃ a_17, (gr h_6 w 4) = some a_17 ∧ T a_17 = 9 ∧ CV T N 79 [vr (some a_17), vr (some a_13), vi (gi h_6 a_13 2), vi 0] h_6 (fun h_20 => (∃ a_24, (gr h_20 w 4) = some a_24 ∧ T a_24 = 9 ∧ CI T N 78 [vr (some a_24), vi x1] h_20 (fun x_28 h_27 => (((x_28 < 1000000 → (K (.inl (some (vi x_28))) h_27)) ∧ (¬ (x_28 < 1000000) → ((∀ a, nx h_27 ≤ a → T a = 0) ∧ K (.inr 5) (bump h_27))))))))))))))) : CALL T N 114 [vr (some w), vi x1] h K := by
  show WP T N 114 0 [some (vr (some w)), some (vi x1), none] [] h _
  refine R_ps 1 (pc2 := 1) (L2 := [some (vr (some w)), some (vi x1), none]) (st2 := [vr (some w)]) rfl ?_
  refine R_getR rfl t0 ?_
  refine R_ps 1 (pc2 := 5) (L2 := [some (vr (some w)), some (vi x1), none]) (st2 := [vi x1, vr (gr h w 0)]) rfl ?_
  obtain ⟨a_3, e_4, k⟩ := k
  rw [e_4]
  obtain ⟨t_5, k⟩ := k
  refine R_cI (as := [vr (some a_3), vi x1]) rfl rfl ⟨Nat.le_of_ble_eq_true rfl, Nat.le_of_ble_eq_true rfl, rfl, (Or.inr ⟨_, rfl, t_5⟩)⟩ rfl rfl k (fun x_7 h_6 k => ?_)
  refine R_if0 rfl (fun c_8 => ?_) (fun c_8 => ?_)
  · have k := k.2 c_8
    refine R_ps 1 (pc2 := 22) (L2 := [some (vr (some w)), some (vi x1), none]) (st2 := [vr (some w)]) rfl ?_
    refine R_getR rfl t0 ?_
    refine R_ps 1 (pc2 := 26) (L2 := [some (vr (some w)), some (vi x1), none]) (st2 := [vr (some w), vr (gr h_6 w 4)]) rfl ?_
    refine R_getR rfl t0 ?_
    refine R_ps 1 (pc2 := 30) (L2 := [some (vr (some w)), some (vi x1), none]) (st2 := [vr (some w), vr (gr h_6 w 0), vr (gr h_6 w 4)]) rfl ?_
    refine R_getR rfl t0 ?_
    obtain ⟨a_13, e_14, k⟩ := k
    rw [e_14]
    obtain ⟨t_15, k⟩ := k
    refine R_getI rfl t_15 ?_
    refine R_ps 1 (pc2 := 37) (L2 := [some (vr (some w)), some (vi x1), none]) (st2 := [vi 0, vi (gi h_6 a_13 2), vr (some a_13), vr (gr h_6 w 4)]) rfl ?_
    obtain ⟨a_17, e_18, k⟩ := k
    rw [e_18]
    obtain ⟨t_19, k⟩ := k
    refine R_cV (as := [vr (some a_17), vr (some a_13), vi (gi h_6 a_13 2), vi 0]) rfl rfl ⟨Nat.le_of_ble_eq_true rfl, Nat.le_of_ble_eq_true rfl, rfl, (Or.inr ⟨_, rfl, t_19⟩)⟩ rfl rfl k (fun h_20 k => ?_)
    refine R_ps 1 (pc2 := 41) (L2 := [some (vr (some w)), some (vi x1), none]) (st2 := [vr (some w)]) rfl ?_
    refine R_getR rfl t0 ?_
    refine R_ps 1 (pc2 := 45) (L2 := [some (vr (some w)), some (vi x1), none]) (st2 := [vi x1, vr (gr h_20 w 4)]) rfl ?_
    obtain ⟨a_24, e_25, k⟩ := k
    rw [e_25]
    obtain ⟨t_26, k⟩ := k
    refine R_cI (as := [vr (some a_24), vi x1]) rfl rfl ⟨Nat.le_of_ble_eq_true rfl, Nat.le_of_ble_eq_true rfl, rfl, (Or.inr ⟨_, rfl, t_26⟩)⟩ rfl rfl k (fun x_28 h_27 k => ?_)
    refine R_ps 3 (pc2 := 52) (L2 := [some (vr (some w)), some (vi x1), some (vi x_28)]) (st2 := [vi 1000000, vi x_28]) rfl ?_
    refine R_if rfl (fun c_29 => ?_) (fun c_29 => ?_)
    · have k := k.1 c_29
      refine R_ps 1 (pc2 := 66) (L2 := [some (vr (some w)), some (vi x1), some (vi x_28)]) (st2 := [vi x_28]) rfl ?_
      exact R_iret rfl rfl k
    · have k := k.2 c_29
      obtain ⟨t_32, k⟩ := k
      exact R_throw rfl rfl ⟨Nat.le_of_ble_eq_true rfl, t_32⟩ k
  · have k := k.1 (Classical.not_not.mp c_8)
    obtain ⟨t_34, k⟩ := k
    exact R_throw rfl rfl ⟨Nat.le_of_ble_eq_true rfl, t_34⟩ k
/-- DroneCorridors.ticksBetween -/
theorem m115 {T N : Nat → Nat} {h : PH} {w : Nat} {x1 : Int32} {x2 : Int32} {K : PR → PH → Prop} (t0 : T w = 11) (k : (∃ a_3, (gr h w 0) = some a_3 ∧ T a_3 = 10 ∧ CI T N 88 [vr (some a_3), vi x1] h (fun x_7 h_6 => (((x_7 = 0 → ((∀ a, nx h_6 ≤ a → T a = 0) ∧ K (.inr 2) (bump h_6))) ∧ (¬ (x_7 = 0) → (∃ a_13, (gr h_6 w 0) = some a_13 ∧ T a_13 = 10 ∧ CI T N 88 [vr (some a_13), vi x2] h_6 (fun x_17 h_16 => (((x_17 = 0 → ((∀ a, nx h_16 ≤ a → T a = 0) ∧ K (.inr 2) (bump h_16))) ∧ (¬ (x_17 = 0) → (∃ a_22, (gr h_16 w 4) = some a_22 ∧ T a_22 = 9 ∧ CV T N 79 [vr (some a_22), vr (gr h_16 w 0), vi (1 <<< (x2 &&& 31)), vi 1] h_16 (fun h_25 => (∃ a_29, (gr h_25 w 4) = some a_29 ∧ T a_29 = 9 ∧ CI T N 78 [vr (some a_29), vi x1] h_25 (fun x_33 h_32 => (((x_33 < 1000000 → (K (.inl (some (vi x_33))) h_32)) ∧ (¬ (x_33 < 1000000) → ((∀ a, nx h_32 ≤ a → T a = 0) ∧ K (.inr 5) (bump h_32)))))))))))))))))))) : CALL T N 115 [vr (some w), vi x1, vi x2] h K := by
  show WP T N 115 0 [some (vr (some w)), some (vi x1), some (vi x2), none] [] h _
  refine R_ps 1 (pc2 := 1) (L2 := [some (vr (some w)), some (vi x1), some (vi x2), none]) (st2 := [vr (some w)]) rfl ?_
  refine R_getR rfl t0 ?_
  refine R_ps 1 (pc2 := 5) (L2 := [some (vr (some w)), some (vi x1), some (vi x2), none]) (st2 := [vi x1, vr (gr h w 0)]) rfl ?_
  obtain ⟨a_3, e_4, k⟩ := k
  rw [e_4]
  obtain ⟨t_5, k⟩ := k
  refine R_cI (as := [vr (some a_3), vi x1]) rfl rfl ⟨Nat.le_of_ble_eq_true rfl, Nat.le_of_ble_eq_true rfl, rfl, (Or.inr ⟨_, rfl, t_5⟩)⟩ rfl rfl k (fun x_7 h_6 k => ?_)
  refine R_if0 rfl (fun c_8 => ?_) (fun c_8 => ?_)
  · have k := k.1 c_8
    obtain ⟨t_10, k⟩ := k
    exact R_throw rfl rfl ⟨Nat.le_of_ble_eq_true rfl, t_10⟩ k
  · have k := k.2 c_8
    refine R_ps 1 (pc2 := 12) (L2 := [some (vr (some w)), some (vi x1), some (vi x2), none]) (st2 := [vr (some w)]) rfl ?_
    refine R_getR rfl t0 ?_
    refine R_ps 1 (pc2 := 16) (L2 := [some (vr (some w)), some (vi x1), some (vi x2), none]) (st2 := [vi x2, vr (gr h_6 w 0)]) rfl ?_
    obtain ⟨a_13, e_14, k⟩ := k
    rw [e_14]
    obtain ⟨t_15, k⟩ := k
    refine R_cI (as := [vr (some a_13), vi x2]) rfl rfl ⟨Nat.le_of_ble_eq_true rfl, Nat.le_of_ble_eq_true rfl, rfl, (Or.inr ⟨_, rfl, t_15⟩)⟩ rfl rfl k (fun x_17 h_16 k => ?_)
    refine R_if0 rfl (fun c_18 => ?_) (fun c_18 => ?_)
    · have k := k.2 c_18
      refine R_ps 1 (pc2 := 33) (L2 := [some (vr (some w)), some (vi x1), some (vi x2), none]) (st2 := [vr (some w)]) rfl ?_
      refine R_getR rfl t0 ?_
      refine R_ps 1 (pc2 := 37) (L2 := [some (vr (some w)), some (vi x1), some (vi x2), none]) (st2 := [vr (some w), vr (gr h_16 w 4)]) rfl ?_
      refine R_getR rfl t0 ?_
      refine R_ps 4 (pc2 := 44) (L2 := [some (vr (some w)), some (vi x1), some (vi x2), none]) (st2 := [vi 1, vi (1 <<< (x2 &&& 31)), vr (gr h_16 w 0), vr (gr h_16 w 4)]) rfl ?_
      obtain ⟨a_22, e_23, k⟩ := k
      rw [e_23]
      obtain ⟨t_24, k⟩ := k
      refine R_cV (as := [vr (some a_22), vr (gr h_16 w 0), vi (1 <<< (x2 &&& 31)), vi 1]) rfl rfl ⟨Nat.le_of_ble_eq_true rfl, Nat.le_of_ble_eq_true rfl, rfl, (Or.inr ⟨_, rfl, t_24⟩)⟩ rfl rfl k (fun h_25 k => ?_)
      refine R_ps 1 (pc2 := 48) (L2 := [some (vr (some w)), some (vi x1), some (vi x2), none]) (st2 := [vr (some w)]) rfl ?_
      refine R_getR rfl t0 ?_
      refine R_ps 1 (pc2 := 52) (L2 := [some (vr (some w)), some (vi x1), some (vi x2), none]) (st2 := [vi x1, vr (gr h_25 w 4)]) rfl ?_
      obtain ⟨a_29, e_30, k⟩ := k
      rw [e_30]
      obtain ⟨t_31, k⟩ := k
      refine R_cI (as := [vr (some a_29), vi x1]) rfl rfl ⟨Nat.le_of_ble_eq_true rfl, Nat.le_of_ble_eq_true rfl, rfl, (Or.inr ⟨_, rfl, t_31⟩)⟩ rfl rfl k (fun x_33 h_32 k => ?_)
      refine R_ps 3 (pc2 := 59) (L2 := [some (vr (some w)), some (vi x1), some (vi x2), some (vi x_33)]) (st2 := [vi 1000000, vi x_33]) rfl ?_
      refine R_if rfl (fun c_34 => ?_) (fun c_34 => ?_)
      · have k := k.1 c_34
        refine R_ps 1 (pc2 := 73) (L2 := [some (vr (some w)), some (vi x1), some (vi x2), some (vi x_33)]) (st2 := [vi x_33]) rfl ?_
        exact R_iret rfl rfl k
      · have k := k.2 c_34
        obtain ⟨t_37, k⟩ := k
        exact R_throw rfl rfl ⟨Nat.le_of_ble_eq_true rfl, t_37⟩ k
    · have k := k.1 (Classical.not_not.mp c_18)
      obtain ⟨t_39, k⟩ := k
      exact R_throw rfl rfl ⟨Nat.le_of_ble_eq_true rfl, t_39⟩ k
/-- DroneCorridors.count -/
theorem m116 {T N : Nat → Nat} {h : PH} {w : Nat} {x1 : Int32} {K : PR → PH → Prop} (t0 : T w = 11) (k : (((x1 = 0 → (∃ a_4, (gr h w 0) = some a_4 ∧ T a_4 = 10 ∧ K (.inl (some (vi (gi h a_4 1)))) h)) ∧ (¬ (x1 = 0) → ((x1 = 1 → (∃ a_10, (gr h w 0) = some a_10 ∧ T a_10 = 10 ∧ K (.inl (some (vi (gi h a_10 3)))) h)) ∧ (¬ (x1 = 1) → ((x1 = 2 → (∃ a_16, (gr h w 0) = some a_16 ∧ T a_16 = 10 ∧ K (.inl (some (vi (gi h a_16 5)))) h)) ∧ (¬ (x1 = 2) → ((x1 = 3 → (∃ a_22, (gr h w 0) = some a_22 ∧ T a_22 = 10 ∧ K (.inl (some (vi (gi h a_22 4)))) h)) ∧ (¬ (x1 = 3) → ((x1 = 4 → (∃ a_28, (gr h w 0) = some a_28 ∧ T a_28 = 10 ∧ K (.inl (some (vi (gi h a_28 0)))) h)) ∧ (¬ (x1 = 4) → ((x1 = 5 → (∃ a_34, (gr h w 0) = some a_34 ∧ T a_34 = 10 ∧ CI T N 97 [vr (some a_34), vi (x1 - 5)] h (fun x_38 h_37 => (K (.inl (some (vi x_38))) h_37)))) ∧ (¬ (x1 = 5) → ((x1 = 6 → (∃ a_42, (gr h w 0) = some a_42 ∧ T a_42 = 10 ∧ CI T N 97 [vr (some a_42), vi (x1 - 5)] h (fun x_46 h_45 => (K (.inl (some (vi x_46))) h_45)))) ∧ (¬ (x1 = 6) → ((x1 = 7 → (∃ a_50, (gr h w 0) = some a_50 ∧ T a_50 = 10 ∧ CI T N 97 [vr (some a_50), vi (x1 - 5)] h (fun x_54 h_53 => (K (.inl (some (vi x_54))) h_53)))) ∧ (¬ (x1 = 7) → ((x1 = 8 → (∃ a_58, (gr h w 0) = some a_58 ∧ T a_58 = 10 ∧ CI T N 97 [vr (some a_58), vi (x1 - 5)] h (fun x_62 h_61 => (K (.inl (some (vi x_62))) h_61)))) ∧ (¬ (x1 = 8) → ((∀ a, nx h ≤ a → T a = 0) ∧ K (.inr 1) (bump h)))))))))))))))))))))) : CALL T N 116 [vr (some w), vi x1] h K := by
  show WP T N 116 0 [some (vr (some w)), some (vi x1)] [] h _
  refine R_ps 1 (pc2 := 1) (L2 := [some (vr (some w)), some (vi x1)]) (st2 := [vi x1]) rfl ?_
  refine R_tsw rfl rfl ?_
  refine ⟨fun c_1 => ?_, fun c_1 => ?_⟩
  · have k := k.1 c_1
    show WP T N _ 52 _ _ _ _
    refine R_ps 1 (pc2 := 53) (L2 := [some (vr (some w)), some (vi x1)]) (st2 := [vr (some w)]) rfl ?_
    refine R_getR rfl t0 ?_
    obtain ⟨a_4, e_5, k⟩ := k
    rw [e_5]
    obtain ⟨t_6, k⟩ := k
    refine R_getI rfl t_6 ?_
    exact R_iret rfl rfl k
  replace k := k.2 c_1
  refine ⟨fun c_1 => ?_, fun c_1 => ?_⟩
  · have k := k.1 c_1
    show WP T N _ 60 _ _ _ _
    refine R_ps 1 (pc2 := 61) (L2 := [some (vr (some w)), some (vi x1)]) (st2 := [vr (some w)]) rfl ?_
    refine R_getR rfl t0 ?_
    obtain ⟨a_10, e_11, k⟩ := k
    rw [e_11]
    obtain ⟨t_12, k⟩ := k
    refine R_getI rfl t_12 ?_
    exact R_iret rfl rfl k
  replace k := k.2 c_1
  refine ⟨fun c_1 => ?_, fun c_1 => ?_⟩
  · have k := k.1 c_1
    show WP T N _ 68 _ _ _ _
    refine R_ps 1 (pc2 := 69) (L2 := [some (vr (some w)), some (vi x1)]) (st2 := [vr (some w)]) rfl ?_
    refine R_getR rfl t0 ?_
    obtain ⟨a_16, e_17, k⟩ := k
    rw [e_17]
    obtain ⟨t_18, k⟩ := k
    refine R_getI rfl t_18 ?_
    exact R_iret rfl rfl k
  replace k := k.2 c_1
  refine ⟨fun c_1 => ?_, fun c_1 => ?_⟩
  · have k := k.1 c_1
    show WP T N _ 76 _ _ _ _
    refine R_ps 1 (pc2 := 77) (L2 := [some (vr (some w)), some (vi x1)]) (st2 := [vr (some w)]) rfl ?_
    refine R_getR rfl t0 ?_
    obtain ⟨a_22, e_23, k⟩ := k
    rw [e_23]
    obtain ⟨t_24, k⟩ := k
    refine R_getI rfl t_24 ?_
    exact R_iret rfl rfl k
  replace k := k.2 c_1
  refine ⟨fun c_1 => ?_, fun c_1 => ?_⟩
  · have k := k.1 c_1
    show WP T N _ 84 _ _ _ _
    refine R_ps 1 (pc2 := 85) (L2 := [some (vr (some w)), some (vi x1)]) (st2 := [vr (some w)]) rfl ?_
    refine R_getR rfl t0 ?_
    obtain ⟨a_28, e_29, k⟩ := k
    rw [e_29]
    obtain ⟨t_30, k⟩ := k
    refine R_getI rfl t_30 ?_
    exact R_iret rfl rfl k
  replace k := k.2 c_1
  refine ⟨fun c_1 => ?_, fun c_1 => ?_⟩
  · have k := k.1 c_1
    show WP T N _ 92 _ _ _ _
    refine R_ps 1 (pc2 := 93) (L2 := [some (vr (some w)), some (vi x1)]) (st2 := [vr (some w)]) rfl ?_
    refine R_getR rfl t0 ?_
    refine R_ps 3 (pc2 := 99) (L2 := [some (vr (some w)), some (vi x1)]) (st2 := [vi (x1 - 5), vr (gr h w 0)]) rfl ?_
    obtain ⟨a_34, e_35, k⟩ := k
    rw [e_35]
    obtain ⟨t_36, k⟩ := k
    refine R_cI (as := [vr (some a_34), vi (x1 - 5)]) rfl rfl ⟨Nat.le_of_ble_eq_true rfl, Nat.le_of_ble_eq_true rfl, rfl, (Or.inr ⟨_, rfl, t_36⟩)⟩ rfl rfl k (fun x_38 h_37 k => ?_)
    exact R_iret rfl rfl k
  replace k := k.2 c_1
  refine ⟨fun c_1 => ?_, fun c_1 => ?_⟩
  · have k := k.1 c_1
    show WP T N _ 92 _ _ _ _
    refine R_ps 1 (pc2 := 93) (L2 := [some (vr (some w)), some (vi x1)]) (st2 := [vr (some w)]) rfl ?_
    refine R_getR rfl t0 ?_
    refine R_ps 3 (pc2 := 99) (L2 := [some (vr (some w)), some (vi x1)]) (st2 := [vi (x1 - 5), vr (gr h w 0)]) rfl ?_
    obtain ⟨a_42, e_43, k⟩ := k
    rw [e_43]
    obtain ⟨t_44, k⟩ := k
    refine R_cI (as := [vr (some a_42), vi (x1 - 5)]) rfl rfl ⟨Nat.le_of_ble_eq_true rfl, Nat.le_of_ble_eq_true rfl, rfl, (Or.inr ⟨_, rfl, t_44⟩)⟩ rfl rfl k (fun x_46 h_45 k => ?_)
    exact R_iret rfl rfl k
  replace k := k.2 c_1
  refine ⟨fun c_1 => ?_, fun c_1 => ?_⟩
  · have k := k.1 c_1
    show WP T N _ 92 _ _ _ _
    refine R_ps 1 (pc2 := 93) (L2 := [some (vr (some w)), some (vi x1)]) (st2 := [vr (some w)]) rfl ?_
    refine R_getR rfl t0 ?_
    refine R_ps 3 (pc2 := 99) (L2 := [some (vr (some w)), some (vi x1)]) (st2 := [vi (x1 - 5), vr (gr h w 0)]) rfl ?_
    obtain ⟨a_50, e_51, k⟩ := k
    rw [e_51]
    obtain ⟨t_52, k⟩ := k
    refine R_cI (as := [vr (some a_50), vi (x1 - 5)]) rfl rfl ⟨Nat.le_of_ble_eq_true rfl, Nat.le_of_ble_eq_true rfl, rfl, (Or.inr ⟨_, rfl, t_52⟩)⟩ rfl rfl k (fun x_54 h_53 k => ?_)
    exact R_iret rfl rfl k
  replace k := k.2 c_1
  refine ⟨fun c_1 => ?_, fun c_1 => ?_⟩
  · have k := k.1 c_1
    show WP T N _ 92 _ _ _ _
    refine R_ps 1 (pc2 := 93) (L2 := [some (vr (some w)), some (vi x1)]) (st2 := [vr (some w)]) rfl ?_
    refine R_getR rfl t0 ?_
    refine R_ps 3 (pc2 := 99) (L2 := [some (vr (some w)), some (vi x1)]) (st2 := [vi (x1 - 5), vr (gr h w 0)]) rfl ?_
    obtain ⟨a_58, e_59, k⟩ := k
    rw [e_59]
    obtain ⟨t_60, k⟩ := k
    refine R_cI (as := [vr (some a_58), vi (x1 - 5)]) rfl rfl ⟨Nat.le_of_ble_eq_true rfl, Nat.le_of_ble_eq_true rfl, rfl, (Or.inr ⟨_, rfl, t_60⟩)⟩ rfl rfl k (fun x_62 h_61 k => ?_)
    exact R_iret rfl rfl k
  replace k := k.2 c_1
  show WP T N _ 103 _ _ _ _
  obtain ⟨t_65, k⟩ := k
  exact R_throw rfl rfl ⟨Nat.le_of_ble_eq_true rfl, t_65⟩ k
/-- DroneCorridors.addDrone -/
theorem m117 {T N : Nat → Nat} {h : PH} {w : Nat} {x1 : Int32} {x2 : Int32} {K : PR → PH → Prop} (t0 : T w = 11) (k : (∃ a_3, (gr h w 0) = some a_3 ∧ T a_3 = 10 ∧ CI T N 88 [vr (some a_3), vi x1] h (fun x_7 h_6 => (((x_7 = 0 → ((∀ a, nx h_6 ≤ a → T a = 0) ∧ K (.inr 2) (bump h_6))) ∧ (¬ (x_7 = 0) → (((x2 < 1 → ((∀ a, nx h_6 ≤ a → T a = 0) ∧ K (.inr 1) (bump h_6))) ∧ (¬ (x2 < 1) → (((200 < x2 → ((∀ a, nx h_6 ≤ a → T a = 0) ∧ K (.inr 1) (bump h_6))) ∧ (¬ (200 < x2) → (∃ a_15, (gr h_6 w 0) = some a_15 ∧ T a_15 = 10 ∧ (((gi h_6 a_15 5) < 6 → (∃ a_22, (gr h_6 w 2) = some a_22 ∧ T a_22 = 5 ∧ CV T N 41 [vr (some a_22), vr (gr h_6 w 0)] h_6 (fun h_25 => (∃ a_29, (gr h_25 w 0) = some a_29 ∧ T a_29 = 10 ∧ CI T N 96 [vr (some a_29), vi x1, vi x2] h_25 (fun x_33 h_32 => (K (.inl (some (vi x_33))) h_32)))))) ∧ (¬ ((gi h_6 a_15 5) < 6) → ((∀ a, nx h_6 ≤ a → T a = 0) ∧ K (.inr 0) (bump h_6))))))))))))))))) : CALL T N 117 [vr (some w), vi x1, vi x2] h K := by
  show WP T N 117 0 [some (vr (some w)), some (vi x1), some (vi x2)] [] h _
  refine R_ps 1 (pc2 := 1) (L2 := [some (vr (some w)), some (vi x1), some (vi x2)]) (st2 := [vr (some w)]) rfl ?_
  refine R_getR rfl t0 ?_
  refine R_ps 1 (pc2 := 5) (L2 := [some (vr (some w)), some (vi x1), some (vi x2)]) (st2 := [vi x1, vr (gr h w 0)]) rfl ?_
  obtain ⟨a_3, e_4, k⟩ := k
  rw [e_4]
  obtain ⟨t_5, k⟩ := k
  refine R_cI (as := [vr (some a_3), vi x1]) rfl rfl ⟨Nat.le_of_ble_eq_true rfl, Nat.le_of_ble_eq_true rfl, rfl, (Or.inr ⟨_, rfl, t_5⟩)⟩ rfl rfl k (fun x_7 h_6 k => ?_)
  refine R_if0 rfl (fun c_8 => ?_) (fun c_8 => ?_)
  · have k := k.2 c_8
    refine R_ps 2 (pc2 := 23) (L2 := [some (vr (some w)), some (vi x1), some (vi x2)]) (st2 := [vi 1, vi x2]) rfl ?_
    refine R_if rfl (fun c_9 => ?_) (fun c_9 => ?_)
    · have k := k.1 c_9
      obtain ⟨t_11, k⟩ := k
      exact R_throw rfl rfl ⟨Nat.le_of_ble_eq_true rfl, t_11⟩ k
    · have k := k.2 c_9
      refine R_ps 2 (pc2 := 30) (L2 := [some (vr (some w)), some (vi x1), some (vi x2)]) (st2 := [vi 200, vi x2]) rfl ?_
      refine R_if rfl (fun c_12 => ?_) (fun c_12 => ?_)
      · have k := k.2 (i32_nlt c_12)
        refine R_ps 1 (pc2 := 44) (L2 := [some (vr (some w)), some (vi x1), some (vi x2)]) (st2 := [vr (some w)]) rfl ?_
        refine R_getR rfl t0 ?_
        obtain ⟨a_15, e_16, k⟩ := k
        rw [e_16]
        obtain ⟨t_17, k⟩ := k
        refine R_getI rfl t_17 ?_
        refine R_ps 1 (pc2 := 52) (L2 := [some (vr (some w)), some (vi x1), some (vi x2)]) (st2 := [vi 6, vi (gi h_6 a_15 5)]) rfl ?_
        refine R_if rfl (fun c_18 => ?_) (fun c_18 => ?_)
        · have k := k.1 c_18
          refine R_ps 1 (pc2 := 66) (L2 := [some (vr (some w)), some (vi x1), some (vi x2)]) (st2 := [vr (some w)]) rfl ?_
          refine R_getR rfl t0 ?_
          refine R_ps 1 (pc2 := 70) (L2 := [some (vr (some w)), some (vi x1), some (vi x2)]) (st2 := [vr (some w), vr (gr h_6 w 2)]) rfl ?_
          refine R_getR rfl t0 ?_
          obtain ⟨a_22, e_23, k⟩ := k
          rw [e_23]
          obtain ⟨t_24, k⟩ := k
          refine R_cV (as := [vr (some a_22), vr (gr h_6 w 0)]) rfl rfl ⟨Nat.le_of_ble_eq_true rfl, Nat.le_of_ble_eq_true rfl, rfl, (Or.inr ⟨_, rfl, t_24⟩)⟩ rfl rfl k (fun h_25 k => ?_)
          refine R_ps 1 (pc2 := 77) (L2 := [some (vr (some w)), some (vi x1), some (vi x2)]) (st2 := [vr (some w)]) rfl ?_
          refine R_getR rfl t0 ?_
          refine R_ps 2 (pc2 := 82) (L2 := [some (vr (some w)), some (vi x1), some (vi x2)]) (st2 := [vi x2, vi x1, vr (gr h_25 w 0)]) rfl ?_
          obtain ⟨a_29, e_30, k⟩ := k
          rw [e_30]
          obtain ⟨t_31, k⟩ := k
          refine R_cI (as := [vr (some a_29), vi x1, vi x2]) rfl rfl ⟨Nat.le_of_ble_eq_true rfl, Nat.le_of_ble_eq_true rfl, rfl, (Or.inr ⟨_, rfl, t_31⟩)⟩ rfl rfl k (fun x_33 h_32 k => ?_)
          exact R_iret rfl rfl k
        · have k := k.2 c_18
          obtain ⟨t_36, k⟩ := k
          exact R_throw rfl rfl ⟨Nat.le_of_ble_eq_true rfl, t_36⟩ k
      · have k := k.1 (i32_lt c_12)
        obtain ⟨t_38, k⟩ := k
        exact R_throw rfl rfl ⟨Nat.le_of_ble_eq_true rfl, t_38⟩ k
  · have k := k.1 (Classical.not_not.mp c_8)
    obtain ⟨t_40, k⟩ := k
    exact R_throw rfl rfl ⟨Nat.le_of_ble_eq_true rfl, t_40⟩ k
/-- DroneCorridors.drone -/
theorem m118 {T N : Nat → Nat} {h : PH} {w : Nat} {x1 : Int32} {x2 : Int32} {K : PR → PH → Prop} (t0 : T w = 11) (k : (∃ a_3, (gr h w 0) = some a_3 ∧ T a_3 = 10 ∧ CR T N 91 [vr (some a_3), vi x1] h (fun x_7 h_6 => (((x_7 = none → ((∀ a, nx h_6 ≤ a → T a = 0) ∧ K (.inr 2) (bump h_6))) ∧ (∀ a_9, x_7 = some a_9 → (((x2 = 0 → (T a_9 = 3 ∧ K (.inl (some (vi (gi h_6 a_9 0)))) h_6)) ∧ (¬ (x2 = 0) → ((x2 = 1 → (T a_9 = 3 ∧ K (.inl (some (vi (gi h_6 a_9 1)))) h_6)) ∧ (¬ (x2 = 1) → ((x2 = 2 → (T a_9 = 3 ∧ K (.inl (some (vi (gi h_6 a_9 2)))) h_6)) ∧ (¬ (x2 = 2) → ((x2 = 3 → (T a_9 = 3 ∧ K (.inl (some (vi (gi h_6 a_9 3)))) h_6)) ∧ (¬ (x2 = 3) → ((x2 = 4 → (T a_9 = 3 ∧ K (.inl (some (vi (gi h_6 a_9 4)))) h_6)) ∧ (¬ (x2 = 4) → ((x2 = 5 → (T a_9 = 3 ∧ K (.inl (some (vi (gi h_6 a_9 8)))) h_6)) ∧ (¬ (x2 = 5) → ((x2 = 6 → (∃ a_34, (gr h_6 w 0) = some a_34 ∧ T a_34 = 10 ∧ T a_9 = 3 ∧ CI T N 20 [vr (some a_9), vi (gi h_6 a_34 0)] h_6 (fun x_40 h_39 => (K (.inl (some (vi x_40))) h_39)))) ∧ (¬ (x2 = 6) → ((∀ a, nx h_6 ≤ a → T a = 0) ∧ K (.inr 1) (bump h_6))))))))))))))))))))))) : CALL T N 118 [vr (some w), vi x1, vi x2] h K := by
  show WP T N 118 0 [some (vr (some w)), some (vi x1), some (vi x2), none] [] h _
  refine R_ps 1 (pc2 := 1) (L2 := [some (vr (some w)), some (vi x1), some (vi x2), none]) (st2 := [vr (some w)]) rfl ?_
  refine R_getR rfl t0 ?_
  refine R_ps 1 (pc2 := 5) (L2 := [some (vr (some w)), some (vi x1), some (vi x2), none]) (st2 := [vi x1, vr (gr h w 0)]) rfl ?_
  obtain ⟨a_3, e_4, k⟩ := k
  rw [e_4]
  obtain ⟨t_5, k⟩ := k
  refine R_cR (as := [vr (some a_3), vi x1]) rfl rfl ⟨Nat.le_of_ble_eq_true rfl, Nat.le_of_ble_eq_true rfl, rfl, (Or.inr ⟨_, rfl, t_5⟩)⟩ rfl rfl k (fun x_7 h_6 k => ?_)
  refine R_ps 2 (pc2 := 10) (L2 := [some (vr (some w)), some (vi x1), some (vi x2), some (vr x_7)]) (st2 := [vr x_7]) rfl ?_
  rcases null_or (x_7) with e_10 | ⟨a_9, e_10⟩
  · have k := k.1 e_10
    rw [e_10]
    refine R_nonnull rfl (fun _ => ?_) (fun _ c_8 => nomatch c_8)
    obtain ⟨t_12, k⟩ := k
    exact R_throw rfl rfl ⟨Nat.le_of_ble_eq_true rfl, t_12⟩ k
  · have k := k.2 a_9 e_10
    rw [e_10]
    refine R_nonnull rfl (fun c_8 => nomatch c_8) (fun _ _ => ?_)
    refine R_ps 1 (pc2 := 24) (L2 := [some (vr (some w)), some (vi x1), some (vi x2), some (vr (some a_9))]) (st2 := [vi x2]) rfl ?_
    refine R_tsw rfl rfl ?_
    refine ⟨fun c_13 => ?_, fun c_13 => ?_⟩
    · have k := k.1 c_13
      show WP T N _ 68 _ _ _ _
      refine R_ps 1 (pc2 := 69) (L2 := [some (vr (some w)), some (vi x1), some (vi x2), some (vr (some a_9))]) (st2 := [vr (some a_9)]) rfl ?_
      obtain ⟨t_15, k⟩ := k
      refine R_getI rfl t_15 ?_
      exact R_iret rfl rfl k
    replace k := k.2 c_13
    refine ⟨fun c_13 => ?_, fun c_13 => ?_⟩
    · have k := k.1 c_13
      show WP T N _ 73 _ _ _ _
      refine R_ps 1 (pc2 := 74) (L2 := [some (vr (some w)), some (vi x1), some (vi x2), some (vr (some a_9))]) (st2 := [vr (some a_9)]) rfl ?_
      obtain ⟨t_18, k⟩ := k
      refine R_getI rfl t_18 ?_
      exact R_iret rfl rfl k
    replace k := k.2 c_13
    refine ⟨fun c_13 => ?_, fun c_13 => ?_⟩
    · have k := k.1 c_13
      show WP T N _ 78 _ _ _ _
      refine R_ps 1 (pc2 := 79) (L2 := [some (vr (some w)), some (vi x1), some (vi x2), some (vr (some a_9))]) (st2 := [vr (some a_9)]) rfl ?_
      obtain ⟨t_21, k⟩ := k
      refine R_getI rfl t_21 ?_
      exact R_iret rfl rfl k
    replace k := k.2 c_13
    refine ⟨fun c_13 => ?_, fun c_13 => ?_⟩
    · have k := k.1 c_13
      show WP T N _ 83 _ _ _ _
      refine R_ps 1 (pc2 := 84) (L2 := [some (vr (some w)), some (vi x1), some (vi x2), some (vr (some a_9))]) (st2 := [vr (some a_9)]) rfl ?_
      obtain ⟨t_24, k⟩ := k
      refine R_getI rfl t_24 ?_
      exact R_iret rfl rfl k
    replace k := k.2 c_13
    refine ⟨fun c_13 => ?_, fun c_13 => ?_⟩
    · have k := k.1 c_13
      show WP T N _ 88 _ _ _ _
      refine R_ps 1 (pc2 := 89) (L2 := [some (vr (some w)), some (vi x1), some (vi x2), some (vr (some a_9))]) (st2 := [vr (some a_9)]) rfl ?_
      obtain ⟨t_27, k⟩ := k
      refine R_getI rfl t_27 ?_
      exact R_iret rfl rfl k
    replace k := k.2 c_13
    refine ⟨fun c_13 => ?_, fun c_13 => ?_⟩
    · have k := k.1 c_13
      show WP T N _ 93 _ _ _ _
      refine R_ps 1 (pc2 := 94) (L2 := [some (vr (some w)), some (vi x1), some (vi x2), some (vr (some a_9))]) (st2 := [vr (some a_9)]) rfl ?_
      obtain ⟨t_30, k⟩ := k
      refine R_getI rfl t_30 ?_
      exact R_iret rfl rfl k
    replace k := k.2 c_13
    refine ⟨fun c_13 => ?_, fun c_13 => ?_⟩
    · have k := k.1 c_13
      show WP T N _ 98 _ _ _ _
      refine R_ps 2 (pc2 := 100) (L2 := [some (vr (some w)), some (vi x1), some (vi x2), some (vr (some a_9))]) (st2 := [vr (some w), vr (some a_9)]) rfl ?_
      refine R_getR rfl t0 ?_
      obtain ⟨a_34, e_35, k⟩ := k
      rw [e_35]
      obtain ⟨t_36, k⟩ := k
      refine R_getI rfl t_36 ?_
      obtain ⟨t_38, k⟩ := k
      refine R_cI (as := [vr (some a_9), vi (gi h_6 a_34 0)]) rfl rfl ⟨Nat.le_of_ble_eq_true rfl, Nat.le_of_ble_eq_true rfl, rfl, (Or.inr ⟨_, rfl, t_38⟩)⟩ rfl rfl k (fun x_40 h_39 k => ?_)
      exact R_iret rfl rfl k
    replace k := k.2 c_13
    show WP T N _ 110 _ _ _ _
    obtain ⟨t_43, k⟩ := k
    exact R_throw rfl rfl ⟨Nat.le_of_ble_eq_true rfl, t_43⟩ k
/-- DroneCorridors.plan -/
theorem m119 {T N : Nat → Nat} {h : PH} {w : Nat} {x1 : Int32} {x2 : Int32} {K : PR → PH → Prop} (t0 : T w = 11) (k : (∃ a_3, (gr h w 0) = some a_3 ∧ T a_3 = 10 ∧ CR T N 91 [vr (some a_3), vi x1] h (fun x_7 h_6 => (((x_7 = none → ((∀ a, nx h_6 ≤ a → T a = 0) ∧ K (.inr 2) (bump h_6))) ∧ (∀ a_9, x_7 = some a_9 → (∃ a_15, (gr h_6 w 0) = some a_15 ∧ T a_15 = 10 ∧ CI T N 88 [vr (some a_15), vi x2] h_6 (fun x_19 h_18 => (((x_19 = 0 → ((∀ a, nx h_18 ≤ a → T a = 0) ∧ K (.inr 2) (bump h_18))) ∧ (¬ (x_19 = 0) → (∃ a_24, (gr h_18 w 3) = some a_24 ∧ T a_24 = 8 ∧ CI T N 59 [vr (some a_24), vr (gr h_18 w 0), vi x1, vi (1 <<< (x2 &&& 31)), vi 2] h_18 (fun x_28 h_27 => (((x_28 = 0 → (CI T N 150 [vr (some w), vi x1, vi x2] h_27 (fun x_54 h_53 => (∀ h_56, h_56 = si h_53 w 8 x_54 → (∀ a, nx h_56 ≤ a → T a = 0) ∧ K (.inr 4) (bump h_56))))) ∧ (¬ (x_28 = 0) → (∃ a_33, (gr h_27 w 2) = some a_33 ∧ T a_33 = 5 ∧ CV T N 41 [vr (some a_33), vr (gr h_27 w 0)] h_27 (fun h_36 => (∃ a_41, (gr h_36 w 3) = some a_41 ∧ T a_41 = 8 ∧ CV T N 60 [vr (some a_41), vr (gr h_36 w 0), vr (some a_9)] h_36 (fun h_44 => (∃ a_48, (gr h_44 w 3) = some a_48 ∧ T a_48 = 8 ∧ K (.inl (some (vi (gi h_44 a_48 0)))) h_44))))))))))))))))))))) : CALL T N 119 [vr (some w), vi x1, vi x2] h K := by
  show WP T N 119 0 [some (vr (some w)), some (vi x1), some (vi x2), none] [] h _
  refine R_ps 1 (pc2 := 1) (L2 := [some (vr (some w)), some (vi x1), some (vi x2), none]) (st2 := [vr (some w)]) rfl ?_
  refine R_getR rfl t0 ?_
  refine R_ps 1 (pc2 := 5) (L2 := [some (vr (some w)), some (vi x1), some (vi x2), none]) (st2 := [vi x1, vr (gr h w 0)]) rfl ?_
  obtain ⟨a_3, e_4, k⟩ := k
  rw [e_4]
  obtain ⟨t_5, k⟩ := k
  refine R_cR (as := [vr (some a_3), vi x1]) rfl rfl ⟨Nat.le_of_ble_eq_true rfl, Nat.le_of_ble_eq_true rfl, rfl, (Or.inr ⟨_, rfl, t_5⟩)⟩ rfl rfl k (fun x_7 h_6 k => ?_)
  refine R_ps 2 (pc2 := 10) (L2 := [some (vr (some w)), some (vi x1), some (vi x2), some (vr x_7)]) (st2 := [vr x_7]) rfl ?_
  rcases null_or (x_7) with e_10 | ⟨a_9, e_10⟩
  · have k := k.1 e_10
    rw [e_10]
    refine R_null rfl (fun _ => ?_) (fun _ c_8 => nomatch c_8)
    obtain ⟨t_12, k⟩ := k
    exact R_throw rfl rfl ⟨Nat.le_of_ble_eq_true rfl, t_12⟩ k
  · have k := k.2 a_9 e_10
    rw [e_10]
    refine R_null rfl (fun c_8 => nomatch c_8) (fun _ _ => ?_)
    refine R_ps 1 (pc2 := 14) (L2 := [some (vr (some w)), some (vi x1), some (vi x2), some (vr (some a_9))]) (st2 := [vr (some w)]) rfl ?_
    refine R_getR rfl t0 ?_
    refine R_ps 1 (pc2 := 18) (L2 := [some (vr (some w)), some (vi x1), some (vi x2), some (vr (some a_9))]) (st2 := [vi x2, vr (gr h_6 w 0)]) rfl ?_
    obtain ⟨a_15, e_16, k⟩ := k
    rw [e_16]
    obtain ⟨t_17, k⟩ := k
    refine R_cI (as := [vr (some a_15), vi x2]) rfl rfl ⟨Nat.le_of_ble_eq_true rfl, Nat.le_of_ble_eq_true rfl, rfl, (Or.inr ⟨_, rfl, t_17⟩)⟩ rfl rfl k (fun x_19 h_18 k => ?_)
    refine R_if0 rfl (fun c_20 => ?_) (fun c_20 => ?_)
    · have k := k.2 c_20
      refine R_ps 1 (pc2 := 35) (L2 := [some (vr (some w)), some (vi x1), some (vi x2), some (vr (some a_9))]) (st2 := [vr (some w)]) rfl ?_
      refine R_getR rfl t0 ?_
      refine R_ps 1 (pc2 := 39) (L2 := [some (vr (some w)), some (vi x1), some (vi x2), some (vr (some a_9))]) (st2 := [vr (some w), vr (gr h_18 w 3)]) rfl ?_
      refine R_getR rfl t0 ?_
      refine R_ps 5 (pc2 := 47) (L2 := [some (vr (some w)), some (vi x1), some (vi x2), some (vr (some a_9))]) (st2 := [vi 2, vi (1 <<< (x2 &&& 31)), vi x1, vr (gr h_18 w 0), vr (gr h_18 w 3)]) rfl ?_
      obtain ⟨a_24, e_25, k⟩ := k
      rw [e_25]
      obtain ⟨t_26, k⟩ := k
      refine R_cI (as := [vr (some a_24), vr (gr h_18 w 0), vi x1, vi (1 <<< (x2 &&& 31)), vi 2]) rfl rfl ⟨Nat.le_of_ble_eq_true rfl, Nat.le_of_ble_eq_true rfl, rfl, (Or.inr ⟨_, rfl, t_26⟩)⟩ rfl rfl k (fun x_28 h_27 k => ?_)
      refine R_if0 rfl (fun c_29 => ?_) (fun c_29 => ?_)
      · have k := k.2 c_29
        refine R_ps 1 (pc2 := 75) (L2 := [some (vr (some w)), some (vi x1), some (vi x2), some (vr (some a_9))]) (st2 := [vr (some w)]) rfl ?_
        refine R_getR rfl t0 ?_
        refine R_ps 1 (pc2 := 79) (L2 := [some (vr (some w)), some (vi x1), some (vi x2), some (vr (some a_9))]) (st2 := [vr (some w), vr (gr h_27 w 2)]) rfl ?_
        refine R_getR rfl t0 ?_
        obtain ⟨a_33, e_34, k⟩ := k
        rw [e_34]
        obtain ⟨t_35, k⟩ := k
        refine R_cV (as := [vr (some a_33), vr (gr h_27 w 0)]) rfl rfl ⟨Nat.le_of_ble_eq_true rfl, Nat.le_of_ble_eq_true rfl, rfl, (Or.inr ⟨_, rfl, t_35⟩)⟩ rfl rfl k (fun h_36 k => ?_)
        refine R_ps 1 (pc2 := 86) (L2 := [some (vr (some w)), some (vi x1), some (vi x2), some (vr (some a_9))]) (st2 := [vr (some w)]) rfl ?_
        refine R_getR rfl t0 ?_
        refine R_ps 1 (pc2 := 90) (L2 := [some (vr (some w)), some (vi x1), some (vi x2), some (vr (some a_9))]) (st2 := [vr (some w), vr (gr h_36 w 3)]) rfl ?_
        refine R_getR rfl t0 ?_
        refine R_ps 1 (pc2 := 94) (L2 := [some (vr (some w)), some (vi x1), some (vi x2), some (vr (some a_9))]) (st2 := [vr (some a_9), vr (gr h_36 w 0), vr (gr h_36 w 3)]) rfl ?_
        obtain ⟨a_41, e_42, k⟩ := k
        rw [e_42]
        obtain ⟨t_43, k⟩ := k
        refine R_cV (as := [vr (some a_41), vr (gr h_36 w 0), vr (some a_9)]) rfl rfl ⟨Nat.le_of_ble_eq_true rfl, Nat.le_of_ble_eq_true rfl, rfl, (Or.inr ⟨_, rfl, t_43⟩)⟩ rfl rfl k (fun h_44 k => ?_)
        refine R_ps 1 (pc2 := 98) (L2 := [some (vr (some w)), some (vi x1), some (vi x2), some (vr (some a_9))]) (st2 := [vr (some w)]) rfl ?_
        refine R_getR rfl t0 ?_
        obtain ⟨a_48, e_49, k⟩ := k
        rw [e_49]
        obtain ⟨t_50, k⟩ := k
        refine R_getI rfl t_50 ?_
        exact R_iret rfl rfl k
      · have k := k.1 (Classical.not_not.mp c_29)
        refine R_ps 4 (pc2 := 57) (L2 := [some (vr (some w)), some (vi x1), some (vi x2), some (vr (some a_9))]) (st2 := [vi x2, vi x1, vr (some w), vr (some w)]) rfl ?_
        refine R_cI (as := [vr (some w), vi x1, vi x2]) rfl rfl ⟨Nat.le_of_ble_eq_true rfl, Nat.le_of_ble_eq_true rfl, rfl, (Or.inr ⟨_, rfl, t0⟩)⟩ rfl rfl k (fun x_54 h_53 k => ?_)
        refine R_putI rfl t0 ?_
        show WP T N _ _ _ _ (si h_53 w 8 x_54) _
        generalize e_57 : si h_53 w 8 x_54 = h_56
        replace k := k h_56 e_57.symm
        obtain ⟨t_59, k⟩ := k
        exact R_throw rfl rfl ⟨Nat.le_of_ble_eq_true rfl, t_59⟩ k
    · have k := k.1 (Classical.not_not.mp c_20)
      obtain ⟨t_61, k⟩ := k
      exact R_throw rfl rfl ⟨Nat.le_of_ble_eq_true rfl, t_61⟩ k
/-- DroneCorridors.arrival -/
theorem m120 {T N : Nat → Nat} {h : PH} {w : Nat} {x1 : Int32} {x2 : Int32} {K : PR → PH → Prop} (t0 : T w = 11) (k : (CALL T N 149 [vr (some w), vi x1, vi x2] h (fun o_3 h_2 => (o_3 = .inl none ∧ (∃ a_7, (gr h_2 w 3) = some a_7 ∧ T a_7 = 8 ∧ K (.inl (some (vi (gi h_2 a_7 0)))) h_2)) ∨ (∃ e_11, o_3 = .inr e_11 ∧ K (.inr e_11) h_2)))) : CALL T N 120 [vr (some w), vi x1, vi x2] h K := by
  show WP T N 120 0 [some (vr (some w)), some (vi x1), some (vi x2)] [] h _
  refine R_ps 3 (pc2 := 3) (L2 := [some (vr (some w)), some (vi x1), some (vi x2)]) (st2 := [vi x2, vi x1, vr (some w)]) rfl ?_
  refine R_cX (as := [vr (some w), vi x1, vi x2]) rfl rfl ⟨Nat.le_of_ble_eq_true rfl, Nat.le_of_ble_eq_true rfl, rfl, (Or.inr ⟨_, rfl, t0⟩)⟩ rfl rfl k (fun o_3 h_2 k => ?_)
  rcases k with ⟨rfl, k⟩ | ⟨e_11, rfl, k⟩
  · show WP T N _ 6 _ _ _ _
    refine R_ps 1 (pc2 := 7) (L2 := [some (vr (some w)), some (vi x1), some (vi x2)]) (st2 := [vr (some w)]) rfl ?_
    refine R_getR rfl t0 ?_
    obtain ⟨a_7, e_8, k⟩ := k
    rw [e_8]
    obtain ⟨t_9, k⟩ := k
    refine R_getI rfl t_9 ?_
    exact R_iret rfl rfl k
  · exact k
/-- DroneCorridors.planEnergy -/
theorem m121 {T N : Nat → Nat} {h : PH} {w : Nat} {x1 : Int32} {x2 : Int32} {K : PR → PH → Prop} (t0 : T w = 11) (k : (CALL T N 149 [vr (some w), vi x1, vi x2] h (fun o_3 h_2 => (o_3 = .inl none ∧ (∃ a_7, (gr h_2 w 3) = some a_7 ∧ T a_7 = 8 ∧ K (.inl (some (vi (gi h_2 a_7 1)))) h_2)) ∨ (∃ e_11, o_3 = .inr e_11 ∧ K (.inr e_11) h_2)))) : CALL T N 121 [vr (some w), vi x1, vi x2] h K := by
  show WP T N 121 0 [some (vr (some w)), some (vi x1), some (vi x2)] [] h _
  refine R_ps 3 (pc2 := 3) (L2 := [some (vr (some w)), some (vi x1), some (vi x2)]) (st2 := [vi x2, vi x1, vr (some w)]) rfl ?_
  refine R_cX (as := [vr (some w), vi x1, vi x2]) rfl rfl ⟨Nat.le_of_ble_eq_true rfl, Nat.le_of_ble_eq_true rfl, rfl, (Or.inr ⟨_, rfl, t0⟩)⟩ rfl rfl k (fun o_3 h_2 k => ?_)
  rcases k with ⟨rfl, k⟩ | ⟨e_11, rfl, k⟩
  · show WP T N _ 6 _ _ _ _
    refine R_ps 1 (pc2 := 7) (L2 := [some (vr (some w)), some (vi x1), some (vi x2)]) (st2 := [vr (some w)]) rfl ?_
    refine R_getR rfl t0 ?_
    obtain ⟨a_7, e_8, k⟩ := k
    rw [e_8]
    obtain ⟨t_9, k⟩ := k
    refine R_getI rfl t_9 ?_
    exact R_iret rfl rfl k
  · exact k
/-- DroneCorridors.leg -/
theorem m122 {T N : Nat → Nat} {h : PH} {w : Nat} {x1 : Int32} {x2 : Int32} {x3 : Int32} {K : PR → PH → Prop} (t0 : T w = 11) (k : (∃ a_3, (gr h w 0) = some a_3 ∧ T a_3 = 10 ∧ CR T N 91 [vr (some a_3), vi x1] h (fun x_7 h_6 => (((x_7 = none → ((∀ a, nx h_6 ≤ a → T a = 0) ∧ K (.inr 2) (bump h_6))) ∧ (∀ a_9, x_7 = some a_9 → (T a_9 = 3 ∧ CR T N 17 [vr (some a_9), vi x2] h_6 (fun x_16 h_15 => (((x_16 = none → ((∀ a, nx h_15 ≤ a → T a = 0) ∧ K (.inr 2) (bump h_15))) ∧ (∀ a_18, x_16 = some a_18 → (((x3 = 0 → (T a_18 = 7 ∧ K (.inl (some (vi (gi h_15 a_18 0)))) h_15)) ∧ (¬ (x3 = 0) → ((x3 = 1 → (T a_18 = 7 ∧ K (.inl (some (vi (gi h_15 a_18 1)))) h_15)) ∧ (¬ (x3 = 1) → ((x3 = 2 → (T a_18 = 7 ∧ K (.inl (some (vi (gi h_15 a_18 2)))) h_15)) ∧ (¬ (x3 = 2) → ((x3 = 3 → (T a_18 = 7 ∧ K (.inl (some (vi (gi h_15 a_18 3)))) h_15)) ∧ (¬ (x3 = 3) → ((x3 = 4 → (T a_18 = 7 ∧ K (.inl (some (vi (gi h_15 a_18 4)))) h_15)) ∧ (¬ (x3 = 4) → ((∀ a, nx h_15 ≤ a → T a = 0) ∧ K (.inr 1) (bump h_15)))))))))))))))))))))))) : CALL T N 122 [vr (some w), vi x1, vi x2, vi x3] h K := by
  show WP T N 122 0 [some (vr (some w)), some (vi x1), some (vi x2), some (vi x3), none, none] [] h _
  refine R_ps 1 (pc2 := 1) (L2 := [some (vr (some w)), some (vi x1), some (vi x2), some (vi x3), none, none]) (st2 := [vr (some w)]) rfl ?_
  refine R_getR rfl t0 ?_
  refine R_ps 1 (pc2 := 5) (L2 := [some (vr (some w)), some (vi x1), some (vi x2), some (vi x3), none, none]) (st2 := [vi x1, vr (gr h w 0)]) rfl ?_
  obtain ⟨a_3, e_4, k⟩ := k
  rw [e_4]
  obtain ⟨t_5, k⟩ := k
  refine R_cR (as := [vr (some a_3), vi x1]) rfl rfl ⟨Nat.le_of_ble_eq_true rfl, Nat.le_of_ble_eq_true rfl, rfl, (Or.inr ⟨_, rfl, t_5⟩)⟩ rfl rfl k (fun x_7 h_6 k => ?_)
  refine R_ps 2 (pc2 := 12) (L2 := [some (vr (some w)), some (vi x1), some (vi x2), some (vi x3), some (vr x_7), none]) (st2 := [vr x_7]) rfl ?_
  rcases null_or (x_7) with e_10 | ⟨a_9, e_10⟩
  · have k := k.1 e_10
    rw [e_10]
    refine R_nonnull rfl (fun _ => ?_) (fun _ c_8 => nomatch c_8)
    obtain ⟨t_12, k⟩ := k
    exact R_throw rfl rfl ⟨Nat.le_of_ble_eq_true rfl, t_12⟩ k
  · have k := k.2 a_9 e_10
    rw [e_10]
    refine R_nonnull rfl (fun c_8 => nomatch c_8) (fun _ _ => ?_)
    refine R_ps 2 (pc2 := 28) (L2 := [some (vr (some w)), some (vi x1), some (vi x2), some (vi x3), some (vr (some a_9)), none]) (st2 := [vi x2, vr (some a_9)]) rfl ?_
    obtain ⟨t_14, k⟩ := k
    refine R_cR (as := [vr (some a_9), vi x2]) rfl rfl ⟨Nat.le_of_ble_eq_true rfl, Nat.le_of_ble_eq_true rfl, rfl, (Or.inr ⟨_, rfl, t_14⟩)⟩ rfl rfl k (fun x_16 h_15 k => ?_)
    refine R_ps 2 (pc2 := 35) (L2 := [some (vr (some w)), some (vi x1), some (vi x2), some (vi x3), some (vr (some a_9)), some (vr x_16)]) (st2 := [vr x_16]) rfl ?_
    rcases null_or (x_16) with e_19 | ⟨a_18, e_19⟩
    · have k := k.1 e_19
      rw [e_19]
      refine R_nonnull rfl (fun _ => ?_) (fun _ c_17 => nomatch c_17)
      obtain ⟨t_21, k⟩ := k
      exact R_throw rfl rfl ⟨Nat.le_of_ble_eq_true rfl, t_21⟩ k
    · have k := k.2 a_18 e_19
      rw [e_19]
      refine R_nonnull rfl (fun c_17 => nomatch c_17) (fun _ _ => ?_)
      refine R_ps 1 (pc2 := 50) (L2 := [some (vr (some w)), some (vi x1), some (vi x2), some (vi x3), some (vr (some a_9)), some (vr (some a_18))]) (st2 := [vi x3]) rfl ?_
      refine R_tsw rfl rfl ?_
      refine ⟨fun c_22 => ?_, fun c_22 => ?_⟩
      · have k := k.1 c_22
        show WP T N _ 84 _ _ _ _
        refine R_ps 1 (pc2 := 86) (L2 := [some (vr (some w)), some (vi x1), some (vi x2), some (vi x3), some (vr (some a_9)), some (vr (some a_18))]) (st2 := [vr (some a_18)]) rfl ?_
        obtain ⟨t_24, k⟩ := k
        refine R_getI rfl t_24 ?_
        exact R_iret rfl rfl k
      replace k := k.2 c_22
      refine ⟨fun c_22 => ?_, fun c_22 => ?_⟩
      · have k := k.1 c_22
        show WP T N _ 90 _ _ _ _
        refine R_ps 1 (pc2 := 92) (L2 := [some (vr (some w)), some (vi x1), some (vi x2), some (vi x3), some (vr (some a_9)), some (vr (some a_18))]) (st2 := [vr (some a_18)]) rfl ?_
        obtain ⟨t_27, k⟩ := k
        refine R_getI rfl t_27 ?_
        exact R_iret rfl rfl k
      replace k := k.2 c_22
      refine ⟨fun c_22 => ?_, fun c_22 => ?_⟩
      · have k := k.1 c_22
        show WP T N _ 96 _ _ _ _
        refine R_ps 1 (pc2 := 98) (L2 := [some (vr (some w)), some (vi x1), some (vi x2), some (vi x3), some (vr (some a_9)), some (vr (some a_18))]) (st2 := [vr (some a_18)]) rfl ?_
        obtain ⟨t_30, k⟩ := k
        refine R_getI rfl t_30 ?_
        exact R_iret rfl rfl k
      replace k := k.2 c_22
      refine ⟨fun c_22 => ?_, fun c_22 => ?_⟩
      · have k := k.1 c_22
        show WP T N _ 102 _ _ _ _
        refine R_ps 1 (pc2 := 104) (L2 := [some (vr (some w)), some (vi x1), some (vi x2), some (vi x3), some (vr (some a_9)), some (vr (some a_18))]) (st2 := [vr (some a_18)]) rfl ?_
        obtain ⟨t_33, k⟩ := k
        refine R_getI rfl t_33 ?_
        exact R_iret rfl rfl k
      replace k := k.2 c_22
      refine ⟨fun c_22 => ?_, fun c_22 => ?_⟩
      · have k := k.1 c_22
        show WP T N _ 108 _ _ _ _
        refine R_ps 1 (pc2 := 110) (L2 := [some (vr (some w)), some (vi x1), some (vi x2), some (vi x3), some (vr (some a_9)), some (vr (some a_18))]) (st2 := [vr (some a_18)]) rfl ?_
        obtain ⟨t_36, k⟩ := k
        refine R_getI rfl t_36 ?_
        exact R_iret rfl rfl k
      replace k := k.2 c_22
      show WP T N _ 114 _ _ _ _
      obtain ⟨t_39, k⟩ := k
      exact R_throw rfl rfl ⟨Nat.le_of_ble_eq_true rfl, t_39⟩ k
/-- DroneCorridors.cancel -/
theorem m123 {T N : Nat → Nat} {h : PH} {w : Nat} {x1 : Int32} {K : PR → PH → Prop} (t0 : T w = 11) (k : (∃ a_3, (gr h w 0) = some a_3 ∧ T a_3 = 10 ∧ CR T N 91 [vr (some a_3), vi x1] h (fun x_7 h_6 => (((x_7 = none → ((∀ a, nx h_6 ≤ a → T a = 0) ∧ K (.inr 2) (bump h_6))) ∧ (∀ a_9, x_7 = some a_9 → (∃ a_16, (gr h_6 w 2) = some a_16 ∧ T a_16 = 5 ∧ CV T N 41 [vr (some a_16), vr (gr h_6 w 0)] h_6 (fun h_19 => (T a_9 = 3 ∧ CI T N 22 [vr (some a_9)] h_19 (fun x_24 h_23 => ((((gi h_23 a_9 0) = 2 → (∀ h_33, h_33 = si h_23 a_9 4 (gi h_23 a_9 3) → K (.inl (some (vi x_24))) h_33)) ∧ (¬ ((gi h_23 a_9 0) = 2) → (∀ h_28, h_28 = si h_23 a_9 4 (-1) → K (.inl (some (vi x_24))) h_28)))))))))))))) : CALL T N 123 [vr (some w), vi x1] h K := by
  show WP T N 123 0 [some (vr (some w)), some (vi x1), none, none] [] h _
  refine R_ps 1 (pc2 := 1) (L2 := [some (vr (some w)), some (vi x1), none, none]) (st2 := [vr (some w)]) rfl ?_
  refine R_getR rfl t0 ?_
  refine R_ps 1 (pc2 := 5) (L2 := [some (vr (some w)), some (vi x1), none, none]) (st2 := [vi x1, vr (gr h w 0)]) rfl ?_
  obtain ⟨a_3, e_4, k⟩ := k
  rw [e_4]
  obtain ⟨t_5, k⟩ := k
  refine R_cR (as := [vr (some a_3), vi x1]) rfl rfl ⟨Nat.le_of_ble_eq_true rfl, Nat.le_of_ble_eq_true rfl, rfl, (Or.inr ⟨_, rfl, t_5⟩)⟩ rfl rfl k (fun x_7 h_6 k => ?_)
  refine R_ps 2 (pc2 := 10) (L2 := [some (vr (some w)), some (vi x1), some (vr x_7), none]) (st2 := [vr x_7]) rfl ?_
  rcases null_or (x_7) with e_10 | ⟨a_9, e_10⟩
  · have k := k.1 e_10
    rw [e_10]
    refine R_nonnull rfl (fun _ => ?_) (fun _ c_8 => nomatch c_8)
    obtain ⟨t_12, k⟩ := k
    exact R_throw rfl rfl ⟨Nat.le_of_ble_eq_true rfl, t_12⟩ k
  · have k := k.2 a_9 e_10
    rw [e_10]
    refine R_nonnull rfl (fun c_8 => nomatch c_8) (fun _ _ => ?_)
    refine R_ps 1 (pc2 := 24) (L2 := [some (vr (some w)), some (vi x1), some (vr (some a_9)), none]) (st2 := [vr (some w)]) rfl ?_
    refine R_getR rfl t0 ?_
    refine R_ps 1 (pc2 := 28) (L2 := [some (vr (some w)), some (vi x1), some (vr (some a_9)), none]) (st2 := [vr (some w), vr (gr h_6 w 2)]) rfl ?_
    refine R_getR rfl t0 ?_
    obtain ⟨a_16, e_17, k⟩ := k
    rw [e_17]
    obtain ⟨t_18, k⟩ := k
    refine R_cV (as := [vr (some a_16), vr (gr h_6 w 0)]) rfl rfl ⟨Nat.le_of_ble_eq_true rfl, Nat.le_of_ble_eq_true rfl, rfl, (Or.inr ⟨_, rfl, t_18⟩)⟩ rfl rfl k (fun h_19 k => ?_)
    refine R_ps 1 (pc2 := 35) (L2 := [some (vr (some w)), some (vi x1), some (vr (some a_9)), none]) (st2 := [vr (some a_9)]) rfl ?_
    obtain ⟨t_22, k⟩ := k
    refine R_cI (as := [vr (some a_9)]) rfl rfl ⟨Nat.le_of_ble_eq_true rfl, Nat.le_of_ble_eq_true rfl, rfl, (Or.inr ⟨_, rfl, t_22⟩)⟩ rfl rfl k (fun x_24 h_23 k => ?_)
    refine R_ps 3 (pc2 := 41) (L2 := [some (vr (some w)), some (vi x1), some (vr (some a_9)), some (vi x_24)]) (st2 := [vr (some a_9), vr (some a_9)]) rfl ?_
    refine R_getI rfl t_22 ?_
    refine R_ps 1 (pc2 := 45) (L2 := [some (vr (some w)), some (vi x1), some (vr (some a_9)), some (vi x_24)]) (st2 := [vi 2, vi (gi h_23 a_9 0), vr (some a_9)]) rfl ?_
    refine R_if rfl (fun c_26 => ?_) (fun c_26 => ?_)
    · have k := k.2 c_26
      refine R_ps 1 (pc2 := 56) (L2 := [some (vr (some w)), some (vi x1), some (vr (some a_9)), some (vi x_24)]) (st2 := [vi (-1), vr (some a_9)]) rfl ?_
      refine R_putI rfl t_22 ?_
      show WP T N _ _ _ _ (si h_23 a_9 4 (-1)) _
      generalize e_29 : si h_23 a_9 4 (-1) = h_28
      replace k := k h_28 e_29.symm
      refine R_ps 1 (pc2 := 60) (L2 := [some (vr (some w)), some (vi x1), some (vr (some a_9)), some (vi x_24)]) (st2 := [vi x_24]) rfl ?_
      exact R_iret rfl rfl k
    · have k := k.1 (Classical.not_not.mp c_26)
      refine R_ps 1 (pc2 := 49) (L2 := [some (vr (some w)), some (vi x1), some (vr (some a_9)), some (vi x_24)]) (st2 := [vr (some a_9), vr (some a_9)]) rfl ?_
      refine R_getI rfl t_22 ?_
      refine R_ps 1 (pc2 := 56) (L2 := [some (vr (some w)), some (vi x1), some (vr (some a_9)), some (vi x_24)]) (st2 := [vi (gi h_23 a_9 3), vr (some a_9)]) rfl ?_
      refine R_putI rfl t_22 ?_
      show WP T N _ _ _ _ (si h_23 a_9 4 (gi h_23 a_9 3)) _
      generalize e_34 : si h_23 a_9 4 (gi h_23 a_9 3) = h_33
      replace k := k h_33 e_34.symm
      refine R_ps 1 (pc2 := 60) (L2 := [some (vr (some w)), some (vi x1), some (vr (some a_9)), some (vi x_24)]) (st2 := [vi x_24]) rfl ?_
      exact R_iret rfl rfl k
/-- DroneCorridors.drain -/
theorem m124 {T N : Nat → Nat} {h : PH} {w : Nat} {x1 : Int32} {x2 : Int32} {K : PR → PH → Prop} (t0 : T w = 11) (k : (∃ a_3, (gr h w 0) = some a_3 ∧ T a_3 = 10 ∧ CR T N 91 [vr (some a_3), vi x1] h (fun x_7 h_6 => (((x_7 = none → ((∀ a, nx h_6 ≤ a → T a = 0) ∧ K (.inr 2) (bump h_6))) ∧ (∀ a_9, x_7 = some a_9 → (((x2 < 1 → ((∀ a, nx h_6 ≤ a → T a = 0) ∧ K (.inr 1) (bump h_6))) ∧ (¬ (x2 < 1) → (((200 < x2 → ((∀ a, nx h_6 ≤ a → T a = 0) ∧ K (.inr 1) (bump h_6))) ∧ (¬ (200 < x2) → (T a_9 = 3 ∧ (((gi h_6 a_9 0) = 3 → ((∀ a, nx h_6 ≤ a → T a = 0) ∧ K (.inr 0) (bump h_6))) ∧ (¬ ((gi h_6 a_9 0) = 3) → (∃ a_23, (gr h_6 w 2) = some a_23 ∧ T a_23 = 5 ∧ CV T N 41 [vr (some a_23), vr (gr h_6 w 0)] h_6 (fun h_26 => (CV T N 30 [vr (some a_9), vi x2] h_26 (fun h_29 => (K (.inl (some (vi (gi h_29 a_9 1)))) h_29)))))))))))))))))))) : CALL T N 124 [vr (some w), vi x1, vi x2] h K := by
  show WP T N 124 0 [some (vr (some w)), some (vi x1), some (vi x2), none] [] h _
  refine R_ps 1 (pc2 := 1) (L2 := [some (vr (some w)), some (vi x1), some (vi x2), none]) (st2 := [vr (some w)]) rfl ?_
  refine R_getR rfl t0 ?_
  refine R_ps 1 (pc2 := 5) (L2 := [some (vr (some w)), some (vi x1), some (vi x2), none]) (st2 := [vi x1, vr (gr h w 0)]) rfl ?_
  obtain ⟨a_3, e_4, k⟩ := k
  rw [e_4]
  obtain ⟨t_5, k⟩ := k
  refine R_cR (as := [vr (some a_3), vi x1]) rfl rfl ⟨Nat.le_of_ble_eq_true rfl, Nat.le_of_ble_eq_true rfl, rfl, (Or.inr ⟨_, rfl, t_5⟩)⟩ rfl rfl k (fun x_7 h_6 k => ?_)
  refine R_ps 2 (pc2 := 10) (L2 := [some (vr (some w)), some (vi x1), some (vi x2), some (vr x_7)]) (st2 := [vr x_7]) rfl ?_
  rcases null_or (x_7) with e_10 | ⟨a_9, e_10⟩
  · have k := k.1 e_10
    rw [e_10]
    refine R_nonnull rfl (fun _ => ?_) (fun _ c_8 => nomatch c_8)
    obtain ⟨t_12, k⟩ := k
    exact R_throw rfl rfl ⟨Nat.le_of_ble_eq_true rfl, t_12⟩ k
  · have k := k.2 a_9 e_10
    rw [e_10]
    refine R_nonnull rfl (fun c_8 => nomatch c_8) (fun _ _ => ?_)
    refine R_ps 2 (pc2 := 25) (L2 := [some (vr (some w)), some (vi x1), some (vi x2), some (vr (some a_9))]) (st2 := [vi 1, vi x2]) rfl ?_
    refine R_if rfl (fun c_13 => ?_) (fun c_13 => ?_)
    · have k := k.1 c_13
      obtain ⟨t_15, k⟩ := k
      exact R_throw rfl rfl ⟨Nat.le_of_ble_eq_true rfl, t_15⟩ k
    · have k := k.2 c_13
      refine R_ps 2 (pc2 := 32) (L2 := [some (vr (some w)), some (vi x1), some (vi x2), some (vr (some a_9))]) (st2 := [vi 200, vi x2]) rfl ?_
      refine R_if rfl (fun c_16 => ?_) (fun c_16 => ?_)
      · have k := k.2 (i32_nlt c_16)
        refine R_ps 1 (pc2 := 46) (L2 := [some (vr (some w)), some (vi x1), some (vi x2), some (vr (some a_9))]) (st2 := [vr (some a_9)]) rfl ?_
        obtain ⟨t_18, k⟩ := k
        refine R_getI rfl t_18 ?_
        refine R_ps 1 (pc2 := 50) (L2 := [some (vr (some w)), some (vi x1), some (vi x2), some (vr (some a_9))]) (st2 := [vi 3, vi (gi h_6 a_9 0)]) rfl ?_
        refine R_if rfl (fun c_19 => ?_) (fun c_19 => ?_)
        · have k := k.2 c_19
          refine R_ps 1 (pc2 := 65) (L2 := [some (vr (some w)), some (vi x1), some (vi x2), some (vr (some a_9))]) (st2 := [vr (some w)]) rfl ?_
          refine R_getR rfl t0 ?_
          refine R_ps 1 (pc2 := 69) (L2 := [some (vr (some w)), some (vi x1), some (vi x2), some (vr (some a_9))]) (st2 := [vr (some w), vr (gr h_6 w 2)]) rfl ?_
          refine R_getR rfl t0 ?_
          obtain ⟨a_23, e_24, k⟩ := k
          rw [e_24]
          obtain ⟨t_25, k⟩ := k
          refine R_cV (as := [vr (some a_23), vr (gr h_6 w 0)]) rfl rfl ⟨Nat.le_of_ble_eq_true rfl, Nat.le_of_ble_eq_true rfl, rfl, (Or.inr ⟨_, rfl, t_25⟩)⟩ rfl rfl k (fun h_26 k => ?_)
          refine R_ps 2 (pc2 := 77) (L2 := [some (vr (some w)), some (vi x1), some (vi x2), some (vr (some a_9))]) (st2 := [vi x2, vr (some a_9)]) rfl ?_
          refine R_cV (as := [vr (some a_9), vi x2]) rfl rfl ⟨Nat.le_of_ble_eq_true rfl, Nat.le_of_ble_eq_true rfl, rfl, (Or.inr ⟨_, rfl, t_18⟩)⟩ rfl rfl k (fun h_29 k => ?_)
          refine R_ps 1 (pc2 := 81) (L2 := [some (vr (some w)), some (vi x1), some (vi x2), some (vr (some a_9))]) (st2 := [vr (some a_9)]) rfl ?_
          refine R_getI rfl t_18 ?_
          exact R_iret rfl rfl k
        · have k := k.1 (Classical.not_not.mp c_19)
          obtain ⟨t_34, k⟩ := k
          exact R_throw rfl rfl ⟨Nat.le_of_ble_eq_true rfl, t_34⟩ k
      · have k := k.1 (i32_lt c_16)
        obtain ⟨t_36, k⟩ := k
        exact R_throw rfl rfl ⟨Nat.le_of_ble_eq_true rfl, t_36⟩ k
/-- DroneCorridors.struck -/
theorem m125 {T N : Nat → Nat} {h : PH} {w : Nat} {K : Int32 → PH → Prop} (t0 : T w = 11) (k : (∃ a_3, (gr h w 0) = some a_3 ∧ T a_3 = 10 ∧ CI T N 99 [vr (some a_3)] h (fun x_7 h_6 => (K x_7 h_6)))) : CI T N 125 [vr (some w)] h K := by
  show WP T N 125 0 [some (vr (some w))] [] h _
  refine R_ps 1 (pc2 := 1) (L2 := [some (vr (some w))]) (st2 := [vr (some w)]) rfl ?_
  refine R_getR rfl t0 ?_
  obtain ⟨a_3, e_4, k⟩ := k
  rw [e_4]
  obtain ⟨t_5, k⟩ := k
  refine R_cI (as := [vr (some a_3)]) rfl rfl ⟨Nat.le_of_ble_eq_true rfl, Nat.le_of_ble_eq_true rfl, rfl, (Or.inr ⟨_, rfl, t_5⟩)⟩ rfl rfl k (fun x_7 h_6 k => ?_)
  exact R_iret rfl rfl ⟨_, rfl, k⟩
/-- DroneCorridors.reroute -/
theorem m126 {T N : Nat → Nat} {h : PH} {w : Nat} {K : Int32 → PH → Prop} (t0 : T w = 11) (k : (∃ a_4, (gr h w 2) = some a_4 ∧ T a_4 = 5 ∧ CV T N 41 [vr (some a_4), vr (gr h w 0)] h (fun h_7 => (∃ a_11, (gr h_7 w 0) = some a_11 ∧ T a_11 = 10 ∧ CI T N 99 [vr (some a_11)] h_7 (fun x_15 h_14 => (WI T N 126 23 [some (vr (some w)), some (vi x_15), some (vi 0), some (vi 0)] [] h_14 K)))))) : CI T N 126 [vr (some w)] h K := by
  show WP T N 126 0 [some (vr (some w)), none, none, none] [] h _
  refine R_ps 1 (pc2 := 1) (L2 := [some (vr (some w)), none, none, none]) (st2 := [vr (some w)]) rfl ?_
  refine R_getR rfl t0 ?_
  refine R_ps 1 (pc2 := 5) (L2 := [some (vr (some w)), none, none, none]) (st2 := [vr (some w), vr (gr h w 2)]) rfl ?_
  refine R_getR rfl t0 ?_
  obtain ⟨a_4, e_5, k⟩ := k
  rw [e_5]
  obtain ⟨t_6, k⟩ := k
  refine R_cV (as := [vr (some a_4), vr (gr h w 0)]) rfl rfl ⟨Nat.le_of_ble_eq_true rfl, Nat.le_of_ble_eq_true rfl, rfl, (Or.inr ⟨_, rfl, t_6⟩)⟩ rfl rfl k (fun h_7 k => ?_)
  refine R_ps 1 (pc2 := 12) (L2 := [some (vr (some w)), none, none, none]) (st2 := [vr (some w)]) rfl ?_
  refine R_getR rfl t0 ?_
  obtain ⟨a_11, e_12, k⟩ := k
  rw [e_12]
  obtain ⟨t_13, k⟩ := k
  refine R_cI (as := [vr (some a_11)]) rfl rfl ⟨Nat.le_of_ble_eq_true rfl, Nat.le_of_ble_eq_true rfl, rfl, (Or.inr ⟨_, rfl, t_13⟩)⟩ rfl rfl k (fun x_15 h_14 k => ?_)
  refine R_ps 5 (pc2 := 23) (L2 := [some (vr (some w)), some (vi x_15), some (vi 0), some (vi 0)]) (st2 := []) rfl ?_
  exact k
theorem m126_23 {T N : Nat → Nat} {h : PH} {w : Nat} {x1 : Int32} {x2 : Int32} {x3 : Int32} {K : Int32 → PH → Prop} (t0 : T w = 11) (k : (∃ a_3, (gr h w 0) = some a_3 ∧ T a_3 = 10 ∧ ((x3 < (gi h a_3 5) → (CI T N 145 [vi x1, vi x3] h (fun x_10 h_9 => (((x_10 = 0 → (WI T N 126 23 [some (vr (some w)), some (vi x1), some (vi x2), some (vi (x3 + 1))] [] h_9 K)) ∧ (¬ (x_10 = 0) → (CI T N 151 [vr (some w), vi x3] h_9 (fun x_14 h_13 => (((x_14 = 0 → (WI T N 126 23 [some (vr (some w)), some (vi x1), some (vi x2), some (vi (x3 + 1))] [] h_13 K)) ∧ (¬ (x_14 = 0) → (WI T N 126 23 [some (vr (some w)), some (vi x1), some (vi (x2 + 1)), some (vi (x3 + 1))] [] h_13 K)))))))))))) ∧ (¬ (x3 < (gi h a_3 5)) → (K x2 h))))) : WI T N 126 23 [some (vr (some w)), some (vi x1), some (vi x2), some (vi x3)] [] h K := by
  show WP T N 126 23 [some (vr (some w)), some (vi x1), some (vi x2), some (vi x3)] [] h _
  refine R_ps 2 (pc2 := 25) (L2 := [some (vr (some w)), some (vi x1), some (vi x2), some (vi x3)]) (st2 := [vr (some w), vi x3]) rfl ?_
  refine R_getR rfl t0 ?_
  obtain ⟨a_3, e_4, k⟩ := k
  rw [e_4]
  obtain ⟨t_5, k⟩ := k
  refine R_getI rfl t_5 ?_
  refine R_if rfl (fun c_6 => ?_) (fun c_6 => ?_)
  · have k := k.2 (i32_nlt c_6)
    refine R_ps 1 (pc2 := 60) (L2 := [some (vr (some w)), some (vi x1), some (vi x2), some (vi x3)]) (st2 := [vi x2]) rfl ?_
    exact R_iret rfl rfl ⟨_, rfl, k⟩
  · have k := k.1 (i32_lt c_6)
    refine R_ps 2 (pc2 := 36) (L2 := [some (vr (some w)), some (vi x1), some (vi x2), some (vi x3)]) (st2 := [vi x3, vi x1]) rfl ?_
    refine R_cI (as := [vi x1, vi x3]) rfl rfl ⟨Nat.le_of_ble_eq_true rfl, Nat.le_of_ble_eq_true rfl, rfl, (Or.inl rfl)⟩ rfl rfl k (fun x_10 h_9 k => ?_)
    refine R_if0 rfl (fun c_11 => ?_) (fun c_11 => ?_)
    · have k := k.1 c_11
      refine R_ps 2 (pc2 := 23) (L2 := [some (vr (some w)), some (vi x1), some (vi x2), some (vi (x3 + 1))]) (st2 := []) rfl ?_
      exact k
    · have k := k.2 c_11
      refine R_ps 2 (pc2 := 44) (L2 := [some (vr (some w)), some (vi x1), some (vi x2), some (vi x3)]) (st2 := [vi x3, vr (some w)]) rfl ?_
      refine R_cI (as := [vr (some w), vi x3]) rfl rfl ⟨Nat.le_of_ble_eq_true rfl, Nat.le_of_ble_eq_true rfl, rfl, (Or.inr ⟨_, rfl, t0⟩)⟩ rfl rfl k (fun x_14 h_13 k => ?_)
      refine R_if0 rfl (fun c_15 => ?_) (fun c_15 => ?_)
      · have k := k.1 c_15
        refine R_ps 2 (pc2 := 23) (L2 := [some (vr (some w)), some (vi x1), some (vi x2), some (vi (x3 + 1))]) (st2 := []) rfl ?_
        exact k
      · have k := k.2 c_15
        refine R_ps 3 (pc2 := 23) (L2 := [some (vr (some w)), some (vi x1), some (vi (x2 + 1)), some (vi (x3 + 1))]) (st2 := []) rfl ?_
        exact k
/-- DroneCorridors.nearestPad -/
theorem m127 {T N : Nat → Nat} {h : PH} {w : Nat} {x1 : Int32} {K : PR → PH → Prop} (t0 : T w = 11) (k : (∃ a_3, (gr h w 0) = some a_3 ∧ T a_3 = 10 ∧ CR T N 91 [vr (some a_3), vi x1] h (fun x_7 h_6 => (((x_7 = none → ((∀ a, nx h_6 ≤ a → T a = 0) ∧ K (.inr 2) (bump h_6))) ∧ (∀ a_9, x_7 = some a_9 → (∃ a_17, (gr h_6 w 0) = some a_17 ∧ T a_17 = 10 ∧ ∃ a_21, (gr h_6 w 3) = some a_21 ∧ T a_21 = 8 ∧ CI T N 59 [vr (some a_21), vr (some a_17), vi x1, vi (gi h_6 a_17 2), vi 2] h_6 (fun x_25 h_24 => (((x_25 = 0 → ((∀ a, nx h_24 ≤ a → T a = 0) ∧ K (.inr 5) (bump h_24))) ∧ (¬ (x_25 = 0) → (∃ a_29, (gr h_24 w 3) = some a_29 ∧ T a_29 = 8 ∧ K (.inl (some (vi (gi h_24 a_29 2)))) h_24)))))))))))) : CALL T N 127 [vr (some w), vi x1] h K := by
  show WP T N 127 0 [some (vr (some w)), some (vi x1)] [] h _
  refine R_ps 1 (pc2 := 1) (L2 := [some (vr (some w)), some (vi x1)]) (st2 := [vr (some w)]) rfl ?_
  refine R_getR rfl t0 ?_
  refine R_ps 1 (pc2 := 5) (L2 := [some (vr (some w)), some (vi x1)]) (st2 := [vi x1, vr (gr h w 0)]) rfl ?_
  obtain ⟨a_3, e_4, k⟩ := k
  rw [e_4]
  obtain ⟨t_5, k⟩ := k
  refine R_cR (as := [vr (some a_3), vi x1]) rfl rfl ⟨Nat.le_of_ble_eq_true rfl, Nat.le_of_ble_eq_true rfl, rfl, (Or.inr ⟨_, rfl, t_5⟩)⟩ rfl rfl k (fun x_7 h_6 k => ?_)
  rcases null_or (x_7) with e_10 | ⟨a_9, e_10⟩
  · have k := k.1 e_10
    rw [e_10]
    refine R_nonnull rfl (fun _ => ?_) (fun _ c_8 => nomatch c_8)
    obtain ⟨t_12, k⟩ := k
    exact R_throw rfl rfl ⟨Nat.le_of_ble_eq_true rfl, t_12⟩ k
  · have k := k.2 a_9 e_10
    rw [e_10]
    refine R_nonnull rfl (fun c_8 => nomatch c_8) (fun _ _ => ?_)
    refine R_ps 1 (pc2 := 22) (L2 := [some (vr (some w)), some (vi x1)]) (st2 := [vr (some w)]) rfl ?_
    refine R_getR rfl t0 ?_
    refine R_ps 1 (pc2 := 26) (L2 := [some (vr (some w)), some (vi x1)]) (st2 := [vr (some w), vr (gr h_6 w 3)]) rfl ?_
    refine R_getR rfl t0 ?_
    refine R_ps 2 (pc2 := 31) (L2 := [some (vr (some w)), some (vi x1)]) (st2 := [vr (some w), vi x1, vr (gr h_6 w 0), vr (gr h_6 w 3)]) rfl ?_
    refine R_getR rfl t0 ?_
    obtain ⟨a_17, e_18, k⟩ := k
    rw [e_18]
    obtain ⟨t_19, k⟩ := k
    refine R_getI rfl t_19 ?_
    refine R_ps 1 (pc2 := 38) (L2 := [some (vr (some w)), some (vi x1)]) (st2 := [vi 2, vi (gi h_6 a_17 2), vi x1, vr (some a_17), vr (gr h_6 w 3)]) rfl ?_
    obtain ⟨a_21, e_22, k⟩ := k
    rw [e_22]
    obtain ⟨t_23, k⟩ := k
    refine R_cI (as := [vr (some a_21), vr (some a_17), vi x1, vi (gi h_6 a_17 2), vi 2]) rfl rfl ⟨Nat.le_of_ble_eq_true rfl, Nat.le_of_ble_eq_true rfl, rfl, (Or.inr ⟨_, rfl, t_23⟩)⟩ rfl rfl k (fun x_25 h_24 k => ?_)
    refine R_if0 rfl (fun c_26 => ?_) (fun c_26 => ?_)
    · have k := k.2 c_26
      refine R_ps 1 (pc2 := 56) (L2 := [some (vr (some w)), some (vi x1)]) (st2 := [vr (some w)]) rfl ?_
      refine R_getR rfl t0 ?_
      obtain ⟨a_29, e_30, k⟩ := k
      rw [e_30]
      obtain ⟨t_31, k⟩ := k
      refine R_getI rfl t_31 ?_
      exact R_iret rfl rfl k
    · have k := k.1 (Classical.not_not.mp c_26)
      obtain ⟨t_34, k⟩ := k
      exact R_throw rfl rfl ⟨Nat.le_of_ble_eq_true rfl, t_34⟩ k
/-- DroneCorridors.low -/
theorem m128 {T N : Nat → Nat} {h : PH} {w : Nat} {K : Int32 → PH → Prop} (t0 : T w = 11) (k : (∃ a_5, (gr h w 0) = some a_5 ∧ T a_5 = 10 ∧ ∃ a_9, (gr h w 4) = some a_9 ∧ T a_9 = 9 ∧ CV T N 79 [vr (some a_9), vr (some a_5), vi (gi h a_5 2), vi 0] h (fun h_12 => (WI T N 128 23 [some (vr (some w)), some (vi 0), some (vi 0), none] [] h_12 K)))) : CI T N 128 [vr (some w)] h K := by
  show WP T N 128 0 [some (vr (some w)), none, none, none] [] h _
  refine R_ps 1 (pc2 := 1) (L2 := [some (vr (some w)), none, none, none]) (st2 := [vr (some w)]) rfl ?_
  refine R_getR rfl t0 ?_
  refine R_ps 1 (pc2 := 5) (L2 := [some (vr (some w)), none, none, none]) (st2 := [vr (some w), vr (gr h w 4)]) rfl ?_
  refine R_getR rfl t0 ?_
  refine R_ps 1 (pc2 := 9) (L2 := [some (vr (some w)), none, none, none]) (st2 := [vr (some w), vr (gr h w 0), vr (gr h w 4)]) rfl ?_
  refine R_getR rfl t0 ?_
  obtain ⟨a_5, e_6, k⟩ := k
  rw [e_6]
  obtain ⟨t_7, k⟩ := k
  refine R_getI rfl t_7 ?_
  refine R_ps 1 (pc2 := 16) (L2 := [some (vr (some w)), none, none, none]) (st2 := [vi 0, vi (gi h a_5 2), vr (some a_5), vr (gr h w 4)]) rfl ?_
  obtain ⟨a_9, e_10, k⟩ := k
  rw [e_10]
  obtain ⟨t_11, k⟩ := k
  refine R_cV (as := [vr (some a_9), vr (some a_5), vi (gi h a_5 2), vi 0]) rfl rfl ⟨Nat.le_of_ble_eq_true rfl, Nat.le_of_ble_eq_true rfl, rfl, (Or.inr ⟨_, rfl, t_11⟩)⟩ rfl rfl k (fun h_12 k => ?_)
  refine R_ps 4 (pc2 := 23) (L2 := [some (vr (some w)), some (vi 0), some (vi 0), none]) (st2 := []) rfl ?_
  exact k
theorem m128_23 {T N : Nat → Nat} {h : PH} {w : Nat} {x1 : Int32} {x2 : Int32} {K : Int32 → PH → Prop} (t0 : T w = 11) (k : (∃ a_3, (gr h w 0) = some a_3 ∧ T a_3 = 10 ∧ ((x2 < (gi h a_3 5) → (∃ a_10, (gr h w 0) = some a_10 ∧ T a_10 = 10 ∧ CR T N 91 [vr (some a_10), vi x2] h (fun x_14 h_13 => (((x_14 = none → (WI T N 128 23 [some (vr (some w)), some (vi x1), some (vi (x2 + 1)), none] [] h_13 K)) ∧ (∀ a_16, x_14 = some a_16 → (T a_16 = 3 ∧ (((gi h_13 a_16 0) = 1 → (∃ a_25, (gr h_13 w 4) = some a_25 ∧ T a_25 = 9 ∧ CI T N 78 [vr (some a_25), vi (gi h_13 a_16 3)] h_13 (fun x_29 h_28 => ((((gi h_13 a_16 1) < x_29 → (WI T N 128 23 [some (vr (some w)), some (vi (x1 ||| (1 <<< (x2 &&& 31)))), some (vi (x2 + 1)), none] [] h_28 K)) ∧ (¬ ((gi h_13 a_16 1) < x_29) → (WI T N 128 23 [some (vr (some w)), some (vi x1), some (vi (x2 + 1)), none] [] h_28 K))))))) ∧ (¬ ((gi h_13 a_16 0) = 1) → (WI T N 128 23 [some (vr (some w)), some (vi x1), some (vi (x2 + 1)), none] [] h_13 K)))))))))) ∧ (¬ (x2 < (gi h a_3 5)) → (K x1 h))))) : WI T N 128 23 [some (vr (some w)), some (vi x1), some (vi x2), none] [] h K := by
  show WP T N 128 23 [some (vr (some w)), some (vi x1), some (vi x2), none] [] h _
  refine R_ps 2 (pc2 := 25) (L2 := [some (vr (some w)), some (vi x1), some (vi x2), none]) (st2 := [vr (some w), vi x2]) rfl ?_
  refine R_getR rfl t0 ?_
  obtain ⟨a_3, e_4, k⟩ := k
  rw [e_4]
  obtain ⟨t_5, k⟩ := k
  refine R_getI rfl t_5 ?_
  refine R_if rfl (fun c_6 => ?_) (fun c_6 => ?_)
  · have k := k.2 (i32_nlt c_6)
    refine R_ps 1 (pc2 := 86) (L2 := [some (vr (some w)), some (vi x1), some (vi x2), none]) (st2 := [vi x1]) rfl ?_
    exact R_iret rfl rfl ⟨_, rfl, k⟩
  · have k := k.1 (i32_lt c_6)
    refine R_ps 1 (pc2 := 35) (L2 := [some (vr (some w)), some (vi x1), some (vi x2), none]) (st2 := [vr (some w)]) rfl ?_
    refine R_getR rfl t0 ?_
    refine R_ps 1 (pc2 := 39) (L2 := [some (vr (some w)), some (vi x1), some (vi x2), none]) (st2 := [vi x2, vr (gr h w 0)]) rfl ?_
    obtain ⟨a_10, e_11, k⟩ := k
    rw [e_11]
    obtain ⟨t_12, k⟩ := k
    refine R_cR (as := [vr (some a_10), vi x2]) rfl rfl ⟨Nat.le_of_ble_eq_true rfl, Nat.le_of_ble_eq_true rfl, rfl, (Or.inr ⟨_, rfl, t_12⟩)⟩ rfl rfl k (fun x_14 h_13 k => ?_)
    refine R_ps 2 (pc2 := 44) (L2 := [some (vr (some w)), some (vi x1), some (vi x2), some (vr x_14)]) (st2 := [vr x_14]) rfl ?_
    rcases null_or (x_14) with e_17 | ⟨a_16, e_17⟩
    · have k := k.1 e_17
      rw [e_17]
      refine R_null rfl (fun _ => ?_) (fun _ c_15 => nomatch c_15)
      refine R_ps 2 (pc2 := 23) (L2 := [some (vr (some w)), some (vi x1), some (vi (x2 + 1)), some (vr none)]) (st2 := []) rfl ?_
      exact R_drop k (LE_of (L := [some (vr (some w)), some (vi x1), some (vi (x2 + 1)), none]) (L2 := [some (vr (some w)), some (vi x1), some (vi (x2 + 1)), some (vr none)]) ⟨rfl, rfl, rfl, trivial⟩)
    · have k := k.2 a_16 e_17
      rw [e_17]
      refine R_null rfl (fun c_15 => nomatch c_15) (fun _ _ => ?_)
      refine R_ps 1 (pc2 := 48) (L2 := [some (vr (some w)), some (vi x1), some (vi x2), some (vr (some a_16))]) (st2 := [vr (some a_16)]) rfl ?_
      obtain ⟨t_19, k⟩ := k
      refine R_getI rfl t_19 ?_
      refine R_ps 1 (pc2 := 52) (L2 := [some (vr (some w)), some (vi x1), some (vi x2), some (vr (some a_16))]) (st2 := [vi 1, vi (gi h_13 a_16 0)]) rfl ?_
      refine R_if rfl (fun c_20 => ?_) (fun c_20 => ?_)
      · have k := k.2 c_20
        refine R_ps 2 (pc2 := 23) (L2 := [some (vr (some w)), some (vi x1), some (vi (x2 + 1)), some (vr (some a_16))]) (st2 := []) rfl ?_
        exact R_drop k (LE_of (L := [some (vr (some w)), some (vi x1), some (vi (x2 + 1)), none]) (L2 := [some (vr (some w)), some (vi x1), some (vi (x2 + 1)), some (vr (some a_16))]) ⟨rfl, rfl, rfl, trivial⟩)
      · have k := k.1 (Classical.not_not.mp c_20)
        refine R_ps 1 (pc2 := 56) (L2 := [some (vr (some w)), some (vi x1), some (vi x2), some (vr (some a_16))]) (st2 := [vr (some a_16)]) rfl ?_
        refine R_getI rfl t_19 ?_
        refine R_ps 1 (pc2 := 60) (L2 := [some (vr (some w)), some (vi x1), some (vi x2), some (vr (some a_16))]) (st2 := [vr (some w), vi (gi h_13 a_16 1)]) rfl ?_
        refine R_getR rfl t0 ?_
        refine R_ps 1 (pc2 := 64) (L2 := [some (vr (some w)), some (vi x1), some (vi x2), some (vr (some a_16))]) (st2 := [vr (some a_16), vr (gr h_13 w 4), vi (gi h_13 a_16 1)]) rfl ?_
        refine R_getI rfl t_19 ?_
        obtain ⟨a_25, e_26, k⟩ := k
        rw [e_26]
        obtain ⟨t_27, k⟩ := k
        refine R_cI (as := [vr (some a_25), vi (gi h_13 a_16 3)]) rfl rfl ⟨Nat.le_of_ble_eq_true rfl, Nat.le_of_ble_eq_true rfl, rfl, (Or.inr ⟨_, rfl, t_27⟩)⟩ rfl rfl k (fun x_29 h_28 k => ?_)
        refine R_if rfl (fun c_30 => ?_) (fun c_30 => ?_)
        · have k := k.2 (i32_nlt c_30)
          refine R_ps 2 (pc2 := 23) (L2 := [some (vr (some w)), some (vi x1), some (vi (x2 + 1)), some (vr (some a_16))]) (st2 := []) rfl ?_
          exact R_drop k (LE_of (L := [some (vr (some w)), some (vi x1), some (vi (x2 + 1)), none]) (L2 := [some (vr (some w)), some (vi x1), some (vi (x2 + 1)), some (vr (some a_16))]) ⟨rfl, rfl, rfl, trivial⟩)
        · have k := k.1 (i32_lt c_30)
          refine R_ps 8 (pc2 := 23) (L2 := [some (vr (some w)), some (vi (x1 ||| (1 <<< (x2 &&& 31)))), some (vi (x2 + 1)), some (vr (some a_16))]) (st2 := []) rfl ?_
          exact R_drop k (LE_of (L := [some (vr (some w)), some (vi (x1 ||| (1 <<< (x2 &&& 31)))), some (vi (x2 + 1)), none]) (L2 := [some (vr (some w)), some (vi (x1 ||| (1 <<< (x2 &&& 31)))), some (vi (x2 + 1)), some (vr (some a_16))]) ⟨rfl, rfl, rfl, trivial⟩)
/-- DroneCorridors.reason -/
theorem m129 {T N : Nat → Nat} {h : PH} {w : Nat} {K : PR → PH → Prop} (t0 : T w = 11) (k : ((((gi h w 8) = (-1) → ((∀ a, nx h ≤ a → T a = 0) ∧ K (.inr 5) (bump h))) ∧ (¬ ((gi h w 8) = (-1)) → (K (.inl (some (vi (gi h w 8)))) h))))) : CALL T N 129 [vr (some w)] h K := by
  show WP T N 129 0 [some (vr (some w))] [] h _
  refine R_ps 1 (pc2 := 1) (L2 := [some (vr (some w))]) (st2 := [vr (some w)]) rfl ?_
  refine R_getI rfl t0 ?_
  refine R_ps 1 (pc2 := 5) (L2 := [some (vr (some w))]) (st2 := [vi (-1), vi (gi h w 8)]) rfl ?_
  refine R_if rfl (fun c_2 => ?_) (fun c_2 => ?_)
  · have k := k.2 c_2
    refine R_ps 1 (pc2 := 20) (L2 := [some (vr (some w))]) (st2 := [vr (some w)]) rfl ?_
    refine R_getI rfl t0 ?_
    exact R_iret rfl rfl k
  · have k := k.1 (Classical.not_not.mp c_2)
    obtain ⟨t_6, k⟩ := k
    exact R_throw rfl rfl ⟨Nat.le_of_ble_eq_true rfl, t_6⟩ k
/-- DroneCorridors.advance -/
theorem m130 {T N : Nat → Nat} {h : PH} {w : Nat} {x1 : Int32} {K : PR → PH → Prop} (t0 : T w = 11) (k : (((x1 < 1 → ((∀ a, nx h ≤ a → T a = 0) ∧ K (.inr 1) (bump h))) ∧ (¬ (x1 < 1) → (((40 < x1 → ((∀ a, nx h ≤ a → T a = 0) ∧ K (.inr 1) (bump h))) ∧ (¬ (40 < x1) → (∃ a_7, (gr h w 0) = some a_7 ∧ T a_7 = 10 ∧ ((10000 < ((gi h a_7 0) + x1) → ((∀ a, nx h ≤ a → T a = 0) ∧ K (.inr 0) (bump h))) ∧ (¬ (10000 < ((gi h a_7 0) + x1)) → (∃ a_14, (gr h w 2) = some a_14 ∧ T a_14 = 5 ∧ CV T N 41 [vr (some a_14), vr (gr h w 0)] h (fun h_17 => (∃ a_21, (gr h_17 w 0) = some a_21 ∧ T a_21 = 10 ∧ CI T N 103 [vr (some a_21), vi x1] h_17 (fun x_25 h_24 => (K (.inl (some (vi x_25))) h_24))))))))))))))) : CALL T N 130 [vr (some w), vi x1] h K := by
  show WP T N 130 0 [some (vr (some w)), some (vi x1)] [] h _
  refine R_ps 2 (pc2 := 2) (L2 := [some (vr (some w)), some (vi x1)]) (st2 := [vi 1, vi x1]) rfl ?_
  refine R_if rfl (fun c_1 => ?_) (fun c_1 => ?_)
  · have k := k.1 c_1
    obtain ⟨t_3, k⟩ := k
    exact R_throw rfl rfl ⟨Nat.le_of_ble_eq_true rfl, t_3⟩ k
  · have k := k.2 c_1
    refine R_ps 2 (pc2 := 8) (L2 := [some (vr (some w)), some (vi x1)]) (st2 := [vi 40, vi x1]) rfl ?_
    refine R_if rfl (fun c_4 => ?_) (fun c_4 => ?_)
    · have k := k.2 (i32_nlt c_4)
      refine R_ps 1 (pc2 := 23) (L2 := [some (vr (some w)), some (vi x1)]) (st2 := [vr (some w)]) rfl ?_
      refine R_getR rfl t0 ?_
      obtain ⟨a_7, e_8, k⟩ := k
      rw [e_8]
      obtain ⟨t_9, k⟩ := k
      refine R_getI rfl t_9 ?_
      refine R_ps 3 (pc2 := 34) (L2 := [some (vr (some w)), some (vi x1)]) (st2 := [vi 10000, vi ((gi h a_7 0) + x1)]) rfl ?_
      refine R_if rfl (fun c_10 => ?_) (fun c_10 => ?_)
      · have k := k.2 (i32_nlt c_10)
        refine R_ps 1 (pc2 := 49) (L2 := [some (vr (some w)), some (vi x1)]) (st2 := [vr (some w)]) rfl ?_
        refine R_getR rfl t0 ?_
        refine R_ps 1 (pc2 := 53) (L2 := [some (vr (some w)), some (vi x1)]) (st2 := [vr (some w), vr (gr h w 2)]) rfl ?_
        refine R_getR rfl t0 ?_
        obtain ⟨a_14, e_15, k⟩ := k
        rw [e_15]
        obtain ⟨t_16, k⟩ := k
        refine R_cV (as := [vr (some a_14), vr (gr h w 0)]) rfl rfl ⟨Nat.le_of_ble_eq_true rfl, Nat.le_of_ble_eq_true rfl, rfl, (Or.inr ⟨_, rfl, t_16⟩)⟩ rfl rfl k (fun h_17 k => ?_)
        refine R_ps 1 (pc2 := 60) (L2 := [some (vr (some w)), some (vi x1)]) (st2 := [vr (some w)]) rfl ?_
        refine R_getR rfl t0 ?_
        refine R_ps 1 (pc2 := 64) (L2 := [some (vr (some w)), some (vi x1)]) (st2 := [vi x1, vr (gr h_17 w 0)]) rfl ?_
        obtain ⟨a_21, e_22, k⟩ := k
        rw [e_22]
        obtain ⟨t_23, k⟩ := k
        refine R_cI (as := [vr (some a_21), vi x1]) rfl rfl ⟨Nat.le_of_ble_eq_true rfl, Nat.le_of_ble_eq_true rfl, rfl, (Or.inr ⟨_, rfl, t_23⟩)⟩ rfl rfl k (fun x_25 h_24 k => ?_)
        exact R_iret rfl rfl k
      · have k := k.1 (i32_lt c_10)
        obtain ⟨t_28, k⟩ := k
        exact R_throw rfl rfl ⟨Nat.le_of_ble_eq_true rfl, t_28⟩ k
    · have k := k.1 (i32_lt c_4)
      obtain ⟨t_30, k⟩ := k
      exact R_throw rfl rfl ⟨Nat.le_of_ble_eq_true rfl, t_30⟩ k
/-- DroneCorridors.placeAfter -/
theorem m131 {T N : Nat → Nat} {h : PH} {w : Nat} {x1 : Int32} {x2 : Int32} {K : PR → PH → Prop} (t0 : T w = 11) (k : (∃ a_3, (gr h w 0) = some a_3 ∧ T a_3 = 10 ∧ CR T N 91 [vr (some a_3), vi x1] h (fun x_7 h_6 => (((x_7 = none → ((∀ a, nx h_6 ≤ a → T a = 0) ∧ K (.inr 2) (bump h_6))) ∧ (∀ a_9, x_7 = some a_9 → (((x2 < 0 → ((∀ a, nx h_6 ≤ a → T a = 0) ∧ K (.inr 1) (bump h_6))) ∧ (¬ (x2 < 0) → (((40 < x2 → ((∀ a, nx h_6 ≤ a → T a = 0) ∧ K (.inr 1) (bump h_6))) ∧ (¬ (40 < x2) → (∃ a_19, (gr h_6 w 6) = some a_19 ∧ T a_19 = 3 ∧ CV T N 16 [vr (some a_19), vr (some a_9)] h_6 (fun h_22 => (WX T N 131 55 [some (vr (some w)), none, some (vi x2), none, some (vi 0)] [] h_22 K))))))))))))))) : CALL T N 131 [vr (some w), vi x1, vi x2] h K := by
  show WP T N 131 0 [some (vr (some w)), some (vi x1), some (vi x2), none, none] [] h _
  refine R_ps 1 (pc2 := 1) (L2 := [some (vr (some w)), some (vi x1), some (vi x2), none, none]) (st2 := [vr (some w)]) rfl ?_
  refine R_getR rfl t0 ?_
  refine R_ps 1 (pc2 := 5) (L2 := [some (vr (some w)), some (vi x1), some (vi x2), none, none]) (st2 := [vi x1, vr (gr h w 0)]) rfl ?_
  obtain ⟨a_3, e_4, k⟩ := k
  rw [e_4]
  obtain ⟨t_5, k⟩ := k
  refine R_cR (as := [vr (some a_3), vi x1]) rfl rfl ⟨Nat.le_of_ble_eq_true rfl, Nat.le_of_ble_eq_true rfl, rfl, (Or.inr ⟨_, rfl, t_5⟩)⟩ rfl rfl k (fun x_7 h_6 k => ?_)
  refine R_ps 2 (pc2 := 10) (L2 := [some (vr (some w)), some (vi x1), some (vi x2), some (vr x_7), none]) (st2 := [vr x_7]) rfl ?_
  rcases null_or (x_7) with e_10 | ⟨a_9, e_10⟩
  · have k := k.1 e_10
    rw [e_10]
    refine R_nonnull rfl (fun _ => ?_) (fun _ c_8 => nomatch c_8)
    obtain ⟨t_12, k⟩ := k
    exact R_throw rfl rfl ⟨Nat.le_of_ble_eq_true rfl, t_12⟩ k
  · have k := k.2 a_9 e_10
    rw [e_10]
    refine R_nonnull rfl (fun c_8 => nomatch c_8) (fun _ _ => ?_)
    refine R_ps 1 (pc2 := 24) (L2 := [some (vr (some w)), some (vi x1), some (vi x2), some (vr (some a_9)), none]) (st2 := [vi x2]) rfl ?_
    refine R_if0 rfl (fun c_13 => ?_) (fun c_13 => ?_)
    · have k := k.1 c_13
      obtain ⟨t_15, k⟩ := k
      exact R_throw rfl rfl ⟨Nat.le_of_ble_eq_true rfl, t_15⟩ k
    · have k := k.2 c_13
      refine R_ps 2 (pc2 := 30) (L2 := [some (vr (some w)), some (vi x1), some (vi x2), some (vr (some a_9)), none]) (st2 := [vi 40, vi x2]) rfl ?_
      refine R_if rfl (fun c_16 => ?_) (fun c_16 => ?_)
      · have k := k.2 (i32_nlt c_16)
        refine R_ps 1 (pc2 := 45) (L2 := [some (vr (some w)), some (vi x1), some (vi x2), some (vr (some a_9)), none]) (st2 := [vr (some w)]) rfl ?_
        refine R_getR rfl t0 ?_
        refine R_ps 1 (pc2 := 49) (L2 := [some (vr (some w)), some (vi x1), some (vi x2), some (vr (some a_9)), none]) (st2 := [vr (some a_9), vr (gr h_6 w 6)]) rfl ?_
        obtain ⟨a_19, e_20, k⟩ := k
        rw [e_20]
        obtain ⟨t_21, k⟩ := k
        refine R_cV (as := [vr (some a_19), vr (some a_9)]) rfl rfl ⟨Nat.le_of_ble_eq_true rfl, Nat.le_of_ble_eq_true rfl, rfl, (Or.inr ⟨_, rfl, t_21⟩)⟩ rfl rfl k (fun h_22 k => ?_)
        refine R_ps 2 (pc2 := 55) (L2 := [some (vr (some w)), some (vi x1), some (vi x2), some (vr (some a_9)), some (vi 0)]) (st2 := []) rfl ?_
        exact R_drop k (LE_of (L := [some (vr (some w)), none, some (vi x2), none, some (vi 0)]) (L2 := [some (vr (some w)), some (vi x1), some (vi x2), some (vr (some a_9)), some (vi 0)]) ⟨rfl, rfl, rfl, trivial⟩)
      · have k := k.1 (i32_lt c_16)
        obtain ⟨t_25, k⟩ := k
        exact R_throw rfl rfl ⟨Nat.le_of_ble_eq_true rfl, t_25⟩ k
theorem m131_55 {T N : Nat → Nat} {h : PH} {w : Nat} {x2 : Int32} {x4 : Int32} {K : PR → PH → Prop} (t0 : T w = 11) (k : (((x4 < x2 → (∃ a_14, (gr h w 0) = some a_14 ∧ T a_14 = 10 ∧ ∃ a_18, (gr h w 6) = some a_18 ∧ T a_18 = 3 ∧ CI T N 31 [vr (some a_18), vr (some a_14), vi ((gi h a_14 0) + x4)] h (fun x_22 h_21 => (WX T N 131 55 [some (vr (some w)), none, some (vi x2), none, some (vi (x4 + 1))] [] h_21 K)))) ∧ (¬ (x4 < x2) → (∃ a_4, (gr h w 6) = some a_4 ∧ T a_4 = 3 ∧ CI T N 21 [vr (some a_4)] h (fun x_8 h_7 => (K (.inl (some (vi x_8))) h_7))))))) : WX T N 131 55 [some (vr (some w)), none, some (vi x2), none, some (vi x4)] [] h K := by
  show WP T N 131 55 [some (vr (some w)), none, some (vi x2), none, some (vi x4)] [] h _
  refine R_ps 2 (pc2 := 58) (L2 := [some (vr (some w)), none, some (vi x2), none, some (vi x4)]) (st2 := [vi x2, vi x4]) rfl ?_
  refine R_if rfl (fun c_1 => ?_) (fun c_1 => ?_)
  · have k := k.2 (i32_nlt c_1)
    refine R_ps 1 (pc2 := 90) (L2 := [some (vr (some w)), none, some (vi x2), none, some (vi x4)]) (st2 := [vr (some w)]) rfl ?_
    refine R_getR rfl t0 ?_
    obtain ⟨a_4, e_5, k⟩ := k
    rw [e_5]
    obtain ⟨t_6, k⟩ := k
    refine R_cI (as := [vr (some a_4)]) rfl rfl ⟨Nat.le_of_ble_eq_true rfl, Nat.le_of_ble_eq_true rfl, rfl, (Or.inr ⟨_, rfl, t_6⟩)⟩ rfl rfl k (fun x_8 h_7 k => ?_)
    exact R_iret rfl rfl k
  · have k := k.1 (i32_lt c_1)
    refine R_ps 1 (pc2 := 62) (L2 := [some (vr (some w)), none, some (vi x2), none, some (vi x4)]) (st2 := [vr (some w)]) rfl ?_
    refine R_getR rfl t0 ?_
    refine R_ps 1 (pc2 := 66) (L2 := [some (vr (some w)), none, some (vi x2), none, some (vi x4)]) (st2 := [vr (some w), vr (gr h w 6)]) rfl ?_
    refine R_getR rfl t0 ?_
    refine R_ps 1 (pc2 := 70) (L2 := [some (vr (some w)), none, some (vi x2), none, some (vi x4)]) (st2 := [vr (some w), vr (gr h w 0), vr (gr h w 6)]) rfl ?_
    refine R_getR rfl t0 ?_
    obtain ⟨a_14, e_15, k⟩ := k
    rw [e_15]
    obtain ⟨t_16, k⟩ := k
    refine R_getI rfl t_16 ?_
    refine R_ps 2 (pc2 := 79) (L2 := [some (vr (some w)), none, some (vi x2), none, some (vi x4)]) (st2 := [vi ((gi h a_14 0) + x4), vr (some a_14), vr (gr h w 6)]) rfl ?_
    obtain ⟨a_18, e_19, k⟩ := k
    rw [e_19]
    obtain ⟨t_20, k⟩ := k
    refine R_cI (as := [vr (some a_18), vr (some a_14), vi ((gi h a_14 0) + x4)]) rfl rfl ⟨Nat.le_of_ble_eq_true rfl, Nat.le_of_ble_eq_true rfl, rfl, (Or.inr ⟨_, rfl, t_20⟩)⟩ rfl rfl k (fun x_22 h_21 k => ?_)
    refine R_ps 3 (pc2 := 55) (L2 := [some (vr (some w)), none, some (vi x2), none, some (vi (x4 + 1))]) (st2 := []) rfl ?_
    exact k
/-- DroneCorridors.pairs -/
theorem m132 {T N : Nat → Nat} {h : PH} {w : Nat} {x1 : Int32} {K : Int32 → PH → Prop} (k : (WI T N 132 4 [some (vr (some w)), some (vi x1), some (vi 0), some (vi 0), none] [] h K)) : CI T N 132 [vr (some w), vi x1] h K := by
  show WP T N 132 0 [some (vr (some w)), some (vi x1), none, none, none] [] h _
  refine R_ps 4 (pc2 := 4) (L2 := [some (vr (some w)), some (vi x1), some (vi 0), some (vi 0), none]) (st2 := []) rfl ?_
  exact k
theorem m132_4 {T N : Nat → Nat} {h : PH} {w : Nat} {x1 : Int32} {x2 : Int32} {x3 : Int32} {K : Int32 → PH → Prop} (t0 : T w = 11) (k : (∃ a_3, (gr h w 0) = some a_3 ∧ T a_3 = 10 ∧ ((x3 < (gi h a_3 5) → (WI T N 132 20 [some (vr (some w)), some (vi x1), some (vi x2), some (vi x3), some (vi (x3 + 1))] [] h K)) ∧ (¬ (x3 < (gi h a_3 5)) → (K x2 h))))) : WI T N 132 4 [some (vr (some w)), some (vi x1), some (vi x2), some (vi x3), none] [] h K := by
  show WP T N 132 4 [some (vr (some w)), some (vi x1), some (vi x2), some (vi x3), none] [] h _
  refine R_ps 2 (pc2 := 6) (L2 := [some (vr (some w)), some (vi x1), some (vi x2), some (vi x3), none]) (st2 := [vr (some w), vi x3]) rfl ?_
  refine R_getR rfl t0 ?_
  obtain ⟨a_3, e_4, k⟩ := k
  rw [e_4]
  obtain ⟨t_5, k⟩ := k
  refine R_getI rfl t_5 ?_
  refine R_if rfl (fun c_6 => ?_) (fun c_6 => ?_)
  · have k := k.2 (i32_nlt c_6)
    refine R_ps 1 (pc2 := 69) (L2 := [some (vr (some w)), some (vi x1), some (vi x2), some (vi x3), none]) (st2 := [vi x2]) rfl ?_
    exact R_iret rfl rfl ⟨_, rfl, k⟩
  · have k := k.1 (i32_lt c_6)
    refine R_ps 4 (pc2 := 20) (L2 := [some (vr (some w)), some (vi x1), some (vi x2), some (vi x3), some (vi (x3 + 1))]) (st2 := []) rfl ?_
    exact k
theorem m132_20 {T N : Nat → Nat} {h : PH} {w : Nat} {x1 : Int32} {x2 : Int32} {x3 : Int32} {x4 : Int32} {K : Int32 → PH → Prop} (t0 : T w = 11) (k : (∃ a_3, (gr h w 0) = some a_3 ∧ T a_3 = 10 ∧ ((x4 < (gi h a_3 5) → (∃ a_9, (gr h w 0) = some a_9 ∧ T a_9 = 10 ∧ CR T N 91 [vr (some a_9), vi x3] h (fun x_13 h_12 => (∃ a_16, (gr h_12 w 0) = some a_16 ∧ T a_16 = 10 ∧ CR T N 91 [vr (some a_16), vi x4] h_12 (fun x_20 h_19 => (CI T N 148 [vr x_13, vr x_20, vi x1] h_19 (fun x_23 h_22 => (WI T N 132 20 [some (vr (some w)), some (vi x1), some (vi (x2 + x_23)), some (vi x3), some (vi (x4 + 1))] [] h_22 K)))))))) ∧ (¬ (x4 < (gi h a_3 5)) → (WI T N 132 4 [some (vr (some w)), some (vi x1), some (vi x2), some (vi (x3 + 1)), none] [] h K))))) : WI T N 132 20 [some (vr (some w)), some (vi x1), some (vi x2), some (vi x3), some (vi x4)] [] h K := by
  show WP T N 132 20 [some (vr (some w)), some (vi x1), some (vi x2), some (vi x3), some (vi x4)] [] h _
  refine R_ps 2 (pc2 := 23) (L2 := [some (vr (some w)), some (vi x1), some (vi x2), some (vi x3), some (vi x4)]) (st2 := [vr (some w), vi x4]) rfl ?_
  refine R_getR rfl t0 ?_
  obtain ⟨a_3, e_4, k⟩ := k
  rw [e_4]
  obtain ⟨t_5, k⟩ := k
  refine R_getI rfl t_5 ?_
  refine R_if rfl (fun c_6 => ?_) (fun c_6 => ?_)
  · have k := k.2 (i32_nlt c_6)
    refine R_ps 2 (pc2 := 4) (L2 := [some (vr (some w)), some (vi x1), some (vi x2), some (vi (x3 + 1)), some (vi x4)]) (st2 := []) rfl ?_
    exact R_drop k (LE_of (L := [some (vr (some w)), some (vi x1), some (vi x2), some (vi (x3 + 1)), none]) (L2 := [some (vr (some w)), some (vi x1), some (vi x2), some (vi (x3 + 1)), some (vi x4)]) ⟨rfl, rfl, rfl, rfl, trivial⟩)
  · have k := k.1 (i32_lt c_6)
    refine R_ps 2 (pc2 := 34) (L2 := [some (vr (some w)), some (vi x1), some (vi x2), some (vi x3), some (vi x4)]) (st2 := [vr (some w), vi x2]) rfl ?_
    refine R_getR rfl t0 ?_
    refine R_ps 1 (pc2 := 38) (L2 := [some (vr (some w)), some (vi x1), some (vi x2), some (vi x3), some (vi x4)]) (st2 := [vi x3, vr (gr h w 0), vi x2]) rfl ?_
    obtain ⟨a_9, e_10, k⟩ := k
    rw [e_10]
    obtain ⟨t_11, k⟩ := k
    refine R_cR (as := [vr (some a_9), vi x3]) rfl rfl ⟨Nat.le_of_ble_eq_true rfl, Nat.le_of_ble_eq_true rfl, rfl, (Or.inr ⟨_, rfl, t_11⟩)⟩ rfl rfl k (fun x_13 h_12 k => ?_)
    refine R_ps 1 (pc2 := 42) (L2 := [some (vr (some w)), some (vi x1), some (vi x2), some (vi x3), some (vi x4)]) (st2 := [vr (some w), vr x_13, vi x2]) rfl ?_
    refine R_getR rfl t0 ?_
    refine R_ps 1 (pc2 := 47) (L2 := [some (vr (some w)), some (vi x1), some (vi x2), some (vi x3), some (vi x4)]) (st2 := [vi x4, vr (gr h_12 w 0), vr x_13, vi x2]) rfl ?_
    obtain ⟨a_16, e_17, k⟩ := k
    rw [e_17]
    obtain ⟨t_18, k⟩ := k
    refine R_cR (as := [vr (some a_16), vi x4]) rfl rfl ⟨Nat.le_of_ble_eq_true rfl, Nat.le_of_ble_eq_true rfl, rfl, (Or.inr ⟨_, rfl, t_18⟩)⟩ rfl rfl k (fun x_20 h_19 k => ?_)
    refine R_ps 1 (pc2 := 51) (L2 := [some (vr (some w)), some (vi x1), some (vi x2), some (vi x3), some (vi x4)]) (st2 := [vi x1, vr x_20, vr x_13, vi x2]) rfl ?_
    refine R_cI (as := [vr x_13, vr x_20, vi x1]) rfl rfl ⟨Nat.le_of_ble_eq_true rfl, Nat.le_of_ble_eq_true rfl, rfl, (Or.inl rfl)⟩ rfl rfl k (fun x_23 h_22 k => ?_)
    refine R_ps 4 (pc2 := 20) (L2 := [some (vr (some w)), some (vi x1), some (vi (x2 + x_23)), some (vi x3), some (vi (x4 + 1))]) (st2 := []) rfl ?_
    exact k
/-- DroneCorridors.uses -/
theorem m133 {T N : Nat → Nat} {h : PH} {w : Nat} {x1 : Int32} {x2 : Int32} {K : PR → PH → Prop} (t0 : T w = 11) (k : (∃ a_3, (gr h w 0) = some a_3 ∧ T a_3 = 10 ∧ CR T N 89 [vr (some a_3), vi x1] h (fun x_7 h_6 => (((x_7 = none → ((∀ a, nx h_6 ≤ a → T a = 0) ∧ K (.inr 2) (bump h_6))) ∧ (∀ a_9, x_7 = some a_9 → (((x2 < (-1) → ((∀ a, nx h_6 ≤ a → T a = 0) ∧ K (.inr 1) (bump h_6))) ∧ (¬ (x2 < (-1)) → (((x2 < 3 → (WX T N 133 47 [some (vr (some w)), some (vi x1), some (vi x2), some (vi 0), some (vi 0), none] [] h_6 K)) ∧ (¬ (x2 < 3) → ((∀ a, nx h_6 ≤ a → T a = 0) ∧ K (.inr 1) (bump h_6)))))))))))))) : CALL T N 133 [vr (some w), vi x1, vi x2] h K := by
  show WP T N 133 0 [some (vr (some w)), some (vi x1), some (vi x2), none, none, none] [] h _
  refine R_ps 1 (pc2 := 1) (L2 := [some (vr (some w)), some (vi x1), some (vi x2), none, none, none]) (st2 := [vr (some w)]) rfl ?_
  refine R_getR rfl t0 ?_
  refine R_ps 1 (pc2 := 5) (L2 := [some (vr (some w)), some (vi x1), some (vi x2), none, none, none]) (st2 := [vi x1, vr (gr h w 0)]) rfl ?_
  obtain ⟨a_3, e_4, k⟩ := k
  rw [e_4]
  obtain ⟨t_5, k⟩ := k
  refine R_cR (as := [vr (some a_3), vi x1]) rfl rfl ⟨Nat.le_of_ble_eq_true rfl, Nat.le_of_ble_eq_true rfl, rfl, (Or.inr ⟨_, rfl, t_5⟩)⟩ rfl rfl k (fun x_7 h_6 k => ?_)
  rcases null_or (x_7) with e_10 | ⟨a_9, e_10⟩
  · have k := k.1 e_10
    rw [e_10]
    refine R_nonnull rfl (fun _ => ?_) (fun _ c_8 => nomatch c_8)
    obtain ⟨t_12, k⟩ := k
    exact R_throw rfl rfl ⟨Nat.le_of_ble_eq_true rfl, t_12⟩ k
  · have k := k.2 a_9 e_10
    rw [e_10]
    refine R_nonnull rfl (fun c_8 => nomatch c_8) (fun _ _ => ?_)
    refine R_ps 2 (pc2 := 23) (L2 := [some (vr (some w)), some (vi x1), some (vi x2), none, none, none]) (st2 := [vi (-1), vi x2]) rfl ?_
    refine R_if rfl (fun c_13 => ?_) (fun c_13 => ?_)
    · have k := k.1 c_13
      obtain ⟨t_15, k⟩ := k
      exact R_throw rfl rfl ⟨Nat.le_of_ble_eq_true rfl, t_15⟩ k
    · have k := k.2 c_13
      refine R_ps 2 (pc2 := 28) (L2 := [some (vr (some w)), some (vi x1), some (vi x2), none, none, none]) (st2 := [vi 3, vi x2]) rfl ?_
      refine R_if rfl (fun c_16 => ?_) (fun c_16 => ?_)
      · have k := k.1 c_16
        refine R_ps 4 (pc2 := 47) (L2 := [some (vr (some w)), some (vi x1), some (vi x2), some (vi 0), some (vi 0), none]) (st2 := []) rfl ?_
        exact k
      · have k := k.2 c_16
        obtain ⟨t_18, k⟩ := k
        exact R_throw rfl rfl ⟨Nat.le_of_ble_eq_true rfl, t_18⟩ k
theorem m133_47 {T N : Nat → Nat} {h : PH} {w : Nat} {x1 : Int32} {x2 : Int32} {x3 : Int32} {x4 : Int32} {K : PR → PH → Prop} (t0 : T w = 11) (k : (∃ a_3, (gr h w 0) = some a_3 ∧ T a_3 = 10 ∧ ((x4 < (gi h a_3 5) → (∃ a_10, (gr h w 0) = some a_10 ∧ T a_10 = 10 ∧ CR T N 91 [vr (some a_10), vi x4] h (fun x_14 h_13 => (((x_14 = none → (WX T N 133 47 [some (vr (some w)), some (vi x1), some (vi x2), some (vi x3), some (vi (x4 + 1)), none] [] h_13 K)) ∧ (∀ a_16, x_14 = some a_16 → (T a_16 = 3 ∧ CI T N 25 [vr (some a_16), vi x1, vi x2] h_13 (fun x_21 h_20 => (WX T N 133 47 [some (vr (some w)), some (vi x1), some (vi x2), some (vi (x3 + x_21)), some (vi (x4 + 1)), none] [] h_20 K))))))))) ∧ (¬ (x4 < (gi h a_3 5)) → (K (.inl (some (vi x3))) h))))) : WX T N 133 47 [some (vr (some w)), some (vi x1), some (vi x2), some (vi x3), some (vi x4), none] [] h K := by
  show WP T N 133 47 [some (vr (some w)), some (vi x1), some (vi x2), some (vi x3), some (vi x4), none] [] h _
  refine R_ps 2 (pc2 := 50) (L2 := [some (vr (some w)), some (vi x1), some (vi x2), some (vi x3), some (vi x4), none]) (st2 := [vr (some w), vi x4]) rfl ?_
  refine R_getR rfl t0 ?_
  obtain ⟨a_3, e_4, k⟩ := k
  rw [e_4]
  obtain ⟨t_5, k⟩ := k
  refine R_getI rfl t_5 ?_
  refine R_if rfl (fun c_6 => ?_) (fun c_6 => ?_)
  · have k := k.2 (i32_nlt c_6)
    refine R_ps 1 (pc2 := 92) (L2 := [some (vr (some w)), some (vi x1), some (vi x2), some (vi x3), some (vi x4), none]) (st2 := [vi x3]) rfl ?_
    exact R_iret rfl rfl k
  · have k := k.1 (i32_lt c_6)
    refine R_ps 1 (pc2 := 60) (L2 := [some (vr (some w)), some (vi x1), some (vi x2), some (vi x3), some (vi x4), none]) (st2 := [vr (some w)]) rfl ?_
    refine R_getR rfl t0 ?_
    refine R_ps 1 (pc2 := 65) (L2 := [some (vr (some w)), some (vi x1), some (vi x2), some (vi x3), some (vi x4), none]) (st2 := [vi x4, vr (gr h w 0)]) rfl ?_
    obtain ⟨a_10, e_11, k⟩ := k
    rw [e_11]
    obtain ⟨t_12, k⟩ := k
    refine R_cR (as := [vr (some a_10), vi x4]) rfl rfl ⟨Nat.le_of_ble_eq_true rfl, Nat.le_of_ble_eq_true rfl, rfl, (Or.inr ⟨_, rfl, t_12⟩)⟩ rfl rfl k (fun x_14 h_13 k => ?_)
    refine R_ps 2 (pc2 := 72) (L2 := [some (vr (some w)), some (vi x1), some (vi x2), some (vi x3), some (vi x4), some (vr x_14)]) (st2 := [vr x_14]) rfl ?_
    rcases null_or (x_14) with e_17 | ⟨a_16, e_17⟩
    · have k := k.1 e_17
      rw [e_17]
      refine R_null rfl (fun _ => ?_) (fun _ c_15 => nomatch c_15)
      refine R_ps 2 (pc2 := 47) (L2 := [some (vr (some w)), some (vi x1), some (vi x2), some (vi x3), some (vi (x4 + 1)), some (vr none)]) (st2 := []) rfl ?_
      exact R_drop k (LE_of (L := [some (vr (some w)), some (vi x1), some (vi x2), some (vi x3), some (vi (x4 + 1)), none]) (L2 := [some (vr (some w)), some (vi x1), some (vi x2), some (vi x3), some (vi (x4 + 1)), some (vr none)]) ⟨rfl, rfl, rfl, rfl, rfl, trivial⟩)
    · have k := k.2 a_16 e_17
      rw [e_17]
      refine R_null rfl (fun c_15 => nomatch c_15) (fun _ _ => ?_)
      refine R_ps 4 (pc2 := 80) (L2 := [some (vr (some w)), some (vi x1), some (vi x2), some (vi x3), some (vi x4), some (vr (some a_16))]) (st2 := [vi x2, vi x1, vr (some a_16), vi x3]) rfl ?_
      obtain ⟨t_19, k⟩ := k
      refine R_cI (as := [vr (some a_16), vi x1, vi x2]) rfl rfl ⟨Nat.le_of_ble_eq_true rfl, Nat.le_of_ble_eq_true rfl, rfl, (Or.inr ⟨_, rfl, t_19⟩)⟩ rfl rfl k (fun x_21 h_20 k => ?_)
      refine R_ps 4 (pc2 := 47) (L2 := [some (vr (some w)), some (vi x1), some (vi x2), some (vi (x3 + x_21)), some (vi (x4 + 1)), some (vr (some a_16))]) (st2 := []) rfl ?_
      exact R_drop k (LE_of (L := [some (vr (some w)), some (vi x1), some (vi x2), some (vi (x3 + x_21)), some (vi (x4 + 1)), none]) (L2 := [some (vr (some w)), some (vi x1), some (vi x2), some (vi (x3 + x_21)), some (vi (x4 + 1)), some (vr (some a_16))]) ⟨rfl, rfl, rfl, rfl, rfl, trivial⟩)
/-- DroneCorridors.account -/
theorem m134 {T N : Nat → Nat} {h : PH} {w : Nat} {x1 : Int32} {x2 : Int32} {K : PR → PH → Prop} (t0 : T w = 11) (k : (∃ a_3, (gr h w 0) = some a_3 ∧ T a_3 = 10 ∧ CR T N 91 [vr (some a_3), vi x1] h (fun x_7 h_6 => (((x_7 = none → ((∀ a, nx h_6 ≤ a → T a = 0) ∧ K (.inr 2) (bump h_6))) ∧ (∀ a_9, x_7 = some a_9 → (((x2 < 0 → ((∀ a, nx h_6 ≤ a → T a = 0) ∧ K (.inr 1) (bump h_6))) ∧ (¬ (x2 < 0) → (((x2 < 5 → (T a_9 = 3 ∧ CI T N 18 [vr (some a_9), vi x2] h_6 (fun x_20 h_19 => (K (.inl (some (vi x_20))) h_19)))) ∧ (¬ (x2 < 5) → ((∀ a, nx h_6 ≤ a → T a = 0) ∧ K (.inr 1) (bump h_6)))))))))))))) : CALL T N 134 [vr (some w), vi x1, vi x2] h K := by
  show WP T N 134 0 [some (vr (some w)), some (vi x1), some (vi x2), none] [] h _
  refine R_ps 1 (pc2 := 1) (L2 := [some (vr (some w)), some (vi x1), some (vi x2), none]) (st2 := [vr (some w)]) rfl ?_
  refine R_getR rfl t0 ?_
  refine R_ps 1 (pc2 := 5) (L2 := [some (vr (some w)), some (vi x1), some (vi x2), none]) (st2 := [vi x1, vr (gr h w 0)]) rfl ?_
  obtain ⟨a_3, e_4, k⟩ := k
  rw [e_4]
  obtain ⟨t_5, k⟩ := k
  refine R_cR (as := [vr (some a_3), vi x1]) rfl rfl ⟨Nat.le_of_ble_eq_true rfl, Nat.le_of_ble_eq_true rfl, rfl, (Or.inr ⟨_, rfl, t_5⟩)⟩ rfl rfl k (fun x_7 h_6 k => ?_)
  refine R_ps 2 (pc2 := 10) (L2 := [some (vr (some w)), some (vi x1), some (vi x2), some (vr x_7)]) (st2 := [vr x_7]) rfl ?_
  rcases null_or (x_7) with e_10 | ⟨a_9, e_10⟩
  · have k := k.1 e_10
    rw [e_10]
    refine R_nonnull rfl (fun _ => ?_) (fun _ c_8 => nomatch c_8)
    obtain ⟨t_12, k⟩ := k
    exact R_throw rfl rfl ⟨Nat.le_of_ble_eq_true rfl, t_12⟩ k
  · have k := k.2 a_9 e_10
    rw [e_10]
    refine R_nonnull rfl (fun c_8 => nomatch c_8) (fun _ _ => ?_)
    refine R_ps 1 (pc2 := 24) (L2 := [some (vr (some w)), some (vi x1), some (vi x2), some (vr (some a_9))]) (st2 := [vi x2]) rfl ?_
    refine R_if0 rfl (fun c_13 => ?_) (fun c_13 => ?_)
    · have k := k.1 c_13
      obtain ⟨t_15, k⟩ := k
      exact R_throw rfl rfl ⟨Nat.le_of_ble_eq_true rfl, t_15⟩ k
    · have k := k.2 c_13
      refine R_ps 2 (pc2 := 29) (L2 := [some (vr (some w)), some (vi x1), some (vi x2), some (vr (some a_9))]) (st2 := [vi 5, vi x2]) rfl ?_
      refine R_if rfl (fun c_16 => ?_) (fun c_16 => ?_)
      · have k := k.1 c_16
        refine R_ps 2 (pc2 := 45) (L2 := [some (vr (some w)), some (vi x1), some (vi x2), some (vr (some a_9))]) (st2 := [vi x2, vr (some a_9)]) rfl ?_
        obtain ⟨t_18, k⟩ := k
        refine R_cI (as := [vr (some a_9), vi x2]) rfl rfl ⟨Nat.le_of_ble_eq_true rfl, Nat.le_of_ble_eq_true rfl, rfl, (Or.inr ⟨_, rfl, t_18⟩)⟩ rfl rfl k (fun x_20 h_19 k => ?_)
        exact R_iret rfl rfl k
      · have k := k.2 c_16
        obtain ⟨t_23, k⟩ := k
        exact R_throw rfl rfl ⟨Nat.le_of_ble_eq_true rfl, t_23⟩ k
/-- DroneCorridors.audit -/
theorem m135 {T N : Nat → Nat} {h : PH} {w : Nat} {K : Int32 → PH → Prop} (k : (WI T N 135 4 [some (vr (some w)), some (vi 0), some (vi 0), none] [] h K)) : CI T N 135 [vr (some w)] h K := by
  show WP T N 135 0 [some (vr (some w)), none, none, none] [] h _
  refine R_ps 4 (pc2 := 4) (L2 := [some (vr (some w)), some (vi 0), some (vi 0), none]) (st2 := []) rfl ?_
  exact k
theorem m135_4 {T N : Nat → Nat} {h : PH} {w : Nat} {x1 : Int32} {x2 : Int32} {K : Int32 → PH → Prop} (t0 : T w = 11) (k : (∃ a_3, (gr h w 0) = some a_3 ∧ T a_3 = 10 ∧ ((x2 < (gi h a_3 5) → (∃ a_10, (gr h w 0) = some a_10 ∧ T a_10 = 10 ∧ CR T N 91 [vr (some a_10), vi x2] h (fun x_14 h_13 => (((x_14 = none → (WI T N 135 4 [some (vr (some w)), some (vi x1), some (vi (x2 + 1)), none] [] h_13 K)) ∧ (∀ a_16, x_14 = some a_16 → (T a_16 = 3 ∧ CI T N 27 [vr (some a_16)] h_13 (fun x_21 h_20 => (((x_21 = 0 → (WI T N 135 4 [some (vr (some w)), some (vi (x1 + 1)), some (vi (x2 + 1)), none] [] h_20 K)) ∧ (¬ (x_21 = 0) → (WI T N 135 4 [some (vr (some w)), some (vi x1), some (vi (x2 + 1)), none] [] h_20 K)))))))))))) ∧ (¬ (x2 < (gi h a_3 5)) → (K x1 h))))) : WI T N 135 4 [some (vr (some w)), some (vi x1), some (vi x2), none] [] h K := by
  show WP T N 135 4 [some (vr (some w)), some (vi x1), some (vi x2), none] [] h _
  refine R_ps 2 (pc2 := 6) (L2 := [some (vr (some w)), some (vi x1), some (vi x2), none]) (st2 := [vr (some w), vi x2]) rfl ?_
  refine R_getR rfl t0 ?_
  obtain ⟨a_3, e_4, k⟩ := k
  rw [e_4]
  obtain ⟨t_5, k⟩ := k
  refine R_getI rfl t_5 ?_
  refine R_if rfl (fun c_6 => ?_) (fun c_6 => ?_)
  · have k := k.2 (i32_nlt c_6)
    refine R_ps 1 (pc2 := 45) (L2 := [some (vr (some w)), some (vi x1), some (vi x2), none]) (st2 := [vi x1]) rfl ?_
    exact R_iret rfl rfl ⟨_, rfl, k⟩
  · have k := k.1 (i32_lt c_6)
    refine R_ps 1 (pc2 := 16) (L2 := [some (vr (some w)), some (vi x1), some (vi x2), none]) (st2 := [vr (some w)]) rfl ?_
    refine R_getR rfl t0 ?_
    refine R_ps 1 (pc2 := 20) (L2 := [some (vr (some w)), some (vi x1), some (vi x2), none]) (st2 := [vi x2, vr (gr h w 0)]) rfl ?_
    obtain ⟨a_10, e_11, k⟩ := k
    rw [e_11]
    obtain ⟨t_12, k⟩ := k
    refine R_cR (as := [vr (some a_10), vi x2]) rfl rfl ⟨Nat.le_of_ble_eq_true rfl, Nat.le_of_ble_eq_true rfl, rfl, (Or.inr ⟨_, rfl, t_12⟩)⟩ rfl rfl k (fun x_14 h_13 k => ?_)
    refine R_ps 2 (pc2 := 25) (L2 := [some (vr (some w)), some (vi x1), some (vi x2), some (vr x_14)]) (st2 := [vr x_14]) rfl ?_
    rcases null_or (x_14) with e_17 | ⟨a_16, e_17⟩
    · have k := k.1 e_17
      rw [e_17]
      refine R_null rfl (fun _ => ?_) (fun _ c_15 => nomatch c_15)
      refine R_ps 2 (pc2 := 4) (L2 := [some (vr (some w)), some (vi x1), some (vi (x2 + 1)), some (vr none)]) (st2 := []) rfl ?_
      exact R_drop k (LE_of (L := [some (vr (some w)), some (vi x1), some (vi (x2 + 1)), none]) (L2 := [some (vr (some w)), some (vi x1), some (vi (x2 + 1)), some (vr none)]) ⟨rfl, rfl, rfl, trivial⟩)
    · have k := k.2 a_16 e_17
      rw [e_17]
      refine R_null rfl (fun c_15 => nomatch c_15) (fun _ _ => ?_)
      refine R_ps 1 (pc2 := 29) (L2 := [some (vr (some w)), some (vi x1), some (vi x2), some (vr (some a_16))]) (st2 := [vr (some a_16)]) rfl ?_
      obtain ⟨t_19, k⟩ := k
      refine R_cI (as := [vr (some a_16)]) rfl rfl ⟨Nat.le_of_ble_eq_true rfl, Nat.le_of_ble_eq_true rfl, rfl, (Or.inr ⟨_, rfl, t_19⟩)⟩ rfl rfl k (fun x_21 h_20 k => ?_)
      refine R_if0 rfl (fun c_22 => ?_) (fun c_22 => ?_)
      · have k := k.2 c_22
        refine R_ps 2 (pc2 := 4) (L2 := [some (vr (some w)), some (vi x1), some (vi (x2 + 1)), some (vr (some a_16))]) (st2 := []) rfl ?_
        exact R_drop k (LE_of (L := [some (vr (some w)), some (vi x1), some (vi (x2 + 1)), none]) (L2 := [some (vr (some w)), some (vi x1), some (vi (x2 + 1)), some (vr (some a_16))]) ⟨rfl, rfl, rfl, trivial⟩)
      · have k := k.1 (Classical.not_not.mp c_22)
        refine R_ps 3 (pc2 := 4) (L2 := [some (vr (some w)), some (vi (x1 + 1)), some (vi (x2 + 1)), some (vr (some a_16))]) (st2 := []) rfl ?_
        exact R_drop k (LE_of (L := [some (vr (some w)), some (vi (x1 + 1)), some (vi (x2 + 1)), none]) (L2 := [some (vr (some w)), some (vi (x1 + 1)), some (vi (x2 + 1)), some (vr (some a_16))]) ⟨rfl, rfl, rfl, trivial⟩)
/-- DroneCorridors.flyingShare -/
theorem m136 {T N : Nat → Nat} {h : PH} {w : Nat} {K : PR → PH → Prop} (t0 : T w = 11) (k : (∃ a_3, (gr h w 0) = some a_3 ∧ T a_3 = 10 ∧ CI T N 102 [vr (some a_3), vi 0] h (fun x_7 h_6 => (∃ a_10, (gr h_6 w 0) = some a_10 ∧ T a_10 = 10 ∧ CI T N 102 [vr (some a_10), vi 1] h_6 (fun x_14 h_13 => (∃ a_17, (gr h_13 w 0) = some a_17 ∧ T a_17 = 10 ∧ CI T N 102 [vr (some a_17), vi 2] h_13 (fun x_21 h_20 => (((((x_7 + x_14) + x_21) = 0 → ((∀ a, nx h_20 ≤ a → T a = 0) ∧ K (.inr 3) (bump h_20))) ∧ (¬ (((x_7 + x_14) + x_21) = 0) → (vf_n64 (FP.ddiv (FP.i2d x_7) (FP.i2d ((x_7 + x_14) + x_21))) ∧ K (.inl (some (vd (FP.ddiv (FP.i2d x_7) (FP.i2d ((x_7 + x_14) + x_21)))))) h_20))))))))))) : CALL T N 136 [vr (some w)] h K := by
  show WP T N 136 0 [some (vr (some w)), none, none] [] h _
  refine R_ps 1 (pc2 := 1) (L2 := [some (vr (some w)), none, none]) (st2 := [vr (some w)]) rfl ?_
  refine R_getR rfl t0 ?_
  refine R_ps 1 (pc2 := 5) (L2 := [some (vr (some w)), none, none]) (st2 := [vi 0, vr (gr h w 0)]) rfl ?_
  obtain ⟨a_3, e_4, k⟩ := k
  rw [e_4]
  obtain ⟨t_5, k⟩ := k
  refine R_cI (as := [vr (some a_3), vi 0]) rfl rfl ⟨Nat.le_of_ble_eq_true rfl, Nat.le_of_ble_eq_true rfl, rfl, (Or.inr ⟨_, rfl, t_5⟩)⟩ rfl rfl k (fun x_7 h_6 k => ?_)
  refine R_ps 3 (pc2 := 11) (L2 := [some (vr (some w)), some (vi x_7), none]) (st2 := [vr (some w), vi x_7]) rfl ?_
  refine R_getR rfl t0 ?_
  refine R_ps 1 (pc2 := 15) (L2 := [some (vr (some w)), some (vi x_7), none]) (st2 := [vi 1, vr (gr h_6 w 0), vi x_7]) rfl ?_
  obtain ⟨a_10, e_11, k⟩ := k
  rw [e_11]
  obtain ⟨t_12, k⟩ := k
  refine R_cI (as := [vr (some a_10), vi 1]) rfl rfl ⟨Nat.le_of_ble_eq_true rfl, Nat.le_of_ble_eq_true rfl, rfl, (Or.inr ⟨_, rfl, t_12⟩)⟩ rfl rfl k (fun x_14 h_13 k => ?_)
  refine R_ps 2 (pc2 := 20) (L2 := [some (vr (some w)), some (vi x_7), none]) (st2 := [vr (some w), vi (x_7 + x_14)]) rfl ?_
  refine R_getR rfl t0 ?_
  refine R_ps 1 (pc2 := 24) (L2 := [some (vr (some w)), some (vi x_7), none]) (st2 := [vi 2, vr (gr h_13 w 0), vi (x_7 + x_14)]) rfl ?_
  obtain ⟨a_17, e_18, k⟩ := k
  rw [e_18]
  obtain ⟨t_19, k⟩ := k
  refine R_cI (as := [vr (some a_17), vi 2]) rfl rfl ⟨Nat.le_of_ble_eq_true rfl, Nat.le_of_ble_eq_true rfl, rfl, (Or.inr ⟨_, rfl, t_19⟩)⟩ rfl rfl k (fun x_21 h_20 k => ?_)
  refine R_ps 3 (pc2 := 30) (L2 := [some (vr (some w)), some (vi x_7), some (vi ((x_7 + x_14) + x_21))]) (st2 := [vi ((x_7 + x_14) + x_21)]) rfl ?_
  refine R_if0 rfl (fun c_22 => ?_) (fun c_22 => ?_)
  · have k := k.2 c_22
    refine R_ps 4 (pc2 := 48) (L2 := [some (vr (some w)), some (vi x_7), some (vi ((x_7 + x_14) + x_21))]) (st2 := [vd (FP.i2d ((x_7 + x_14) + x_21)), vd (FP.i2d x_7)]) rfl ?_
    obtain ⟨t_24, k⟩ := k
    refine R_ddiv rfl t_24 ?_
    exact R_dret rfl rfl k
  · have k := k.1 (Classical.not_not.mp c_22)
    obtain ⟨t_27, k⟩ := k
    exact R_throw rfl rfl ⟨Nat.le_of_ble_eq_true rfl, t_27⟩ k
/-- DroneCorridors.busiest -/
theorem m137 {T N : Nat → Nat} {h : PH} {w : Nat} {K : PR → PH → Prop} (k : (WX T N 137 6 [some (vr (some w)), some (vi (-1)), some (vi 0), some (vi 0), none] [] h K)) : CALL T N 137 [vr (some w)] h K := by
  show WP T N 137 0 [some (vr (some w)), none, none, none, none] [] h _
  refine R_ps 6 (pc2 := 6) (L2 := [some (vr (some w)), some (vi (-1)), some (vi 0), some (vi 0), none]) (st2 := []) rfl ?_
  exact k
theorem m137_6 {T N : Nat → Nat} {h : PH} {w : Nat} {x1 : Int32} {x2 : Int32} {x3 : Int32} {K : PR → PH → Prop} (t0 : T w = 11) (k : (∃ a_3, (gr h w 0) = some a_3 ∧ T a_3 = 10 ∧ ((x3 < (gi h a_3 5) → (∃ a_13, (gr h w 0) = some a_13 ∧ T a_13 = 10 ∧ CR T N 91 [vr (some a_13), vi x3] h (fun x_17 h_16 => (((x_17 = none → (WX T N 137 6 [some (vr (some w)), some (vi x1), some (vi x2), some (vi (x3 + 1)), none] [] h_16 K)) ∧ (∀ a_19, x_17 = some a_19 → (T a_19 = 3 ∧ CI T N 18 [vr (some a_19), vi 4] h_16 (fun x_24 h_23 => (((x2 < x_24 → (CI T N 18 [vr (some a_19), vi 4] h_23 (fun x_28 h_27 => (WX T N 137 6 [some (vr (some w)), some (vi x3), some (vi x_28), some (vi (x3 + 1)), none] [] h_27 K)))) ∧ (¬ (x2 < x_24) → (WX T N 137 6 [some (vr (some w)), some (vi x1), some (vi x2), some (vi (x3 + 1)), none] [] h_23 K)))))))))))) ∧ (¬ (x3 < (gi h a_3 5)) → (((x1 = (-1) → ((∀ a, nx h ≤ a → T a = 0) ∧ K (.inr 5) (bump h))) ∧ (¬ (x1 = (-1)) → (K (.inl (some (vi x1))) h)))))))) : WX T N 137 6 [some (vr (some w)), some (vi x1), some (vi x2), some (vi x3), none] [] h K := by
  show WP T N 137 6 [some (vr (some w)), some (vi x1), some (vi x2), some (vi x3), none] [] h _
  refine R_ps 2 (pc2 := 8) (L2 := [some (vr (some w)), some (vi x1), some (vi x2), some (vi x3), none]) (st2 := [vr (some w), vi x3]) rfl ?_
  refine R_getR rfl t0 ?_
  obtain ⟨a_3, e_4, k⟩ := k
  rw [e_4]
  obtain ⟨t_5, k⟩ := k
  refine R_getI rfl t_5 ?_
  refine R_if rfl (fun c_6 => ?_) (fun c_6 => ?_)
  · have k := k.2 (i32_nlt c_6)
    refine R_ps 2 (pc2 := 59) (L2 := [some (vr (some w)), some (vi x1), some (vi x2), some (vi x3), none]) (st2 := [vi (-1), vi x1]) rfl ?_
    refine R_if rfl (fun c_7 => ?_) (fun c_7 => ?_)
    · have k := k.2 c_7
      refine R_ps 1 (pc2 := 74) (L2 := [some (vr (some w)), some (vi x1), some (vi x2), some (vi x3), none]) (st2 := [vi x1]) rfl ?_
      exact R_iret rfl rfl k
    · have k := k.1 (Classical.not_not.mp c_7)
      obtain ⟨t_10, k⟩ := k
      exact R_throw rfl rfl ⟨Nat.le_of_ble_eq_true rfl, t_10⟩ k
  · have k := k.1 (i32_lt c_6)
    refine R_ps 1 (pc2 := 18) (L2 := [some (vr (some w)), some (vi x1), some (vi x2), some (vi x3), none]) (st2 := [vr (some w)]) rfl ?_
    refine R_getR rfl t0 ?_
    refine R_ps 1 (pc2 := 22) (L2 := [some (vr (some w)), some (vi x1), some (vi x2), some (vi x3), none]) (st2 := [vi x3, vr (gr h w 0)]) rfl ?_
    obtain ⟨a_13, e_14, k⟩ := k
    rw [e_14]
    obtain ⟨t_15, k⟩ := k
    refine R_cR (as := [vr (some a_13), vi x3]) rfl rfl ⟨Nat.le_of_ble_eq_true rfl, Nat.le_of_ble_eq_true rfl, rfl, (Or.inr ⟨_, rfl, t_15⟩)⟩ rfl rfl k (fun x_17 h_16 k => ?_)
    refine R_ps 2 (pc2 := 29) (L2 := [some (vr (some w)), some (vi x1), some (vi x2), some (vi x3), some (vr x_17)]) (st2 := [vr x_17]) rfl ?_
    rcases null_or (x_17) with e_20 | ⟨a_19, e_20⟩
    · have k := k.1 e_20
      rw [e_20]
      refine R_null rfl (fun _ => ?_) (fun _ c_18 => nomatch c_18)
      refine R_ps 2 (pc2 := 6) (L2 := [some (vr (some w)), some (vi x1), some (vi x2), some (vi (x3 + 1)), some (vr none)]) (st2 := []) rfl ?_
      exact R_drop k (LE_of (L := [some (vr (some w)), some (vi x1), some (vi x2), some (vi (x3 + 1)), none]) (L2 := [some (vr (some w)), some (vi x1), some (vi x2), some (vi (x3 + 1)), some (vr none)]) ⟨rfl, rfl, rfl, rfl, trivial⟩)
    · have k := k.2 a_19 e_20
      rw [e_20]
      refine R_null rfl (fun c_18 => nomatch c_18) (fun _ _ => ?_)
      refine R_ps 2 (pc2 := 35) (L2 := [some (vr (some w)), some (vi x1), some (vi x2), some (vi x3), some (vr (some a_19))]) (st2 := [vi 4, vr (some a_19)]) rfl ?_
      obtain ⟨t_22, k⟩ := k
      refine R_cI (as := [vr (some a_19), vi 4]) rfl rfl ⟨Nat.le_of_ble_eq_true rfl, Nat.le_of_ble_eq_true rfl, rfl, (Or.inr ⟨_, rfl, t_22⟩)⟩ rfl rfl k (fun x_24 h_23 k => ?_)
      refine R_ps 1 (pc2 := 39) (L2 := [some (vr (some w)), some (vi x1), some (vi x2), some (vi x3), some (vr (some a_19))]) (st2 := [vi x2, vi x_24]) rfl ?_
      refine R_if rfl (fun c_25 => ?_) (fun c_25 => ?_)
      · have k := k.2 (i32_nlt c_25)
        refine R_ps 2 (pc2 := 6) (L2 := [some (vr (some w)), some (vi x1), some (vi x2), some (vi (x3 + 1)), some (vr (some a_19))]) (st2 := []) rfl ?_
        exact R_drop k (LE_of (L := [some (vr (some w)), some (vi x1), some (vi x2), some (vi (x3 + 1)), none]) (L2 := [some (vr (some w)), some (vi x1), some (vi x2), some (vi (x3 + 1)), some (vr (some a_19))]) ⟨rfl, rfl, rfl, rfl, trivial⟩)
      · have k := k.1 (i32_lt c_25)
        refine R_ps 4 (pc2 := 47) (L2 := [some (vr (some w)), some (vi x3), some (vi x2), some (vi x3), some (vr (some a_19))]) (st2 := [vi 4, vr (some a_19)]) rfl ?_
        refine R_cI (as := [vr (some a_19), vi 4]) rfl rfl ⟨Nat.le_of_ble_eq_true rfl, Nat.le_of_ble_eq_true rfl, rfl, (Or.inr ⟨_, rfl, t_22⟩)⟩ rfl rfl k (fun x_28 h_27 k => ?_)
        refine R_ps 3 (pc2 := 6) (L2 := [some (vr (some w)), some (vi x3), some (vi x_28), some (vi (x3 + 1)), some (vr (some a_19))]) (st2 := []) rfl ?_
        exact R_drop k (LE_of (L := [some (vr (some w)), some (vi x3), some (vi x_28), some (vi (x3 + 1)), none]) (L2 := [some (vr (some w)), some (vi x3), some (vi x_28), some (vi (x3 + 1)), some (vr (some a_19))]) ⟨rfl, rfl, rfl, rfl, trivial⟩)
/-- DroneCorridors.append -/
theorem m138 {T N : Nat → Nat} {h : PH} {w : Nat} {x1 : Int32} {K : PR → PH → Prop} (t0 : T w = 11) (k : (((x1 < 32 → ((∀ a, nx h ≤ a → T a = 0) ∧ K (.inr 1) (bump h))) ∧ (¬ (x1 < 32) → (((126 < x1 → ((∀ a, nx h ≤ a → T a = 0) ∧ K (.inr 1) (bump h))) ∧ (¬ (126 < x1) → (∃ a_7, (gr h w 5) = some a_7 ∧ T a_7 = 6 ∧ (((gi h a_7 0) < 60 → (∃ a_13, (gr h w 5) = some a_13 ∧ T a_13 = 6 ∧ CV T N 48 [vr (some a_13), vi x1] h (fun h_16 => (∃ a_20, (gr h_16 w 5) = some a_20 ∧ T a_20 = 6 ∧ K (.inl (some (vi (gi h_16 a_20 0)))) h_16)))) ∧ (¬ ((gi h a_7 0) < 60) → ((∀ a, nx h ≤ a → T a = 0) ∧ K (.inr 0) (bump h)))))))))))) : CALL T N 138 [vr (some w), vi x1] h K := by
  show WP T N 138 0 [some (vr (some w)), some (vi x1)] [] h _
  refine R_ps 2 (pc2 := 3) (L2 := [some (vr (some w)), some (vi x1)]) (st2 := [vi 32, vi x1]) rfl ?_
  refine R_if rfl (fun c_1 => ?_) (fun c_1 => ?_)
  · have k := k.1 c_1
    obtain ⟨t_3, k⟩ := k
    exact R_throw rfl rfl ⟨Nat.le_of_ble_eq_true rfl, t_3⟩ k
  · have k := k.2 c_1
    refine R_ps 2 (pc2 := 9) (L2 := [some (vr (some w)), some (vi x1)]) (st2 := [vi 126, vi x1]) rfl ?_
    refine R_if rfl (fun c_4 => ?_) (fun c_4 => ?_)
    · have k := k.2 (i32_nlt c_4)
      refine R_ps 1 (pc2 := 24) (L2 := [some (vr (some w)), some (vi x1)]) (st2 := [vr (some w)]) rfl ?_
      refine R_getR rfl t0 ?_
      obtain ⟨a_7, e_8, k⟩ := k
      rw [e_8]
      obtain ⟨t_9, k⟩ := k
      refine R_getI rfl t_9 ?_
      refine R_ps 1 (pc2 := 32) (L2 := [some (vr (some w)), some (vi x1)]) (st2 := [vi 60, vi (gi h a_7 0)]) rfl ?_
      refine R_if rfl (fun c_10 => ?_) (fun c_10 => ?_)
      · have k := k.1 c_10
        refine R_ps 1 (pc2 := 47) (L2 := [some (vr (some w)), some (vi x1)]) (st2 := [vr (some w)]) rfl ?_
        refine R_getR rfl t0 ?_
        refine R_ps 1 (pc2 := 51) (L2 := [some (vr (some w)), some (vi x1)]) (st2 := [vi x1, vr (gr h w 5)]) rfl ?_
        obtain ⟨a_13, e_14, k⟩ := k
        rw [e_14]
        obtain ⟨t_15, k⟩ := k
        refine R_cV (as := [vr (some a_13), vi x1]) rfl rfl ⟨Nat.le_of_ble_eq_true rfl, Nat.le_of_ble_eq_true rfl, rfl, (Or.inr ⟨_, rfl, t_15⟩)⟩ rfl rfl k (fun h_16 k => ?_)
        refine R_ps 1 (pc2 := 55) (L2 := [some (vr (some w)), some (vi x1)]) (st2 := [vr (some w)]) rfl ?_
        refine R_getR rfl t0 ?_
        obtain ⟨a_20, e_21, k⟩ := k
        rw [e_21]
        obtain ⟨t_22, k⟩ := k
        refine R_getI rfl t_22 ?_
        exact R_iret rfl rfl k
      · have k := k.2 c_10
        obtain ⟨t_25, k⟩ := k
        exact R_throw rfl rfl ⟨Nat.le_of_ble_eq_true rfl, t_25⟩ k
    · have k := k.1 (i32_lt c_4)
      obtain ⟨t_27, k⟩ := k
      exact R_throw rfl rfl ⟨Nat.le_of_ble_eq_true rfl, t_27⟩ k
/-- DroneCorridors.read -/
theorem m139 {T N : Nat → Nat} {h : PH} {w : Nat} {K : PR → PH → Prop} (t0 : T w = 11) (k : (∃ a_3, (gr h w 5) = some a_3 ∧ T a_3 = 6 ∧ CI T N 52 [vr (some a_3)] h (fun x_7 h_6 => (((x_7 = (-1) → (∃ a_12, (gr h_6 w 2) = some a_12 ∧ T a_12 = 5 ∧ CV T N 42 [vr (some a_12), vr (gr h_6 w 0)] h_6 (fun h_15 => (CI T N 152 [vr (some w)] h_15 (fun x_19 h_18 => (∃ a_22, (gr h_18 w 5) = some a_22 ∧ T a_22 = 6 ∧ ∀ h_25, h_25 = si h_18 a_22 0 0 → ((x_19 = (-1) → (∃ a_39, (gr h_25 w 2) = some a_39 ∧ T a_39 = 5 ∧ CV T N 44 [vr (some a_39), vr (gr h_25 w 0)] h_25 (fun h_42 => ((∀ a, nx h_42 ≤ a → T a = 0) ∧ K (.inr 0) (bump h_42))))) ∧ (¬ (x_19 = (-1)) → (∃ a_30, (gr h_25 w 2) = some a_30 ∧ T a_30 = 5 ∧ CV T N 43 [vr (some a_30)] h_25 (fun h_33 => (K (.inl (some (vi x_19))) h_33))))))))))) ∧ (¬ (x_7 = (-1)) → (∀ h_47, h_47 = si h_6 w 9 x_7 → ∃ a_51, (gr h_47 w 5) = some a_51 ∧ T a_51 = 6 ∧ ∀ h_54, h_54 = si h_47 a_51 0 0 → (∀ a, nx h_54 ≤ a → T a = 0) ∧ K (.inr 1) (bump h_54)))))))) : CALL T N 139 [vr (some w)] h K := by
  show WP T N 139 0 [some (vr (some w)), none, none] [] h _
  refine R_ps 1 (pc2 := 1) (L2 := [some (vr (some w)), none, none]) (st2 := [vr (some w)]) rfl ?_
  refine R_getR rfl t0 ?_
  obtain ⟨a_3, e_4, k⟩ := k
  rw [e_4]
  obtain ⟨t_5, k⟩ := k
  refine R_cI (as := [vr (some a_3)]) rfl rfl ⟨Nat.le_of_ble_eq_true rfl, Nat.le_of_ble_eq_true rfl, rfl, (Or.inr ⟨_, rfl, t_5⟩)⟩ rfl rfl k (fun x_7 h_6 k => ?_)
  refine R_ps 3 (pc2 := 10) (L2 := [some (vr (some w)), some (vi x_7), none]) (st2 := [vi (-1), vi x_7]) rfl ?_
  refine R_if rfl (fun c_8 => ?_) (fun c_8 => ?_)
  · have k := k.1 c_8
    refine R_ps 1 (pc2 := 38) (L2 := [some (vr (some w)), some (vi x_7), none]) (st2 := [vr (some w)]) rfl ?_
    refine R_getR rfl t0 ?_
    refine R_ps 1 (pc2 := 42) (L2 := [some (vr (some w)), some (vi x_7), none]) (st2 := [vr (some w), vr (gr h_6 w 2)]) rfl ?_
    refine R_getR rfl t0 ?_
    obtain ⟨a_12, e_13, k⟩ := k
    rw [e_13]
    obtain ⟨t_14, k⟩ := k
    refine R_cV (as := [vr (some a_12), vr (gr h_6 w 0)]) rfl rfl ⟨Nat.le_of_ble_eq_true rfl, Nat.le_of_ble_eq_true rfl, rfl, (Or.inr ⟨_, rfl, t_14⟩)⟩ rfl rfl k (fun h_15 k => ?_)
    refine R_ps 1 (pc2 := 49) (L2 := [some (vr (some w)), some (vi x_7), none]) (st2 := [vr (some w)]) rfl ?_
    refine R_cI (as := [vr (some w)]) rfl rfl ⟨Nat.le_of_ble_eq_true rfl, Nat.le_of_ble_eq_true rfl, rfl, (Or.inr ⟨_, rfl, t0⟩)⟩ rfl rfl k (fun x_19 h_18 k => ?_)
    refine R_ps 2 (pc2 := 54) (L2 := [some (vr (some w)), some (vi x_7), some (vi x_19)]) (st2 := [vr (some w)]) rfl ?_
    refine R_getR rfl t0 ?_
    refine R_ps 1 (pc2 := 58) (L2 := [some (vr (some w)), some (vi x_7), some (vi x_19)]) (st2 := [vi 0, vr (gr h_18 w 5)]) rfl ?_
    obtain ⟨a_22, e_23, k⟩ := k
    rw [e_23]
    obtain ⟨t_24, k⟩ := k
    refine R_putI rfl t_24 ?_
    show WP T N _ _ _ _ (si h_18 a_22 0 0) _
    generalize e_26 : si h_18 a_22 0 0 = h_25
    replace k := k h_25 e_26.symm
    refine R_ps 2 (pc2 := 63) (L2 := [some (vr (some w)), some (vi x_7), some (vi x_19)]) (st2 := [vi (-1), vi x_19]) rfl ?_
    refine R_if rfl (fun c_27 => ?_) (fun c_27 => ?_)
    · have k := k.2 c_27
      refine R_ps 1 (pc2 := 89) (L2 := [some (vr (some w)), some (vi x_7), some (vi x_19)]) (st2 := [vr (some w)]) rfl ?_
      refine R_getR rfl t0 ?_
      obtain ⟨a_30, e_31, k⟩ := k
      rw [e_31]
      obtain ⟨t_32, k⟩ := k
      refine R_cV (as := [vr (some a_30)]) rfl rfl ⟨Nat.le_of_ble_eq_true rfl, Nat.le_of_ble_eq_true rfl, rfl, (Or.inr ⟨_, rfl, t_32⟩)⟩ rfl rfl k (fun h_33 k => ?_)
      refine R_ps 1 (pc2 := 96) (L2 := [some (vr (some w)), some (vi x_7), some (vi x_19)]) (st2 := [vi x_19]) rfl ?_
      exact R_iret rfl rfl k
    · have k := k.1 (Classical.not_not.mp c_27)
      refine R_ps 1 (pc2 := 67) (L2 := [some (vr (some w)), some (vi x_7), some (vi x_19)]) (st2 := [vr (some w)]) rfl ?_
      refine R_getR rfl t0 ?_
      refine R_ps 1 (pc2 := 71) (L2 := [some (vr (some w)), some (vi x_7), some (vi x_19)]) (st2 := [vr (some w), vr (gr h_25 w 2)]) rfl ?_
      refine R_getR rfl t0 ?_
      obtain ⟨a_39, e_40, k⟩ := k
      rw [e_40]
      obtain ⟨t_41, k⟩ := k
      refine R_cV (as := [vr (some a_39), vr (gr h_25 w 0)]) rfl rfl ⟨Nat.le_of_ble_eq_true rfl, Nat.le_of_ble_eq_true rfl, rfl, (Or.inr ⟨_, rfl, t_41⟩)⟩ rfl rfl k (fun h_42 k => ?_)
      obtain ⟨t_45, k⟩ := k
      exact R_throw rfl rfl ⟨Nat.le_of_ble_eq_true rfl, t_45⟩ k
  · have k := k.2 c_8
    refine R_ps 2 (pc2 := 15) (L2 := [some (vr (some w)), some (vi x_7), none]) (st2 := [vi x_7, vr (some w)]) rfl ?_
    refine R_putI rfl t0 ?_
    show WP T N _ _ _ _ (si h_6 w 9 x_7) _
    generalize e_48 : si h_6 w 9 x_7 = h_47
    replace k := k h_47 e_48.symm
    refine R_ps 1 (pc2 := 19) (L2 := [some (vr (some w)), some (vi x_7), none]) (st2 := [vr (some w)]) rfl ?_
    refine R_getR rfl t0 ?_
    refine R_ps 1 (pc2 := 23) (L2 := [some (vr (some w)), some (vi x_7), none]) (st2 := [vi 0, vr (gr h_47 w 5)]) rfl ?_
    obtain ⟨a_51, e_52, k⟩ := k
    rw [e_52]
    obtain ⟨t_53, k⟩ := k
    refine R_putI rfl t_53 ?_
    show WP T N _ _ _ _ (si h_47 a_51 0 0) _
    generalize e_55 : si h_47 a_51 0 0 = h_54
    replace k := k h_54 e_55.symm
    obtain ⟨t_57, k⟩ := k
    exact R_throw rfl rfl ⟨Nat.le_of_ble_eq_true rfl, t_57⟩ k
/-- DroneCorridors.errorPosition -/
theorem m140 {T N : Nat → Nat} {h : PH} {w : Nat} {K : PR → PH → Prop} (t0 : T w = 11) (k : ((((gi h w 9) = (-1) → ((∀ a, nx h ≤ a → T a = 0) ∧ K (.inr 5) (bump h))) ∧ (¬ ((gi h w 9) = (-1)) → (K (.inl (some (vi (gi h w 9)))) h))))) : CALL T N 140 [vr (some w)] h K := by
  show WP T N 140 0 [some (vr (some w))] [] h _
  refine R_ps 1 (pc2 := 1) (L2 := [some (vr (some w))]) (st2 := [vr (some w)]) rfl ?_
  refine R_getI rfl t0 ?_
  refine R_ps 1 (pc2 := 5) (L2 := [some (vr (some w))]) (st2 := [vi (-1), vi (gi h w 9)]) rfl ?_
  refine R_if rfl (fun c_2 => ?_) (fun c_2 => ?_)
  · have k := k.2 c_2
    refine R_ps 1 (pc2 := 20) (L2 := [some (vr (some w))]) (st2 := [vr (some w)]) rfl ?_
    refine R_getI rfl t0 ?_
    exact R_iret rfl rfl k
  · have k := k.1 (Classical.not_not.mp c_2)
    obtain ⟨t_6, k⟩ := k
    exact R_throw rfl rfl ⟨Nat.le_of_ble_eq_true rfl, t_6⟩ k
/-- DroneCorridors.describe -/
theorem m141 {T N : Nat → Nat} {h : PH} {w : Nat} {x1 : Int32} {x2 : Int32} {K : PR → PH → Prop} (t0 : T w = 11) (k : (∃ a_3, (gr h w 0) = some a_3 ∧ T a_3 = 10 ∧ CR T N 89 [vr (some a_3), vi x1] h (fun x_7 h_6 => (((x_7 = none → ((∀ a, nx h_6 ≤ a → T a = 0) ∧ K (.inr 2) (bump h_6))) ∧ (∀ a_9, x_7 = some a_9 → (((x2 = (-1) → (K (.inl (some (vi 7))) h_6)) ∧ (¬ (x2 = (-1)) → ((x2 = 0 → (K (.inl (some (vi 99))) h_6)) ∧ (¬ (x2 = 0) → ((x2 = 1 → (T a_9 = 2 ∧ K (.inl (some (vi (48 + (gi h_6 a_9 0))))) h_6)) ∧ (¬ (x2 = 1) → ((x2 = 2 → (K (.inl (some (vi 45))) h_6)) ∧ (¬ (x2 = 2) → ((x2 = 3 → (T a_9 = 2 ∧ K (.inl (some (vi (48 + (gi h_6 a_9 1))))) h_6)) ∧ (¬ (x2 = 3) → ((x2 = 4 → (K (.inl (some (vi 42))) h_6)) ∧ (¬ (x2 = 4) → ((x2 = 5 → (T a_9 = 2 ∧ K (.inl (some (vi (48 + (gi h_6 a_9 2))))) h_6)) ∧ (¬ (x2 = 5) → ((x2 = 6 → (K (.inl (some (vi 59))) h_6)) ∧ (¬ (x2 = 6) → ((∀ a, nx h_6 ≤ a → T a = 0) ∧ K (.inr 5) (bump h_6))))))))))))))))))))))))) : CALL T N 141 [vr (some w), vi x1, vi x2] h K := by
  show WP T N 141 0 [some (vr (some w)), some (vi x1), some (vi x2), none] [] h _
  refine R_ps 1 (pc2 := 1) (L2 := [some (vr (some w)), some (vi x1), some (vi x2), none]) (st2 := [vr (some w)]) rfl ?_
  refine R_getR rfl t0 ?_
  refine R_ps 1 (pc2 := 5) (L2 := [some (vr (some w)), some (vi x1), some (vi x2), none]) (st2 := [vi x1, vr (gr h w 0)]) rfl ?_
  obtain ⟨a_3, e_4, k⟩ := k
  rw [e_4]
  obtain ⟨t_5, k⟩ := k
  refine R_cR (as := [vr (some a_3), vi x1]) rfl rfl ⟨Nat.le_of_ble_eq_true rfl, Nat.le_of_ble_eq_true rfl, rfl, (Or.inr ⟨_, rfl, t_5⟩)⟩ rfl rfl k (fun x_7 h_6 k => ?_)
  refine R_ps 2 (pc2 := 10) (L2 := [some (vr (some w)), some (vi x1), some (vi x2), some (vr x_7)]) (st2 := [vr x_7]) rfl ?_
  rcases null_or (x_7) with e_10 | ⟨a_9, e_10⟩
  · have k := k.1 e_10
    rw [e_10]
    refine R_nonnull rfl (fun _ => ?_) (fun _ c_8 => nomatch c_8)
    obtain ⟨t_12, k⟩ := k
    exact R_throw rfl rfl ⟨Nat.le_of_ble_eq_true rfl, t_12⟩ k
  · have k := k.2 a_9 e_10
    rw [e_10]
    refine R_nonnull rfl (fun c_8 => nomatch c_8) (fun _ _ => ?_)
    refine R_ps 1 (pc2 := 24) (L2 := [some (vr (some w)), some (vi x1), some (vi x2), some (vr (some a_9))]) (st2 := [vi x2]) rfl ?_
    refine R_tsw rfl rfl ?_
    refine ⟨fun c_13 => ?_, fun c_13 => ?_⟩
    · have k := k.1 c_13
      show WP T N _ 72 _ _ _ _
      refine R_ps 1 (pc2 := 74) (L2 := [some (vr (some w)), some (vi x1), some (vi x2), some (vr (some a_9))]) (st2 := [vi 7]) rfl ?_
      exact R_iret rfl rfl k
    replace k := k.2 c_13
    refine ⟨fun c_13 => ?_, fun c_13 => ?_⟩
    · have k := k.1 c_13
      show WP T N _ 75 _ _ _ _
      refine R_ps 1 (pc2 := 77) (L2 := [some (vr (some w)), some (vi x1), some (vi x2), some (vr (some a_9))]) (st2 := [vi 99]) rfl ?_
      exact R_iret rfl rfl k
    replace k := k.2 c_13
    refine ⟨fun c_13 => ?_, fun c_13 => ?_⟩
    · have k := k.1 c_13
      show WP T N _ 78 _ _ _ _
      refine R_ps 2 (pc2 := 81) (L2 := [some (vr (some w)), some (vi x1), some (vi x2), some (vr (some a_9))]) (st2 := [vr (some a_9), vi 48]) rfl ?_
      obtain ⟨t_17, k⟩ := k
      refine R_getI rfl t_17 ?_
      refine R_ps 1 (pc2 := 85) (L2 := [some (vr (some w)), some (vi x1), some (vi x2), some (vr (some a_9))]) (st2 := [vi (48 + (gi h_6 a_9 0))]) rfl ?_
      exact R_iret rfl rfl k
    replace k := k.2 c_13
    refine ⟨fun c_13 => ?_, fun c_13 => ?_⟩
    · have k := k.1 c_13
      show WP T N _ 86 _ _ _ _
      refine R_ps 1 (pc2 := 88) (L2 := [some (vr (some w)), some (vi x1), some (vi x2), some (vr (some a_9))]) (st2 := [vi 45]) rfl ?_
      exact R_iret rfl rfl k
    replace k := k.2 c_13
    refine ⟨fun c_13 => ?_, fun c_13 => ?_⟩
    · have k := k.1 c_13
      show WP T N _ 89 _ _ _ _
      refine R_ps 2 (pc2 := 92) (L2 := [some (vr (some w)), some (vi x1), some (vi x2), some (vr (some a_9))]) (st2 := [vr (some a_9), vi 48]) rfl ?_
      obtain ⟨t_21, k⟩ := k
      refine R_getI rfl t_21 ?_
      refine R_ps 1 (pc2 := 96) (L2 := [some (vr (some w)), some (vi x1), some (vi x2), some (vr (some a_9))]) (st2 := [vi (48 + (gi h_6 a_9 1))]) rfl ?_
      exact R_iret rfl rfl k
    replace k := k.2 c_13
    refine ⟨fun c_13 => ?_, fun c_13 => ?_⟩
    · have k := k.1 c_13
      show WP T N _ 97 _ _ _ _
      refine R_ps 1 (pc2 := 99) (L2 := [some (vr (some w)), some (vi x1), some (vi x2), some (vr (some a_9))]) (st2 := [vi 42]) rfl ?_
      exact R_iret rfl rfl k
    replace k := k.2 c_13
    refine ⟨fun c_13 => ?_, fun c_13 => ?_⟩
    · have k := k.1 c_13
      show WP T N _ 100 _ _ _ _
      refine R_ps 2 (pc2 := 103) (L2 := [some (vr (some w)), some (vi x1), some (vi x2), some (vr (some a_9))]) (st2 := [vr (some a_9), vi 48]) rfl ?_
      obtain ⟨t_25, k⟩ := k
      refine R_getI rfl t_25 ?_
      refine R_ps 1 (pc2 := 107) (L2 := [some (vr (some w)), some (vi x1), some (vi x2), some (vr (some a_9))]) (st2 := [vi (48 + (gi h_6 a_9 2))]) rfl ?_
      exact R_iret rfl rfl k
    replace k := k.2 c_13
    refine ⟨fun c_13 => ?_, fun c_13 => ?_⟩
    · have k := k.1 c_13
      show WP T N _ 108 _ _ _ _
      refine R_ps 1 (pc2 := 110) (L2 := [some (vr (some w)), some (vi x1), some (vi x2), some (vr (some a_9))]) (st2 := [vi 59]) rfl ?_
      exact R_iret rfl rfl k
    replace k := k.2 c_13
    show WP T N _ 111 _ _ _ _
    obtain ⟨t_29, k⟩ := k
    exact R_throw rfl rfl ⟨Nat.le_of_ble_eq_true rfl, t_29⟩ k
/-- DroneCorridors.undo -/
theorem m142 {T N : Nat → Nat} {h : PH} {w : Nat} {K : PR → PH → Prop} (t0 : T w = 11) (k : (∃ a_3, (gr h w 2) = some a_3 ∧ T a_3 = 5 ∧ (((gi h a_3 0) = 0 → ((∀ a, nx h ≤ a → T a = 0) ∧ K (.inr 5) (bump h))) ∧ (¬ ((gi h a_3 0) = 0) → (∃ a_10, (gr h w 2) = some a_10 ∧ T a_10 = 5 ∧ CV T N 45 [vr (some a_10), vr (gr h w 0)] h (fun h_13 => (∃ a_17, (gr h_13 w 2) = some a_17 ∧ T a_17 = 5 ∧ K (.inl (some (vi (gi h_13 a_17 0)))) h_13))))))) : CALL T N 142 [vr (some w)] h K := by
  show WP T N 142 0 [some (vr (some w))] [] h _
  refine R_ps 1 (pc2 := 1) (L2 := [some (vr (some w))]) (st2 := [vr (some w)]) rfl ?_
  refine R_getR rfl t0 ?_
  obtain ⟨a_3, e_4, k⟩ := k
  rw [e_4]
  obtain ⟨t_5, k⟩ := k
  refine R_getI rfl t_5 ?_
  refine R_if0 rfl (fun c_6 => ?_) (fun c_6 => ?_)
  · have k := k.2 c_6
    refine R_ps 1 (pc2 := 22) (L2 := [some (vr (some w))]) (st2 := [vr (some w)]) rfl ?_
    refine R_getR rfl t0 ?_
    refine R_ps 1 (pc2 := 26) (L2 := [some (vr (some w))]) (st2 := [vr (some w), vr (gr h w 2)]) rfl ?_
    refine R_getR rfl t0 ?_
    obtain ⟨a_10, e_11, k⟩ := k
    rw [e_11]
    obtain ⟨t_12, k⟩ := k
    refine R_cV (as := [vr (some a_10), vr (gr h w 0)]) rfl rfl ⟨Nat.le_of_ble_eq_true rfl, Nat.le_of_ble_eq_true rfl, rfl, (Or.inr ⟨_, rfl, t_12⟩)⟩ rfl rfl k (fun h_13 k => ?_)
    refine R_ps 1 (pc2 := 33) (L2 := [some (vr (some w))]) (st2 := [vr (some w)]) rfl ?_
    refine R_getR rfl t0 ?_
    obtain ⟨a_17, e_18, k⟩ := k
    rw [e_18]
    obtain ⟨t_19, k⟩ := k
    refine R_getI rfl t_19 ?_
    exact R_iret rfl rfl k
  · have k := k.1 (Classical.not_not.mp c_6)
    obtain ⟨t_22, k⟩ := k
    exact R_throw rfl rfl ⟨Nat.le_of_ble_eq_true rfl, t_22⟩ k
/-- DroneCorridors.save -/
theorem m143 {T N : Nat → Nat} {h : PH} {w : Nat} {K : Int32 → PH → Prop} (t0 : T w = 11) (k : (∃ a_4, (gr h w 1) = some a_4 ∧ T a_4 = 10 ∧ CV T N 84 [vr (some a_4), vr (gr h w 0)] h (fun h_7 => (∀ h_10, h_10 = si h_7 w 7 1 → ∃ a_14, (gr h_10 w 0) = some a_14 ∧ T a_14 = 10 ∧ K (gi h_10 a_14 1) h_10)))) : CI T N 143 [vr (some w)] h K := by
  show WP T N 143 0 [some (vr (some w))] [] h _
  refine R_ps 1 (pc2 := 1) (L2 := [some (vr (some w))]) (st2 := [vr (some w)]) rfl ?_
  refine R_getR rfl t0 ?_
  refine R_ps 1 (pc2 := 5) (L2 := [some (vr (some w))]) (st2 := [vr (some w), vr (gr h w 1)]) rfl ?_
  refine R_getR rfl t0 ?_
  obtain ⟨a_4, e_5, k⟩ := k
  rw [e_5]
  obtain ⟨t_6, k⟩ := k
  refine R_cV (as := [vr (some a_4), vr (gr h w 0)]) rfl rfl ⟨Nat.le_of_ble_eq_true rfl, Nat.le_of_ble_eq_true rfl, rfl, (Or.inr ⟨_, rfl, t_6⟩)⟩ rfl rfl k (fun h_7 k => ?_)
  refine R_ps 2 (pc2 := 13) (L2 := [some (vr (some w))]) (st2 := [vi 1, vr (some w)]) rfl ?_
  refine R_putZ rfl t0 (Or.inr rfl) ?_
  show WP T N _ _ _ _ (si h_7 w 7 1) _
  generalize e_11 : si h_7 w 7 1 = h_10
  replace k := k h_10 e_11.symm
  refine R_ps 1 (pc2 := 17) (L2 := [some (vr (some w))]) (st2 := [vr (some w)]) rfl ?_
  refine R_getR rfl t0 ?_
  obtain ⟨a_14, e_15, k⟩ := k
  rw [e_15]
  obtain ⟨t_16, k⟩ := k
  refine R_getI rfl t_16 ?_
  exact R_iret rfl rfl ⟨_, rfl, k⟩
/-- DroneCorridors.restore -/
theorem m144 {T N : Nat → Nat} {h : PH} {w : Nat} {K : PR → PH → Prop} (t0 : T w = 11) (k : ((((gi h w 7) = 0 → ((∀ a, nx h ≤ a → T a = 0) ∧ K (.inr 0) (bump h))) ∧ (¬ ((gi h w 7) = 0) → (∃ a_6, (gr h w 0) = some a_6 ∧ T a_6 = 10 ∧ CV T N 84 [vr (some a_6), vr (gr h w 1)] h (fun h_9 => (∃ a_13, (gr h_9 w 2) = some a_13 ∧ T a_13 = 5 ∧ CV T N 40 [vr (some a_13)] h_9 (fun h_16 => (∃ a_20, (gr h_16 w 0) = some a_20 ∧ T a_20 = 10 ∧ K (.inl (some (vi (gi h_16 a_20 1)))) h_16))))))))) : CALL T N 144 [vr (some w)] h K := by
  show WP T N 144 0 [some (vr (some w))] [] h _
  refine R_ps 1 (pc2 := 1) (L2 := [some (vr (some w))]) (st2 := [vr (some w)]) rfl ?_
  refine R_getZ rfl t0 ?_
  refine R_if0 rfl (fun c_2 => ?_) (fun c_2 => ?_)
  · have k := k.2 c_2
    refine R_ps 1 (pc2 := 19) (L2 := [some (vr (some w))]) (st2 := [vr (some w)]) rfl ?_
    refine R_getR rfl t0 ?_
    refine R_ps 1 (pc2 := 23) (L2 := [some (vr (some w))]) (st2 := [vr (some w), vr (gr h w 0)]) rfl ?_
    refine R_getR rfl t0 ?_
    obtain ⟨a_6, e_7, k⟩ := k
    rw [e_7]
    obtain ⟨t_8, k⟩ := k
    refine R_cV (as := [vr (some a_6), vr (gr h w 1)]) rfl rfl ⟨Nat.le_of_ble_eq_true rfl, Nat.le_of_ble_eq_true rfl, rfl, (Or.inr ⟨_, rfl, t_8⟩)⟩ rfl rfl k (fun h_9 k => ?_)
    refine R_ps 1 (pc2 := 30) (L2 := [some (vr (some w))]) (st2 := [vr (some w)]) rfl ?_
    refine R_getR rfl t0 ?_
    obtain ⟨a_13, e_14, k⟩ := k
    rw [e_14]
    obtain ⟨t_15, k⟩ := k
    refine R_cV (as := [vr (some a_13)]) rfl rfl ⟨Nat.le_of_ble_eq_true rfl, Nat.le_of_ble_eq_true rfl, rfl, (Or.inr ⟨_, rfl, t_15⟩)⟩ rfl rfl k (fun h_16 k => ?_)
    refine R_ps 1 (pc2 := 37) (L2 := [some (vr (some w))]) (st2 := [vr (some w)]) rfl ?_
    refine R_getR rfl t0 ?_
    obtain ⟨a_20, e_21, k⟩ := k
    rw [e_21]
    obtain ⟨t_22, k⟩ := k
    refine R_getI rfl t_22 ?_
    exact R_iret rfl rfl k
  · have k := k.1 (Classical.not_not.mp c_2)
    obtain ⟨t_25, k⟩ := k
    exact R_throw rfl rfl ⟨Nat.le_of_ble_eq_true rfl, t_25⟩ k
/-- DroneCorridors.holds -/
theorem m145 {T N : Nat → Nat} {h : PH} {x0 : Int32} {x1 : Int32} {K : Int32 → PH → Prop} (k : (((((x0 >>> (x1 &&& 31)) &&& 1) = 0 → (K 0 h)) ∧ (¬ (((x0 >>> (x1 &&& 31)) &&& 1) = 0) → (K 1 h))))) : CI T N 145 [vi x0, vi x1] h K := by
  show WP T N 145 0 [some (vi x0), some (vi x1)] [] h _
  refine R_ps 5 (pc2 := 5) (L2 := [some (vi x0), some (vi x1)]) (st2 := [vi ((x0 >>> (x1 &&& 31)) &&& 1)]) rfl ?_
  refine R_if0 rfl (fun c_1 => ?_) (fun c_1 => ?_)
  · have k := k.1 c_1
    refine R_ps 1 (pc2 := 13) (L2 := [some (vi x0), some (vi x1)]) (st2 := [vi 0]) rfl ?_
    exact R_zret rfl rfl (Or.inl rfl) ⟨_, rfl, k⟩
  · have k := k.2 c_1
    refine R_ps 2 (pc2 := 13) (L2 := [some (vi x0), some (vi x1)]) (st2 := [vi 1]) rfl ?_
    exact R_zret rfl rfl (Or.inr rfl) ⟨_, rfl, k⟩
/-- DroneCorridors.lowestOf -/
theorem m146 {T N : Nat → Nat} {h : PH} {x0 : Int32} {K : Int32 → PH → Prop} (k : (WI T N 146 2 [some (vi x0), some (vi 0)] [] h K)) : CI T N 146 [vi x0] h K := by
  show WP T N 146 0 [some (vi x0), none] [] h _
  refine R_ps 2 (pc2 := 2) (L2 := [some (vi x0), some (vi 0)]) (st2 := []) rfl ?_
  exact k
theorem m146_2 {T N : Nat → Nat} {h : PH} {x0 : Int32} {x1 : Int32} {K : Int32 → PH → Prop} (k : (((x1 < 10 → (CI T N 145 [vi x0, vi x1] h (fun x_5 h_4 => (((x_5 = 0 → (WI T N 146 2 [some (vi x0), some (vi (x1 + 1))] [] h_4 K)) ∧ (¬ (x_5 = 0) → (K x1 h_4))))))) ∧ (¬ (x1 < 10) → (K (-1) h))))) : WI T N 146 2 [some (vi x0), some (vi x1)] [] h K := by
  show WP T N 146 2 [some (vi x0), some (vi x1)] [] h _
  refine R_ps 2 (pc2 := 5) (L2 := [some (vi x0), some (vi x1)]) (st2 := [vi 10, vi x1]) rfl ?_
  refine R_if rfl (fun c_1 => ?_) (fun c_1 => ?_)
  · have k := k.2 (i32_nlt c_1)
    refine R_ps 1 (pc2 := 25) (L2 := [some (vi x0), some (vi x1)]) (st2 := [vi (-1)]) rfl ?_
    exact R_iret rfl rfl ⟨_, rfl, k⟩
  · have k := k.1 (i32_lt c_1)
    refine R_ps 2 (pc2 := 10) (L2 := [some (vi x0), some (vi x1)]) (st2 := [vi x1, vi x0]) rfl ?_
    refine R_cI (as := [vi x0, vi x1]) rfl rfl ⟨Nat.le_of_ble_eq_true rfl, Nat.le_of_ble_eq_true rfl, rfl, (Or.inl rfl)⟩ rfl rfl k (fun x_5 h_4 k => ?_)
    refine R_if0 rfl (fun c_6 => ?_) (fun c_6 => ?_)
    · have k := k.1 c_6
      refine R_ps 2 (pc2 := 2) (L2 := [some (vi x0), some (vi (x1 + 1))]) (st2 := []) rfl ?_
      exact k
    · have k := k.2 c_6
      refine R_ps 1 (pc2 := 17) (L2 := [some (vi x0), some (vi x1)]) (st2 := [vi x1]) rfl ?_
      exact R_iret rfl rfl ⟨_, rfl, k⟩
/-- DroneCorridors.isWindFor -/
theorem m147 {T N : Nat → Nat} {h : PH} {x0 : Int32} {x1 : Int32} {K : Int32 → PH → Prop} (k : (((x1 < (-x0) → (K 0 h)) ∧ (¬ (x1 < (-x0)) → (((x0 < x1 → (K 0 h)) ∧ (¬ (x0 < x1) → (K 1 h)))))))) : CI T N 147 [vi x0, vi x1] h K := by
  show WP T N 147 0 [some (vi x0), some (vi x1)] [] h _
  refine R_ps 3 (pc2 := 3) (L2 := [some (vi x0), some (vi x1)]) (st2 := [vi (-x0), vi x1]) rfl ?_
  refine R_if rfl (fun c_1 => ?_) (fun c_1 => ?_)
  · have k := k.1 c_1
    refine R_ps 1 (pc2 := 16) (L2 := [some (vi x0), some (vi x1)]) (st2 := [vi 0]) rfl ?_
    exact R_zret rfl rfl (Or.inl rfl) ⟨_, rfl, k⟩
  · have k := k.2 c_1
    refine R_ps 2 (pc2 := 8) (L2 := [some (vi x0), some (vi x1)]) (st2 := [vi x0, vi x1]) rfl ?_
    refine R_if rfl (fun c_3 => ?_) (fun c_3 => ?_)
    · have k := k.1 c_3
      refine R_ps 1 (pc2 := 16) (L2 := [some (vi x0), some (vi x1)]) (st2 := [vi 0]) rfl ?_
      exact R_zret rfl rfl (Or.inl rfl) ⟨_, rfl, k⟩
    · have k := k.2 c_3
      refine R_ps 2 (pc2 := 16) (L2 := [some (vi x0), some (vi x1)]) (st2 := [vi 1]) rfl ?_
      exact R_zret rfl rfl (Or.inr rfl) ⟨_, rfl, k⟩
/-- DroneCorridors.pairsBetween -/
theorem m148 {T N : Nat → Nat} {h : PH} {a0 : Nat} {a1 : Nat} {x2 : Int32} {K : Int32 → PH → Prop} (k : (WI T N 148 15 [some (vr (some a0)), some (vr (some a1)), some (vi x2), some (vi 0), some (vi 0), none] [] h K)) : CI T N 148 [vr (some a0), vr (some a1), vi x2] h K := by
  show WP T N 148 0 [some (vr (some a0)), some (vr (some a1)), some (vi x2), none, none, none] [] h _
  refine R_ps 1 (pc2 := 1) (L2 := [some (vr (some a0)), some (vr (some a1)), some (vi x2), none, none, none]) (st2 := [vr (some a0)]) rfl ?_
  refine R_null rfl (fun c_1 => nomatch c_1) (fun _ _ => ?_)
  refine R_ps 1 (pc2 := 5) (L2 := [some (vr (some a0)), some (vr (some a1)), some (vi x2), none, none, none]) (st2 := [vr (some a1)]) rfl ?_
  refine R_nonnull rfl (fun c_2 => nomatch c_2) (fun _ _ => ?_)
  refine R_ps 4 (pc2 := 15) (L2 := [some (vr (some a0)), some (vr (some a1)), some (vi x2), some (vi 0), some (vi 0), none]) (st2 := []) rfl ?_
  exact k
theorem m148_15 {T N : Nat → Nat} {h : PH} {a0 : Nat} {a1 : Nat} {x2 : Int32} {x3 : Int32} {x4 : Int32} {K : Int32 → PH → Prop} (t0 : T a0 = 3) (t1 : T a1 = 3) (k : (((x4 < (gi h a0 8) → (CR T N 17 [vr (some a0), vi x4] h (fun x_6 h_5 => (((x_6 = none → (WI T N 148 15 [some (vr (some a0)), some (vr (some a1)), some (vi x2), some (vi x3), some (vi (x4 + 1)), none] [] h_5 K)) ∧ (∀ a_8, x_6 = some a_8 → (CI T N 26 [vr (some a1), vr (some a_8), vi x2] h_5 (fun x_12 h_11 => (WI T N 148 15 [some (vr (some a0)), some (vr (some a1)), some (vi x2), some (vi (x3 + x_12)), some (vi (x4 + 1)), none] [] h_11 K))))))))) ∧ (¬ (x4 < (gi h a0 8)) → (K x3 h))))) : WI T N 148 15 [some (vr (some a0)), some (vr (some a1)), some (vi x2), some (vi x3), some (vi x4), none] [] h K := by
  show WP T N 148 15 [some (vr (some a0)), some (vr (some a1)), some (vi x2), some (vi x3), some (vi x4), none] [] h _
  refine R_ps 2 (pc2 := 18) (L2 := [some (vr (some a0)), some (vr (some a1)), some (vi x2), some (vi x3), some (vi x4), none]) (st2 := [vr (some a0), vi x4]) rfl ?_
  refine R_getI rfl t0 ?_
  refine R_if rfl (fun c_2 => ?_) (fun c_2 => ?_)
  · have k := k.2 (i32_nlt c_2)
    refine R_ps 1 (pc2 := 54) (L2 := [some (vr (some a0)), some (vr (some a1)), some (vi x2), some (vi x3), some (vi x4), none]) (st2 := [vi x3]) rfl ?_
    exact R_iret rfl rfl ⟨_, rfl, k⟩
  · have k := k.1 (i32_lt c_2)
    refine R_ps 2 (pc2 := 27) (L2 := [some (vr (some a0)), some (vr (some a1)), some (vi x2), some (vi x3), some (vi x4), none]) (st2 := [vi x4, vr (some a0)]) rfl ?_
    refine R_cR (as := [vr (some a0), vi x4]) rfl rfl ⟨Nat.le_of_ble_eq_true rfl, Nat.le_of_ble_eq_true rfl, rfl, (Or.inr ⟨_, rfl, t0⟩)⟩ rfl rfl k (fun x_6 h_5 k => ?_)
    refine R_ps 2 (pc2 := 34) (L2 := [some (vr (some a0)), some (vr (some a1)), some (vi x2), some (vi x3), some (vi x4), some (vr x_6)]) (st2 := [vr x_6]) rfl ?_
    rcases null_or (x_6) with e_9 | ⟨a_8, e_9⟩
    · have k := k.1 e_9
      rw [e_9]
      refine R_null rfl (fun _ => ?_) (fun _ c_7 => nomatch c_7)
      refine R_ps 2 (pc2 := 15) (L2 := [some (vr (some a0)), some (vr (some a1)), some (vi x2), some (vi x3), some (vi (x4 + 1)), some (vr none)]) (st2 := []) rfl ?_
      exact R_drop k (LE_of (L := [some (vr (some a0)), some (vr (some a1)), some (vi x2), some (vi x3), some (vi (x4 + 1)), none]) (L2 := [some (vr (some a0)), some (vr (some a1)), some (vi x2), some (vi x3), some (vi (x4 + 1)), some (vr none)]) ⟨rfl, rfl, rfl, rfl, rfl, trivial⟩)
    · have k := k.2 a_8 e_9
      rw [e_9]
      refine R_null rfl (fun c_7 => nomatch c_7) (fun _ _ => ?_)
      refine R_ps 4 (pc2 := 42) (L2 := [some (vr (some a0)), some (vr (some a1)), some (vi x2), some (vi x3), some (vi x4), some (vr (some a_8))]) (st2 := [vi x2, vr (some a_8), vr (some a1), vi x3]) rfl ?_
      refine R_cI (as := [vr (some a1), vr (some a_8), vi x2]) rfl rfl ⟨Nat.le_of_ble_eq_true rfl, Nat.le_of_ble_eq_true rfl, rfl, (Or.inr ⟨_, rfl, t1⟩)⟩ rfl rfl k (fun x_12 h_11 k => ?_)
      refine R_ps 4 (pc2 := 15) (L2 := [some (vr (some a0)), some (vr (some a1)), some (vi x2), some (vi (x3 + x_12)), some (vi (x4 + 1)), some (vr (some a_8))]) (st2 := []) rfl ?_
      exact R_drop k (LE_of (L := [some (vr (some a0)), some (vr (some a1)), some (vi x2), some (vi (x3 + x_12)), some (vi (x4 + 1)), none]) (L2 := [some (vr (some a0)), some (vr (some a1)), some (vi x2), some (vi (x3 + x_12)), some (vi (x4 + 1)), some (vr (some a_8))]) ⟨rfl, rfl, rfl, rfl, rfl, trivial⟩)
/-- DroneCorridors.findOrRefuse -/
theorem m149 {T N : Nat → Nat} {h : PH} {w : Nat} {x1 : Int32} {x2 : Int32} {K : PR → PH → Prop} (t0 : T w = 11) (k : (∃ a_3, (gr h w 0) = some a_3 ∧ T a_3 = 10 ∧ CR T N 91 [vr (some a_3), vi x1] h (fun x_7 h_6 => (((x_7 = none → ((∀ a, nx h_6 ≤ a → T a = 0) ∧ K (.inr 2) (bump h_6))) ∧ (∀ a_9, x_7 = some a_9 → (∃ a_15, (gr h_6 w 0) = some a_15 ∧ T a_15 = 10 ∧ CI T N 88 [vr (some a_15), vi x2] h_6 (fun x_19 h_18 => (((x_19 = 0 → ((∀ a, nx h_18 ≤ a → T a = 0) ∧ K (.inr 2) (bump h_18))) ∧ (¬ (x_19 = 0) → (∃ a_24, (gr h_18 w 3) = some a_24 ∧ T a_24 = 8 ∧ CI T N 59 [vr (some a_24), vr (gr h_18 w 0), vi x1, vi (1 <<< (x2 &&& 31)), vi 2] h_18 (fun x_28 h_27 => (((x_28 = 0 → ((∀ a, nx h_27 ≤ a → T a = 0) ∧ K (.inr 5) (bump h_27))) ∧ (¬ (x_28 = 0) → (K (.inl none) h_27))))))))))))))))) : CALL T N 149 [vr (some w), vi x1, vi x2] h K := by
  show WP T N 149 0 [some (vr (some w)), some (vi x1), some (vi x2)] [] h _
  refine R_ps 1 (pc2 := 1) (L2 := [some (vr (some w)), some (vi x1), some (vi x2)]) (st2 := [vr (some w)]) rfl ?_
  refine R_getR rfl t0 ?_
  refine R_ps 1 (pc2 := 5) (L2 := [some (vr (some w)), some (vi x1), some (vi x2)]) (st2 := [vi x1, vr (gr h w 0)]) rfl ?_
  obtain ⟨a_3, e_4, k⟩ := k
  rw [e_4]
  obtain ⟨t_5, k⟩ := k
  refine R_cR (as := [vr (some a_3), vi x1]) rfl rfl ⟨Nat.le_of_ble_eq_true rfl, Nat.le_of_ble_eq_true rfl, rfl, (Or.inr ⟨_, rfl, t_5⟩)⟩ rfl rfl k (fun x_7 h_6 k => ?_)
  rcases null_or (x_7) with e_10 | ⟨a_9, e_10⟩
  · have k := k.1 e_10
    rw [e_10]
    refine R_null rfl (fun _ => ?_) (fun _ c_8 => nomatch c_8)
    obtain ⟨t_12, k⟩ := k
    exact R_throw rfl rfl ⟨Nat.le_of_ble_eq_true rfl, t_12⟩ k
  · have k := k.2 a_9 e_10
    rw [e_10]
    refine R_null rfl (fun c_8 => nomatch c_8) (fun _ _ => ?_)
    refine R_ps 1 (pc2 := 12) (L2 := [some (vr (some w)), some (vi x1), some (vi x2)]) (st2 := [vr (some w)]) rfl ?_
    refine R_getR rfl t0 ?_
    refine R_ps 1 (pc2 := 16) (L2 := [some (vr (some w)), some (vi x1), some (vi x2)]) (st2 := [vi x2, vr (gr h_6 w 0)]) rfl ?_
    obtain ⟨a_15, e_16, k⟩ := k
    rw [e_16]
    obtain ⟨t_17, k⟩ := k
    refine R_cI (as := [vr (some a_15), vi x2]) rfl rfl ⟨Nat.le_of_ble_eq_true rfl, Nat.le_of_ble_eq_true rfl, rfl, (Or.inr ⟨_, rfl, t_17⟩)⟩ rfl rfl k (fun x_19 h_18 k => ?_)
    refine R_if0 rfl (fun c_20 => ?_) (fun c_20 => ?_)
    · have k := k.2 c_20
      refine R_ps 1 (pc2 := 33) (L2 := [some (vr (some w)), some (vi x1), some (vi x2)]) (st2 := [vr (some w)]) rfl ?_
      refine R_getR rfl t0 ?_
      refine R_ps 1 (pc2 := 37) (L2 := [some (vr (some w)), some (vi x1), some (vi x2)]) (st2 := [vr (some w), vr (gr h_18 w 3)]) rfl ?_
      refine R_getR rfl t0 ?_
      refine R_ps 5 (pc2 := 45) (L2 := [some (vr (some w)), some (vi x1), some (vi x2)]) (st2 := [vi 2, vi (1 <<< (x2 &&& 31)), vi x1, vr (gr h_18 w 0), vr (gr h_18 w 3)]) rfl ?_
      obtain ⟨a_24, e_25, k⟩ := k
      rw [e_25]
      obtain ⟨t_26, k⟩ := k
      refine R_cI (as := [vr (some a_24), vr (gr h_18 w 0), vi x1, vi (1 <<< (x2 &&& 31)), vi 2]) rfl rfl ⟨Nat.le_of_ble_eq_true rfl, Nat.le_of_ble_eq_true rfl, rfl, (Or.inr ⟨_, rfl, t_26⟩)⟩ rfl rfl k (fun x_28 h_27 k => ?_)
      refine R_if0 rfl (fun c_29 => ?_) (fun c_29 => ?_)
      · have k := k.2 c_29
        exact R_ret rfl rfl k
      · have k := k.1 (Classical.not_not.mp c_29)
        obtain ⟨t_32, k⟩ := k
        exact R_throw rfl rfl ⟨Nat.le_of_ble_eq_true rfl, t_32⟩ k
    · have k := k.1 (Classical.not_not.mp c_20)
      obtain ⟨t_34, k⟩ := k
      exact R_throw rfl rfl ⟨Nat.le_of_ble_eq_true rfl, t_34⟩ k
/-- DroneCorridors.whyNotPlanned -/
theorem m150 {T N : Nat → Nat} {h : PH} {w : Nat} {x1 : Int32} {x2 : Int32} {K : Int32 → PH → Prop} (t0 : T w = 11) (k : (∃ a_3, (gr h w 0) = some a_3 ∧ T a_3 = 10 ∧ CR T N 91 [vr (some a_3), vi x1] h (fun x_7 h_6 => (((x_7 = none → (K 1 h_6)) ∧ (∀ a_9, x_7 = some a_9 → (T a_9 = 3 ∧ (((gi h_6 a_9 0) = 3 → (K 1 h_6)) ∧ (¬ ((gi h_6 a_9 0) = 3) → (∃ a_19, (gr h_6 w 0) = some a_19 ∧ T a_19 = 10 ∧ ∃ a_23, (gr h_6 w 4) = some a_23 ∧ T a_23 = 9 ∧ CV T N 79 [vr (some a_23), vr (some a_19), vi (gi h_6 a_19 2), vi 0] h_6 (fun h_26 => (∃ a_30, (gr h_26 w 4) = some a_30 ∧ T a_30 = 9 ∧ CI T N 78 [vr (some a_30), vi x2] h_26 (fun x_34 h_33 => (((x_34 < 1000000 → (∃ a_39, (gr h_33 w 3) = some a_39 ∧ T a_39 = 8 ∧ CI T N 59 [vr (some a_39), vr (gr h_33 w 0), vi x1, vi (1 <<< (x2 &&& 31)), vi 0] h_33 (fun x_43 h_42 => (((x_43 = 0 → (K 3 h_42)) ∧ (¬ (x_43 = 0) → (∃ a_48, (gr h_42 w 3) = some a_48 ∧ T a_48 = 8 ∧ CI T N 59 [vr (some a_48), vr (gr h_42 w 0), vi x1, vi (1 <<< (x2 &&& 31)), vi 1] h_42 (fun x_52 h_51 => (((x_52 = 0 → (K 4 h_51)) ∧ (¬ (x_52 = 0) → (K 5 h_51)))))))))))) ∧ (¬ (x_34 < 1000000) → (K 2 h_33))))))))))))))))) : CI T N 150 [vr (some w), vi x1, vi x2] h K := by
  show WP T N 150 0 [some (vr (some w)), some (vi x1), some (vi x2), none] [] h _
  refine R_ps 1 (pc2 := 1) (L2 := [some (vr (some w)), some (vi x1), some (vi x2), none]) (st2 := [vr (some w)]) rfl ?_
  refine R_getR rfl t0 ?_
  refine R_ps 1 (pc2 := 5) (L2 := [some (vr (some w)), some (vi x1), some (vi x2), none]) (st2 := [vi x1, vr (gr h w 0)]) rfl ?_
  obtain ⟨a_3, e_4, k⟩ := k
  rw [e_4]
  obtain ⟨t_5, k⟩ := k
  refine R_cR (as := [vr (some a_3), vi x1]) rfl rfl ⟨Nat.le_of_ble_eq_true rfl, Nat.le_of_ble_eq_true rfl, rfl, (Or.inr ⟨_, rfl, t_5⟩)⟩ rfl rfl k (fun x_7 h_6 k => ?_)
  refine R_ps 2 (pc2 := 10) (L2 := [some (vr (some w)), some (vi x1), some (vi x2), some (vr x_7)]) (st2 := [vr x_7]) rfl ?_
  rcases null_or (x_7) with e_10 | ⟨a_9, e_10⟩
  · have k := k.1 e_10
    rw [e_10]
    refine R_null rfl (fun _ => ?_) (fun _ c_8 => nomatch c_8)
    refine R_ps 1 (pc2 := 22) (L2 := [some (vr (some w)), some (vi x1), some (vi x2), some (vr none)]) (st2 := [vi 1]) rfl ?_
    exact R_iret rfl rfl ⟨_, rfl, k⟩
  · have k := k.2 a_9 e_10
    rw [e_10]
    refine R_null rfl (fun c_8 => nomatch c_8) (fun _ _ => ?_)
    refine R_ps 1 (pc2 := 14) (L2 := [some (vr (some w)), some (vi x1), some (vi x2), some (vr (some a_9))]) (st2 := [vr (some a_9)]) rfl ?_
    obtain ⟨t_13, k⟩ := k
    refine R_getI rfl t_13 ?_
    refine R_ps 1 (pc2 := 18) (L2 := [some (vr (some w)), some (vi x1), some (vi x2), some (vr (some a_9))]) (st2 := [vi 3, vi (gi h_6 a_9 0)]) rfl ?_
    refine R_if rfl (fun c_14 => ?_) (fun c_14 => ?_)
    · have k := k.2 c_14
      refine R_ps 1 (pc2 := 24) (L2 := [some (vr (some w)), some (vi x1), some (vi x2), some (vr (some a_9))]) (st2 := [vr (some w)]) rfl ?_
      refine R_getR rfl t0 ?_
      refine R_ps 1 (pc2 := 28) (L2 := [some (vr (some w)), some (vi x1), some (vi x2), some (vr (some a_9))]) (st2 := [vr (some w), vr (gr h_6 w 4)]) rfl ?_
      refine R_getR rfl t0 ?_
      refine R_ps 1 (pc2 := 32) (L2 := [some (vr (some w)), some (vi x1), some (vi x2), some (vr (some a_9))]) (st2 := [vr (some w), vr (gr h_6 w 0), vr (gr h_6 w 4)]) rfl ?_
      refine R_getR rfl t0 ?_
      obtain ⟨a_19, e_20, k⟩ := k
      rw [e_20]
      obtain ⟨t_21, k⟩ := k
      refine R_getI rfl t_21 ?_
      refine R_ps 1 (pc2 := 39) (L2 := [some (vr (some w)), some (vi x1), some (vi x2), some (vr (some a_9))]) (st2 := [vi 0, vi (gi h_6 a_19 2), vr (some a_19), vr (gr h_6 w 4)]) rfl ?_
      obtain ⟨a_23, e_24, k⟩ := k
      rw [e_24]
      obtain ⟨t_25, k⟩ := k
      refine R_cV (as := [vr (some a_23), vr (some a_19), vi (gi h_6 a_19 2), vi 0]) rfl rfl ⟨Nat.le_of_ble_eq_true rfl, Nat.le_of_ble_eq_true rfl, rfl, (Or.inr ⟨_, rfl, t_25⟩)⟩ rfl rfl k (fun h_26 k => ?_)
      refine R_ps 1 (pc2 := 43) (L2 := [some (vr (some w)), some (vi x1), some (vi x2), some (vr (some a_9))]) (st2 := [vr (some w)]) rfl ?_
      refine R_getR rfl t0 ?_
      refine R_ps 1 (pc2 := 47) (L2 := [some (vr (some w)), some (vi x1), some (vi x2), some (vr (some a_9))]) (st2 := [vi x2, vr (gr h_26 w 4)]) rfl ?_
      obtain ⟨a_30, e_31, k⟩ := k
      rw [e_31]
      obtain ⟨t_32, k⟩ := k
      refine R_cI (as := [vr (some a_30), vi x2]) rfl rfl ⟨Nat.le_of_ble_eq_true rfl, Nat.le_of_ble_eq_true rfl, rfl, (Or.inr ⟨_, rfl, t_32⟩)⟩ rfl rfl k (fun x_34 h_33 k => ?_)
      refine R_ps 1 (pc2 := 52) (L2 := [some (vr (some w)), some (vi x1), some (vi x2), some (vr (some a_9))]) (st2 := [vi 1000000, vi x_34]) rfl ?_
      refine R_if rfl (fun c_35 => ?_) (fun c_35 => ?_)
      · have k := k.1 c_35
        refine R_ps 1 (pc2 := 58) (L2 := [some (vr (some w)), some (vi x1), some (vi x2), some (vr (some a_9))]) (st2 := [vr (some w)]) rfl ?_
        refine R_getR rfl t0 ?_
        refine R_ps 1 (pc2 := 62) (L2 := [some (vr (some w)), some (vi x1), some (vi x2), some (vr (some a_9))]) (st2 := [vr (some w), vr (gr h_33 w 3)]) rfl ?_
        refine R_getR rfl t0 ?_
        refine R_ps 5 (pc2 := 70) (L2 := [some (vr (some w)), some (vi x1), some (vi x2), some (vr (some a_9))]) (st2 := [vi 0, vi (1 <<< (x2 &&& 31)), vi x1, vr (gr h_33 w 0), vr (gr h_33 w 3)]) rfl ?_
        obtain ⟨a_39, e_40, k⟩ := k
        rw [e_40]
        obtain ⟨t_41, k⟩ := k
        refine R_cI (as := [vr (some a_39), vr (gr h_33 w 0), vi x1, vi (1 <<< (x2 &&& 31)), vi 0]) rfl rfl ⟨Nat.le_of_ble_eq_true rfl, Nat.le_of_ble_eq_true rfl, rfl, (Or.inr ⟨_, rfl, t_41⟩)⟩ rfl rfl k (fun x_43 h_42 k => ?_)
        refine R_if0 rfl (fun c_44 => ?_) (fun c_44 => ?_)
        · have k := k.2 c_44
          refine R_ps 1 (pc2 := 79) (L2 := [some (vr (some w)), some (vi x1), some (vi x2), some (vr (some a_9))]) (st2 := [vr (some w)]) rfl ?_
          refine R_getR rfl t0 ?_
          refine R_ps 1 (pc2 := 83) (L2 := [some (vr (some w)), some (vi x1), some (vi x2), some (vr (some a_9))]) (st2 := [vr (some w), vr (gr h_42 w 3)]) rfl ?_
          refine R_getR rfl t0 ?_
          refine R_ps 5 (pc2 := 91) (L2 := [some (vr (some w)), some (vi x1), some (vi x2), some (vr (some a_9))]) (st2 := [vi 1, vi (1 <<< (x2 &&& 31)), vi x1, vr (gr h_42 w 0), vr (gr h_42 w 3)]) rfl ?_
          obtain ⟨a_48, e_49, k⟩ := k
          rw [e_49]
          obtain ⟨t_50, k⟩ := k
          refine R_cI (as := [vr (some a_48), vr (gr h_42 w 0), vi x1, vi (1 <<< (x2 &&& 31)), vi 1]) rfl rfl ⟨Nat.le_of_ble_eq_true rfl, Nat.le_of_ble_eq_true rfl, rfl, (Or.inr ⟨_, rfl, t_50⟩)⟩ rfl rfl k (fun x_52 h_51 k => ?_)
          refine R_if0 rfl (fun c_53 => ?_) (fun c_53 => ?_)
          · have k := k.1 c_53
            refine R_ps 1 (pc2 := 102) (L2 := [some (vr (some w)), some (vi x1), some (vi x2), some (vr (some a_9))]) (st2 := [vi 4]) rfl ?_
            exact R_iret rfl rfl ⟨_, rfl, k⟩
          · have k := k.2 c_53
            refine R_ps 2 (pc2 := 102) (L2 := [some (vr (some w)), some (vi x1), some (vi x2), some (vr (some a_9))]) (st2 := [vi 5]) rfl ?_
            exact R_iret rfl rfl ⟨_, rfl, k⟩
        · have k := k.1 (Classical.not_not.mp c_44)
          refine R_ps 1 (pc2 := 77) (L2 := [some (vr (some w)), some (vi x1), some (vi x2), some (vr (some a_9))]) (st2 := [vi 3]) rfl ?_
          exact R_iret rfl rfl ⟨_, rfl, k⟩
      · have k := k.2 c_35
        refine R_ps 1 (pc2 := 56) (L2 := [some (vr (some w)), some (vi x1), some (vi x2), some (vr (some a_9))]) (st2 := [vi 2]) rfl ?_
        exact R_iret rfl rfl ⟨_, rfl, k⟩
    · have k := k.1 (Classical.not_not.mp c_14)
      refine R_ps 1 (pc2 := 22) (L2 := [some (vr (some w)), some (vi x1), some (vi x2), some (vr (some a_9))]) (st2 := [vi 1]) rfl ?_
      exact R_iret rfl rfl ⟨_, rfl, k⟩
/-- DroneCorridors.divert -/
theorem m151 {T N : Nat → Nat} {h : PH} {w : Nat} {x1 : Int32} {K : Int32 → PH → Prop} (t0 : T w = 11) (k : (∃ a_3, (gr h w 0) = some a_3 ∧ T a_3 = 10 ∧ CR T N 91 [vr (some a_3), vi x1] h (fun x_7 h_6 => (((x_7 = none → (K 0 h_6)) ∧ (∀ a_9, x_7 = some a_9 → (T a_9 = 3 ∧ ∃ a_16, (gr h_6 w 0) = some a_16 ∧ T a_16 = 10 ∧ CI T N 88 [vr (some a_16), vi (gi h_6 a_9 4)] h_6 (fun x_20 h_19 => (((x_20 = 0 → (∃ a_27, (gr h_19 w 0) = some a_27 ∧ T a_27 = 10 ∧ ∃ a_31, (gr h_19 w 3) = some a_31 ∧ T a_31 = 8 ∧ CI T N 59 [vr (some a_31), vr (some a_27), vi x1, vi (gi h_19 a_27 2), vi 2] h_19 (fun x_35 h_34 => (((x_35 = 0 → (CI T N 22 [vr (some a_9)] h_34 (fun x_39 h_38 => (∀ h_41, h_41 = si h_38 a_9 4 (-1) → K 0 h_41)))) ∧ (¬ (x_35 = 0) → (∃ a_47, (gr h_34 w 3) = some a_47 ∧ T a_47 = 8 ∧ CV T N 60 [vr (some a_47), vr (gr h_34 w 0), vr (some a_9)] h_34 (fun h_50 => (K 0 h_50))))))))) ∧ (¬ (x_20 = 0) → (∃ a_57, (gr h_19 w 3) = some a_57 ∧ T a_57 = 8 ∧ CI T N 59 [vr (some a_57), vr (gr h_19 w 0), vi x1, vi (1 <<< ((gi h_19 a_9 4) &&& 31)), vi 2] h_19 (fun x_61 h_60 => (((x_61 = 0 → (∃ a_68, (gr h_60 w 0) = some a_68 ∧ T a_68 = 10 ∧ ∃ a_72, (gr h_60 w 3) = some a_72 ∧ T a_72 = 8 ∧ CI T N 59 [vr (some a_72), vr (some a_68), vi x1, vi (gi h_60 a_68 2), vi 2] h_60 (fun x_76 h_75 => (((x_76 = 0 → (CI T N 22 [vr (some a_9)] h_75 (fun x_80 h_79 => (∀ h_82, h_82 = si h_79 a_9 4 (-1) → K 0 h_82)))) ∧ (¬ (x_76 = 0) → (∃ a_88, (gr h_75 w 3) = some a_88 ∧ T a_88 = 8 ∧ CV T N 60 [vr (some a_88), vr (gr h_75 w 0), vr (some a_9)] h_75 (fun h_91 => (K 0 h_91))))))))) ∧ (¬ (x_61 = 0) → (∃ a_98, (gr h_60 w 3) = some a_98 ∧ T a_98 = 8 ∧ CV T N 60 [vr (some a_98), vr (gr h_60 w 0), vr (some a_9)] h_60 (fun h_101 => (K 1 h_101))))))))))))))))))) : CI T N 151 [vr (some w), vi x1] h K := by
  show WP T N 151 0 [some (vr (some w)), some (vi x1), none, none] [] h _
  refine R_ps 1 (pc2 := 1) (L2 := [some (vr (some w)), some (vi x1), none, none]) (st2 := [vr (some w)]) rfl ?_
  refine R_getR rfl t0 ?_
  refine R_ps 1 (pc2 := 5) (L2 := [some (vr (some w)), some (vi x1), none, none]) (st2 := [vi x1, vr (gr h w 0)]) rfl ?_
  obtain ⟨a_3, e_4, k⟩ := k
  rw [e_4]
  obtain ⟨t_5, k⟩ := k
  refine R_cR (as := [vr (some a_3), vi x1]) rfl rfl ⟨Nat.le_of_ble_eq_true rfl, Nat.le_of_ble_eq_true rfl, rfl, (Or.inr ⟨_, rfl, t_5⟩)⟩ rfl rfl k (fun x_7 h_6 k => ?_)
  refine R_ps 2 (pc2 := 10) (L2 := [some (vr (some w)), some (vi x1), some (vr x_7), none]) (st2 := [vr x_7]) rfl ?_
  rcases null_or (x_7) with e_10 | ⟨a_9, e_10⟩
  · have k := k.1 e_10
    rw [e_10]
    refine R_nonnull rfl (fun _ => ?_) (fun _ c_8 => nomatch c_8)
    refine R_ps 1 (pc2 := 14) (L2 := [some (vr (some w)), some (vi x1), some (vr none), none]) (st2 := [vi 0]) rfl ?_
    exact R_zret rfl rfl (Or.inl rfl) ⟨_, rfl, k⟩
  · have k := k.2 a_9 e_10
    rw [e_10]
    refine R_nonnull rfl (fun c_8 => nomatch c_8) (fun _ _ => ?_)
    refine R_ps 1 (pc2 := 16) (L2 := [some (vr (some w)), some (vi x1), some (vr (some a_9)), none]) (st2 := [vr (some w)]) rfl ?_
    refine R_getR rfl t0 ?_
    refine R_ps 1 (pc2 := 20) (L2 := [some (vr (some w)), some (vi x1), some (vr (some a_9)), none]) (st2 := [vr (some a_9), vr (gr h_6 w 0)]) rfl ?_
    obtain ⟨t_14, k⟩ := k
    refine R_getI rfl t_14 ?_
    obtain ⟨a_16, e_17, k⟩ := k
    rw [e_17]
    obtain ⟨t_18, k⟩ := k
    refine R_cI (as := [vr (some a_16), vi (gi h_6 a_9 4)]) rfl rfl ⟨Nat.le_of_ble_eq_true rfl, Nat.le_of_ble_eq_true rfl, rfl, (Or.inr ⟨_, rfl, t_18⟩)⟩ rfl rfl k (fun x_20 h_19 k => ?_)
    refine R_if0 rfl (fun c_21 => ?_) (fun c_21 => ?_)
    · have k := k.1 c_21
      refine R_ps 3 (pc2 := 58) (L2 := [some (vr (some w)), some (vi x1), some (vr (some a_9)), some (vi 0)]) (st2 := [vi 0]) rfl ?_
      refine R_if0 rfl (fun c_22 => absurd (show ¬ (0 : Int32) = (0 : Int32) from c_22) (by decide)) (fun _ => ?_)
      refine R_ps 1 (pc2 := 62) (L2 := [some (vr (some w)), some (vi x1), some (vr (some a_9)), some (vi 0)]) (st2 := [vr (some w)]) rfl ?_
      refine R_getR rfl t0 ?_
      refine R_ps 1 (pc2 := 66) (L2 := [some (vr (some w)), some (vi x1), some (vr (some a_9)), some (vi 0)]) (st2 := [vr (some w), vr (gr h_19 w 3)]) rfl ?_
      refine R_getR rfl t0 ?_
      refine R_ps 2 (pc2 := 71) (L2 := [some (vr (some w)), some (vi x1), some (vr (some a_9)), some (vi 0)]) (st2 := [vr (some w), vi x1, vr (gr h_19 w 0), vr (gr h_19 w 3)]) rfl ?_
      refine R_getR rfl t0 ?_
      obtain ⟨a_27, e_28, k⟩ := k
      rw [e_28]
      obtain ⟨t_29, k⟩ := k
      refine R_getI rfl t_29 ?_
      refine R_ps 1 (pc2 := 78) (L2 := [some (vr (some w)), some (vi x1), some (vr (some a_9)), some (vi 0)]) (st2 := [vi 2, vi (gi h_19 a_27 2), vi x1, vr (some a_27), vr (gr h_19 w 3)]) rfl ?_
      obtain ⟨a_31, e_32, k⟩ := k
      rw [e_32]
      obtain ⟨t_33, k⟩ := k
      refine R_cI (as := [vr (some a_31), vr (some a_27), vi x1, vi (gi h_19 a_27 2), vi 2]) rfl rfl ⟨Nat.le_of_ble_eq_true rfl, Nat.le_of_ble_eq_true rfl, rfl, (Or.inr ⟨_, rfl, t_33⟩)⟩ rfl rfl k (fun x_35 h_34 k => ?_)
      refine R_if0 rfl (fun c_36 => ?_) (fun c_36 => ?_)
      · have k := k.1 c_36
        refine R_ps 1 (pc2 := 100) (L2 := [some (vr (some w)), some (vi x1), some (vr (some a_9)), some (vi 0)]) (st2 := [vr (some a_9)]) rfl ?_
        refine R_cI (as := [vr (some a_9)]) rfl rfl ⟨Nat.le_of_ble_eq_true rfl, Nat.le_of_ble_eq_true rfl, rfl, (Or.inr ⟨_, rfl, t_14⟩)⟩ rfl rfl k (fun x_39 h_38 k => ?_)
        refine R_ps 3 (pc2 := 106) (L2 := [some (vr (some w)), some (vi x1), some (vr (some a_9)), some (vi 0)]) (st2 := [vi (-1), vr (some a_9)]) rfl ?_
        refine R_putI rfl t_14 ?_
        show WP T N _ _ _ _ (si h_38 a_9 4 (-1)) _
        generalize e_42 : si h_38 a_9 4 (-1) = h_41
        replace k := k h_41 e_42.symm
        refine R_ps 1 (pc2 := 110) (L2 := [some (vr (some w)), some (vi x1), some (vr (some a_9)), some (vi 0)]) (st2 := [vi 0]) rfl ?_
        exact R_zret rfl rfl (Or.inl rfl) ⟨_, rfl, k⟩
      · have k := k.2 c_36
        refine R_ps 1 (pc2 := 85) (L2 := [some (vr (some w)), some (vi x1), some (vr (some a_9)), some (vi 0)]) (st2 := [vr (some w)]) rfl ?_
        refine R_getR rfl t0 ?_
        refine R_ps 1 (pc2 := 89) (L2 := [some (vr (some w)), some (vi x1), some (vr (some a_9)), some (vi 0)]) (st2 := [vr (some w), vr (gr h_34 w 3)]) rfl ?_
        refine R_getR rfl t0 ?_
        refine R_ps 1 (pc2 := 93) (L2 := [some (vr (some w)), some (vi x1), some (vr (some a_9)), some (vi 0)]) (st2 := [vr (some a_9), vr (gr h_34 w 0), vr (gr h_34 w 3)]) rfl ?_
        obtain ⟨a_47, e_48, k⟩ := k
        rw [e_48]
        obtain ⟨t_49, k⟩ := k
        refine R_cV (as := [vr (some a_47), vr (gr h_34 w 0), vr (some a_9)]) rfl rfl ⟨Nat.le_of_ble_eq_true rfl, Nat.le_of_ble_eq_true rfl, rfl, (Or.inr ⟨_, rfl, t_49⟩)⟩ rfl rfl k (fun h_50 k => ?_)
        refine R_ps 2 (pc2 := 110) (L2 := [some (vr (some w)), some (vi x1), some (vr (some a_9)), some (vi 0)]) (st2 := [vi 0]) rfl ?_
        exact R_zret rfl rfl (Or.inl rfl) ⟨_, rfl, k⟩
    · have k := k.2 c_21
      refine R_ps 1 (pc2 := 30) (L2 := [some (vr (some w)), some (vi x1), some (vr (some a_9)), none]) (st2 := [vr (some w)]) rfl ?_
      refine R_getR rfl t0 ?_
      refine R_ps 1 (pc2 := 34) (L2 := [some (vr (some w)), some (vi x1), some (vr (some a_9)), none]) (st2 := [vr (some w), vr (gr h_19 w 3)]) rfl ?_
      refine R_getR rfl t0 ?_
      refine R_ps 3 (pc2 := 40) (L2 := [some (vr (some w)), some (vi x1), some (vr (some a_9)), none]) (st2 := [vr (some a_9), vi 1, vi x1, vr (gr h_19 w 0), vr (gr h_19 w 3)]) rfl ?_
      refine R_getI rfl t_14 ?_
      refine R_ps 2 (pc2 := 45) (L2 := [some (vr (some w)), some (vi x1), some (vr (some a_9)), none]) (st2 := [vi 2, vi (1 <<< ((gi h_19 a_9 4) &&& 31)), vi x1, vr (gr h_19 w 0), vr (gr h_19 w 3)]) rfl ?_
      obtain ⟨a_57, e_58, k⟩ := k
      rw [e_58]
      obtain ⟨t_59, k⟩ := k
      refine R_cI (as := [vr (some a_57), vr (gr h_19 w 0), vi x1, vi (1 <<< ((gi h_19 a_9 4) &&& 31)), vi 2]) rfl rfl ⟨Nat.le_of_ble_eq_true rfl, Nat.le_of_ble_eq_true rfl, rfl, (Or.inr ⟨_, rfl, t_59⟩)⟩ rfl rfl k (fun x_61 h_60 k => ?_)
      refine R_if0 rfl (fun c_62 => ?_) (fun c_62 => ?_)
      · have k := k.1 c_62
        refine R_ps 3 (pc2 := 58) (L2 := [some (vr (some w)), some (vi x1), some (vr (some a_9)), some (vi 0)]) (st2 := [vi 0]) rfl ?_
        refine R_if0 rfl (fun c_63 => absurd (show ¬ (0 : Int32) = (0 : Int32) from c_63) (by decide)) (fun _ => ?_)
        refine R_ps 1 (pc2 := 62) (L2 := [some (vr (some w)), some (vi x1), some (vr (some a_9)), some (vi 0)]) (st2 := [vr (some w)]) rfl ?_
        refine R_getR rfl t0 ?_
        refine R_ps 1 (pc2 := 66) (L2 := [some (vr (some w)), some (vi x1), some (vr (some a_9)), some (vi 0)]) (st2 := [vr (some w), vr (gr h_60 w 3)]) rfl ?_
        refine R_getR rfl t0 ?_
        refine R_ps 2 (pc2 := 71) (L2 := [some (vr (some w)), some (vi x1), some (vr (some a_9)), some (vi 0)]) (st2 := [vr (some w), vi x1, vr (gr h_60 w 0), vr (gr h_60 w 3)]) rfl ?_
        refine R_getR rfl t0 ?_
        obtain ⟨a_68, e_69, k⟩ := k
        rw [e_69]
        obtain ⟨t_70, k⟩ := k
        refine R_getI rfl t_70 ?_
        refine R_ps 1 (pc2 := 78) (L2 := [some (vr (some w)), some (vi x1), some (vr (some a_9)), some (vi 0)]) (st2 := [vi 2, vi (gi h_60 a_68 2), vi x1, vr (some a_68), vr (gr h_60 w 3)]) rfl ?_
        obtain ⟨a_72, e_73, k⟩ := k
        rw [e_73]
        obtain ⟨t_74, k⟩ := k
        refine R_cI (as := [vr (some a_72), vr (some a_68), vi x1, vi (gi h_60 a_68 2), vi 2]) rfl rfl ⟨Nat.le_of_ble_eq_true rfl, Nat.le_of_ble_eq_true rfl, rfl, (Or.inr ⟨_, rfl, t_74⟩)⟩ rfl rfl k (fun x_76 h_75 k => ?_)
        refine R_if0 rfl (fun c_77 => ?_) (fun c_77 => ?_)
        · have k := k.1 c_77
          refine R_ps 1 (pc2 := 100) (L2 := [some (vr (some w)), some (vi x1), some (vr (some a_9)), some (vi 0)]) (st2 := [vr (some a_9)]) rfl ?_
          refine R_cI (as := [vr (some a_9)]) rfl rfl ⟨Nat.le_of_ble_eq_true rfl, Nat.le_of_ble_eq_true rfl, rfl, (Or.inr ⟨_, rfl, t_14⟩)⟩ rfl rfl k (fun x_80 h_79 k => ?_)
          refine R_ps 3 (pc2 := 106) (L2 := [some (vr (some w)), some (vi x1), some (vr (some a_9)), some (vi 0)]) (st2 := [vi (-1), vr (some a_9)]) rfl ?_
          refine R_putI rfl t_14 ?_
          show WP T N _ _ _ _ (si h_79 a_9 4 (-1)) _
          generalize e_83 : si h_79 a_9 4 (-1) = h_82
          replace k := k h_82 e_83.symm
          refine R_ps 1 (pc2 := 110) (L2 := [some (vr (some w)), some (vi x1), some (vr (some a_9)), some (vi 0)]) (st2 := [vi 0]) rfl ?_
          exact R_zret rfl rfl (Or.inl rfl) ⟨_, rfl, k⟩
        · have k := k.2 c_77
          refine R_ps 1 (pc2 := 85) (L2 := [some (vr (some w)), some (vi x1), some (vr (some a_9)), some (vi 0)]) (st2 := [vr (some w)]) rfl ?_
          refine R_getR rfl t0 ?_
          refine R_ps 1 (pc2 := 89) (L2 := [some (vr (some w)), some (vi x1), some (vr (some a_9)), some (vi 0)]) (st2 := [vr (some w), vr (gr h_75 w 3)]) rfl ?_
          refine R_getR rfl t0 ?_
          refine R_ps 1 (pc2 := 93) (L2 := [some (vr (some w)), some (vi x1), some (vr (some a_9)), some (vi 0)]) (st2 := [vr (some a_9), vr (gr h_75 w 0), vr (gr h_75 w 3)]) rfl ?_
          obtain ⟨a_88, e_89, k⟩ := k
          rw [e_89]
          obtain ⟨t_90, k⟩ := k
          refine R_cV (as := [vr (some a_88), vr (gr h_75 w 0), vr (some a_9)]) rfl rfl ⟨Nat.le_of_ble_eq_true rfl, Nat.le_of_ble_eq_true rfl, rfl, (Or.inr ⟨_, rfl, t_90⟩)⟩ rfl rfl k (fun h_91 k => ?_)
          refine R_ps 2 (pc2 := 110) (L2 := [some (vr (some w)), some (vi x1), some (vr (some a_9)), some (vi 0)]) (st2 := [vi 0]) rfl ?_
          exact R_zret rfl rfl (Or.inl rfl) ⟨_, rfl, k⟩
      · have k := k.2 c_62
        refine R_ps 4 (pc2 := 58) (L2 := [some (vr (some w)), some (vi x1), some (vr (some a_9)), some (vi 1)]) (st2 := [vi 1]) rfl ?_
        refine R_if0 rfl (fun _ => ?_) (fun c_94 => absurd (show ¬ (1 : Int32) = (0 : Int32) by decide) c_94)
        refine R_ps 1 (pc2 := 85) (L2 := [some (vr (some w)), some (vi x1), some (vr (some a_9)), some (vi 1)]) (st2 := [vr (some w)]) rfl ?_
        refine R_getR rfl t0 ?_
        refine R_ps 1 (pc2 := 89) (L2 := [some (vr (some w)), some (vi x1), some (vr (some a_9)), some (vi 1)]) (st2 := [vr (some w), vr (gr h_60 w 3)]) rfl ?_
        refine R_getR rfl t0 ?_
        refine R_ps 1 (pc2 := 93) (L2 := [some (vr (some w)), some (vi x1), some (vr (some a_9)), some (vi 1)]) (st2 := [vr (some a_9), vr (gr h_60 w 0), vr (gr h_60 w 3)]) rfl ?_
        obtain ⟨a_98, e_99, k⟩ := k
        rw [e_99]
        obtain ⟨t_100, k⟩ := k
        refine R_cV (as := [vr (some a_98), vr (gr h_60 w 0), vr (some a_9)]) rfl rfl ⟨Nat.le_of_ble_eq_true rfl, Nat.le_of_ble_eq_true rfl, rfl, (Or.inr ⟨_, rfl, t_100⟩)⟩ rfl rfl k (fun h_101 k => ?_)
        refine R_ps 2 (pc2 := 110) (L2 := [some (vr (some w)), some (vi x1), some (vr (some a_9)), some (vi 1)]) (st2 := [vi 1]) rfl ?_
        exact R_zret rfl rfl (Or.inr rfl) ⟨_, rfl, k⟩
/-- DroneCorridors.doEntries -/
theorem m152 {T N : Nat → Nat} {h : PH} {w : Nat} {K : Int32 → PH → Prop} (k : (WI T N 152 4 [some (vr (some w)), some (vi 0), some (vi 0)] [] h K)) : CI T N 152 [vr (some w)] h K := by
  show WP T N 152 0 [some (vr (some w)), none, none] [] h _
  refine R_ps 4 (pc2 := 4) (L2 := [some (vr (some w)), some (vi 0), some (vi 0)]) (st2 := []) rfl ?_
  exact k
theorem m152_4 {T N : Nat → Nat} {h : PH} {w : Nat} {x1 : Int32} {x2 : Int32} {K : Int32 → PH → Prop} (t0 : T w = 11) (k : (∃ a_3, (gr h w 5) = some a_3 ∧ T a_3 = 6 ∧ ((x2 < (gi h a_3 0) → (CI T N 153 [vr (some w), vi x2] h (fun x_10 h_9 => (((x_10 = 0 → (K (-1) h_9)) ∧ (¬ (x_10 = 0) → (∃ a_14, (gr h_9 w 5) = some a_14 ∧ T a_14 = 6 ∧ CS T N 51 [vr (some a_14), vi x2] h_9 (fun x_18 h_17 => (x_18 < 5 ∧ WI T N 152 4 [some (vr (some w)), some (vi (x1 + 1)), some (vi ((x2 + (Int32.ofNat (txt x_18).length)) + 1))] [] h_17 K))))))))) ∧ (¬ (x2 < (gi h a_3 0)) → (K x1 h))))) : WI T N 152 4 [some (vr (some w)), some (vi x1), some (vi x2)] [] h K := by
  show WP T N 152 4 [some (vr (some w)), some (vi x1), some (vi x2)] [] h _
  refine R_ps 2 (pc2 := 6) (L2 := [some (vr (some w)), some (vi x1), some (vi x2)]) (st2 := [vr (some w), vi x2]) rfl ?_
  refine R_getR rfl t0 ?_
  obtain ⟨a_3, e_4, k⟩ := k
  rw [e_4]
  obtain ⟨t_5, k⟩ := k
  refine R_getI rfl t_5 ?_
  refine R_if rfl (fun c_6 => ?_) (fun c_6 => ?_)
  · have k := k.2 (i32_nlt c_6)
    refine R_ps 1 (pc2 := 49) (L2 := [some (vr (some w)), some (vi x1), some (vi x2)]) (st2 := [vi x1]) rfl ?_
    exact R_iret rfl rfl ⟨_, rfl, k⟩
  · have k := k.1 (i32_lt c_6)
    refine R_ps 2 (pc2 := 17) (L2 := [some (vr (some w)), some (vi x1), some (vi x2)]) (st2 := [vi x2, vr (some w)]) rfl ?_
    refine R_cI (as := [vr (some w), vi x2]) rfl rfl ⟨Nat.le_of_ble_eq_true rfl, Nat.le_of_ble_eq_true rfl, rfl, (Or.inr ⟨_, rfl, t0⟩)⟩ rfl rfl k (fun x_10 h_9 k => ?_)
    refine R_if0 rfl (fun c_11 => ?_) (fun c_11 => ?_)
    · have k := k.2 c_11
      refine R_ps 3 (pc2 := 30) (L2 := [some (vr (some w)), some (vi (x1 + 1)), some (vi x2)]) (st2 := [vr (some w), vi x2]) rfl ?_
      refine R_getR rfl t0 ?_
      refine R_ps 1 (pc2 := 34) (L2 := [some (vr (some w)), some (vi (x1 + 1)), some (vi x2)]) (st2 := [vi x2, vr (gr h_9 w 5), vi x2]) rfl ?_
      obtain ⟨a_14, e_15, k⟩ := k
      rw [e_15]
      obtain ⟨t_16, k⟩ := k
      refine R_cS (as := [vr (some a_14), vi x2]) rfl rfl ⟨Nat.le_of_ble_eq_true rfl, Nat.le_of_ble_eq_true rfl, rfl, (Or.inr ⟨_, rfl, t_16⟩)⟩ rfl rfl k (fun x_18 h_17 k => ?_)
      obtain ⟨t_20, k⟩ := k
      refine R_jdk (st2 := [vi (Int32.ofNat (txt x_18).length), vi x2]) rfl rfl rfl rfl rfl rfl (pif_pos t_20) rfl ?_
      refine R_ps 4 (pc2 := 4) (L2 := [some (vr (some w)), some (vi (x1 + 1)), some (vi ((x2 + (Int32.ofNat (txt x_18).length)) + 1))]) (st2 := []) rfl ?_
      exact k
    · have k := k.1 (Classical.not_not.mp c_11)
      refine R_ps 1 (pc2 := 24) (L2 := [some (vr (some w)), some (vi x1), some (vi x2)]) (st2 := [vi (-1)]) rfl ?_
      exact R_iret rfl rfl ⟨_, rfl, k⟩
/-- DroneCorridors.doEntry -/
theorem m153 {T N : Nat → Nat} {h : PH} {w : Nat} {x1 : Int32} {K : Int32 → PH → Prop} (t0 : T w = 11) (k : (∃ a_3, (gr h w 5) = some a_3 ∧ T a_3 = 6 ∧ CI T N 50 [vr (some a_3), vi (x1 + 1)] h (fun x_7 h_6 => (∃ a_10, (gr h_6 w 5) = some a_10 ∧ T a_10 = 6 ∧ CI T N 49 [vr (some a_10), vi x1] h_6 (fun x_14 h_13 => (((x_14 = 99 → (∃ a_18, (gr h_13 w 5) = some a_18 ∧ T a_18 = 6 ∧ CI T N 50 [vr (some a_18), vi (x1 + 3)] h_13 (fun x_22 h_21 => (∃ a_25, (gr h_21 w 5) = some a_25 ∧ T a_25 = 6 ∧ CI T N 50 [vr (some a_25), vi (x1 + 5)] h_21 (fun x_29 h_28 => (CI T N 154 [vr (some w), vi x_7, vi x_22, vi x_29] h_28 (fun x_32 h_31 => ((x_32 = 0 ∨ x_32 = 1) ∧ K x_32 h_31)))))))) ∧ (¬ (x_14 = 99) → ((x_14 = 100 → (∃ a_37, (gr h_13 w 0) = some a_37 ∧ T a_37 = 10 ∧ CI T N 88 [vr (some a_37), vi x_7] h_13 (fun x_41 h_40 => (((x_41 = 0 → (K 0 h_40)) ∧ (¬ (x_41 = 0) → (∃ a_46, (gr h_40 w 0) = some a_46 ∧ T a_46 = 10 ∧ CI T N 96 [vr (some a_46), vi x_7, vi 100] h_40 (fun x_50 h_49 => (((x_50 = (-1) → (K 0 h_49)) ∧ (¬ (x_50 = (-1)) → (K 1 h_49)))))))))))) ∧ (¬ (x_14 = 100) → ((x_14 = 110 → (∃ a_56, (gr h_13 w 0) = some a_56 ∧ T a_56 = 10 ∧ CI T N 92 [vr (some a_56), vi 0] h_13 (fun x_60 h_59 => (((x_60 = (-1) → (K 0 h_59)) ∧ (¬ (x_60 = (-1)) → (K 1 h_59))))))) ∧ (¬ (x_14 = 110) → ((x_14 = 112 → (∃ a_66, (gr h_13 w 0) = some a_66 ∧ T a_66 = 10 ∧ CI T N 92 [vr (some a_66), vi 1] h_13 (fun x_70 h_69 => (((x_70 = (-1) → (K 0 h_69)) ∧ (¬ (x_70 = (-1)) → (K 1 h_69))))))) ∧ (¬ (x_14 = 112) → ((x_14 = 116 → (∃ a_76, (gr h_13 w 0) = some a_76 ∧ T a_76 = 10 ∧ ((10000 < ((gi h_13 a_76 0) + x_7) → (K 0 h_13)) ∧ (¬ (10000 < ((gi h_13 a_76 0) + x_7)) → (∃ a_82, (gr h_13 w 0) = some a_82 ∧ T a_82 = 10 ∧ CI T N 103 [vr (some a_82), vi x_7] h_13 (fun x_86 h_85 => (K 1 h_85))))))) ∧ (¬ (x_14 = 116) → (K 0 h_13))))))))))))))))) : CI T N 153 [vr (some w), vi x1] h K := by
  show WP T N 153 0 [some (vr (some w)), some (vi x1), none] [] h _
  refine R_ps 1 (pc2 := 1) (L2 := [some (vr (some w)), some (vi x1), none]) (st2 := [vr (some w)]) rfl ?_
  refine R_getR rfl t0 ?_
  refine R_ps 3 (pc2 := 7) (L2 := [some (vr (some w)), some (vi x1), none]) (st2 := [vi (x1 + 1), vr (gr h w 5)]) rfl ?_
  obtain ⟨a_3, e_4, k⟩ := k
  rw [e_4]
  obtain ⟨t_5, k⟩ := k
  refine R_cI (as := [vr (some a_3), vi (x1 + 1)]) rfl rfl ⟨Nat.le_of_ble_eq_true rfl, Nat.le_of_ble_eq_true rfl, rfl, (Or.inr ⟨_, rfl, t_5⟩)⟩ rfl rfl k (fun x_7 h_6 k => ?_)
  refine R_ps 2 (pc2 := 12) (L2 := [some (vr (some w)), some (vi x1), some (vi x_7)]) (st2 := [vr (some w)]) rfl ?_
  refine R_getR rfl t0 ?_
  refine R_ps 1 (pc2 := 16) (L2 := [some (vr (some w)), some (vi x1), some (vi x_7)]) (st2 := [vi x1, vr (gr h_6 w 5)]) rfl ?_
  obtain ⟨a_10, e_11, k⟩ := k
  rw [e_11]
  obtain ⟨t_12, k⟩ := k
  refine R_cI (as := [vr (some a_10), vi x1]) rfl rfl ⟨Nat.le_of_ble_eq_true rfl, Nat.le_of_ble_eq_true rfl, rfl, (Or.inr ⟨_, rfl, t_12⟩)⟩ rfl rfl k (fun x_14 h_13 k => ?_)
  refine R_lsw rfl rfl ?_
  refine ⟨fun c_15 => ?_, fun c_15 => ?_⟩
  · have k := k.1 c_15
    show WP T N _ 104 _ _ _ _
    refine R_ps 3 (pc2 := 107) (L2 := [some (vr (some w)), some (vi x1), some (vi x_7)]) (st2 := [vr (some w), vi x_7, vr (some w)]) rfl ?_
    refine R_getR rfl t0 ?_
    refine R_ps 3 (pc2 := 113) (L2 := [some (vr (some w)), some (vi x1), some (vi x_7)]) (st2 := [vi (x1 + 3), vr (gr h_13 w 5), vi x_7, vr (some w)]) rfl ?_
    obtain ⟨a_18, e_19, k⟩ := k
    rw [e_19]
    obtain ⟨t_20, k⟩ := k
    refine R_cI (as := [vr (some a_18), vi (x1 + 3)]) rfl rfl ⟨Nat.le_of_ble_eq_true rfl, Nat.le_of_ble_eq_true rfl, rfl, (Or.inr ⟨_, rfl, t_20⟩)⟩ rfl rfl k (fun x_22 h_21 k => ?_)
    refine R_ps 1 (pc2 := 117) (L2 := [some (vr (some w)), some (vi x1), some (vi x_7)]) (st2 := [vr (some w), vi x_22, vi x_7, vr (some w)]) rfl ?_
    refine R_getR rfl t0 ?_
    refine R_ps 3 (pc2 := 123) (L2 := [some (vr (some w)), some (vi x1), some (vi x_7)]) (st2 := [vi (x1 + 5), vr (gr h_21 w 5), vi x_22, vi x_7, vr (some w)]) rfl ?_
    obtain ⟨a_25, e_26, k⟩ := k
    rw [e_26]
    obtain ⟨t_27, k⟩ := k
    refine R_cI (as := [vr (some a_25), vi (x1 + 5)]) rfl rfl ⟨Nat.le_of_ble_eq_true rfl, Nat.le_of_ble_eq_true rfl, rfl, (Or.inr ⟨_, rfl, t_27⟩)⟩ rfl rfl k (fun x_29 h_28 k => ?_)
    refine R_cI (as := [vr (some w), vi x_7, vi x_22, vi x_29]) rfl rfl ⟨Nat.le_of_ble_eq_true rfl, Nat.le_of_ble_eq_true rfl, rfl, (Or.inr ⟨_, rfl, t0⟩)⟩ rfl rfl k (fun x_32 h_31 k => ?_)
    obtain ⟨t_34, k⟩ := k
    exact R_zret rfl rfl t_34 ⟨_, rfl, k⟩
  replace k := k.2 c_15
  refine ⟨fun c_15 => ?_, fun c_15 => ?_⟩
  · have k := k.1 c_15
    show WP T N _ 130 _ _ _ _
    refine R_ps 1 (pc2 := 131) (L2 := [some (vr (some w)), some (vi x1), some (vi x_7)]) (st2 := [vr (some w)]) rfl ?_
    refine R_getR rfl t0 ?_
    refine R_ps 1 (pc2 := 135) (L2 := [some (vr (some w)), some (vi x1), some (vi x_7)]) (st2 := [vi x_7, vr (gr h_13 w 0)]) rfl ?_
    obtain ⟨a_37, e_38, k⟩ := k
    rw [e_38]
    obtain ⟨t_39, k⟩ := k
    refine R_cI (as := [vr (some a_37), vi x_7]) rfl rfl ⟨Nat.le_of_ble_eq_true rfl, Nat.le_of_ble_eq_true rfl, rfl, (Or.inr ⟨_, rfl, t_39⟩)⟩ rfl rfl k (fun x_41 h_40 k => ?_)
    refine R_if0 rfl (fun c_42 => ?_) (fun c_42 => ?_)
    · have k := k.1 c_42
      refine R_ps 1 (pc2 := 160) (L2 := [some (vr (some w)), some (vi x1), some (vi x_7)]) (st2 := [vi 0]) rfl ?_
      exact R_zret rfl rfl (Or.inl rfl) ⟨_, rfl, k⟩
    · have k := k.2 c_42
      refine R_ps 1 (pc2 := 142) (L2 := [some (vr (some w)), some (vi x1), some (vi x_7)]) (st2 := [vr (some w)]) rfl ?_
      refine R_getR rfl t0 ?_
      refine R_ps 2 (pc2 := 148) (L2 := [some (vr (some w)), some (vi x1), some (vi x_7)]) (st2 := [vi 100, vi x_7, vr (gr h_40 w 0)]) rfl ?_
      obtain ⟨a_46, e_47, k⟩ := k
      rw [e_47]
      obtain ⟨t_48, k⟩ := k
      refine R_cI (as := [vr (some a_46), vi x_7, vi 100]) rfl rfl ⟨Nat.le_of_ble_eq_true rfl, Nat.le_of_ble_eq_true rfl, rfl, (Or.inr ⟨_, rfl, t_48⟩)⟩ rfl rfl k (fun x_50 h_49 k => ?_)
      refine R_ps 1 (pc2 := 152) (L2 := [some (vr (some w)), some (vi x1), some (vi x_7)]) (st2 := [vi (-1), vi x_50]) rfl ?_
      refine R_if rfl (fun c_51 => ?_) (fun c_51 => ?_)
      · have k := k.1 c_51
        refine R_ps 1 (pc2 := 160) (L2 := [some (vr (some w)), some (vi x1), some (vi x_7)]) (st2 := [vi 0]) rfl ?_
        exact R_zret rfl rfl (Or.inl rfl) ⟨_, rfl, k⟩
      · have k := k.2 c_51
        refine R_ps 2 (pc2 := 160) (L2 := [some (vr (some w)), some (vi x1), some (vi x_7)]) (st2 := [vi 1]) rfl ?_
        exact R_zret rfl rfl (Or.inr rfl) ⟨_, rfl, k⟩
  replace k := k.2 c_15
  refine ⟨fun c_15 => ?_, fun c_15 => ?_⟩
  · have k := k.1 c_15
    show WP T N _ 68 _ _ _ _
    refine R_ps 1 (pc2 := 69) (L2 := [some (vr (some w)), some (vi x1), some (vi x_7)]) (st2 := [vr (some w)]) rfl ?_
    refine R_getR rfl t0 ?_
    refine R_ps 1 (pc2 := 73) (L2 := [some (vr (some w)), some (vi x1), some (vi x_7)]) (st2 := [vi 0, vr (gr h_13 w 0)]) rfl ?_
    obtain ⟨a_56, e_57, k⟩ := k
    rw [e_57]
    obtain ⟨t_58, k⟩ := k
    refine R_cI (as := [vr (some a_56), vi 0]) rfl rfl ⟨Nat.le_of_ble_eq_true rfl, Nat.le_of_ble_eq_true rfl, rfl, (Or.inr ⟨_, rfl, t_58⟩)⟩ rfl rfl k (fun x_60 h_59 k => ?_)
    refine R_ps 1 (pc2 := 77) (L2 := [some (vr (some w)), some (vi x1), some (vi x_7)]) (st2 := [vi (-1), vi x_60]) rfl ?_
    refine R_if rfl (fun c_61 => ?_) (fun c_61 => ?_)
    · have k := k.1 c_61
      refine R_ps 1 (pc2 := 85) (L2 := [some (vr (some w)), some (vi x1), some (vi x_7)]) (st2 := [vi 0]) rfl ?_
      exact R_zret rfl rfl (Or.inl rfl) ⟨_, rfl, k⟩
    · have k := k.2 c_61
      refine R_ps 2 (pc2 := 85) (L2 := [some (vr (some w)), some (vi x1), some (vi x_7)]) (st2 := [vi 1]) rfl ?_
      exact R_zret rfl rfl (Or.inr rfl) ⟨_, rfl, k⟩
  replace k := k.2 c_15
  refine ⟨fun c_15 => ?_, fun c_15 => ?_⟩
  · have k := k.1 c_15
    show WP T N _ 86 _ _ _ _
    refine R_ps 1 (pc2 := 87) (L2 := [some (vr (some w)), some (vi x1), some (vi x_7)]) (st2 := [vr (some w)]) rfl ?_
    refine R_getR rfl t0 ?_
    refine R_ps 1 (pc2 := 91) (L2 := [some (vr (some w)), some (vi x1), some (vi x_7)]) (st2 := [vi 1, vr (gr h_13 w 0)]) rfl ?_
    obtain ⟨a_66, e_67, k⟩ := k
    rw [e_67]
    obtain ⟨t_68, k⟩ := k
    refine R_cI (as := [vr (some a_66), vi 1]) rfl rfl ⟨Nat.le_of_ble_eq_true rfl, Nat.le_of_ble_eq_true rfl, rfl, (Or.inr ⟨_, rfl, t_68⟩)⟩ rfl rfl k (fun x_70 h_69 k => ?_)
    refine R_ps 1 (pc2 := 95) (L2 := [some (vr (some w)), some (vi x1), some (vi x_7)]) (st2 := [vi (-1), vi x_70]) rfl ?_
    refine R_if rfl (fun c_71 => ?_) (fun c_71 => ?_)
    · have k := k.1 c_71
      refine R_ps 1 (pc2 := 103) (L2 := [some (vr (some w)), some (vi x1), some (vi x_7)]) (st2 := [vi 0]) rfl ?_
      exact R_zret rfl rfl (Or.inl rfl) ⟨_, rfl, k⟩
    · have k := k.2 c_71
      refine R_ps 2 (pc2 := 103) (L2 := [some (vr (some w)), some (vi x1), some (vi x_7)]) (st2 := [vi 1]) rfl ?_
      exact R_zret rfl rfl (Or.inr rfl) ⟨_, rfl, k⟩
  replace k := k.2 c_15
  refine ⟨fun c_15 => ?_, fun c_15 => ?_⟩
  · have k := k.1 c_15
    show WP T N _ 161 _ _ _ _
    refine R_ps 1 (pc2 := 162) (L2 := [some (vr (some w)), some (vi x1), some (vi x_7)]) (st2 := [vr (some w)]) rfl ?_
    refine R_getR rfl t0 ?_
    obtain ⟨a_76, e_77, k⟩ := k
    rw [e_77]
    obtain ⟨t_78, k⟩ := k
    refine R_getI rfl t_78 ?_
    refine R_ps 3 (pc2 := 173) (L2 := [some (vr (some w)), some (vi x1), some (vi x_7)]) (st2 := [vi 10000, vi ((gi h_13 a_76 0) + x_7)]) rfl ?_
    refine R_if rfl (fun c_79 => ?_) (fun c_79 => ?_)
    · have k := k.2 (i32_nlt c_79)
      refine R_ps 1 (pc2 := 179) (L2 := [some (vr (some w)), some (vi x1), some (vi x_7)]) (st2 := [vr (some w)]) rfl ?_
      refine R_getR rfl t0 ?_
      refine R_ps 1 (pc2 := 183) (L2 := [some (vr (some w)), some (vi x1), some (vi x_7)]) (st2 := [vi x_7, vr (gr h_13 w 0)]) rfl ?_
      obtain ⟨a_82, e_83, k⟩ := k
      rw [e_83]
      obtain ⟨t_84, k⟩ := k
      refine R_cI (as := [vr (some a_82), vi x_7]) rfl rfl ⟨Nat.le_of_ble_eq_true rfl, Nat.le_of_ble_eq_true rfl, rfl, (Or.inr ⟨_, rfl, t_84⟩)⟩ rfl rfl k (fun x_86 h_85 k => ?_)
      refine R_ps 2 (pc2 := 188) (L2 := [some (vr (some w)), some (vi x1), some (vi x_7)]) (st2 := [vi 1]) rfl ?_
      exact R_zret rfl rfl (Or.inr rfl) ⟨_, rfl, k⟩
    · have k := k.1 (i32_lt c_79)
      refine R_ps 1 (pc2 := 177) (L2 := [some (vr (some w)), some (vi x1), some (vi x_7)]) (st2 := [vi 0]) rfl ?_
      exact R_zret rfl rfl (Or.inl rfl) ⟨_, rfl, k⟩
  replace k := k.2 c_15
  show WP T N _ 189 _ _ _ _
  refine R_ps 1 (pc2 := 190) (L2 := [some (vr (some w)), some (vi x1), some (vi x_7)]) (st2 := [vi 0]) rfl ?_
  exact R_zret rfl rfl (Or.inl rfl) ⟨_, rfl, k⟩
/-- DroneCorridors.doCorridorEntry -/
theorem m154 {T N : Nat → Nat} {h : PH} {w : Nat} {x1 : Int32} {x2 : Int32} {x3 : Int32} {K : Int32 → PH → Prop} (t0 : T w = 11) (k : (∃ a_3, (gr h w 0) = some a_3 ∧ T a_3 = 10 ∧ CI T N 88 [vr (some a_3), vi x1] h (fun x_7 h_6 => (((x_7 = 0 → (K 0 h_6)) ∧ (¬ (x_7 = 0) → (∃ a_12, (gr h_6 w 0) = some a_12 ∧ T a_12 = 10 ∧ CI T N 88 [vr (some a_12), vi x2] h_6 (fun x_16 h_15 => (((x_16 = 0 → (K 0 h_15)) ∧ (¬ (x_16 = 0) → (((x1 = x2 → (K 0 h_15)) ∧ (¬ (x1 = x2) → (∃ a_23, (gr h_15 w 0) = some a_23 ∧ T a_23 = 10 ∧ CI T N 93 [vr (some a_23), vi x1, vi x2, vi x3, vi 0] h_15 (fun x_27 h_26 => (((x_27 = (-1) → (K 0 h_26)) ∧ (¬ (x_27 = (-1)) → (K 1 h_26)))))))))))))))))))) : CI T N 154 [vr (some w), vi x1, vi x2, vi x3] h K := by
  show WP T N 154 0 [some (vr (some w)), some (vi x1), some (vi x2), some (vi x3)] [] h _
  refine R_ps 1 (pc2 := 1) (L2 := [some (vr (some w)), some (vi x1), some (vi x2), some (vi x3)]) (st2 := [vr (some w)]) rfl ?_
  refine R_getR rfl t0 ?_
  refine R_ps 1 (pc2 := 5) (L2 := [some (vr (some w)), some (vi x1), some (vi x2), some (vi x3)]) (st2 := [vi x1, vr (gr h w 0)]) rfl ?_
  obtain ⟨a_3, e_4, k⟩ := k
  rw [e_4]
  obtain ⟨t_5, k⟩ := k
  refine R_cI (as := [vr (some a_3), vi x1]) rfl rfl ⟨Nat.le_of_ble_eq_true rfl, Nat.le_of_ble_eq_true rfl, rfl, (Or.inr ⟨_, rfl, t_5⟩)⟩ rfl rfl k (fun x_7 h_6 k => ?_)
  refine R_if0 rfl (fun c_8 => ?_) (fun c_8 => ?_)
  · have k := k.1 c_8
    refine R_ps 1 (pc2 := 47) (L2 := [some (vr (some w)), some (vi x1), some (vi x2), some (vi x3)]) (st2 := [vi 0]) rfl ?_
    exact R_zret rfl rfl (Or.inl rfl) ⟨_, rfl, k⟩
  · have k := k.2 c_8
    refine R_ps 1 (pc2 := 12) (L2 := [some (vr (some w)), some (vi x1), some (vi x2), some (vi x3)]) (st2 := [vr (some w)]) rfl ?_
    refine R_getR rfl t0 ?_
    refine R_ps 1 (pc2 := 16) (L2 := [some (vr (some w)), some (vi x1), some (vi x2), some (vi x3)]) (st2 := [vi x2, vr (gr h_6 w 0)]) rfl ?_
    obtain ⟨a_12, e_13, k⟩ := k
    rw [e_13]
    obtain ⟨t_14, k⟩ := k
    refine R_cI (as := [vr (some a_12), vi x2]) rfl rfl ⟨Nat.le_of_ble_eq_true rfl, Nat.le_of_ble_eq_true rfl, rfl, (Or.inr ⟨_, rfl, t_14⟩)⟩ rfl rfl k (fun x_16 h_15 k => ?_)
    refine R_if0 rfl (fun c_17 => ?_) (fun c_17 => ?_)
    · have k := k.1 c_17
      refine R_ps 1 (pc2 := 47) (L2 := [some (vr (some w)), some (vi x1), some (vi x2), some (vi x3)]) (st2 := [vi 0]) rfl ?_
      exact R_zret rfl rfl (Or.inl rfl) ⟨_, rfl, k⟩
    · have k := k.2 c_17
      refine R_ps 2 (pc2 := 24) (L2 := [some (vr (some w)), some (vi x1), some (vi x2), some (vi x3)]) (st2 := [vi x2, vi x1]) rfl ?_
      refine R_if rfl (fun c_19 => ?_) (fun c_19 => ?_)
      · have k := k.1 c_19
        refine R_ps 1 (pc2 := 47) (L2 := [some (vr (some w)), some (vi x1), some (vi x2), some (vi x3)]) (st2 := [vi 0]) rfl ?_
        exact R_zret rfl rfl (Or.inl rfl) ⟨_, rfl, k⟩
      · have k := k.2 c_19
        refine R_ps 1 (pc2 := 28) (L2 := [some (vr (some w)), some (vi x1), some (vi x2), some (vi x3)]) (st2 := [vr (some w)]) rfl ?_
        refine R_getR rfl t0 ?_
        refine R_ps 4 (pc2 := 35) (L2 := [some (vr (some w)), some (vi x1), some (vi x2), some (vi x3)]) (st2 := [vi 0, vi x3, vi x2, vi x1, vr (gr h_15 w 0)]) rfl ?_
        obtain ⟨a_23, e_24, k⟩ := k
        rw [e_24]
        obtain ⟨t_25, k⟩ := k
        refine R_cI (as := [vr (some a_23), vi x1, vi x2, vi x3, vi 0]) rfl rfl ⟨Nat.le_of_ble_eq_true rfl, Nat.le_of_ble_eq_true rfl, rfl, (Or.inr ⟨_, rfl, t_25⟩)⟩ rfl rfl k (fun x_27 h_26 k => ?_)
        refine R_ps 1 (pc2 := 39) (L2 := [some (vr (some w)), some (vi x1), some (vi x2), some (vi x3)]) (st2 := [vi (-1), vi x_27]) rfl ?_
        refine R_if rfl (fun c_28 => ?_) (fun c_28 => ?_)
        · have k := k.1 c_28
          refine R_ps 1 (pc2 := 47) (L2 := [some (vr (some w)), some (vi x1), some (vi x2), some (vi x3)]) (st2 := [vi 0]) rfl ?_
          exact R_zret rfl rfl (Or.inl rfl) ⟨_, rfl, k⟩
        · have k := k.2 c_28
          refine R_ps 2 (pc2 := 47) (L2 := [some (vr (some w)), some (vi x1), some (vi x2), some (vi x3)]) (st2 := [vi 1]) rfl ?_
          exact R_zret rfl rfl (Or.inr rfl) ⟨_, rfl, k⟩
