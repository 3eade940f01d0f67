/-! WHAT IS TO BE SHOWN OF EACH METHOD, by program (gen_z.py): 226 to 255 -/
/-- DroneCorridorsModel.reason -/
theorem z226 {T N : Nat → Nat} {h : PH} {w : Nat} {K : Int → PH → Prop} (t0 : T w = 12) (k : ((((ai h w 7) = 0 → (∀ h_9, h_9 = wi h w 0 1 → K (ai h_9 w 7) h_9)) ∧ (¬ ((ai h w 7) = 0) → (∀ h_4, h_4 = wi h w 0 0 → K (ai h_4 w 7) h_4))))) : ZI T N 226 [vr (some w)] h K := by
  show WP T N 226 0 [some (vr (some w))] [] h _
  refine R_ps 2 (pc2 := 2) (L2 := [some (vr (some w))]) (st2 := [vr (some w), vr (some w)]) rfl ?_
  refine R_zgetI (z := 7) rfl t0 rfl ?_
  refine R_zif0 (x := ai h w 7) rfl (ai_in _ _ _) (fun c_2 => ?_) (fun c_2 => ?_)
  · have k := k.2 c_2
    refine R_ps 1 (pc2 := 13) (L2 := [some (vr (some w))]) (st2 := [vi (J 0), vr (some w)]) rfl ?_
    refine R_zputI (x := 0) (z := 0) rfl t0 rfl ?_
    show WP T N _ _ _ _ (wi h w 0 0) _
    generalize e_5 : wi h w 0 0 = h_4
    replace k := k h_4 e_5.symm
    refine R_ps 1 (pc2 := 17) (L2 := [some (vr (some w))]) (st2 := [vr (some w)]) rfl ?_
    refine R_zgetI (z := 7) rfl t0 rfl ?_
    exact R_iret rfl rfl (R_zr (x := ai h_4 w 7) (K := K) (ai_in _ _ _) k)
  · have k := k.1 (Classical.not_not.mp c_2)
    refine R_ps 2 (pc2 := 13) (L2 := [some (vr (some w))]) (st2 := [vi (J 1), vr (some w)]) rfl ?_
    refine R_zputI (x := 1) (z := 0) rfl t0 rfl ?_
    show WP T N _ _ _ _ (wi h w 0 1) _
    generalize e_10 : wi h w 0 1 = h_9
    replace k := k h_9 e_10.symm
    refine R_ps 1 (pc2 := 17) (L2 := [some (vr (some w))]) (st2 := [vr (some w)]) rfl ?_
    refine R_zgetI (z := 7) rfl t0 rfl ?_
    exact R_iret rfl rfl (R_zr (x := ai h_9 w 7) (K := K) (ai_in _ _ _) k)
/-- DroneCorridorsModel.starts -/
theorem z227 {T N : Nat → Nat} {h : PH} {w : Nat} {x1 : Int} {K : PH → Prop} (t0 : T w = 12) (r1 : In x1) (k : (ZI T N 186 [vr (some w), vi (J x1), vi (J 0)] h (fun x_3 h_2 => (ZI T N 189 [vi (J x_3)] h_2 (fun x_7 h_6 => (ZI T N 168 [vr (some w), vi (J x1), vi (J 2)] h_6 (fun x_11 h_10 => (ZI T N 159 [vi (J (x_7 - x_11))] h_10 (fun x_15 h_14 => (ZI T N 187 [vi (J x_3)] h_14 (fun x_19 h_18 => (ZI T N 188 [vi (J x_3)] h_18 (fun x_23 h_22 => (ZI T N 167 [vr (some w), vi (J x_19), vi (J x_23)] h_22 (fun x_27 h_26 => (ZI T N 168 [vr (some w), vi (J x1), vi (J 1)] h_26 (fun x_31 h_30 => (In (x_15 + x_27) ∧ ((x_31 < (x_15 + x_27) → (CV T N 169 [vr (some w), vi (J x1), vi (J 5), vi (J 0)] h_30 (fun h_90 => (CV T N 169 [vr (some w), vi (J x1), vi (J 4), vi (J (-1))] h_90 (fun h_93 => (K h_93)))))) ∧ (¬ (x_31 < (x_15 + x_27)) → (ZI T N 168 [vr (some w), vi (J x1), vi (J 1)] h_30 (fun x_37 h_36 => (CV T N 169 [vr (some w), vi (J x1), vi (J 1), vi (J ((x_37 - x_15) - x_27))] h_36 (fun h_40 => (ZI T N 168 [vr (some w), vi (J x1), vi (J 7)] h_40 (fun x_44 h_43 => (CV T N 169 [vr (some w), vi (J x1), vi (J 7), vi (J (x_44 + x_27))] h_43 (fun h_47 => (ZI T N 168 [vr (some w), vi (J x1), vi (J 8)] h_47 (fun x_51 h_50 => (CV T N 169 [vr (some w), vi (J x1), vi (J 8), vi (J (x_51 + x_15))] h_50 (fun h_54 => (ZI T N 168 [vr (some w), vi (J x1), vi (J 11)] h_54 (fun x_58 h_57 => (CV T N 169 [vr (some w), vi (J x1), vi (J 11), vi (J (x_58 + 1))] h_57 (fun h_61 => (CV T N 169 [vr (some w), vi (J x1), vi (J 0), vi (J 2)] h_61 (fun h_64 => (ZI T N 189 [vi (J x_3)] h_64 (fun x_68 h_67 => (CV T N 169 [vr (some w), vi (J x1), vi (J 2), vi (J x_68)] h_67 (fun h_71 => (ZI T N 187 [vi (J x_3)] h_71 (fun x_75 h_74 => (ZI T N 188 [vi (J x_3)] h_74 (fun x_79 h_78 => (ZI T N 165 [vr (some w), vi (J x_75), vi (J (1 - x_79))] h_78 (fun x_83 h_82 => (CV T N 169 [vr (some w), vi (J x1), vi (J 3), vi (J x_83)] h_82 (fun h_86 => (K h_86))))))))))))))))))))))))))))))))))))))))))))))))))) : CV T N 227 [vr (some w), vi (J x1)] h K := by
  show WP T N 227 0 [some (vr (some w)), some (vi (J x1)), none, none, none] [] h _
  refine R_ps 3 (pc2 := 3) (L2 := [some (vr (some w)), some (vi (J x1)), none, none, none]) (st2 := [vi (J 0), vi (J x1), vr (some w)]) rfl ?_
  refine R_zcI (as := [vr (some w), vi (J x1), vi (J 0)]) rfl rfl ⟨Nat.le_of_ble_eq_true rfl, Nat.le_of_ble_eq_true rfl, rfl, (Or.inr ⟨_, rfl, t0⟩)⟩ rfl rfl k (fun x_3 h_2 r_4 k => ?_)
  refine R_ps 2 (pc2 := 8) (L2 := [some (vr (some w)), some (vi (J x1)), some (vi (J x_3)), none, none]) (st2 := [vi (J x_3)]) rfl ?_
  refine R_zcI (as := [vi (J x_3)]) rfl rfl ⟨Nat.le_of_ble_eq_true rfl, Nat.le_of_ble_eq_true rfl, rfl, (Or.inl rfl)⟩ rfl rfl k (fun x_7 h_6 r_8 k => ?_)
  refine R_ps 3 (pc2 := 14) (L2 := [some (vr (some w)), some (vi (J x1)), some (vi (J x_3)), none, none]) (st2 := [vi (J 2), vi (J x1), vr (some w), vi (J x_7)]) rfl ?_
  refine R_zcI (as := [vr (some w), vi (J x1), vi (J 2)]) rfl rfl ⟨Nat.le_of_ble_eq_true rfl, Nat.le_of_ble_eq_true rfl, rfl, (Or.inr ⟨_, rfl, t0⟩)⟩ rfl rfl k (fun x_11 h_10 r_12 k => ?_)
  refine R_ps 1 (pc2 := 18) (L2 := [some (vr (some w)), some (vi (J x1)), some (vi (J x_3)), none, none]) (st2 := [vi ((J x_7) - (J x_11))]) rfl ?_
  rw [show ((J x_7) - (J x_11)) = J (x_7 - x_11) from J_sub' rfl rfl]
  refine R_zcI (as := [vi (J (x_7 - x_11))]) rfl rfl ⟨Nat.le_of_ble_eq_true rfl, Nat.le_of_ble_eq_true rfl, rfl, (Or.inl rfl)⟩ rfl rfl k (fun x_15 h_14 r_16 k => ?_)
  refine R_ps 3 (pc2 := 24) (L2 := [some (vr (some w)), some (vi (J x1)), some (vi (J x_3)), some (vi (J x_15)), none]) (st2 := [vi (J x_3), vr (some w)]) rfl ?_
  refine R_zcI (as := [vi (J x_3)]) rfl rfl ⟨Nat.le_of_ble_eq_true rfl, Nat.le_of_ble_eq_true rfl, rfl, (Or.inl rfl)⟩ rfl rfl k (fun x_19 h_18 r_20 k => ?_)
  refine R_ps 1 (pc2 := 28) (L2 := [some (vr (some w)), some (vi (J x1)), some (vi (J x_3)), some (vi (J x_15)), none]) (st2 := [vi (J x_3), vi (J x_19), vr (some w)]) rfl ?_
  refine R_zcI (as := [vi (J x_3)]) rfl rfl ⟨Nat.le_of_ble_eq_true rfl, Nat.le_of_ble_eq_true rfl, rfl, (Or.inl rfl)⟩ rfl rfl k (fun x_23 h_22 r_24 k => ?_)
  refine R_zcI (as := [vr (some w), vi (J x_19), vi (J x_23)]) rfl rfl ⟨Nat.le_of_ble_eq_true rfl, Nat.le_of_ble_eq_true rfl, rfl, (Or.inr ⟨_, rfl, t0⟩)⟩ rfl rfl k (fun x_27 h_26 r_28 k => ?_)
  refine R_ps 4 (pc2 := 39) (L2 := [some (vr (some w)), some (vi (J x1)), some (vi (J x_3)), some (vi (J x_15)), some (vi (J x_27))]) (st2 := [vi (J 1), vi (J x1), vr (some w)]) rfl ?_
  refine R_zcI (as := [vr (some w), vi (J x1), vi (J 1)]) rfl rfl ⟨Nat.le_of_ble_eq_true rfl, Nat.le_of_ble_eq_true rfl, rfl, (Or.inr ⟨_, rfl, t0⟩)⟩ rfl rfl k (fun x_31 h_30 r_32 k => ?_)
  refine R_ps 3 (pc2 := 46) (L2 := [some (vr (some w)), some (vi (J x1)), some (vi (J x_3)), some (vi (J x_15)), some (vi (J x_27))]) (st2 := [vi ((J x_15) + (J x_27)), vi (J x_31)]) rfl ?_
  rw [show ((J x_15) + (J x_27)) = J (x_15 + x_27) from J_add' rfl rfl]
  obtain ⟨t_34, k⟩ := k
  refine R_zif (x := x_31) (z := x_15 + x_27) rfl r_32 t_34 (fun c_33 => ?_) (fun c_33 => ?_)
  · have k := k.2 c_33
    refine R_ps 6 (pc2 := 70) (L2 := [some (vr (some w)), some (vi (J x1)), some (vi (J x_3)), some (vi (J x_15)), some (vi (J x_27))]) (st2 := [vi (J 1), vi (J x1), vr (some w), vi (J 1), vi (J x1), vr (some w)]) rfl ?_
    refine R_zcI (as := [vr (some w), vi (J x1), vi (J 1)]) rfl rfl ⟨Nat.le_of_ble_eq_true rfl, Nat.le_of_ble_eq_true rfl, rfl, (Or.inr ⟨_, rfl, t0⟩)⟩ rfl rfl k (fun x_37 h_36 r_38 k => ?_)
    refine R_ps 4 (pc2 := 78) (L2 := [some (vr (some w)), some (vi (J x1)), some (vi (J x_3)), some (vi (J x_15)), some (vi (J x_27))]) (st2 := [vi (((J x_37) - (J x_15)) - (J x_27)), vi (J 1), vi (J x1), vr (some w)]) rfl ?_
    rw [show (((J x_37) - (J x_15)) - (J x_27)) = J ((x_37 - x_15) - x_27) from J_sub' (J_sub' rfl rfl) rfl]
    refine R_cV (as := [vr (some w), vi (J x1), vi (J 1), vi (J ((x_37 - x_15) - x_27))]) rfl rfl ⟨Nat.le_of_ble_eq_true rfl, Nat.le_of_ble_eq_true rfl, rfl, (Or.inr ⟨_, rfl, t0⟩)⟩ rfl rfl k (fun h_40 k => ?_)
    refine R_ps 6 (pc2 := 89) (L2 := [some (vr (some w)), some (vi (J x1)), some (vi (J x_3)), some (vi (J x_15)), some (vi (J x_27))]) (st2 := [vi (J 7), vi (J x1), vr (some w), vi (J 7), vi (J x1), vr (some w)]) rfl ?_
    refine R_zcI (as := [vr (some w), vi (J x1), vi (J 7)]) rfl rfl ⟨Nat.le_of_ble_eq_true rfl, Nat.le_of_ble_eq_true rfl, rfl, (Or.inr ⟨_, rfl, t0⟩)⟩ rfl rfl k (fun x_44 h_43 r_45 k => ?_)
    refine R_ps 2 (pc2 := 95) (L2 := [some (vr (some w)), some (vi (J x1)), some (vi (J x_3)), some (vi (J x_15)), some (vi (J x_27))]) (st2 := [vi ((J x_44) + (J x_27)), vi (J 7), vi (J x1), vr (some w)]) rfl ?_
    rw [show ((J x_44) + (J x_27)) = J (x_44 + x_27) from J_add' rfl rfl]
    refine R_cV (as := [vr (some w), vi (J x1), vi (J 7), vi (J (x_44 + x_27))]) rfl rfl ⟨Nat.le_of_ble_eq_true rfl, Nat.le_of_ble_eq_true rfl, rfl, (Or.inr ⟨_, rfl, t0⟩)⟩ rfl rfl k (fun h_47 k => ?_)
    refine R_ps 6 (pc2 := 106) (L2 := [some (vr (some w)), some (vi (J x1)), some (vi (J x_3)), some (vi (J x_15)), some (vi (J x_27))]) (st2 := [vi (J 8), vi (J x1), vr (some w), vi (J 8), vi (J x1), vr (some w)]) rfl ?_
    refine R_zcI (as := [vr (some w), vi (J x1), vi (J 8)]) rfl rfl ⟨Nat.le_of_ble_eq_true rfl, Nat.le_of_ble_eq_true rfl, rfl, (Or.inr ⟨_, rfl, t0⟩)⟩ rfl rfl k (fun x_51 h_50 r_52 k => ?_)
    refine R_ps 2 (pc2 := 111) (L2 := [some (vr (some w)), some (vi (J x1)), some (vi (J x_3)), some (vi (J x_15)), some (vi (J x_27))]) (st2 := [vi ((J x_51) + (J x_15)), vi (J 8), vi (J x1), vr (some w)]) rfl ?_
    rw [show ((J x_51) + (J x_15)) = J (x_51 + x_15) from J_add' rfl rfl]
    refine R_cV (as := [vr (some w), vi (J x1), vi (J 8), vi (J (x_51 + x_15))]) rfl rfl ⟨Nat.le_of_ble_eq_true rfl, Nat.le_of_ble_eq_true rfl, rfl, (Or.inr ⟨_, rfl, t0⟩)⟩ rfl rfl k (fun h_54 k => ?_)
    refine R_ps 6 (pc2 := 122) (L2 := [some (vr (some w)), some (vi (J x1)), some (vi (J x_3)), some (vi (J x_15)), some (vi (J x_27))]) (st2 := [vi (J 11), vi (J x1), vr (some w), vi (J 11), vi (J x1), vr (some w)]) rfl ?_
    refine R_zcI (as := [vr (some w), vi (J x1), vi (J 11)]) rfl rfl ⟨Nat.le_of_ble_eq_true rfl, Nat.le_of_ble_eq_true rfl, rfl, (Or.inr ⟨_, rfl, t0⟩)⟩ rfl rfl k (fun x_58 h_57 r_59 k => ?_)
    refine R_ps 2 (pc2 := 127) (L2 := [some (vr (some w)), some (vi (J x1)), some (vi (J x_3)), some (vi (J x_15)), some (vi (J x_27))]) (st2 := [vi ((J x_58) + (J 1)), vi (J 11), vi (J x1), vr (some w)]) rfl ?_
    rw [show ((J x_58) + (J 1)) = J (x_58 + 1) from J_add' rfl rfl]
    refine R_cV (as := [vr (some w), vi (J x1), vi (J 11), vi (J (x_58 + 1))]) rfl rfl ⟨Nat.le_of_ble_eq_true rfl, Nat.le_of_ble_eq_true rfl, rfl, (Or.inr ⟨_, rfl, t0⟩)⟩ rfl rfl k (fun h_61 k => ?_)
    refine R_ps 4 (pc2 := 134) (L2 := [some (vr (some w)), some (vi (J x1)), some (vi (J x_3)), some (vi (J x_15)), some (vi (J x_27))]) (st2 := [vi (J 2), vi (J 0), vi (J x1), vr (some w)]) rfl ?_
    refine R_cV (as := [vr (some w), vi (J x1), vi (J 0), vi (J 2)]) rfl rfl ⟨Nat.le_of_ble_eq_true rfl, Nat.le_of_ble_eq_true rfl, rfl, (Or.inr ⟨_, rfl, t0⟩)⟩ rfl rfl k (fun h_64 k => ?_)
    refine R_ps 4 (pc2 := 141) (L2 := [some (vr (some w)), some (vi (J x1)), some (vi (J x_3)), some (vi (J x_15)), some (vi (J x_27))]) (st2 := [vi (J x_3), vi (J 2), vi (J x1), vr (some w)]) rfl ?_
    refine R_zcI (as := [vi (J x_3)]) rfl rfl ⟨Nat.le_of_ble_eq_true rfl, Nat.le_of_ble_eq_true rfl, rfl, (Or.inl rfl)⟩ rfl rfl k (fun x_68 h_67 r_69 k => ?_)
    refine R_cV (as := [vr (some w), vi (J x1), vi (J 2), vi (J x_68)]) rfl rfl ⟨Nat.le_of_ble_eq_true rfl, Nat.le_of_ble_eq_true rfl, rfl, (Or.inr ⟨_, rfl, t0⟩)⟩ rfl rfl k (fun h_71 k => ?_)
    refine R_ps 5 (pc2 := 152) (L2 := [some (vr (some w)), some (vi (J x1)), some (vi (J x_3)), some (vi (J x_15)), some (vi (J x_27))]) (st2 := [vi (J x_3), vr (some w), vi (J 3), vi (J x1), vr (some w)]) rfl ?_
    refine R_zcI (as := [vi (J x_3)]) rfl rfl ⟨Nat.le_of_ble_eq_true rfl, Nat.le_of_ble_eq_true rfl, rfl, (Or.inl rfl)⟩ rfl rfl k (fun x_75 h_74 r_76 k => ?_)
    refine R_ps 2 (pc2 := 157) (L2 := [some (vr (some w)), some (vi (J x1)), some (vi (J x_3)), some (vi (J x_15)), some (vi (J x_27))]) (st2 := [vi (J x_3), vi (J 1), vi (J x_75), vr (some w), vi (J 3), vi (J x1), vr (some w)]) rfl ?_
    refine R_zcI (as := [vi (J x_3)]) rfl rfl ⟨Nat.le_of_ble_eq_true rfl, Nat.le_of_ble_eq_true rfl, rfl, (Or.inl rfl)⟩ rfl rfl k (fun x_79 h_78 r_80 k => ?_)
    refine R_ps 1 (pc2 := 161) (L2 := [some (vr (some w)), some (vi (J x1)), some (vi (J x_3)), some (vi (J x_15)), some (vi (J x_27))]) (st2 := [vi ((J 1) - (J x_79)), vi (J x_75), vr (some w), vi (J 3), vi (J x1), vr (some w)]) rfl ?_
    rw [show ((J 1) - (J x_79)) = J (1 - x_79) from J_sub' rfl rfl]
    refine R_zcI (as := [vr (some w), vi (J x_75), vi (J (1 - x_79))]) rfl rfl ⟨Nat.le_of_ble_eq_true rfl, Nat.le_of_ble_eq_true rfl, rfl, (Or.inr ⟨_, rfl, t0⟩)⟩ rfl rfl k (fun x_83 h_82 r_84 k => ?_)
    refine R_cV (as := [vr (some w), vi (J x1), vi (J 3), vi (J x_83)]) rfl rfl ⟨Nat.le_of_ble_eq_true rfl, Nat.le_of_ble_eq_true rfl, rfl, (Or.inr ⟨_, rfl, t0⟩)⟩ rfl rfl k (fun h_86 k => ?_)
    exact R_ret rfl rfl ⟨rfl, k⟩
  · have k := k.1 (Classical.not_not.mp c_33)
    refine R_ps 4 (pc2 := 53) (L2 := [some (vr (some w)), some (vi (J x1)), some (vi (J x_3)), some (vi (J x_15)), some (vi (J x_27))]) (st2 := [vi (J 0), vi (J 5), vi (J x1), vr (some w)]) rfl ?_
    refine R_cV (as := [vr (some w), vi (J x1), vi (J 5), vi (J 0)]) rfl rfl ⟨Nat.le_of_ble_eq_true rfl, Nat.le_of_ble_eq_true rfl, rfl, (Or.inr ⟨_, rfl, t0⟩)⟩ rfl rfl k (fun h_90 k => ?_)
    refine R_ps 4 (pc2 := 60) (L2 := [some (vr (some w)), some (vi (J x1)), some (vi (J x_3)), some (vi (J x_15)), some (vi (J x_27))]) (st2 := [vi (J (-1)), vi (J 4), vi (J x1), vr (some w)]) rfl ?_
    refine R_cV (as := [vr (some w), vi (J x1), vi (J 4), vi (J (-1))]) rfl rfl ⟨Nat.le_of_ble_eq_true rfl, Nat.le_of_ble_eq_true rfl, rfl, (Or.inr ⟨_, rfl, t0⟩)⟩ rfl rfl k (fun h_93 k => ?_)
    exact R_ret rfl rfl ⟨rfl, k⟩
/-- DroneCorridorsModel.ends -/
theorem z228 {T N : Nat → Nat} {h : PH} {w : Nat} {x1 : Int} {K : PH → Prop} (t0 : T w = 12) (r1 : In x1) (k : (ZI T N 186 [vr (some w), vi (J x1), vi (J 0)] h (fun x_3 h_2 => (ZI T N 191 [vr (some w), vi (J x_3)] h_2 (fun x_7 h_6 => (∃ a_11, (gr h_6 w 1) = some a_11 ∧ T a_11 = 22 ∧ (0 ≤ (448 : Int) ∧ (448 : Int) < (N a_11 : Int) ∧ (448 : Int) < 2147483648) ∧ ((x_7 = (ai h_6 a_11 448) → (ZI T N 168 [vr (some w), vi (J x1), vi (J 5)] h_6 (fun x_18 h_17 => (CV T N 169 [vr (some w), vi (J x1), vi (J 5), vi (J (x_18 - 1))] h_17 (fun h_21 => (WV T N 228 38 [some (vr (some w)), some (vi (J x1)), some (vi (J 0))] [] h_21 K)))))) ∧ (¬ (x_7 = (ai h_6 a_11 448)) → (K h_6))))))))) : CV T N 228 [vr (some w), vi (J x1)] h K := by
  show WP T N 228 0 [some (vr (some w)), some (vi (J x1)), none] [] h _
  refine R_ps 4 (pc2 := 4) (L2 := [some (vr (some w)), some (vi (J x1)), none]) (st2 := [vi (J 0), vi (J x1), vr (some w), vr (some w)]) rfl ?_
  refine R_zcI (as := [vr (some w), vi (J x1), vi (J 0)]) rfl rfl ⟨Nat.le_of_ble_eq_true rfl, Nat.le_of_ble_eq_true rfl, rfl, (Or.inr ⟨_, rfl, t0⟩)⟩ rfl rfl k (fun x_3 h_2 r_4 k => ?_)
  refine R_zcI (as := [vr (some w), vi (J x_3)]) rfl rfl ⟨Nat.le_of_ble_eq_true rfl, Nat.le_of_ble_eq_true rfl, rfl, (Or.inr ⟨_, rfl, t0⟩)⟩ rfl rfl k (fun x_7 h_6 r_8 k => ?_)
  refine R_ps 1 (pc2 := 11) (L2 := [some (vr (some w)), some (vi (J x1)), none]) (st2 := [vr (some w), vi (J x_7)]) rfl ?_
  refine R_getR rfl t0 ?_
  refine R_ps 1 (pc2 := 17) (L2 := [some (vr (some w)), some (vi (J x1)), none]) (st2 := [vi (J 448), vr (gr h_6 w 1), vi (J x_7)]) rfl ?_
  obtain ⟨a_11, e_12, k⟩ := k
  rw [e_12]
  obtain ⟨t_13, k⟩ := k
  obtain ⟨t_14, k⟩ := k
  refine R_ziald (i := 448) rfl (Or.inl t_13) t_14 ?_
  refine R_zif (x := x_7) (z := ai h_6 a_11 448) rfl r_8 (ai_in _ _ _) (fun c_15 => ?_) (fun c_15 => ?_)
  · have k := k.1 c_15
    refine R_ps 6 (pc2 := 28) (L2 := [some (vr (some w)), some (vi (J x1)), none]) (st2 := [vi (J 5), vi (J x1), vr (some w), vi (J 5), vi (J x1), vr (some w)]) rfl ?_
    refine R_zcI (as := [vr (some w), vi (J x1), vi (J 5)]) rfl rfl ⟨Nat.le_of_ble_eq_true rfl, Nat.le_of_ble_eq_true rfl, rfl, (Or.inr ⟨_, rfl, t0⟩)⟩ rfl rfl k (fun x_18 h_17 r_19 k => ?_)
    refine R_ps 2 (pc2 := 33) (L2 := [some (vr (some w)), some (vi (J x1)), none]) (st2 := [vi ((J x_18) - (J 1)), vi (J 5), vi (J x1), vr (some w)]) rfl ?_
    rw [show ((J x_18) - (J 1)) = J (x_18 - 1) from J_sub' rfl rfl]
    refine R_cV (as := [vr (some w), vi (J x1), vi (J 5), vi (J (x_18 - 1))]) rfl rfl ⟨Nat.le_of_ble_eq_true rfl, Nat.le_of_ble_eq_true rfl, rfl, (Or.inr ⟨_, rfl, t0⟩)⟩ rfl rfl k (fun h_21 k => ?_)
    refine R_ps 2 (pc2 := 38) (L2 := [some (vr (some w)), some (vi (J x1)), some (vi (J 0))]) (st2 := []) rfl ?_
    exact k
  · have k := k.2 c_15
    exact R_ret rfl rfl ⟨rfl, k⟩
theorem z228_38 {T N : Nat → Nat} {h : PH} {w : Nat} {x1 : Int} {x2 : Int} {K : PH → Prop} (t0 : T w = 12) (r1 : In x1) (r2 : In x2) (k : (ZI T N 168 [vr (some w), vi (J x1), vi (J 5)] h (fun x_3 h_2 => (((x2 < x_3 → (ZI T N 186 [vr (some w), vi (J x1), vi (J (x2 + 1))] h_2 (fun x_47 h_46 => (CV T N 169 [vr (some w), vi (J x1), vi (J (13 + x2)), vi (J x_47)] h_46 (fun h_50 => (WV T N 228 38 [some (vr (some w)), some (vi (J x1)), some (vi (J (x2 + 1)))] [] h_50 K)))))) ∧ (¬ (x2 < x_3) → (CV T N 169 [vr (some w), vi (J x1), vi (J 0), vi (J 1)] h_2 (fun h_7 => (ZI T N 168 [vr (some w), vi (J x1), vi (J 5)] h_7 (fun x_11 h_10 => (((0 < x_11 → (K h_10)) ∧ (¬ (0 < x_11) → (ZI T N 168 [vr (some w), vi (J x1), vi (J 3)] h_10 (fun x_17 h_16 => (ZI T N 168 [vr (some w), vi (J x1), vi (J 4)] h_16 (fun x_21 h_20 => (((x_17 = x_21 → (ZI T N 168 [vr (some w), vi (J x1), vi (J 3)] h_20 (fun x_28 h_27 => (∃ a_31, (gr h_20 w 1) = some a_31 ∧ T a_31 = 22 ∧ (0 ≤ (1 + x_28) ∧ (1 + x_28) < (N a_31 : Int) ∧ (1 + x_28) < 2147483648) ∧ (((ai h_27 a_31 (1 + x_28)) = 0 → (K h_27)) ∧ (¬ ((ai h_27 a_31 (1 + x_28)) = 0) → (CV T N 214 [vr (some w), vi (J x1)] h_27 (fun h_37 => (∀ h_41, h_41 = wi h_37 w 23 ((ai h_37 w 23) + 1) → K h_41))))))))) ∧ (¬ (x_17 = x_21) → (K h_20))))))))))))))))))))) : WV T N 228 38 [some (vr (some w)), some (vi (J x1)), some (vi (J x2))] [] h K := by
  show WP T N 228 38 [some (vr (some w)), some (vi (J x1)), some (vi (J x2))] [] h _
  refine R_ps 4 (pc2 := 42) (L2 := [some (vr (some w)), some (vi (J x1)), some (vi (J x2))]) (st2 := [vi (J 5), vi (J x1), vr (some w), vi (J x2)]) rfl ?_
  refine R_zcI (as := [vr (some w), vi (J x1), vi (J 5)]) rfl rfl ⟨Nat.le_of_ble_eq_true rfl, Nat.le_of_ble_eq_true rfl, rfl, (Or.inr ⟨_, rfl, t0⟩)⟩ rfl rfl k (fun x_3 h_2 r_4 k => ?_)
  refine R_zif (x := x2) (z := x_3) rfl r2 r_4 (fun c_5 => ?_) (fun c_5 => ?_)
  · have k := k.2 c_5
    refine R_ps 4 (pc2 := 75) (L2 := [some (vr (some w)), some (vi (J x1)), some (vi (J x2))]) (st2 := [vi (J 1), vi (J 0), vi (J x1), vr (some w)]) rfl ?_
    refine R_cV (as := [vr (some w), vi (J x1), vi (J 0), vi (J 1)]) rfl rfl ⟨Nat.le_of_ble_eq_true rfl, Nat.le_of_ble_eq_true rfl, rfl, (Or.inr ⟨_, rfl, t0⟩)⟩ rfl rfl k (fun h_7 k => ?_)
    refine R_ps 3 (pc2 := 81) (L2 := [some (vr (some w)), some (vi (J x1)), some (vi (J x2))]) (st2 := [vi (J 5), vi (J x1), vr (some w)]) rfl ?_
    refine R_zcI (as := [vr (some w), vi (J x1), vi (J 5)]) rfl rfl ⟨Nat.le_of_ble_eq_true rfl, Nat.le_of_ble_eq_true rfl, rfl, (Or.inr ⟨_, rfl, t0⟩)⟩ rfl rfl k (fun x_11 h_10 r_12 k => ?_)
    refine R_zif0 (x := x_11) rfl r_12 (fun c_13 => ?_) (fun c_13 => ?_)
    · have k := k.1 c_13
      exact R_ret rfl rfl ⟨rfl, k⟩
    · have k := k.2 c_13
      refine R_ps 3 (pc2 := 90) (L2 := [some (vr (some w)), some (vi (J x1)), some (vi (J x2))]) (st2 := [vi (J 3), vi (J x1), vr (some w)]) rfl ?_
      refine R_zcI (as := [vr (some w), vi (J x1), vi (J 3)]) rfl rfl ⟨Nat.le_of_ble_eq_true rfl, Nat.le_of_ble_eq_true rfl, rfl, (Or.inr ⟨_, rfl, t0⟩)⟩ rfl rfl k (fun x_17 h_16 r_18 k => ?_)
      refine R_ps 3 (pc2 := 96) (L2 := [some (vr (some w)), some (vi (J x1)), some (vi (J x2))]) (st2 := [vi (J 4), vi (J x1), vr (some w), vi (J x_17)]) rfl ?_
      refine R_zcI (as := [vr (some w), vi (J x1), vi (J 4)]) rfl rfl ⟨Nat.le_of_ble_eq_true rfl, Nat.le_of_ble_eq_true rfl, rfl, (Or.inr ⟨_, rfl, t0⟩)⟩ rfl rfl k (fun x_21 h_20 r_22 k => ?_)
      refine R_zif (x := x_17) (z := x_21) rfl r_18 r_22 (fun c_23 => ?_) (fun c_23 => ?_)
      · have k := k.2 c_23
        exact R_ret rfl rfl ⟨rfl, k⟩
      · have k := k.1 (Classical.not_not.mp c_23)
        refine R_ps 1 (pc2 := 103) (L2 := [some (vr (some w)), some (vi (J x1)), some (vi (J x2))]) (st2 := [vr (some w)]) rfl ?_
        refine R_getR rfl t0 ?_
        refine R_ps 4 (pc2 := 110) (L2 := [some (vr (some w)), some (vi (J x1)), some (vi (J x2))]) (st2 := [vi (J 3), vi (J x1), vr (some w), vi (J 1), vr (gr h_20 w 1)]) rfl ?_
        refine R_zcI (as := [vr (some w), vi (J x1), vi (J 3)]) rfl rfl ⟨Nat.le_of_ble_eq_true rfl, Nat.le_of_ble_eq_true rfl, rfl, (Or.inr ⟨_, rfl, t0⟩)⟩ rfl rfl k (fun x_28 h_27 r_29 k => ?_)
        refine R_ps 1 (pc2 := 114) (L2 := [some (vr (some w)), some (vi (J x1)), some (vi (J x2))]) (st2 := [vi ((J 1) + (J x_28)), vr (gr h_20 w 1)]) rfl ?_
        rw [show ((J 1) + (J x_28)) = J (1 + x_28) from J_add' rfl rfl]
        obtain ⟨a_31, e_32, k⟩ := k
        rw [e_32]
        obtain ⟨t_33, k⟩ := k
        obtain ⟨t_34, k⟩ := k
        refine R_ziald (i := 1 + x_28) rfl (Or.inl t_33) t_34 ?_
        refine R_zif0 (x := ai h_27 a_31 (1 + x_28)) rfl (ai_in _ _ _) (fun c_35 => ?_) (fun c_35 => ?_)
        · have k := k.2 c_35
          refine R_ps 2 (pc2 := 121) (L2 := [some (vr (some w)), some (vi (J x1)), some (vi (J x2))]) (st2 := [vi (J x1), vr (some w)]) rfl ?_
          refine R_cV (as := [vr (some w), vi (J x1)]) rfl rfl ⟨Nat.le_of_ble_eq_true rfl, Nat.le_of_ble_eq_true rfl, rfl, (Or.inr ⟨_, rfl, t0⟩)⟩ rfl rfl k (fun h_37 k => ?_)
          refine R_ps 2 (pc2 := 126) (L2 := [some (vr (some w)), some (vi (J x1)), some (vi (J x2))]) (st2 := [vr (some w), vr (some w)]) rfl ?_
          refine R_zgetI (z := 23) rfl t0 rfl ?_
          refine R_ps 2 (pc2 := 131) (L2 := [some (vr (some w)), some (vi (J x1)), some (vi (J x2))]) (st2 := [vi ((J (ai h_37 w 23)) + (J 1)), vr (some w)]) rfl ?_
          rw [show ((J (ai h_37 w 23)) + (J 1)) = J ((ai h_37 w 23) + 1) from J_add' rfl rfl]
          refine R_zputI (x := (ai h_37 w 23) + 1) (z := 23) rfl t0 rfl ?_
          show WP T N _ _ _ _ (wi h_37 w 23 ((ai h_37 w 23) + 1)) _
          generalize e_42 : wi h_37 w 23 ((ai h_37 w 23) + 1) = h_41
          replace k := k h_41 e_42.symm
          exact R_ret rfl rfl ⟨rfl, k⟩
        · have k := k.1 (Classical.not_not.mp c_35)
          exact R_ret rfl rfl ⟨rfl, k⟩
  · have k := k.1 (Classical.not_not.mp c_5)
    refine R_ps 10 (pc2 := 59) (L2 := [some (vr (some w)), some (vi (J x1)), some (vi (J x2))]) (st2 := [vi ((J x2) + (J 1)), vi (J x1), vr (some w), vi ((J 13) + (J x2)), vi (J x1), vr (some w)]) rfl ?_
    rw [show ((J 13) + (J x2)) = J (13 + x2) from J_add' rfl rfl]
    rw [show ((J x2) + (J 1)) = J (x2 + 1) from J_add' rfl rfl]
    refine R_zcI (as := [vr (some w), vi (J x1), vi (J (x2 + 1))]) rfl rfl ⟨Nat.le_of_ble_eq_true rfl, Nat.le_of_ble_eq_true rfl, rfl, (Or.inr ⟨_, rfl, t0⟩)⟩ rfl rfl k (fun x_47 h_46 r_48 k => ?_)
    refine R_cV (as := [vr (some w), vi (J x1), vi (J (13 + x2)), vi (J x_47)]) rfl rfl ⟨Nat.le_of_ble_eq_true rfl, Nat.le_of_ble_eq_true rfl, rfl, (Or.inr ⟨_, rfl, t0⟩)⟩ rfl rfl k (fun h_50 k => ?_)
    refine R_ps 2 (pc2 := 38) (L2 := [some (vr (some w)), some (vi (J x1)), some (vi ((J x2) + J 1))]) (st2 := []) rfl ?_
    rw [show ((J x2) + J 1) = J (x2 + 1) from J_add' rfl rfl]
    exact k
/-- DroneCorridorsModel.hovers -/
theorem z229 {T N : Nat → Nat} {h : PH} {w : Nat} {x1 : Int} {K : PH → Prop} (t0 : T w = 12) (r1 : In x1) (k : (ZI T N 168 [vr (some w), vi (J x1), vi (J 1)] h (fun x_3 h_2 => (((0 < x_3 → (ZI T N 168 [vr (some w), vi (J x1), vi (J 1)] h_2 (fun x_18 h_17 => (CV T N 169 [vr (some w), vi (J x1), vi (J 1), vi (J (x_18 - 1))] h_17 (fun h_21 => (ZI T N 168 [vr (some w), vi (J x1), vi (J 9)] h_21 (fun x_25 h_24 => (CV T N 169 [vr (some w), vi (J x1), vi (J 9), vi (J (x_25 + 1))] h_24 (fun h_28 => (ZI T N 168 [vr (some w), vi (J x1), vi (J 1)] h_28 (fun x_32 h_31 => (((x_32 = 0 → (CV T N 220 [vr (some w), vi (J x1)] h_31 (fun h_37 => (K h_37)))) ∧ (¬ (x_32 = 0) → (K h_31))))))))))))))) ∧ (¬ (0 < x_3) → (ZI T N 168 [vr (some w), vi (J x1), vi (J 1)] h_2 (fun x_8 h_7 => (((x_8 = 0 → (CV T N 220 [vr (some w), vi (J x1)] h_7 (fun h_13 => (K h_13)))) ∧ (¬ (x_8 = 0) → (K h_7)))))))))))) : CV T N 229 [vr (some w), vi (J x1)] h K := by
  show WP T N 229 0 [some (vr (some w)), some (vi (J x1))] [] h _
  refine R_ps 3 (pc2 := 3) (L2 := [some (vr (some w)), some (vi (J x1))]) (st2 := [vi (J 1), vi (J x1), vr (some w)]) rfl ?_
  refine R_zcI (as := [vr (some w), vi (J x1), vi (J 1)]) rfl rfl ⟨Nat.le_of_ble_eq_true rfl, Nat.le_of_ble_eq_true rfl, rfl, (Or.inr ⟨_, rfl, t0⟩)⟩ rfl rfl k (fun x_3 h_2 r_4 k => ?_)
  refine R_zif0 (x := x_3) rfl r_4 (fun c_5 => ?_) (fun c_5 => ?_)
  · have k := k.2 c_5
    refine R_ps 3 (pc2 := 42) (L2 := [some (vr (some w)), some (vi (J x1))]) (st2 := [vi (J 1), vi (J x1), vr (some w)]) rfl ?_
    refine R_zcI (as := [vr (some w), vi (J x1), vi (J 1)]) rfl rfl ⟨Nat.le_of_ble_eq_true rfl, Nat.le_of_ble_eq_true rfl, rfl, (Or.inr ⟨_, rfl, t0⟩)⟩ rfl rfl k (fun x_8 h_7 r_9 k => ?_)
    refine R_zif0 (x := x_8) rfl r_9 (fun c_10 => ?_) (fun c_10 => ?_)
    · have k := k.2 c_10
      exact R_ret rfl rfl ⟨rfl, k⟩
    · have k := k.1 (Classical.not_not.mp c_10)
      refine R_ps 2 (pc2 := 50) (L2 := [some (vr (some w)), some (vi (J x1))]) (st2 := [vi (J x1), vr (some w)]) rfl ?_
      refine R_cV (as := [vr (some w), vi (J x1)]) rfl rfl ⟨Nat.le_of_ble_eq_true rfl, Nat.le_of_ble_eq_true rfl, rfl, (Or.inr ⟨_, rfl, t0⟩)⟩ rfl rfl k (fun h_13 k => ?_)
      exact R_ret rfl rfl ⟨rfl, k⟩
  · have k := k.1 (Classical.not_not.mp c_5)
    refine R_ps 6 (pc2 := 15) (L2 := [some (vr (some w)), some (vi (J x1))]) (st2 := [vi (J 1), vi (J x1), vr (some w), vi (J 1), vi (J x1), vr (some w)]) rfl ?_
    refine R_zcI (as := [vr (some w), vi (J x1), vi (J 1)]) rfl rfl ⟨Nat.le_of_ble_eq_true rfl, Nat.le_of_ble_eq_true rfl, rfl, (Or.inr ⟨_, rfl, t0⟩)⟩ rfl rfl k (fun x_18 h_17 r_19 k => ?_)
    refine R_ps 2 (pc2 := 20) (L2 := [some (vr (some w)), some (vi (J x1))]) (st2 := [vi ((J x_18) - (J 1)), vi (J 1), vi (J x1), vr (some w)]) rfl ?_
    rw [show ((J x_18) - (J 1)) = J (x_18 - 1) from J_sub' rfl rfl]
    refine R_cV (as := [vr (some w), vi (J x1), vi (J 1), vi (J (x_18 - 1))]) rfl rfl ⟨Nat.le_of_ble_eq_true rfl, Nat.le_of_ble_eq_true rfl, rfl, (Or.inr ⟨_, rfl, t0⟩)⟩ rfl rfl k (fun h_21 k => ?_)
    refine R_ps 6 (pc2 := 31) (L2 := [some (vr (some w)), some (vi (J x1))]) (st2 := [vi (J 9), vi (J x1), vr (some w), vi (J 9), vi (J x1), vr (some w)]) rfl ?_
    refine R_zcI (as := [vr (some w), vi (J x1), vi (J 9)]) rfl rfl ⟨Nat.le_of_ble_eq_true rfl, Nat.le_of_ble_eq_true rfl, rfl, (Or.inr ⟨_, rfl, t0⟩)⟩ rfl rfl k (fun x_25 h_24 r_26 k => ?_)
    refine R_ps 2 (pc2 := 36) (L2 := [some (vr (some w)), some (vi (J x1))]) (st2 := [vi ((J x_25) + (J 1)), vi (J 9), vi (J x1), vr (some w)]) rfl ?_
    rw [show ((J x_25) + (J 1)) = J (x_25 + 1) from J_add' rfl rfl]
    refine R_cV (as := [vr (some w), vi (J x1), vi (J 9), vi (J (x_25 + 1))]) rfl rfl ⟨Nat.le_of_ble_eq_true rfl, Nat.le_of_ble_eq_true rfl, rfl, (Or.inr ⟨_, rfl, t0⟩)⟩ rfl rfl k (fun h_28 k => ?_)
    refine R_ps 3 (pc2 := 42) (L2 := [some (vr (some w)), some (vi (J x1))]) (st2 := [vi (J 1), vi (J x1), vr (some w)]) rfl ?_
    refine R_zcI (as := [vr (some w), vi (J x1), vi (J 1)]) rfl rfl ⟨Nat.le_of_ble_eq_true rfl, Nat.le_of_ble_eq_true rfl, rfl, (Or.inr ⟨_, rfl, t0⟩)⟩ rfl rfl k (fun x_32 h_31 r_33 k => ?_)
    refine R_zif0 (x := x_32) rfl r_33 (fun c_34 => ?_) (fun c_34 => ?_)
    · have k := k.2 c_34
      exact R_ret rfl rfl ⟨rfl, k⟩
    · have k := k.1 (Classical.not_not.mp c_34)
      refine R_ps 2 (pc2 := 50) (L2 := [some (vr (some w)), some (vi (J x1))]) (st2 := [vi (J x1), vr (some w)]) rfl ?_
      refine R_cV (as := [vr (some w), vi (J x1)]) rfl rfl ⟨Nat.le_of_ble_eq_true rfl, Nat.le_of_ble_eq_true rfl, rfl, (Or.inr ⟨_, rfl, t0⟩)⟩ rfl rfl k (fun h_37 k => ?_)
      exact R_ret rfl rfl ⟨rfl, k⟩
/-- DroneCorridorsModel.charges -/
theorem z230 {T N : Nat → Nat} {h : PH} {w : Nat} {x1 : Int} {K : PH → Prop} (t0 : T w = 12) (r1 : In x1) (k : (ZI T N 168 [vr (some w), vi (J x1), vi (J 1)] h (fun x_3 h_2 => (In (200 - x_3) ∧ (((200 - x_3) < 3 → (ZI T N 168 [vr (some w), vi (J x1), vi (J 1)] h_2 (fun x_24 h_23 => (CV T N 169 [vr (some w), vi (J x1), vi (J 1), vi (J (x_24 + (200 - x_3)))] h_23 (fun h_27 => (ZI T N 168 [vr (some w), vi (J x1), vi (J 10)] h_27 (fun x_31 h_30 => (CV T N 169 [vr (some w), vi (J x1), vi (J 10), vi (J (x_31 + (200 - x_3)))] h_30 (fun h_34 => (K h_34)))))))))) ∧ (¬ ((200 - x_3) < 3) → (ZI T N 168 [vr (some w), vi (J x1), vi (J 1)] h_2 (fun x_9 h_8 => (CV T N 169 [vr (some w), vi (J x1), vi (J 1), vi (J (x_9 + 3))] h_8 (fun h_12 => (ZI T N 168 [vr (some w), vi (J x1), vi (J 10)] h_12 (fun x_16 h_15 => (CV T N 169 [vr (some w), vi (J x1), vi (J 10), vi (J (x_16 + 3))] h_15 (fun h_19 => (K h_19))))))))))))))) : CV T N 230 [vr (some w), vi (J x1)] h K := by
  show WP T N 230 0 [some (vr (some w)), some (vi (J x1)), none, none] [] h _
  refine R_ps 4 (pc2 := 6) (L2 := [some (vr (some w)), some (vi (J x1)), none, none]) (st2 := [vi (J 1), vi (J x1), vr (some w), vi (J 200)]) rfl ?_
  refine R_zcI (as := [vr (some w), vi (J x1), vi (J 1)]) rfl rfl ⟨Nat.le_of_ble_eq_true rfl, Nat.le_of_ble_eq_true rfl, rfl, (Or.inr ⟨_, rfl, t0⟩)⟩ rfl rfl k (fun x_3 h_2 r_4 k => ?_)
  refine R_ps 4 (pc2 := 13) (L2 := [some (vr (some w)), some (vi (J x1)), some (vi ((J 200) - (J x_3))), none]) (st2 := [vi (J 3), vi ((J 200) - (J x_3))]) rfl ?_
  rw [show ((J 200) - (J x_3)) = J (200 - x_3) from J_sub' rfl rfl]
  obtain ⟨t_6, k⟩ := k
  refine R_zif (x := 200 - x_3) (z := 3) rfl t_6 (by decide) (fun c_5 => ?_) (fun c_5 => ?_)
  · have k := k.2 c_5
    refine R_ps 8 (pc2 := 28) (L2 := [some (vr (some w)), some (vi (J x1)), some (vi (J (200 - x_3))), some (vi (J 3))]) (st2 := [vi (J 1), vi (J x1), vr (some w), vi (J 1), vi (J x1), vr (some w)]) rfl ?_
    refine R_zcI (as := [vr (some w), vi (J x1), vi (J 1)]) rfl rfl ⟨Nat.le_of_ble_eq_true rfl, Nat.le_of_ble_eq_true rfl, rfl, (Or.inr ⟨_, rfl, t0⟩)⟩ rfl rfl k (fun x_9 h_8 r_10 k => ?_)
    refine R_ps 2 (pc2 := 33) (L2 := [some (vr (some w)), some (vi (J x1)), some (vi (J (200 - x_3))), some (vi (J 3))]) (st2 := [vi ((J x_9) + (J 3)), vi (J 1), vi (J x1), vr (some w)]) rfl ?_
    rw [show ((J x_9) + (J 3)) = J (x_9 + 3) from J_add' rfl rfl]
    refine R_cV (as := [vr (some w), vi (J x1), vi (J 1), vi (J (x_9 + 3))]) rfl rfl ⟨Nat.le_of_ble_eq_true rfl, Nat.le_of_ble_eq_true rfl, rfl, (Or.inr ⟨_, rfl, t0⟩)⟩ rfl rfl k (fun h_12 k => ?_)
    refine R_ps 6 (pc2 := 44) (L2 := [some (vr (some w)), some (vi (J x1)), some (vi (J (200 - x_3))), some (vi (J 3))]) (st2 := [vi (J 10), vi (J x1), vr (some w), vi (J 10), vi (J x1), vr (some w)]) rfl ?_
    refine R_zcI (as := [vr (some w), vi (J x1), vi (J 10)]) rfl rfl ⟨Nat.le_of_ble_eq_true rfl, Nat.le_of_ble_eq_true rfl, rfl, (Or.inr ⟨_, rfl, t0⟩)⟩ rfl rfl k (fun x_16 h_15 r_17 k => ?_)
    refine R_ps 2 (pc2 := 49) (L2 := [some (vr (some w)), some (vi (J x1)), some (vi (J (200 - x_3))), some (vi (J 3))]) (st2 := [vi ((J x_16) + (J 3)), vi (J 10), vi (J x1), vr (some w)]) rfl ?_
    rw [show ((J x_16) + (J 3)) = J (x_16 + 3) from J_add' rfl rfl]
    refine R_cV (as := [vr (some w), vi (J x1), vi (J 10), vi (J (x_16 + 3))]) rfl rfl ⟨Nat.le_of_ble_eq_true rfl, Nat.le_of_ble_eq_true rfl, rfl, (Or.inr ⟨_, rfl, t0⟩)⟩ rfl rfl k (fun h_19 k => ?_)
    exact R_ret rfl rfl ⟨rfl, k⟩
  · have k := k.1 (Classical.not_not.mp c_5)
    refine R_ps 9 (pc2 := 28) (L2 := [some (vr (some w)), some (vi (J x1)), some (vi (J (200 - x_3))), some (vi (J (200 - x_3)))]) (st2 := [vi (J 1), vi (J x1), vr (some w), vi (J 1), vi (J x1), vr (some w)]) rfl ?_
    refine R_zcI (as := [vr (some w), vi (J x1), vi (J 1)]) rfl rfl ⟨Nat.le_of_ble_eq_true rfl, Nat.le_of_ble_eq_true rfl, rfl, (Or.inr ⟨_, rfl, t0⟩)⟩ rfl rfl k (fun x_24 h_23 r_25 k => ?_)
    refine R_ps 2 (pc2 := 33) (L2 := [some (vr (some w)), some (vi (J x1)), some (vi (J (200 - x_3))), some (vi (J (200 - x_3)))]) (st2 := [vi ((J x_24) + (J (200 - x_3))), vi (J 1), vi (J x1), vr (some w)]) rfl ?_
    rw [show ((J x_24) + (J (200 - x_3))) = J (x_24 + (200 - x_3)) from J_add' rfl rfl]
    refine R_cV (as := [vr (some w), vi (J x1), vi (J 1), vi (J (x_24 + (200 - x_3)))]) rfl rfl ⟨Nat.le_of_ble_eq_true rfl, Nat.le_of_ble_eq_true rfl, rfl, (Or.inr ⟨_, rfl, t0⟩)⟩ rfl rfl k (fun h_27 k => ?_)
    refine R_ps 6 (pc2 := 44) (L2 := [some (vr (some w)), some (vi (J x1)), some (vi (J (200 - x_3))), some (vi (J (200 - x_3)))]) (st2 := [vi (J 10), vi (J x1), vr (some w), vi (J 10), vi (J x1), vr (some w)]) rfl ?_
    refine R_zcI (as := [vr (some w), vi (J x1), vi (J 10)]) rfl rfl ⟨Nat.le_of_ble_eq_true rfl, Nat.le_of_ble_eq_true rfl, rfl, (Or.inr ⟨_, rfl, t0⟩)⟩ rfl rfl k (fun x_31 h_30 r_32 k => ?_)
    refine R_ps 2 (pc2 := 49) (L2 := [some (vr (some w)), some (vi (J x1)), some (vi (J (200 - x_3))), some (vi (J (200 - x_3)))]) (st2 := [vi ((J x_31) + (J (200 - x_3))), vi (J 10), vi (J x1), vr (some w)]) rfl ?_
    rw [show ((J x_31) + (J (200 - x_3))) = J (x_31 + (200 - x_3)) from J_add' rfl rfl]
    refine R_cV (as := [vr (some w), vi (J x1), vi (J 10), vi (J (x_31 + (200 - x_3)))]) rfl rfl ⟨Nat.le_of_ble_eq_true rfl, Nat.le_of_ble_eq_true rfl, rfl, (Or.inr ⟨_, rfl, t0⟩)⟩ rfl rfl k (fun h_34 k => ?_)
    exact R_ret rfl rfl ⟨rfl, k⟩
/-- DroneCorridorsModel.ticks -/
theorem z231 {T N : Nat → Nat} {h : PH} {w : Nat} {x1 : Int} {K : PH → Prop} (t0 : T w = 12) (r1 : In x1) (k : (∀ h_2, h_2 = wi h w 23 0 → WV T N 231 7 [some (vr (some w)), some (vi (J x1)), some (vi (J 0)), none] [] h_2 K)) : CV T N 231 [vr (some w), vi (J x1)] h K := by
  show WP T N 231 0 [some (vr (some w)), some (vi (J x1)), none, none] [] h _
  refine R_ps 2 (pc2 := 2) (L2 := [some (vr (some w)), some (vi (J x1)), none, none]) (st2 := [vi (J 0), vr (some w)]) rfl ?_
  refine R_zputI (x := 0) (z := 23) rfl t0 rfl ?_
  show WP T N _ _ _ _ (wi h w 23 0) _
  generalize e_3 : wi h w 23 0 = h_2
  replace k := k h_2 e_3.symm
  refine R_ps 2 (pc2 := 7) (L2 := [some (vr (some w)), some (vi (J x1)), some (vi (J 0)), none]) (st2 := []) rfl ?_
  exact k
theorem z231_7 {T N : Nat → Nat} {h : PH} {w : Nat} {x1 : Int} {x2 : Int} {K : PH → Prop} (r1 : In x1) (r2 : In x2) (k : (((x2 < x1 → (WV T N 231 14 [some (vr (some w)), some (vi (J x1)), some (vi (J x2)), some (vi (J 0))] [] h K)) ∧ (¬ (x2 < x1) → (K h))))) : WV T N 231 7 [some (vr (some w)), some (vi (J x1)), some (vi (J x2)), none] [] h K := by
  show WP T N 231 7 [some (vr (some w)), some (vi (J x1)), some (vi (J x2)), none] [] h _
  refine R_ps 2 (pc2 := 9) (L2 := [some (vr (some w)), some (vi (J x1)), some (vi (J x2)), none]) (st2 := [vi (J x1), vi (J x2)]) rfl ?_
  refine R_zif (x := x2) (z := x1) rfl r2 r1 (fun c_1 => ?_) (fun c_1 => ?_)
  · have k := k.2 c_1
    exact R_ret rfl rfl ⟨rfl, k⟩
  · have k := k.1 (Classical.not_not.mp c_1)
    refine R_ps 2 (pc2 := 14) (L2 := [some (vr (some w)), some (vi (J x1)), some (vi (J x2)), some (vi (J 0))]) (st2 := []) rfl ?_
    exact k
theorem z231_14 {T N : Nat → Nat} {h : PH} {w : Nat} {x1 : Int} {x2 : Int} {x3 : Int} {K : PH → Prop} (t0 : T w = 12) (r1 : In x1) (r2 : In x2) (r3 : In x3) (k : (∃ a_3, (gr h w 1) = some a_3 ∧ T a_3 = 22 ∧ (0 ≤ (117 : Int) ∧ (117 : Int) < (N a_3 : Int) ∧ (117 : Int) < 2147483648) ∧ ((x3 < (ai h a_3 117) → (ZI T N 168 [vr (some w), vi (J x3), vi (J 0)] h (fun x_19 h_18 => (((x_19 < 2 → (ZI T N 168 [vr (some w), vi (J x3), vi (J 5)] h_18 (fun x_24 h_23 => (((0 < x_24 → (ZI T N 186 [vr (some w), vi (J x3), vi (J 0)] h_23 (fun x_29 h_28 => (ZI T N 190 [vi (J x_29)] h_28 (fun x_33 h_32 => (∃ a_37, (gr h_32 w 1) = some a_37 ∧ T a_37 = 22 ∧ (0 ≤ (448 : Int) ∧ (448 : Int) < (N a_37 : Int) ∧ (448 : Int) < 2147483648) ∧ ((x_33 = (ai h_32 a_37 448) → (CV T N 227 [vr (some w), vi (J x3)] h_32 (fun h_43 => (WV T N 231 14 [some (vr (some w)), some (vi (J x1)), some (vi (J x2)), some (vi (J (x3 + 1)))] [] h_43 K)))) ∧ (¬ (x_33 = (ai h_32 a_37 448)) → (WV T N 231 14 [some (vr (some w)), some (vi (J x1)), some (vi (J x2)), some (vi (J (x3 + 1)))] [] h_32 K))))))))) ∧ (¬ (0 < x_24) → (WV T N 231 14 [some (vr (some w)), some (vi (J x1)), some (vi (J x2)), some (vi (J (x3 + 1)))] [] h_23 K))))))) ∧ (¬ (x_19 < 2) → (WV T N 231 14 [some (vr (some w)), some (vi (J x1)), some (vi (J x2)), some (vi (J (x3 + 1)))] [] h_18 K))))))) ∧ (¬ (x3 < (ai h a_3 117)) → (∃ a_10, (gr h w 1) = some a_10 ∧ T a_10 = 22 ∧ (0 ≤ (448 : Int) ∧ (448 : Int) < (N a_10 : Int) ∧ (448 : Int) < 2147483648) ∧ ∀ h_15, h_15 = wi h a_10 448 ((ai h a_10 448) + 1) → WV T N 231 89 [some (vr (some w)), some (vi (J x1)), some (vi (J x2)), some (vi (J 0))] [] h_15 K))))) : WV T N 231 14 [some (vr (some w)), some (vi (J x1)), some (vi (J x2)), some (vi (J x3))] [] h K := by
  show WP T N 231 14 [some (vr (some w)), some (vi (J x1)), some (vi (J x2)), some (vi (J x3))] [] h _
  refine R_ps 2 (pc2 := 16) (L2 := [some (vr (some w)), some (vi (J x1)), some (vi (J x2)), some (vi (J x3))]) (st2 := [vr (some w), vi (J x3)]) rfl ?_
  refine R_getR rfl t0 ?_
  refine R_ps 1 (pc2 := 21) (L2 := [some (vr (some w)), some (vi (J x1)), some (vi (J x2)), some (vi (J x3))]) (st2 := [vi (J 117), vr (gr h w 1), vi (J x3)]) rfl ?_
  obtain ⟨a_3, e_4, k⟩ := k
  rw [e_4]
  obtain ⟨t_5, k⟩ := k
  obtain ⟨t_6, k⟩ := k
  refine R_ziald (i := 117) rfl (Or.inl t_5) t_6 ?_
  refine R_zif (x := x3) (z := ai h a_3 117) rfl r3 (ai_in _ _ _) (fun c_7 => ?_) (fun c_7 => ?_)
  · have k := k.2 c_7
    refine R_ps 1 (pc2 := 76) (L2 := [some (vr (some w)), some (vi (J x1)), some (vi (J x2)), some (vi (J x3))]) (st2 := [vr (some w)]) rfl ?_
    refine R_getR rfl t0 ?_
    refine R_ps 2 (pc2 := 83) (L2 := [some (vr (some w)), some (vi (J x1)), some (vi (J x2)), some (vi (J x3))]) (st2 := [vi (J 448), vr (gr h w 1), vi (J 448), vr (gr h w 1)]) rfl ?_
    obtain ⟨a_10, e_11, k⟩ := k
    rw [e_11]
    obtain ⟨t_12, k⟩ := k
    obtain ⟨t_13, k⟩ := k
    refine R_ziald (i := 448) rfl (Or.inl t_12) t_13 ?_
    refine R_ps 2 (pc2 := 86) (L2 := [some (vr (some w)), some (vi (J x1)), some (vi (J x2)), some (vi (J x3))]) (st2 := [vi ((J (ai h a_10 448)) + (J 1)), vi (J 448), vr (some a_10)]) rfl ?_
    rw [show ((J (ai h a_10 448)) + (J 1)) = J ((ai h a_10 448) + 1) from J_add' rfl rfl]
    refine R_ziast (i := 448) (x := (ai h a_10 448) + 1) rfl t_12 t_13  ?_
    show WP T N _ _ _ _ (wi h a_10 448 ((ai h a_10 448) + 1)) _
    generalize e_16 : wi h a_10 448 ((ai h a_10 448) + 1) = h_15
    replace k := k h_15 e_16.symm
    refine R_ps 2 (pc2 := 89) (L2 := [some (vr (some w)), some (vi (J x1)), some (vi (J x2)), some (vi (J 0))]) (st2 := []) rfl ?_
    exact k
  · have k := k.1 (Classical.not_not.mp c_7)
    refine R_ps 3 (pc2 := 28) (L2 := [some (vr (some w)), some (vi (J x1)), some (vi (J x2)), some (vi (J x3))]) (st2 := [vi (J 0), vi (J x3), vr (some w)]) rfl ?_
    refine R_zcI (as := [vr (some w), vi (J x3), vi (J 0)]) rfl rfl ⟨Nat.le_of_ble_eq_true rfl, Nat.le_of_ble_eq_true rfl, rfl, (Or.inr ⟨_, rfl, t0⟩)⟩ rfl rfl k (fun x_19 h_18 r_20 k => ?_)
    refine R_ps 1 (pc2 := 32) (L2 := [some (vr (some w)), some (vi (J x1)), some (vi (J x2)), some (vi (J x3))]) (st2 := [vi (J 2), vi (J x_19)]) rfl ?_
    refine R_zif (x := x_19) (z := 2) rfl r_20 (by decide) (fun c_21 => ?_) (fun c_21 => ?_)
    · have k := k.2 c_21
      refine R_ps 2 (pc2 := 14) (L2 := [some (vr (some w)), some (vi (J x1)), some (vi (J x2)), some (vi ((J x3) + J 1))]) (st2 := []) rfl ?_
      rw [show ((J x3) + J 1) = J (x3 + 1) from J_add' rfl rfl]
      exact k
    · have k := k.1 (Classical.not_not.mp c_21)
      refine R_ps 3 (pc2 := 38) (L2 := [some (vr (some w)), some (vi (J x1)), some (vi (J x2)), some (vi (J x3))]) (st2 := [vi (J 5), vi (J x3), vr (some w)]) rfl ?_
      refine R_zcI (as := [vr (some w), vi (J x3), vi (J 5)]) rfl rfl ⟨Nat.le_of_ble_eq_true rfl, Nat.le_of_ble_eq_true rfl, rfl, (Or.inr ⟨_, rfl, t0⟩)⟩ rfl rfl k (fun x_24 h_23 r_25 k => ?_)
      refine R_zif0 (x := x_24) rfl r_25 (fun c_26 => ?_) (fun c_26 => ?_)
      · have k := k.2 c_26
        refine R_ps 2 (pc2 := 14) (L2 := [some (vr (some w)), some (vi (J x1)), some (vi (J x2)), some (vi ((J x3) + J 1))]) (st2 := []) rfl ?_
        rw [show ((J x3) + J 1) = J (x3 + 1) from J_add' rfl rfl]
        exact k
      · have k := k.1 (Classical.not_not.mp c_26)
        refine R_ps 3 (pc2 := 47) (L2 := [some (vr (some w)), some (vi (J x1)), some (vi (J x2)), some (vi (J x3))]) (st2 := [vi (J 0), vi (J x3), vr (some w)]) rfl ?_
        refine R_zcI (as := [vr (some w), vi (J x3), vi (J 0)]) rfl rfl ⟨Nat.le_of_ble_eq_true rfl, Nat.le_of_ble_eq_true rfl, rfl, (Or.inr ⟨_, rfl, t0⟩)⟩ rfl rfl k (fun x_29 h_28 r_30 k => ?_)
        refine R_zcI (as := [vi (J x_29)]) rfl rfl ⟨Nat.le_of_ble_eq_true rfl, Nat.le_of_ble_eq_true rfl, rfl, (Or.inl rfl)⟩ rfl rfl k (fun x_33 h_32 r_34 k => ?_)
        refine R_ps 1 (pc2 := 54) (L2 := [some (vr (some w)), some (vi (J x1)), some (vi (J x2)), some (vi (J x3))]) (st2 := [vr (some w), vi (J x_33)]) rfl ?_
        refine R_getR rfl t0 ?_
        refine R_ps 1 (pc2 := 60) (L2 := [some (vr (some w)), some (vi (J x1)), some (vi (J x2)), some (vi (J x3))]) (st2 := [vi (J 448), vr (gr h_32 w 1), vi (J x_33)]) rfl ?_
        obtain ⟨a_37, e_38, k⟩ := k
        rw [e_38]
        obtain ⟨t_39, k⟩ := k
        obtain ⟨t_40, k⟩ := k
        refine R_ziald (i := 448) rfl (Or.inl t_39) t_40 ?_
        refine R_zif (x := x_33) (z := ai h_32 a_37 448) rfl r_34 (ai_in _ _ _) (fun c_41 => ?_) (fun c_41 => ?_)
        · have k := k.2 c_41
          refine R_ps 2 (pc2 := 14) (L2 := [some (vr (some w)), some (vi (J x1)), some (vi (J x2)), some (vi ((J x3) + J 1))]) (st2 := []) rfl ?_
          rw [show ((J x3) + J 1) = J (x3 + 1) from J_add' rfl rfl]
          exact k
        · have k := k.1 (Classical.not_not.mp c_41)
          refine R_ps 2 (pc2 := 66) (L2 := [some (vr (some w)), some (vi (J x1)), some (vi (J x2)), some (vi (J x3))]) (st2 := [vi (J x3), vr (some w)]) rfl ?_
          refine R_cV (as := [vr (some w), vi (J x3)]) rfl rfl ⟨Nat.le_of_ble_eq_true rfl, Nat.le_of_ble_eq_true rfl, rfl, (Or.inr ⟨_, rfl, t0⟩)⟩ rfl rfl k (fun h_43 k => ?_)
          refine R_ps 2 (pc2 := 14) (L2 := [some (vr (some w)), some (vi (J x1)), some (vi (J x2)), some (vi ((J x3) + J 1))]) (st2 := []) rfl ?_
          rw [show ((J x3) + J 1) = J (x3 + 1) from J_add' rfl rfl]
          exact k
theorem z231_89 {T N : Nat → Nat} {h : PH} {w : Nat} {x1 : Int} {x2 : Int} {x3 : Int} {K : PH → Prop} (t0 : T w = 12) (r1 : In x1) (r2 : In x2) (r3 : In x3) (k : (∃ a_3, (gr h w 1) = some a_3 ∧ T a_3 = 22 ∧ (0 ≤ (117 : Int) ∧ (117 : Int) < (N a_3 : Int) ∧ (117 : Int) < 2147483648) ∧ ((x3 < (ai h a_3 117) → (ZI T N 168 [vr (some w), vi (J x3), vi (J 0)] h (fun x_10 h_9 => (((x_10 = 0 → (CV T N 230 [vr (some w), vi (J x3)] h_9 (fun h_14 => (WV T N 231 89 [some (vr (some w)), some (vi (J x1)), some (vi (J x2)), some (vi (J (x3 + 1)))] [] h_14 K)))) ∧ (¬ (x_10 = 0) → ((x_10 = 1 → (CV T N 229 [vr (some w), vi (J x3)] h_9 (fun h_17 => (WV T N 231 89 [some (vr (some w)), some (vi (J x1)), some (vi (J x2)), some (vi (J (x3 + 1)))] [] h_17 K)))) ∧ (¬ (x_10 = 1) → ((x_10 = 2 → (CV T N 228 [vr (some w), vi (J x3)] h_9 (fun h_20 => (WV T N 231 89 [some (vr (some w)), some (vi (J x1)), some (vi (J x2)), some (vi (J (x3 + 1)))] [] h_20 K)))) ∧ (¬ (x_10 = 2) → (WV T N 231 89 [some (vr (some w)), some (vi (J x1)), some (vi (J x2)), some (vi (J (x3 + 1)))] [] h_9 K))))))))))) ∧ (¬ (x3 < (ai h a_3 117)) → (WV T N 231 7 [some (vr (some w)), some (vi (J x1)), some (vi (J (x2 + 1))), none] [] h K))))) : WV T N 231 89 [some (vr (some w)), some (vi (J x1)), some (vi (J x2)), some (vi (J x3))] [] h K := by
  show WP T N 231 89 [some (vr (some w)), some (vi (J x1)), some (vi (J x2)), some (vi (J x3))] [] h _
  refine R_ps 2 (pc2 := 91) (L2 := [some (vr (some w)), some (vi (J x1)), some (vi (J x2)), some (vi (J x3))]) (st2 := [vr (some w), vi (J x3)]) rfl ?_
  refine R_getR rfl t0 ?_
  refine R_ps 1 (pc2 := 96) (L2 := [some (vr (some w)), some (vi (J x1)), some (vi (J x2)), some (vi (J x3))]) (st2 := [vi (J 117), vr (gr h w 1), vi (J x3)]) rfl ?_
  obtain ⟨a_3, e_4, k⟩ := k
  rw [e_4]
  obtain ⟨t_5, k⟩ := k
  obtain ⟨t_6, k⟩ := k
  refine R_ziald (i := 117) rfl (Or.inl t_5) t_6 ?_
  refine R_zif (x := x3) (z := ai h a_3 117) rfl r3 (ai_in _ _ _) (fun c_7 => ?_) (fun c_7 => ?_)
  · have k := k.2 c_7
    refine R_ps 2 (pc2 := 7) (L2 := [some (vr (some w)), some (vi (J x1)), some (vi ((J x2) + J 1)), some (vi (J x3))]) (st2 := []) rfl ?_
    rw [show ((J x2) + J 1) = J (x2 + 1) from J_add' rfl rfl]
    exact R_drop k (LE_of (L := [some (vr (some w)), some (vi (J x1)), some (vi (J (x2 + 1))), none]) (L2 := [some (vr (some w)), some (vi (J x1)), some (vi (J (x2 + 1))), some (vi (J x3))]) ⟨rfl, rfl, rfl, trivial⟩)
  · have k := k.1 (Classical.not_not.mp c_7)
    refine R_ps 3 (pc2 := 103) (L2 := [some (vr (some w)), some (vi (J x1)), some (vi (J x2)), some (vi (J x3))]) (st2 := [vi (J 0), vi (J x3), vr (some w)]) rfl ?_
    refine R_zcI (as := [vr (some w), vi (J x3), vi (J 0)]) rfl rfl ⟨Nat.le_of_ble_eq_true rfl, Nat.le_of_ble_eq_true rfl, rfl, (Or.inr ⟨_, rfl, t0⟩)⟩ rfl rfl k (fun x_10 h_9 r_11 k => ?_)
    refine R_ztsw (x := x_10) rfl rfl r_11 ?_
    refine ⟨fun c_12 => ?_, fun c_12 => ?_⟩
    · have k := k.1 c_12
      show WP T N _ 132 _ _ _ _
      refine R_ps 2 (pc2 := 134) (L2 := [some (vr (some w)), some (vi (J x1)), some (vi (J x2)), some (vi (J x3))]) (st2 := [vi (J x3), vr (some w)]) rfl ?_
      refine R_cV (as := [vr (some w), vi (J x3)]) rfl rfl ⟨Nat.le_of_ble_eq_true rfl, Nat.le_of_ble_eq_true rfl, rfl, (Or.inr ⟨_, rfl, t0⟩)⟩ rfl rfl k (fun h_14 k => ?_)
      refine R_ps 3 (pc2 := 89) (L2 := [some (vr (some w)), some (vi (J x1)), some (vi (J x2)), some (vi ((J x3) + J 1))]) (st2 := []) rfl ?_
      rw [show ((J x3) + J 1) = J (x3 + 1) from J_add' rfl rfl]
      exact k
    replace k := k.2 c_12
    refine ⟨fun c_12 => ?_, fun c_12 => ?_⟩
    · have k := k.1 c_12
      show WP T N _ 140 _ _ _ _
      refine R_ps 2 (pc2 := 142) (L2 := [some (vr (some w)), some (vi (J x1)), some (vi (J x2)), some (vi (J x3))]) (st2 := [vi (J x3), vr (some w)]) rfl ?_
      refine R_cV (as := [vr (some w), vi (J x3)]) rfl rfl ⟨Nat.le_of_ble_eq_true rfl, Nat.le_of_ble_eq_true rfl, rfl, (Or.inr ⟨_, rfl, t0⟩)⟩ rfl rfl k (fun h_17 k => ?_)
      refine R_ps 3 (pc2 := 89) (L2 := [some (vr (some w)), some (vi (J x1)), some (vi (J x2)), some (vi ((J x3) + J 1))]) (st2 := []) rfl ?_
      rw [show ((J x3) + J 1) = J (x3 + 1) from J_add' rfl rfl]
      exact k
    replace k := k.2 c_12
    refine ⟨fun c_12 => ?_, fun c_12 => ?_⟩
    · have k := k.1 c_12
      show WP T N _ 148 _ _ _ _
      refine R_ps 2 (pc2 := 150) (L2 := [some (vr (some w)), some (vi (J x1)), some (vi (J x2)), some (vi (J x3))]) (st2 := [vi (J x3), vr (some w)]) rfl ?_
      refine R_cV (as := [vr (some w), vi (J x3)]) rfl rfl ⟨Nat.le_of_ble_eq_true rfl, Nat.le_of_ble_eq_true rfl, rfl, (Or.inr ⟨_, rfl, t0⟩)⟩ rfl rfl k (fun h_20 k => ?_)
      refine R_ps 3 (pc2 := 89) (L2 := [some (vr (some w)), some (vi (J x1)), some (vi (J x2)), some (vi ((J x3) + J 1))]) (st2 := []) rfl ?_
      rw [show ((J x3) + J 1) = J (x3 + 1) from J_add' rfl rfl]
      exact k
    replace k := k.2 c_12
    show WP T N _ 156 _ _ _ _
    refine R_ps 2 (pc2 := 89) (L2 := [some (vr (some w)), some (vi (J x1)), some (vi (J x2)), some (vi ((J x3) + J 1))]) (st2 := []) rfl ?_
    rw [show ((J x3) + J 1) = J (x3 + 1) from J_add' rfl rfl]
    exact k
/-- DroneCorridorsModel.advance -/
theorem z232 {T N : Nat → Nat} {h : PH} {w : Nat} {x1 : Int} {K : Int → PH → Prop} (t0 : T w = 12) (r1 : In x1) (k : (ZI T N 158 [vi (J x1), vi (J 1), vi (J 40)] h (fun x_3 h_2 => (((x_3 = 0 → (∀ h_43, h_43 = wi h_2 w 0 1 → ((0 < (ai h_43 w 0) → (K 0 h_43)) ∧ (¬ (0 < (ai h_43 w 0)) → (CV T N 160 [vr (some w)] h_43 (fun h_48 => (CV T N 231 [vr (some w), vi (J x1)] h_48 (fun h_51 => (K (ai h_51 w 23) h_51))))))))) ∧ (¬ (x_3 = 0) → (∃ a_8, (gr h_2 w 1) = some a_8 ∧ T a_8 = 22 ∧ (0 ≤ (448 : Int) ∧ (448 : Int) < (N a_8 : Int) ∧ (448 : Int) < 2147483648) ∧ In ((ai h_2 a_8 448) + x1) ∧ ((10000 < ((ai h_2 a_8 448) + x1) → (∀ h_29, h_29 = wi h_2 w 0 2 → ((0 < (ai h_29 w 0) → (K 0 h_29)) ∧ (¬ (0 < (ai h_29 w 0)) → (CV T N 160 [vr (some w)] h_29 (fun h_34 => (CV T N 231 [vr (some w), vi (J x1)] h_34 (fun h_37 => (K (ai h_37 w 23) h_37))))))))) ∧ (¬ (10000 < ((ai h_2 a_8 448) + x1)) → (∀ h_15, h_15 = wi h_2 w 0 0 → ((0 < (ai h_15 w 0) → (K 0 h_15)) ∧ (¬ (0 < (ai h_15 w 0)) → (CV T N 160 [vr (some w)] h_15 (fun h_20 => (CV T N 231 [vr (some w), vi (J x1)] h_20 (fun h_23 => (K (ai h_23 w 23) h_23))))))))))))))))) : ZI T N 232 [vr (some w), vi (J x1)] h K := by
  show WP T N 232 0 [some (vr (some w)), some (vi (J x1))] [] h _
  refine R_ps 4 (pc2 := 5) (L2 := [some (vr (some w)), some (vi (J x1))]) (st2 := [vi (J 40), vi (J 1), vi (J x1), vr (some w)]) rfl ?_
  refine R_zcI (as := [vi (J x1), vi (J 1), vi (J 40)]) rfl rfl ⟨Nat.le_of_ble_eq_true rfl, Nat.le_of_ble_eq_true rfl, rfl, (Or.inl rfl)⟩ rfl rfl k (fun x_3 h_2 r_4 k => ?_)
  refine R_zif0 (x := x_3) rfl r_4 (fun c_5 => ?_) (fun c_5 => ?_)
  · have k := k.2 c_5
    refine R_ps 1 (pc2 := 16) (L2 := [some (vr (some w)), some (vi (J x1))]) (st2 := [vr (some w), vr (some w)]) rfl ?_
    refine R_getR rfl t0 ?_
    refine R_ps 1 (pc2 := 22) (L2 := [some (vr (some w)), some (vi (J x1))]) (st2 := [vi (J 448), vr (gr h_2 w 1), vr (some w)]) rfl ?_
    obtain ⟨a_8, e_9, k⟩ := k
    rw [e_9]
    obtain ⟨t_10, k⟩ := k
    obtain ⟨t_11, k⟩ := k
    refine R_ziald (i := 448) rfl (Or.inl t_10) t_11 ?_
    refine R_ps 3 (pc2 := 28) (L2 := [some (vr (some w)), some (vi (J x1))]) (st2 := [vi (J 10000), vi ((J (ai h_2 a_8 448)) + (J x1)), vr (some w)]) rfl ?_
    rw [show ((J (ai h_2 a_8 448)) + (J x1)) = J ((ai h_2 a_8 448) + x1) from J_add' rfl rfl]
    obtain ⟨t_13, k⟩ := k
    refine R_zif (x := (ai h_2 a_8 448) + x1) (z := 10000) rfl t_13 (by decide) (fun c_12 => ?_) (fun c_12 => ?_)
    · have k := k.2 c_12
      refine R_ps 1 (pc2 := 36) (L2 := [some (vr (some w)), some (vi (J x1))]) (st2 := [vi (J 0), vr (some w)]) rfl ?_
      refine R_zputI (x := 0) (z := 0) rfl t0 rfl ?_
      show WP T N _ _ _ _ (wi h_2 w 0 0) _
      generalize e_16 : wi h_2 w 0 0 = h_15
      replace k := k h_15 e_16.symm
      refine R_ps 1 (pc2 := 40) (L2 := [some (vr (some w)), some (vi (J x1))]) (st2 := [vr (some w)]) rfl ?_
      refine R_zgetI (z := 0) rfl t0 rfl ?_
      refine R_zif0 (x := ai h_15 w 0) rfl (ai_in _ _ _) (fun c_18 => ?_) (fun c_18 => ?_)
      · have k := k.2 c_18
        refine R_ps 1 (pc2 := 49) (L2 := [some (vr (some w)), some (vi (J x1))]) (st2 := [vr (some w)]) rfl ?_
        refine R_cV (as := [vr (some w)]) rfl rfl ⟨Nat.le_of_ble_eq_true rfl, Nat.le_of_ble_eq_true rfl, rfl, (Or.inr ⟨_, rfl, t0⟩)⟩ rfl rfl k (fun h_20 k => ?_)
        refine R_ps 2 (pc2 := 54) (L2 := [some (vr (some w)), some (vi (J x1))]) (st2 := [vi (J x1), vr (some w)]) rfl ?_
        refine R_cV (as := [vr (some w), vi (J x1)]) rfl rfl ⟨Nat.le_of_ble_eq_true rfl, Nat.le_of_ble_eq_true rfl, rfl, (Or.inr ⟨_, rfl, t0⟩)⟩ rfl rfl k (fun h_23 k => ?_)
        refine R_ps 1 (pc2 := 58) (L2 := [some (vr (some w)), some (vi (J x1))]) (st2 := [vr (some w)]) rfl ?_
        refine R_zgetI (z := 23) rfl t0 rfl ?_
        exact R_iret rfl rfl (R_zr (x := ai h_23 w 23) (K := K) (ai_in _ _ _) k)
      · have k := k.1 (Classical.not_not.mp c_18)
        refine R_ps 1 (pc2 := 47) (L2 := [some (vr (some w)), some (vi (J x1))]) (st2 := [vi (J 0)]) rfl ?_
        exact R_iret rfl rfl (R_zr (x := 0) (K := K) (by decide) k)
    · have k := k.1 (Classical.not_not.mp c_12)
      refine R_ps 2 (pc2 := 36) (L2 := [some (vr (some w)), some (vi (J x1))]) (st2 := [vi (J 2), vr (some w)]) rfl ?_
      refine R_zputI (x := 2) (z := 0) rfl t0 rfl ?_
      show WP T N _ _ _ _ (wi h_2 w 0 2) _
      generalize e_30 : wi h_2 w 0 2 = h_29
      replace k := k h_29 e_30.symm
      refine R_ps 1 (pc2 := 40) (L2 := [some (vr (some w)), some (vi (J x1))]) (st2 := [vr (some w)]) rfl ?_
      refine R_zgetI (z := 0) rfl t0 rfl ?_
      refine R_zif0 (x := ai h_29 w 0) rfl (ai_in _ _ _) (fun c_32 => ?_) (fun c_32 => ?_)
      · have k := k.2 c_32
        refine R_ps 1 (pc2 := 49) (L2 := [some (vr (some w)), some (vi (J x1))]) (st2 := [vr (some w)]) rfl ?_
        refine R_cV (as := [vr (some w)]) rfl rfl ⟨Nat.le_of_ble_eq_true rfl, Nat.le_of_ble_eq_true rfl, rfl, (Or.inr ⟨_, rfl, t0⟩)⟩ rfl rfl k (fun h_34 k => ?_)
        refine R_ps 2 (pc2 := 54) (L2 := [some (vr (some w)), some (vi (J x1))]) (st2 := [vi (J x1), vr (some w)]) rfl ?_
        refine R_cV (as := [vr (some w), vi (J x1)]) rfl rfl ⟨Nat.le_of_ble_eq_true rfl, Nat.le_of_ble_eq_true rfl, rfl, (Or.inr ⟨_, rfl, t0⟩)⟩ rfl rfl k (fun h_37 k => ?_)
        refine R_ps 1 (pc2 := 58) (L2 := [some (vr (some w)), some (vi (J x1))]) (st2 := [vr (some w)]) rfl ?_
        refine R_zgetI (z := 23) rfl t0 rfl ?_
        exact R_iret rfl rfl (R_zr (x := ai h_37 w 23) (K := K) (ai_in _ _ _) k)
      · have k := k.1 (Classical.not_not.mp c_32)
        refine R_ps 1 (pc2 := 47) (L2 := [some (vr (some w)), some (vi (J x1))]) (st2 := [vi (J 0)]) rfl ?_
        exact R_iret rfl rfl (R_zr (x := 0) (K := K) (by decide) k)
  · have k := k.1 (Classical.not_not.mp c_5)
    refine R_ps 2 (pc2 := 36) (L2 := [some (vr (some w)), some (vi (J x1))]) (st2 := [vi (J 1), vr (some w)]) rfl ?_
    refine R_zputI (x := 1) (z := 0) rfl t0 rfl ?_
    show WP T N _ _ _ _ (wi h_2 w 0 1) _
    generalize e_44 : wi h_2 w 0 1 = h_43
    replace k := k h_43 e_44.symm
    refine R_ps 1 (pc2 := 40) (L2 := [some (vr (some w)), some (vi (J x1))]) (st2 := [vr (some w)]) rfl ?_
    refine R_zgetI (z := 0) rfl t0 rfl ?_
    refine R_zif0 (x := ai h_43 w 0) rfl (ai_in _ _ _) (fun c_46 => ?_) (fun c_46 => ?_)
    · have k := k.2 c_46
      refine R_ps 1 (pc2 := 49) (L2 := [some (vr (some w)), some (vi (J x1))]) (st2 := [vr (some w)]) rfl ?_
      refine R_cV (as := [vr (some w)]) rfl rfl ⟨Nat.le_of_ble_eq_true rfl, Nat.le_of_ble_eq_true rfl, rfl, (Or.inr ⟨_, rfl, t0⟩)⟩ rfl rfl k (fun h_48 k => ?_)
      refine R_ps 2 (pc2 := 54) (L2 := [some (vr (some w)), some (vi (J x1))]) (st2 := [vi (J x1), vr (some w)]) rfl ?_
      refine R_cV (as := [vr (some w), vi (J x1)]) rfl rfl ⟨Nat.le_of_ble_eq_true rfl, Nat.le_of_ble_eq_true rfl, rfl, (Or.inr ⟨_, rfl, t0⟩)⟩ rfl rfl k (fun h_51 k => ?_)
      refine R_ps 1 (pc2 := 58) (L2 := [some (vr (some w)), some (vi (J x1))]) (st2 := [vr (some w)]) rfl ?_
      refine R_zgetI (z := 23) rfl t0 rfl ?_
      exact R_iret rfl rfl (R_zr (x := ai h_51 w 23) (K := K) (ai_in _ _ _) k)
    · have k := k.1 (Classical.not_not.mp c_46)
      refine R_ps 1 (pc2 := 47) (L2 := [some (vr (some w)), some (vi (J x1))]) (st2 := [vi (J 0)]) rfl ?_
      exact R_iret rfl rfl (R_zr (x := 0) (K := K) (by decide) k)
/-- DroneCorridorsModel.placeAfter -/
theorem z233 {T N : Nat → Nat} {h : PH} {w : Nat} {x1 : Int} {x2 : Int} {K : Int → PH → Prop} (t0 : T w = 12) (r1 : In x1) (r2 : In x2) (k : (ZI T N 164 [vr (some w), vi (J x1)] h (fun x_3 h_2 => (((x_3 = 0 → (∀ h_100, h_100 = wi h_2 w 0 1 → ((0 < (ai h_100 w 0) → (K 0 h_100)) ∧ (¬ (0 < (ai h_100 w 0)) → (CV T N 161 [vr (gr h_100 w 1), vr (gr h_100 w 3)] h_100 (fun h_107 => (CV T N 231 [vr (some w), vi (J x2)] h_107 (fun h_110 => (ZI T N 168 [vr (some w), vi (J x1), vi (J 0)] h_110 (fun x_114 h_113 => (((x_114 = 2 → (ZI T N 186 [vr (some w), vi (J x1), vi (J 0)] h_113 (fun x_129 h_128 => (ZI T N 187 [vi (J x_129)] h_128 (fun x_133 h_132 => (CV T N 161 [vr (gr h_132 w 3), vr (gr h_132 w 1)] h_132 (fun h_138 => (In (100 + x_133) ∧ K (100 + x_133) h_138)))))))) ∧ (¬ (x_114 = 2) → (ZI T N 168 [vr (some w), vi (J x1), vi (J 3)] h_113 (fun x_119 h_118 => (CV T N 161 [vr (gr h_118 w 3), vr (gr h_118 w 1)] h_118 (fun h_124 => (K x_119 h_124)))))))))))))))))) ∧ (¬ (x_3 = 0) → (ZI T N 158 [vi (J x2), vi (J 0), vi (J 40)] h_2 (fun x_8 h_7 => (((x_8 = 0 → (∀ h_56, h_56 = wi h_7 w 0 2 → ((0 < (ai h_56 w 0) → (K 0 h_56)) ∧ (¬ (0 < (ai h_56 w 0)) → (CV T N 161 [vr (gr h_56 w 1), vr (gr h_56 w 3)] h_56 (fun h_63 => (CV T N 231 [vr (some w), vi (J x2)] h_63 (fun h_66 => (ZI T N 168 [vr (some w), vi (J x1), vi (J 0)] h_66 (fun x_70 h_69 => (((x_70 = 2 → (ZI T N 186 [vr (some w), vi (J x1), vi (J 0)] h_69 (fun x_85 h_84 => (ZI T N 187 [vi (J x_85)] h_84 (fun x_89 h_88 => (CV T N 161 [vr (gr h_88 w 3), vr (gr h_88 w 1)] h_88 (fun h_94 => (In (100 + x_89) ∧ K (100 + x_89) h_94)))))))) ∧ (¬ (x_70 = 2) → (ZI T N 168 [vr (some w), vi (J x1), vi (J 3)] h_69 (fun x_75 h_74 => (CV T N 161 [vr (gr h_74 w 3), vr (gr h_74 w 1)] h_74 (fun h_80 => (K x_75 h_80)))))))))))))))))) ∧ (¬ (x_8 = 0) → (∀ h_12, h_12 = wi h_7 w 0 0 → ((0 < (ai h_12 w 0) → (K 0 h_12)) ∧ (¬ (0 < (ai h_12 w 0)) → (CV T N 161 [vr (gr h_12 w 1), vr (gr h_12 w 3)] h_12 (fun h_19 => (CV T N 231 [vr (some w), vi (J x2)] h_19 (fun h_22 => (ZI T N 168 [vr (some w), vi (J x1), vi (J 0)] h_22 (fun x_26 h_25 => (((x_26 = 2 → (ZI T N 186 [vr (some w), vi (J x1), vi (J 0)] h_25 (fun x_41 h_40 => (ZI T N 187 [vi (J x_41)] h_40 (fun x_45 h_44 => (CV T N 161 [vr (gr h_44 w 3), vr (gr h_44 w 1)] h_44 (fun h_50 => (In (100 + x_45) ∧ K (100 + x_45) h_50)))))))) ∧ (¬ (x_26 = 2) → (ZI T N 168 [vr (some w), vi (J x1), vi (J 3)] h_25 (fun x_31 h_30 => (CV T N 161 [vr (gr h_30 w 3), vr (gr h_30 w 1)] h_30 (fun h_36 => (K x_31 h_36)))))))))))))))))))))))))))) : ZI T N 233 [vr (some w), vi (J x1), vi (J x2)] h K := by
  show WP T N 233 0 [some (vr (some w)), some (vi (J x1)), some (vi (J x2)), none] [] h _
  refine R_ps 3 (pc2 := 3) (L2 := [some (vr (some w)), some (vi (J x1)), some (vi (J x2)), none]) (st2 := [vi (J x1), vr (some w), vr (some w)]) rfl ?_
  refine R_zcI (as := [vr (some w), vi (J x1)]) rfl rfl ⟨Nat.le_of_ble_eq_true rfl, Nat.le_of_ble_eq_true rfl, rfl, (Or.inr ⟨_, rfl, t0⟩)⟩ rfl rfl k (fun x_3 h_2 r_4 k => ?_)
  refine R_zif0 (x := x_3) rfl r_4 (fun c_5 => ?_) (fun c_5 => ?_)
  · have k := k.2 c_5
    refine R_ps 3 (pc2 := 17) (L2 := [some (vr (some w)), some (vi (J x1)), some (vi (J x2)), none]) (st2 := [vi (J 40), vi (J 0), vi (J x2), vr (some w)]) rfl ?_
    refine R_zcI (as := [vi (J x2), vi (J 0), vi (J 40)]) rfl rfl ⟨Nat.le_of_ble_eq_true rfl, Nat.le_of_ble_eq_true rfl, rfl, (Or.inl rfl)⟩ rfl rfl k (fun x_8 h_7 r_9 k => ?_)
    refine R_zif0 (x := x_8) rfl r_9 (fun c_10 => ?_) (fun c_10 => ?_)
    · have k := k.2 c_10
      refine R_ps 1 (pc2 := 28) (L2 := [some (vr (some w)), some (vi (J x1)), some (vi (J x2)), none]) (st2 := [vi (J 0), vr (some w)]) rfl ?_
      refine R_zputI (x := 0) (z := 0) rfl t0 rfl ?_
      show WP T N _ _ _ _ (wi h_7 w 0 0) _
      generalize e_13 : wi h_7 w 0 0 = h_12
      replace k := k h_12 e_13.symm
      refine R_ps 1 (pc2 := 32) (L2 := [some (vr (some w)), some (vi (J x1)), some (vi (J x2)), none]) (st2 := [vr (some w)]) rfl ?_
      refine R_zgetI (z := 0) rfl t0 rfl ?_
      refine R_zif0 (x := ai h_12 w 0) rfl (ai_in _ _ _) (fun c_15 => ?_) (fun c_15 => ?_)
      · have k := k.2 c_15
        refine R_ps 1 (pc2 := 41) (L2 := [some (vr (some w)), some (vi (J x1)), some (vi (J x2)), none]) (st2 := [vr (some w)]) rfl ?_
        refine R_getR rfl t0 ?_
        refine R_ps 1 (pc2 := 45) (L2 := [some (vr (some w)), some (vi (J x1)), some (vi (J x2)), none]) (st2 := [vr (some w), vr (gr h_12 w 1)]) rfl ?_
        refine R_getR rfl t0 ?_
        refine R_cV (as := [vr (gr h_12 w 1), vr (gr h_12 w 3)]) rfl rfl ⟨Nat.le_of_ble_eq_true rfl, Nat.le_of_ble_eq_true rfl, rfl, (Or.inl rfl)⟩ rfl rfl k (fun h_19 k => ?_)
        refine R_ps 2 (pc2 := 53) (L2 := [some (vr (some w)), some (vi (J x1)), some (vi (J x2)), none]) (st2 := [vi (J x2), vr (some w)]) rfl ?_
        refine R_cV (as := [vr (some w), vi (J x2)]) rfl rfl ⟨Nat.le_of_ble_eq_true rfl, Nat.le_of_ble_eq_true rfl, rfl, (Or.inr ⟨_, rfl, t0⟩)⟩ rfl rfl k (fun h_22 k => ?_)
        refine R_ps 3 (pc2 := 59) (L2 := [some (vr (some w)), some (vi (J x1)), some (vi (J x2)), none]) (st2 := [vi (J 0), vi (J x1), vr (some w)]) rfl ?_
        refine R_zcI (as := [vr (some w), vi (J x1), vi (J 0)]) rfl rfl ⟨Nat.le_of_ble_eq_true rfl, Nat.le_of_ble_eq_true rfl, rfl, (Or.inr ⟨_, rfl, t0⟩)⟩ rfl rfl k (fun x_26 h_25 r_27 k => ?_)
        refine R_ps 1 (pc2 := 63) (L2 := [some (vr (some w)), some (vi (J x1)), some (vi (J x2)), none]) (st2 := [vi (J 2), vi (J x_26)]) rfl ?_
        refine R_zif (x := x_26) (z := 2) rfl r_27 (by decide) (fun c_28 => ?_) (fun c_28 => ?_)
        · have k := k.2 c_28
          refine R_ps 3 (pc2 := 84) (L2 := [some (vr (some w)), some (vi (J x1)), some (vi (J x2)), none]) (st2 := [vi (J 3), vi (J x1), vr (some w)]) rfl ?_
          refine R_zcI (as := [vr (some w), vi (J x1), vi (J 3)]) rfl rfl ⟨Nat.le_of_ble_eq_true rfl, Nat.le_of_ble_eq_true rfl, rfl, (Or.inr ⟨_, rfl, t0⟩)⟩ rfl rfl k (fun x_31 h_30 r_32 k => ?_)
          refine R_ps 2 (pc2 := 89) (L2 := [some (vr (some w)), some (vi (J x1)), some (vi (J x2)), some (vi (J x_31))]) (st2 := [vr (some w)]) rfl ?_
          refine R_getR rfl t0 ?_
          refine R_ps 1 (pc2 := 93) (L2 := [some (vr (some w)), some (vi (J x1)), some (vi (J x2)), some (vi (J x_31))]) (st2 := [vr (some w), vr (gr h_30 w 3)]) rfl ?_
          refine R_getR rfl t0 ?_
          refine R_cV (as := [vr (gr h_30 w 3), vr (gr h_30 w 1)]) rfl rfl ⟨Nat.le_of_ble_eq_true rfl, Nat.le_of_ble_eq_true rfl, rfl, (Or.inl rfl)⟩ rfl rfl k (fun h_36 k => ?_)
          refine R_ps 1 (pc2 := 100) (L2 := [some (vr (some w)), some (vi (J x1)), some (vi (J x2)), some (vi (J x_31))]) (st2 := [vi (J x_31)]) rfl ?_
          exact R_iret rfl rfl (R_zr (x := x_31) (K := K) r_32 k)
        · have k := k.1 (Classical.not_not.mp c_28)
          refine R_ps 4 (pc2 := 71) (L2 := [some (vr (some w)), some (vi (J x1)), some (vi (J x2)), none]) (st2 := [vi (J 0), vi (J x1), vr (some w), vi (J 100)]) rfl ?_
          refine R_zcI (as := [vr (some w), vi (J x1), vi (J 0)]) rfl rfl ⟨Nat.le_of_ble_eq_true rfl, Nat.le_of_ble_eq_true rfl, rfl, (Or.inr ⟨_, rfl, t0⟩)⟩ rfl rfl k (fun x_41 h_40 r_42 k => ?_)
          refine R_zcI (as := [vi (J x_41)]) rfl rfl ⟨Nat.le_of_ble_eq_true rfl, Nat.le_of_ble_eq_true rfl, rfl, (Or.inl rfl)⟩ rfl rfl k (fun x_45 h_44 r_46 k => ?_)
          refine R_ps 4 (pc2 := 89) (L2 := [some (vr (some w)), some (vi (J x1)), some (vi (J x2)), some (vi ((J 100) + (J x_45)))]) (st2 := [vr (some w)]) rfl ?_
          rw [show ((J 100) + (J x_45)) = J (100 + x_45) from J_add' rfl rfl]
          refine R_getR rfl t0 ?_
          refine R_ps 1 (pc2 := 93) (L2 := [some (vr (some w)), some (vi (J x1)), some (vi (J x2)), some (vi (J (100 + x_45)))]) (st2 := [vr (some w), vr (gr h_44 w 3)]) rfl ?_
          refine R_getR rfl t0 ?_
          refine R_cV (as := [vr (gr h_44 w 3), vr (gr h_44 w 1)]) rfl rfl ⟨Nat.le_of_ble_eq_true rfl, Nat.le_of_ble_eq_true rfl, rfl, (Or.inl rfl)⟩ rfl rfl k (fun h_50 k => ?_)
          refine R_ps 1 (pc2 := 100) (L2 := [some (vr (some w)), some (vi (J x1)), some (vi (J x2)), some (vi (J (100 + x_45)))]) (st2 := [vi (J (100 + x_45))]) rfl ?_
          obtain ⟨t_53, k⟩ := k
          exact R_iret rfl rfl (R_zr (x := 100 + x_45) (K := K) t_53 k)
      · have k := k.1 (Classical.not_not.mp c_15)
        refine R_ps 1 (pc2 := 39) (L2 := [some (vr (some w)), some (vi (J x1)), some (vi (J x2)), none]) (st2 := [vi (J 0)]) rfl ?_
        exact R_iret rfl rfl (R_zr (x := 0) (K := K) (by decide) k)
    · have k := k.1 (Classical.not_not.mp c_10)
      refine R_ps 2 (pc2 := 28) (L2 := [some (vr (some w)), some (vi (J x1)), some (vi (J x2)), none]) (st2 := [vi (J 2), vr (some w)]) rfl ?_
      refine R_zputI (x := 2) (z := 0) rfl t0 rfl ?_
      show WP T N _ _ _ _ (wi h_7 w 0 2) _
      generalize e_57 : wi h_7 w 0 2 = h_56
      replace k := k h_56 e_57.symm
      refine R_ps 1 (pc2 := 32) (L2 := [some (vr (some w)), some (vi (J x1)), some (vi (J x2)), none]) (st2 := [vr (some w)]) rfl ?_
      refine R_zgetI (z := 0) rfl t0 rfl ?_
      refine R_zif0 (x := ai h_56 w 0) rfl (ai_in _ _ _) (fun c_59 => ?_) (fun c_59 => ?_)
      · have k := k.2 c_59
        refine R_ps 1 (pc2 := 41) (L2 := [some (vr (some w)), some (vi (J x1)), some (vi (J x2)), none]) (st2 := [vr (some w)]) rfl ?_
        refine R_getR rfl t0 ?_
        refine R_ps 1 (pc2 := 45) (L2 := [some (vr (some w)), some (vi (J x1)), some (vi (J x2)), none]) (st2 := [vr (some w), vr (gr h_56 w 1)]) rfl ?_
        refine R_getR rfl t0 ?_
        refine R_cV (as := [vr (gr h_56 w 1), vr (gr h_56 w 3)]) rfl rfl ⟨Nat.le_of_ble_eq_true rfl, Nat.le_of_ble_eq_true rfl, rfl, (Or.inl rfl)⟩ rfl rfl k (fun h_63 k => ?_)
        refine R_ps 2 (pc2 := 53) (L2 := [some (vr (some w)), some (vi (J x1)), some (vi (J x2)), none]) (st2 := [vi (J x2), vr (some w)]) rfl ?_
        refine R_cV (as := [vr (some w), vi (J x2)]) rfl rfl ⟨Nat.le_of_ble_eq_true rfl, Nat.le_of_ble_eq_true rfl, rfl, (Or.inr ⟨_, rfl, t0⟩)⟩ rfl rfl k (fun h_66 k => ?_)
        refine R_ps 3 (pc2 := 59) (L2 := [some (vr (some w)), some (vi (J x1)), some (vi (J x2)), none]) (st2 := [vi (J 0), vi (J x1), vr (some w)]) rfl ?_
        refine R_zcI (as := [vr (some w), vi (J x1), vi (J 0)]) rfl rfl ⟨Nat.le_of_ble_eq_true rfl, Nat.le_of_ble_eq_true rfl, rfl, (Or.inr ⟨_, rfl, t0⟩)⟩ rfl rfl k (fun x_70 h_69 r_71 k => ?_)
        refine R_ps 1 (pc2 := 63) (L2 := [some (vr (some w)), some (vi (J x1)), some (vi (J x2)), none]) (st2 := [vi (J 2), vi (J x_70)]) rfl ?_
        refine R_zif (x := x_70) (z := 2) rfl r_71 (by decide) (fun c_72 => ?_) (fun c_72 => ?_)
        · have k := k.2 c_72
          refine R_ps 3 (pc2 := 84) (L2 := [some (vr (some w)), some (vi (J x1)), some (vi (J x2)), none]) (st2 := [vi (J 3), vi (J x1), vr (some w)]) rfl ?_
          refine R_zcI (as := [vr (some w), vi (J x1), vi (J 3)]) rfl rfl ⟨Nat.le_of_ble_eq_true rfl, Nat.le_of_ble_eq_true rfl, rfl, (Or.inr ⟨_, rfl, t0⟩)⟩ rfl rfl k (fun x_75 h_74 r_76 k => ?_)
          refine R_ps 2 (pc2 := 89) (L2 := [some (vr (some w)), some (vi (J x1)), some (vi (J x2)), some (vi (J x_75))]) (st2 := [vr (some w)]) rfl ?_
          refine R_getR rfl t0 ?_
          refine R_ps 1 (pc2 := 93) (L2 := [some (vr (some w)), some (vi (J x1)), some (vi (J x2)), some (vi (J x_75))]) (st2 := [vr (some w), vr (gr h_74 w 3)]) rfl ?_
          refine R_getR rfl t0 ?_
          refine R_cV (as := [vr (gr h_74 w 3), vr (gr h_74 w 1)]) rfl rfl ⟨Nat.le_of_ble_eq_true rfl, Nat.le_of_ble_eq_true rfl, rfl, (Or.inl rfl)⟩ rfl rfl k (fun h_80 k => ?_)
          refine R_ps 1 (pc2 := 100) (L2 := [some (vr (some w)), some (vi (J x1)), some (vi (J x2)), some (vi (J x_75))]) (st2 := [vi (J x_75)]) rfl ?_
          exact R_iret rfl rfl (R_zr (x := x_75) (K := K) r_76 k)
        · have k := k.1 (Classical.not_not.mp c_72)
          refine R_ps 4 (pc2 := 71) (L2 := [some (vr (some w)), some (vi (J x1)), some (vi (J x2)), none]) (st2 := [vi (J 0), vi (J x1), vr (some w), vi (J 100)]) rfl ?_
          refine R_zcI (as := [vr (some w), vi (J x1), vi (J 0)]) rfl rfl ⟨Nat.le_of_ble_eq_true rfl, Nat.le_of_ble_eq_true rfl, rfl, (Or.inr ⟨_, rfl, t0⟩)⟩ rfl rfl k (fun x_85 h_84 r_86 k => ?_)
          refine R_zcI (as := [vi (J x_85)]) rfl rfl ⟨Nat.le_of_ble_eq_true rfl, Nat.le_of_ble_eq_true rfl, rfl, (Or.inl rfl)⟩ rfl rfl k (fun x_89 h_88 r_90 k => ?_)
          refine R_ps 4 (pc2 := 89) (L2 := [some (vr (some w)), some (vi (J x1)), some (vi (J x2)), some (vi ((J 100) + (J x_89)))]) (st2 := [vr (some w)]) rfl ?_
          rw [show ((J 100) + (J x_89)) = J (100 + x_89) from J_add' rfl rfl]
          refine R_getR rfl t0 ?_
          refine R_ps 1 (pc2 := 93) (L2 := [some (vr (some w)), some (vi (J x1)), some (vi (J x2)), some (vi (J (100 + x_89)))]) (st2 := [vr (some w), vr (gr h_88 w 3)]) rfl ?_
          refine R_getR rfl t0 ?_
          refine R_cV (as := [vr (gr h_88 w 3), vr (gr h_88 w 1)]) rfl rfl ⟨Nat.le_of_ble_eq_true rfl, Nat.le_of_ble_eq_true rfl, rfl, (Or.inl rfl)⟩ rfl rfl k (fun h_94 k => ?_)
          refine R_ps 1 (pc2 := 100) (L2 := [some (vr (some w)), some (vi (J x1)), some (vi (J x2)), some (vi (J (100 + x_89)))]) (st2 := [vi (J (100 + x_89))]) rfl ?_
          obtain ⟨t_97, k⟩ := k
          exact R_iret rfl rfl (R_zr (x := 100 + x_89) (K := K) t_97 k)
      · have k := k.1 (Classical.not_not.mp c_59)
        refine R_ps 1 (pc2 := 39) (L2 := [some (vr (some w)), some (vi (J x1)), some (vi (J x2)), none]) (st2 := [vi (J 0)]) rfl ?_
        exact R_iret rfl rfl (R_zr (x := 0) (K := K) (by decide) k)
  · have k := k.1 (Classical.not_not.mp c_5)
    refine R_ps 2 (pc2 := 28) (L2 := [some (vr (some w)), some (vi (J x1)), some (vi (J x2)), none]) (st2 := [vi (J 1), vr (some w)]) rfl ?_
    refine R_zputI (x := 1) (z := 0) rfl t0 rfl ?_
    show WP T N _ _ _ _ (wi h_2 w 0 1) _
    generalize e_101 : wi h_2 w 0 1 = h_100
    replace k := k h_100 e_101.symm
    refine R_ps 1 (pc2 := 32) (L2 := [some (vr (some w)), some (vi (J x1)), some (vi (J x2)), none]) (st2 := [vr (some w)]) rfl ?_
    refine R_zgetI (z := 0) rfl t0 rfl ?_
    refine R_zif0 (x := ai h_100 w 0) rfl (ai_in _ _ _) (fun c_103 => ?_) (fun c_103 => ?_)
    · have k := k.2 c_103
      refine R_ps 1 (pc2 := 41) (L2 := [some (vr (some w)), some (vi (J x1)), some (vi (J x2)), none]) (st2 := [vr (some w)]) rfl ?_
      refine R_getR rfl t0 ?_
      refine R_ps 1 (pc2 := 45) (L2 := [some (vr (some w)), some (vi (J x1)), some (vi (J x2)), none]) (st2 := [vr (some w), vr (gr h_100 w 1)]) rfl ?_
      refine R_getR rfl t0 ?_
      refine R_cV (as := [vr (gr h_100 w 1), vr (gr h_100 w 3)]) rfl rfl ⟨Nat.le_of_ble_eq_true rfl, Nat.le_of_ble_eq_true rfl, rfl, (Or.inl rfl)⟩ rfl rfl k (fun h_107 k => ?_)
      refine R_ps 2 (pc2 := 53) (L2 := [some (vr (some w)), some (vi (J x1)), some (vi (J x2)), none]) (st2 := [vi (J x2), vr (some w)]) rfl ?_
      refine R_cV (as := [vr (some w), vi (J x2)]) rfl rfl ⟨Nat.le_of_ble_eq_true rfl, Nat.le_of_ble_eq_true rfl, rfl, (Or.inr ⟨_, rfl, t0⟩)⟩ rfl rfl k (fun h_110 k => ?_)
      refine R_ps 3 (pc2 := 59) (L2 := [some (vr (some w)), some (vi (J x1)), some (vi (J x2)), none]) (st2 := [vi (J 0), vi (J x1), vr (some w)]) rfl ?_
      refine R_zcI (as := [vr (some w), vi (J x1), vi (J 0)]) rfl rfl ⟨Nat.le_of_ble_eq_true rfl, Nat.le_of_ble_eq_true rfl, rfl, (Or.inr ⟨_, rfl, t0⟩)⟩ rfl rfl k (fun x_114 h_113 r_115 k => ?_)
      refine R_ps 1 (pc2 := 63) (L2 := [some (vr (some w)), some (vi (J x1)), some (vi (J x2)), none]) (st2 := [vi (J 2), vi (J x_114)]) rfl ?_
      refine R_zif (x := x_114) (z := 2) rfl r_115 (by decide) (fun c_116 => ?_) (fun c_116 => ?_)
      · have k := k.2 c_116
        refine R_ps 3 (pc2 := 84) (L2 := [some (vr (some w)), some (vi (J x1)), some (vi (J x2)), none]) (st2 := [vi (J 3), vi (J x1), vr (some w)]) rfl ?_
        refine R_zcI (as := [vr (some w), vi (J x1), vi (J 3)]) rfl rfl ⟨Nat.le_of_ble_eq_true rfl, Nat.le_of_ble_eq_true rfl, rfl, (Or.inr ⟨_, rfl, t0⟩)⟩ rfl rfl k (fun x_119 h_118 r_120 k => ?_)
        refine R_ps 2 (pc2 := 89) (L2 := [some (vr (some w)), some (vi (J x1)), some (vi (J x2)), some (vi (J x_119))]) (st2 := [vr (some w)]) rfl ?_
        refine R_getR rfl t0 ?_
        refine R_ps 1 (pc2 := 93) (L2 := [some (vr (some w)), some (vi (J x1)), some (vi (J x2)), some (vi (J x_119))]) (st2 := [vr (some w), vr (gr h_118 w 3)]) rfl ?_
        refine R_getR rfl t0 ?_
        refine R_cV (as := [vr (gr h_118 w 3), vr (gr h_118 w 1)]) rfl rfl ⟨Nat.le_of_ble_eq_true rfl, Nat.le_of_ble_eq_true rfl, rfl, (Or.inl rfl)⟩ rfl rfl k (fun h_124 k => ?_)
        refine R_ps 1 (pc2 := 100) (L2 := [some (vr (some w)), some (vi (J x1)), some (vi (J x2)), some (vi (J x_119))]) (st2 := [vi (J x_119)]) rfl ?_
        exact R_iret rfl rfl (R_zr (x := x_119) (K := K) r_120 k)
      · have k := k.1 (Classical.not_not.mp c_116)
        refine R_ps 4 (pc2 := 71) (L2 := [some (vr (some w)), some (vi (J x1)), some (vi (J x2)), none]) (st2 := [vi (J 0), vi (J x1), vr (some w), vi (J 100)]) rfl ?_
        refine R_zcI (as := [vr (some w), vi (J x1), vi (J 0)]) rfl rfl ⟨Nat.le_of_ble_eq_true rfl, Nat.le_of_ble_eq_true rfl, rfl, (Or.inr ⟨_, rfl, t0⟩)⟩ rfl rfl k (fun x_129 h_128 r_130 k => ?_)
        refine R_zcI (as := [vi (J x_129)]) rfl rfl ⟨Nat.le_of_ble_eq_true rfl, Nat.le_of_ble_eq_true rfl, rfl, (Or.inl rfl)⟩ rfl rfl k (fun x_133 h_132 r_134 k => ?_)
        refine R_ps 4 (pc2 := 89) (L2 := [some (vr (some w)), some (vi (J x1)), some (vi (J x2)), some (vi ((J 100) + (J x_133)))]) (st2 := [vr (some w)]) rfl ?_
        rw [show ((J 100) + (J x_133)) = J (100 + x_133) from J_add' rfl rfl]
        refine R_getR rfl t0 ?_
        refine R_ps 1 (pc2 := 93) (L2 := [some (vr (some w)), some (vi (J x1)), some (vi (J x2)), some (vi (J (100 + x_133)))]) (st2 := [vr (some w), vr (gr h_132 w 3)]) rfl ?_
        refine R_getR rfl t0 ?_
        refine R_cV (as := [vr (gr h_132 w 3), vr (gr h_132 w 1)]) rfl rfl ⟨Nat.le_of_ble_eq_true rfl, Nat.le_of_ble_eq_true rfl, rfl, (Or.inl rfl)⟩ rfl rfl k (fun h_138 k => ?_)
        refine R_ps 1 (pc2 := 100) (L2 := [some (vr (some w)), some (vi (J x1)), some (vi (J x2)), some (vi (J (100 + x_133)))]) (st2 := [vi (J (100 + x_133))]) rfl ?_
        obtain ⟨t_141, k⟩ := k
        exact R_iret rfl rfl (R_zr (x := 100 + x_133) (K := K) t_141 k)
    · have k := k.1 (Classical.not_not.mp c_103)
      refine R_ps 1 (pc2 := 39) (L2 := [some (vr (some w)), some (vi (J x1)), some (vi (J x2)), none]) (st2 := [vi (J 0)]) rfl ?_
      exact R_iret rfl rfl (R_zr (x := 0) (K := K) (by decide) k)
/-- DroneCorridorsModel.pairs -/
theorem z234 {T N : Nat → Nat} {h : PH} {w : Nat} {x1 : Int} {K : Int → PH → Prop} (t0 : T w = 12) (r1 : In x1) (k : (∀ h_2, h_2 = wi h w 0 0 → ZW T N 234 9 [some (vr (some w)), some (vi (J x1)), some (vi (J 0)), some (vi (J 0)), none, none, none] [] h_2 K)) : ZI T N 234 [vr (some w), vi (J x1)] h K := by
  show WP T N 234 0 [some (vr (some w)), some (vi (J x1)), none, none, none, none, none] [] h _
  refine R_ps 2 (pc2 := 2) (L2 := [some (vr (some w)), some (vi (J x1)), none, none, none, none, none]) (st2 := [vi (J 0), vr (some w)]) rfl ?_
  refine R_zputI (x := 0) (z := 0) rfl t0 rfl ?_
  show WP T N _ _ _ _ (wi h w 0 0) _
  generalize e_3 : wi h w 0 0 = h_2
  replace k := k h_2 e_3.symm
  refine R_ps 4 (pc2 := 9) (L2 := [some (vr (some w)), some (vi (J x1)), some (vi (J 0)), some (vi (J 0)), none, none, none]) (st2 := []) rfl ?_
  exact k
theorem z234_9 {T N : Nat → Nat} {h : PH} {w : Nat} {x1 : Int} {x2 : Int} {x3 : Int} {K : Int → PH → Prop} (t0 : T w = 12) (r1 : In x1) (r2 : In x2) (r3 : In x3) (k : (∃ a_3, (gr h w 1) = some a_3 ∧ T a_3 = 22 ∧ (0 ≤ (117 : Int) ∧ (117 : Int) < (N a_3 : Int) ∧ (117 : Int) < 2147483648) ∧ ((x3 < (ai h a_3 117) → (ZW T N 234 23 [some (vr (some w)), some (vi (J x1)), some (vi (J x2)), some (vi (J x3)), some (vi (J 0)), none, none] [] h K)) ∧ (¬ (x3 < (ai h a_3 117)) → (K x2 h))))) : ZW T N 234 9 [some (vr (some w)), some (vi (J x1)), some (vi (J x2)), some (vi (J x3)), none, none, none] [] h K := by
  show WP T N 234 9 [some (vr (some w)), some (vi (J x1)), some (vi (J x2)), some (vi (J x3)), none, none, none] [] h _
  refine R_ps 2 (pc2 := 11) (L2 := [some (vr (some w)), some (vi (J x1)), some (vi (J x2)), some (vi (J x3)), none, none, none]) (st2 := [vr (some w), vi (J x3)]) rfl ?_
  refine R_getR rfl t0 ?_
  refine R_ps 1 (pc2 := 16) (L2 := [some (vr (some w)), some (vi (J x1)), some (vi (J x2)), some (vi (J x3)), none, none, none]) (st2 := [vi (J 117), vr (gr h w 1), vi (J x3)]) rfl ?_
  obtain ⟨a_3, e_4, k⟩ := k
  rw [e_4]
  obtain ⟨t_5, k⟩ := k
  obtain ⟨t_6, k⟩ := k
  refine R_ziald (i := 117) rfl (Or.inl t_5) t_6 ?_
  refine R_zif (x := x3) (z := ai h a_3 117) rfl r3 (ai_in _ _ _) (fun c_7 => ?_) (fun c_7 => ?_)
  · have k := k.2 c_7
    refine R_ps 1 (pc2 := 135) (L2 := [some (vr (some w)), some (vi (J x1)), some (vi (J x2)), some (vi (J x3)), none, none, none]) (st2 := [vi (J x2)]) rfl ?_
    exact R_iret rfl rfl (R_zr (x := x2) (K := K) r2 k)
  · have k := k.1 (Classical.not_not.mp c_7)
    refine R_ps 2 (pc2 := 23) (L2 := [some (vr (some w)), some (vi (J x1)), some (vi (J x2)), some (vi (J x3)), some (vi (J 0)), none, none]) (st2 := []) rfl ?_
    exact k
theorem z234_23 {T N : Nat → Nat} {h : PH} {w : Nat} {x1 : Int} {x2 : Int} {x3 : Int} {x4 : Int} {K : Int → PH → Prop} (r1 : In x1) (r2 : In x2) (r3 : In x3) (r4 : In x4) (k : (((x4 < x3 → (ZW T N 234 32 [some (vr (some w)), some (vi (J x1)), some (vi (J x2)), some (vi (J x3)), some (vi (J x4)), some (vi (J 0)), none] [] h K)) ∧ (¬ (x4 < x3) → (ZW T N 234 9 [some (vr (some w)), some (vi (J x1)), some (vi (J x2)), some (vi (J (x3 + 1))), none, none, none] [] h K))))) : ZW T N 234 23 [some (vr (some w)), some (vi (J x1)), some (vi (J x2)), some (vi (J x3)), some (vi (J x4)), none, none] [] h K := by
  show WP T N 234 23 [some (vr (some w)), some (vi (J x1)), some (vi (J x2)), some (vi (J x3)), some (vi (J x4)), none, none] [] h _
  refine R_ps 2 (pc2 := 26) (L2 := [some (vr (some w)), some (vi (J x1)), some (vi (J x2)), some (vi (J x3)), some (vi (J x4)), none, none]) (st2 := [vi (J x3), vi (J x4)]) rfl ?_
  refine R_zif (x := x4) (z := x3) rfl r4 r3 (fun c_1 => ?_) (fun c_1 => ?_)
  · have k := k.2 c_1
    refine R_ps 2 (pc2 := 9) (L2 := [some (vr (some w)), some (vi (J x1)), some (vi (J x2)), some (vi ((J x3) + J 1)), some (vi (J x4)), none, none]) (st2 := []) rfl ?_
    rw [show ((J x3) + J 1) = J (x3 + 1) from J_add' rfl rfl]
    exact R_drop k (LE_of (L := [some (vr (some w)), some (vi (J x1)), some (vi (J x2)), some (vi (J (x3 + 1))), none, none, none]) (L2 := [some (vr (some w)), some (vi (J x1)), some (vi (J x2)), some (vi (J (x3 + 1))), some (vi (J x4)), none, none]) ⟨rfl, rfl, rfl, rfl, trivial⟩)
  · have k := k.1 (Classical.not_not.mp c_1)
    refine R_ps 2 (pc2 := 32) (L2 := [some (vr (some w)), some (vi (J x1)), some (vi (J x2)), some (vi (J x3)), some (vi (J x4)), some (vi (J 0)), none]) (st2 := []) rfl ?_
    exact k
theorem z234_32 {T N : Nat → Nat} {h : PH} {w : Nat} {x1 : Int} {x2 : Int} {x3 : Int} {x4 : Int} {x5 : Int} {K : Int → PH → Prop} (t0 : T w = 12) (r1 : In x1) (r2 : In x2) (r3 : In x3) (r4 : In x4) (r5 : In x5) (k : (ZI T N 168 [vr (some w), vi (J x3), vi (J 5)] h (fun x_3 h_2 => (((x5 < x_3 → (ZW T N 234 46 [some (vr (some w)), some (vi (J x1)), some (vi (J x2)), some (vi (J x3)), some (vi (J x4)), some (vi (J x5)), some (vi (J 0))] [] h_2 K)) ∧ (¬ (x5 < x_3) → (ZW T N 234 23 [some (vr (some w)), some (vi (J x1)), some (vi (J x2)), some (vi (J x3)), some (vi (J (x4 + 1))), none, none] [] h_2 K))))))) : ZW T N 234 32 [some (vr (some w)), some (vi (J x1)), some (vi (J x2)), some (vi (J x3)), some (vi (J x4)), some (vi (J x5)), none] [] h K := by
  show WP T N 234 32 [some (vr (some w)), some (vi (J x1)), some (vi (J x2)), some (vi (J x3)), some (vi (J x4)), some (vi (J x5)), none] [] h _
  refine R_ps 4 (pc2 := 37) (L2 := [some (vr (some w)), some (vi (J x1)), some (vi (J x2)), some (vi (J x3)), some (vi (J x4)), some (vi (J x5)), none]) (st2 := [vi (J 5), vi (J x3), vr (some w), vi (J x5)]) rfl ?_
  refine R_zcI (as := [vr (some w), vi (J x3), vi (J 5)]) rfl rfl ⟨Nat.le_of_ble_eq_true rfl, Nat.le_of_ble_eq_true rfl, rfl, (Or.inr ⟨_, rfl, t0⟩)⟩ rfl rfl k (fun x_3 h_2 r_4 k => ?_)
  refine R_zif (x := x5) (z := x_3) rfl r5 r_4 (fun c_5 => ?_) (fun c_5 => ?_)
  · have k := k.2 c_5
    refine R_ps 2 (pc2 := 23) (L2 := [some (vr (some w)), some (vi (J x1)), some (vi (J x2)), some (vi (J x3)), some (vi ((J x4) + J 1)), some (vi (J x5)), none]) (st2 := []) rfl ?_
    rw [show ((J x4) + J 1) = J (x4 + 1) from J_add' rfl rfl]
    exact R_drop k (LE_of (L := [some (vr (some w)), some (vi (J x1)), some (vi (J x2)), some (vi (J x3)), some (vi (J (x4 + 1))), none, none]) (L2 := [some (vr (some w)), some (vi (J x1)), some (vi (J x2)), some (vi (J x3)), some (vi (J (x4 + 1))), some (vi (J x5)), none]) ⟨rfl, rfl, rfl, rfl, rfl, trivial⟩)
  · have k := k.1 (Classical.not_not.mp c_5)
    refine R_ps 2 (pc2 := 46) (L2 := [some (vr (some w)), some (vi (J x1)), some (vi (J x2)), some (vi (J x3)), some (vi (J x4)), some (vi (J x5)), some (vi (J 0))]) (st2 := []) rfl ?_
    exact k
theorem z234_46 {T N : Nat → Nat} {h : PH} {w : Nat} {x1 : Int} {x2 : Int} {x3 : Int} {x4 : Int} {x5 : Int} {x6 : Int} {K : Int → PH → Prop} (t0 : T w = 12) (r1 : In x1) (r2 : In x2) (r3 : In x3) (r4 : In x4) (r5 : In x5) (r6 : In x6) (k : (ZI T N 168 [vr (some w), vi (J x4), vi (J 5)] h (fun x_3 h_2 => (((x6 < x_3 → (ZI T N 186 [vr (some w), vi (J x3), vi (J x5)] h_2 (fun x_8 h_7 => (ZI T N 186 [vr (some w), vi (J x4), vi (J x6)] h_7 (fun x_12 h_11 => (ZI T N 202 [vi (J x_8), vi (J x_12)] h_11 (fun x_16 h_15 => (((x_16 = 0 → (ZW T N 234 46 [some (vr (some w)), some (vi (J x1)), some (vi (J (x2 + 0))), some (vi (J x3)), some (vi (J x4)), some (vi (J x5)), some (vi (J (x6 + 1)))] [] h_15 K)) ∧ (¬ (x_16 = 0) → (ZI T N 186 [vr (some w), vi (J x3), vi (J x5)] h_15 (fun x_21 h_20 => (ZI T N 186 [vr (some w), vi (J x4), vi (J x6)] h_20 (fun x_25 h_24 => (ZI T N 203 [vr (some w), vi (J x_21), vi (J x_25)] h_24 (fun x_29 h_28 => (((x_29 = x1 → (ZW T N 234 46 [some (vr (some w)), some (vi (J x1)), some (vi (J (x2 + 1))), some (vi (J x3)), some (vi (J x4)), some (vi (J x5)), some (vi (J (x6 + 1)))] [] h_28 K)) ∧ (¬ (x_29 = x1) → (ZW T N 234 46 [some (vr (some w)), some (vi (J x1)), some (vi (J (x2 + 0))), some (vi (J x3)), some (vi (J x4)), some (vi (J x5)), some (vi (J (x6 + 1)))] [] h_28 K)))))))))))))))))))) ∧ (¬ (x6 < x_3) → (ZW T N 234 32 [some (vr (some w)), some (vi (J x1)), some (vi (J x2)), some (vi (J x3)), some (vi (J x4)), some (vi (J (x5 + 1))), none] [] h_2 K))))))) : ZW T N 234 46 [some (vr (some w)), some (vi (J x1)), some (vi (J x2)), some (vi (J x3)), some (vi (J x4)), some (vi (J x5)), some (vi (J x6))] [] h K := by
  show WP T N 234 46 [some (vr (some w)), some (vi (J x1)), some (vi (J x2)), some (vi (J x3)), some (vi (J x4)), some (vi (J x5)), some (vi (J x6))] [] h _
  refine R_ps 4 (pc2 := 52) (L2 := [some (vr (some w)), some (vi (J x1)), some (vi (J x2)), some (vi (J x3)), some (vi (J x4)), some (vi (J x5)), some (vi (J x6))]) (st2 := [vi (J 5), vi (J x4), vr (some w), vi (J x6)]) rfl ?_
  refine R_zcI (as := [vr (some w), vi (J x4), vi (J 5)]) rfl rfl ⟨Nat.le_of_ble_eq_true rfl, Nat.le_of_ble_eq_true rfl, rfl, (Or.inr ⟨_, rfl, t0⟩)⟩ rfl rfl k (fun x_3 h_2 r_4 k => ?_)
  refine R_zif (x := x6) (z := x_3) rfl r6 r_4 (fun c_5 => ?_) (fun c_5 => ?_)
  · have k := k.2 c_5
    refine R_ps 2 (pc2 := 32) (L2 := [some (vr (some w)), some (vi (J x1)), some (vi (J x2)), some (vi (J x3)), some (vi (J x4)), some (vi ((J x5) + J 1)), some (vi (J x6))]) (st2 := []) rfl ?_
    rw [show ((J x5) + J 1) = J (x5 + 1) from J_add' rfl rfl]
    exact R_drop k (LE_of (L := [some (vr (some w)), some (vi (J x1)), some (vi (J x2)), some (vi (J x3)), some (vi (J x4)), some (vi (J (x5 + 1))), none]) (L2 := [some (vr (some w)), some (vi (J x1)), some (vi (J x2)), some (vi (J x3)), some (vi (J x4)), some (vi (J (x5 + 1))), some (vi (J x6))]) ⟨rfl, rfl, rfl, rfl, rfl, rfl, trivial⟩)
  · have k := k.1 (Classical.not_not.mp c_5)
    refine R_ps 4 (pc2 := 63) (L2 := [some (vr (some w)), some (vi (J x1)), some (vi (J x2)), some (vi (J x3)), some (vi (J x4)), some (vi (J x5)), some (vi (J x6))]) (st2 := [vi (J x5), vi (J x3), vr (some w), vi (J x2)]) rfl ?_
    refine R_zcI (as := [vr (some w), vi (J x3), vi (J x5)]) rfl rfl ⟨Nat.le_of_ble_eq_true rfl, Nat.le_of_ble_eq_true rfl, rfl, (Or.inr ⟨_, rfl, t0⟩)⟩ rfl rfl k (fun x_8 h_7 r_9 k => ?_)
    refine R_ps 3 (pc2 := 71) (L2 := [some (vr (some w)), some (vi (J x1)), some (vi (J x2)), some (vi (J x3)), some (vi (J x4)), some (vi (J x5)), some (vi (J x6))]) (st2 := [vi (J x6), vi (J x4), vr (some w), vi (J x_8), vi (J x2)]) rfl ?_
    refine R_zcI (as := [vr (some w), vi (J x4), vi (J x6)]) rfl rfl ⟨Nat.le_of_ble_eq_true rfl, Nat.le_of_ble_eq_true rfl, rfl, (Or.inr ⟨_, rfl, t0⟩)⟩ rfl rfl k (fun x_12 h_11 r_13 k => ?_)
    refine R_zcI (as := [vi (J x_8), vi (J x_12)]) rfl rfl ⟨Nat.le_of_ble_eq_true rfl, Nat.le_of_ble_eq_true rfl, rfl, (Or.inl rfl)⟩ rfl rfl k (fun x_16 h_15 r_17 k => ?_)
    refine R_zif0 (x := x_16) rfl r_17 (fun c_18 => ?_) (fun c_18 => ?_)
    · have k := k.1 c_18
      refine R_ps 5 (pc2 := 46) (L2 := [some (vr (some w)), some (vi (J x1)), some (vi ((J x2) + (J 0))), some (vi (J x3)), some (vi (J x4)), some (vi (J x5)), some (vi ((J x6) + J 1))]) (st2 := []) rfl ?_
      rw [show ((J x2) + (J 0)) = J (x2 + 0) from J_add' rfl rfl]
      rw [show ((J x6) + J 1) = J (x6 + 1) from J_add' rfl rfl]
      exact k
    · have k := k.2 c_18
      refine R_ps 4 (pc2 := 85) (L2 := [some (vr (some w)), some (vi (J x1)), some (vi (J x2)), some (vi (J x3)), some (vi (J x4)), some (vi (J x5)), some (vi (J x6))]) (st2 := [vi (J x5), vi (J x3), vr (some w), vr (some w), vi (J x2)]) rfl ?_
      refine R_zcI (as := [vr (some w), vi (J x3), vi (J x5)]) rfl rfl ⟨Nat.le_of_ble_eq_true rfl, Nat.le_of_ble_eq_true rfl, rfl, (Or.inr ⟨_, rfl, t0⟩)⟩ rfl rfl k (fun x_21 h_20 r_22 k => ?_)
      refine R_ps 3 (pc2 := 93) (L2 := [some (vr (some w)), some (vi (J x1)), some (vi (J x2)), some (vi (J x3)), some (vi (J x4)), some (vi (J x5)), some (vi (J x6))]) (st2 := [vi (J x6), vi (J x4), vr (some w), vi (J x_21), vr (some w), vi (J x2)]) rfl ?_
      refine R_zcI (as := [vr (some w), vi (J x4), vi (J x6)]) rfl rfl ⟨Nat.le_of_ble_eq_true rfl, Nat.le_of_ble_eq_true rfl, rfl, (Or.inr ⟨_, rfl, t0⟩)⟩ rfl rfl k (fun x_25 h_24 r_26 k => ?_)
      refine R_zcI (as := [vr (some w), vi (J x_21), vi (J x_25)]) rfl rfl ⟨Nat.le_of_ble_eq_true rfl, Nat.le_of_ble_eq_true rfl, rfl, (Or.inr ⟨_, rfl, t0⟩)⟩ rfl rfl k (fun x_29 h_28 r_30 k => ?_)
      refine R_ps 1 (pc2 := 100) (L2 := [some (vr (some w)), some (vi (J x1)), some (vi (J x2)), some (vi (J x3)), some (vi (J x4)), some (vi (J x5)), some (vi (J x6))]) (st2 := [vi (J x1), vi (J x_29), vi (J x2)]) rfl ?_
      refine R_zif (x := x_29) (z := x1) rfl r_30 r1 (fun c_31 => ?_) (fun c_31 => ?_)
      · have k := k.2 c_31
        refine R_ps 5 (pc2 := 46) (L2 := [some (vr (some w)), some (vi (J x1)), some (vi ((J x2) + (J 0))), some (vi (J x3)), some (vi (J x4)), some (vi (J x5)), some (vi ((J x6) + J 1))]) (st2 := []) rfl ?_
        rw [show ((J x2) + (J 0)) = J (x2 + 0) from J_add' rfl rfl]
        rw [show ((J x6) + J 1) = J (x6 + 1) from J_add' rfl rfl]
        exact k
      · have k := k.1 (Classical.not_not.mp c_31)
        refine R_ps 6 (pc2 := 46) (L2 := [some (vr (some w)), some (vi (J x1)), some (vi ((J x2) + (J 1))), some (vi (J x3)), some (vi (J x4)), some (vi (J x5)), some (vi ((J x6) + J 1))]) (st2 := []) rfl ?_
        rw [show ((J x2) + (J 1)) = J (x2 + 1) from J_add' rfl rfl]
        rw [show ((J x6) + J 1) = J (x6 + 1) from J_add' rfl rfl]
        exact k
/-- DroneCorridorsModel.uses -/
theorem z235 {T N : Nat → Nat} {h : PH} {w : Nat} {x1 : Int} {x2 : Int} {K : Int → PH → Prop} (t0 : T w = 12) (r1 : In x1) (r2 : In x2) (k : (ZI T N 163 [vr (some w), vi (J x1)] h (fun x_3 h_2 => (((x_3 = 0 → (∀ h_24, h_24 = wi h_2 w 0 1 → ((0 < (ai h_24 w 0) → (K 0 h_24)) ∧ (¬ (0 < (ai h_24 w 0)) → (ZW T N 235 44 [some (vr (some w)), some (vi (J x1)), some (vi (J x2)), some (vi (J 0)), some (vi (J 0)), none] [] h_24 K))))) ∧ (¬ (x_3 = 0) → (ZI T N 158 [vi (J x2), vi (J (-1)), vi (J 2)] h_2 (fun x_8 h_7 => (((x_8 = 0 → (∀ h_18, h_18 = wi h_7 w 0 2 → ((0 < (ai h_18 w 0) → (K 0 h_18)) ∧ (¬ (0 < (ai h_18 w 0)) → (ZW T N 235 44 [some (vr (some w)), some (vi (J x1)), some (vi (J x2)), some (vi (J 0)), some (vi (J 0)), none] [] h_18 K))))) ∧ (¬ (x_8 = 0) → (∀ h_12, h_12 = wi h_7 w 0 0 → ((0 < (ai h_12 w 0) → (K 0 h_12)) ∧ (¬ (0 < (ai h_12 w 0)) → (ZW T N 235 44 [some (vr (some w)), some (vi (J x1)), some (vi (J x2)), some (vi (J 0)), some (vi (J 0)), none] [] h_12 K))))))))))))))) : ZI T N 235 [vr (some w), vi (J x1), vi (J x2)] h K := by
  show WP T N 235 0 [some (vr (some w)), some (vi (J x1)), some (vi (J x2)), none, none, none] [] h _
  refine R_ps 3 (pc2 := 3) (L2 := [some (vr (some w)), some (vi (J x1)), some (vi (J x2)), none, none, none]) (st2 := [vi (J x1), vr (some w), vr (some w)]) rfl ?_
  refine R_zcI (as := [vr (some w), vi (J x1)]) rfl rfl ⟨Nat.le_of_ble_eq_true rfl, Nat.le_of_ble_eq_true rfl, rfl, (Or.inr ⟨_, rfl, t0⟩)⟩ rfl rfl k (fun x_3 h_2 r_4 k => ?_)
  refine R_zif0 (x := x_3) rfl r_4 (fun c_5 => ?_) (fun c_5 => ?_)
  · have k := k.2 c_5
    refine R_ps 3 (pc2 := 16) (L2 := [some (vr (some w)), some (vi (J x1)), some (vi (J x2)), none, none, none]) (st2 := [vi (J 2), vi (J (-1)), vi (J x2), vr (some w)]) rfl ?_
    refine R_zcI (as := [vi (J x2), vi (J (-1)), vi (J 2)]) rfl rfl ⟨Nat.le_of_ble_eq_true rfl, Nat.le_of_ble_eq_true rfl, rfl, (Or.inl rfl)⟩ rfl rfl k (fun x_8 h_7 r_9 k => ?_)
    refine R_zif0 (x := x_8) rfl r_9 (fun c_10 => ?_) (fun c_10 => ?_)
    · have k := k.2 c_10
      refine R_ps 1 (pc2 := 27) (L2 := [some (vr (some w)), some (vi (J x1)), some (vi (J x2)), none, none, none]) (st2 := [vi (J 0), vr (some w)]) rfl ?_
      refine R_zputI (x := 0) (z := 0) rfl t0 rfl ?_
      show WP T N _ _ _ _ (wi h_7 w 0 0) _
      generalize e_13 : wi h_7 w 0 0 = h_12
      replace k := k h_12 e_13.symm
      refine R_ps 1 (pc2 := 31) (L2 := [some (vr (some w)), some (vi (J x1)), some (vi (J x2)), none, none, none]) (st2 := [vr (some w)]) rfl ?_
      refine R_zgetI (z := 0) rfl t0 rfl ?_
      refine R_zif0 (x := ai h_12 w 0) rfl (ai_in _ _ _) (fun c_15 => ?_) (fun c_15 => ?_)
      · have k := k.2 c_15
        refine R_ps 4 (pc2 := 44) (L2 := [some (vr (some w)), some (vi (J x1)), some (vi (J x2)), some (vi (J 0)), some (vi (J 0)), none]) (st2 := []) rfl ?_
        exact k
      · have k := k.1 (Classical.not_not.mp c_15)
        refine R_ps 1 (pc2 := 38) (L2 := [some (vr (some w)), some (vi (J x1)), some (vi (J x2)), none, none, none]) (st2 := [vi (J 0)]) rfl ?_
        exact R_iret rfl rfl (R_zr (x := 0) (K := K) (by decide) k)
    · have k := k.1 (Classical.not_not.mp c_10)
      refine R_ps 2 (pc2 := 27) (L2 := [some (vr (some w)), some (vi (J x1)), some (vi (J x2)), none, none, none]) (st2 := [vi (J 2), vr (some w)]) rfl ?_
      refine R_zputI (x := 2) (z := 0) rfl t0 rfl ?_
      show WP T N _ _ _ _ (wi h_7 w 0 2) _
      generalize e_19 : wi h_7 w 0 2 = h_18
      replace k := k h_18 e_19.symm
      refine R_ps 1 (pc2 := 31) (L2 := [some (vr (some w)), some (vi (J x1)), some (vi (J x2)), none, none, none]) (st2 := [vr (some w)]) rfl ?_
      refine R_zgetI (z := 0) rfl t0 rfl ?_
      refine R_zif0 (x := ai h_18 w 0) rfl (ai_in _ _ _) (fun c_21 => ?_) (fun c_21 => ?_)
      · have k := k.2 c_21
        refine R_ps 4 (pc2 := 44) (L2 := [some (vr (some w)), some (vi (J x1)), some (vi (J x2)), some (vi (J 0)), some (vi (J 0)), none]) (st2 := []) rfl ?_
        exact k
      · have k := k.1 (Classical.not_not.mp c_21)
        refine R_ps 1 (pc2 := 38) (L2 := [some (vr (some w)), some (vi (J x1)), some (vi (J x2)), none, none, none]) (st2 := [vi (J 0)]) rfl ?_
        exact R_iret rfl rfl (R_zr (x := 0) (K := K) (by decide) k)
  · have k := k.1 (Classical.not_not.mp c_5)
    refine R_ps 2 (pc2 := 27) (L2 := [some (vr (some w)), some (vi (J x1)), some (vi (J x2)), none, none, none]) (st2 := [vi (J 1), vr (some w)]) rfl ?_
    refine R_zputI (x := 1) (z := 0) rfl t0 rfl ?_
    show WP T N _ _ _ _ (wi h_2 w 0 1) _
    generalize e_25 : wi h_2 w 0 1 = h_24
    replace k := k h_24 e_25.symm
    refine R_ps 1 (pc2 := 31) (L2 := [some (vr (some w)), some (vi (J x1)), some (vi (J x2)), none, none, none]) (st2 := [vr (some w)]) rfl ?_
    refine R_zgetI (z := 0) rfl t0 rfl ?_
    refine R_zif0 (x := ai h_24 w 0) rfl (ai_in _ _ _) (fun c_27 => ?_) (fun c_27 => ?_)
    · have k := k.2 c_27
      refine R_ps 4 (pc2 := 44) (L2 := [some (vr (some w)), some (vi (J x1)), some (vi (J x2)), some (vi (J 0)), some (vi (J 0)), none]) (st2 := []) rfl ?_
      exact k
    · have k := k.1 (Classical.not_not.mp c_27)
      refine R_ps 1 (pc2 := 38) (L2 := [some (vr (some w)), some (vi (J x1)), some (vi (J x2)), none, none, none]) (st2 := [vi (J 0)]) rfl ?_
      exact R_iret rfl rfl (R_zr (x := 0) (K := K) (by decide) k)
theorem z235_44 {T N : Nat → Nat} {h : PH} {w : Nat} {x1 : Int} {x2 : Int} {x3 : Int} {x4 : Int} {K : Int → PH → Prop} (t0 : T w = 12) (r1 : In x1) (r2 : In x2) (r3 : In x3) (r4 : In x4) (k : (∃ a_3, (gr h w 1) = some a_3 ∧ T a_3 = 22 ∧ (0 ≤ (117 : Int) ∧ (117 : Int) < (N a_3 : Int) ∧ (117 : Int) < 2147483648) ∧ ((x4 < (ai h a_3 117) → (ZW T N 235 59 [some (vr (some w)), some (vi (J x1)), some (vi (J x2)), some (vi (J x3)), some (vi (J x4)), some (vi (J 0))] [] h K)) ∧ (¬ (x4 < (ai h a_3 117)) → (K x3 h))))) : ZW T N 235 44 [some (vr (some w)), some (vi (J x1)), some (vi (J x2)), some (vi (J x3)), some (vi (J x4)), none] [] h K := by
  show WP T N 235 44 [some (vr (some w)), some (vi (J x1)), some (vi (J x2)), some (vi (J x3)), some (vi (J x4)), none] [] h _
  refine R_ps 2 (pc2 := 47) (L2 := [some (vr (some w)), some (vi (J x1)), some (vi (J x2)), some (vi (J x3)), some (vi (J x4)), none]) (st2 := [vr (some w), vi (J x4)]) rfl ?_
  refine R_getR rfl t0 ?_
  refine R_ps 1 (pc2 := 52) (L2 := [some (vr (some w)), some (vi (J x1)), some (vi (J x2)), some (vi (J x3)), some (vi (J x4)), none]) (st2 := [vi (J 117), vr (gr h w 1), vi (J x4)]) rfl ?_
  obtain ⟨a_3, e_4, k⟩ := k
  rw [e_4]
  obtain ⟨t_5, k⟩ := k
  obtain ⟨t_6, k⟩ := k
  refine R_ziald (i := 117) rfl (Or.inl t_5) t_6 ?_
  refine R_zif (x := x4) (z := ai h a_3 117) rfl r4 (ai_in _ _ _) (fun c_7 => ?_) (fun c_7 => ?_)
  · have k := k.2 c_7
    refine R_ps 1 (pc2 := 126) (L2 := [some (vr (some w)), some (vi (J x1)), some (vi (J x2)), some (vi (J x3)), some (vi (J x4)), none]) (st2 := [vi (J x3)]) rfl ?_
    exact R_iret rfl rfl (R_zr (x := x3) (K := K) r3 k)
  · have k := k.1 (Classical.not_not.mp c_7)
    refine R_ps 2 (pc2 := 59) (L2 := [some (vr (some w)), some (vi (J x1)), some (vi (J x2)), some (vi (J x3)), some (vi (J x4)), some (vi (J 0))]) (st2 := []) rfl ?_
    exact k
theorem z235_59 {T N : Nat → Nat} {h : PH} {w : Nat} {x1 : Int} {x2 : Int} {x3 : Int} {x4 : Int} {x5 : Int} {K : Int → PH → Prop} (t0 : T w = 12) (r1 : In x1) (r2 : In x2) (r3 : In x3) (r4 : In x4) (r5 : In x5) (k : (ZI T N 168 [vr (some w), vi (J x4), vi (J 5)] h (fun x_3 h_2 => (((x5 < x_3 → (ZI T N 186 [vr (some w), vi (J x4), vi (J x5)] h_2 (fun x_8 h_7 => (ZI T N 187 [vi (J x_8)] h_7 (fun x_12 h_11 => (((x_12 = x1 → (((x2 < 0 → (ZW T N 235 59 [some (vr (some w)), some (vi (J x1)), some (vi (J x2)), some (vi (J (x3 + 1))), some (vi (J x4)), some (vi (J (x5 + 1)))] [] h_11 K)) ∧ (¬ (x2 < 0) → (ZI T N 186 [vr (some w), vi (J x4), vi (J x5)] h_11 (fun x_18 h_17 => (ZI T N 189 [vi (J x_18)] h_17 (fun x_22 h_21 => (((x_22 = x2 → (ZW T N 235 59 [some (vr (some w)), some (vi (J x1)), some (vi (J x2)), some (vi (J (x3 + 1))), some (vi (J x4)), some (vi (J (x5 + 1)))] [] h_21 K)) ∧ (¬ (x_22 = x2) → (ZW T N 235 59 [some (vr (some w)), some (vi (J x1)), some (vi (J x2)), some (vi (J (x3 + 0))), some (vi (J x4)), some (vi (J (x5 + 1)))] [] h_21 K)))))))))))) ∧ (¬ (x_12 = x1) → (ZW T N 235 59 [some (vr (some w)), some (vi (J x1)), some (vi (J x2)), some (vi (J (x3 + 0))), some (vi (J x4)), some (vi (J (x5 + 1)))] [] h_11 K))))))))) ∧ (¬ (x5 < x_3) → (ZW T N 235 44 [some (vr (some w)), some (vi (J x1)), some (vi (J x2)), some (vi (J x3)), some (vi (J (x4 + 1))), none] [] h_2 K))))))) : ZW T N 235 59 [some (vr (some w)), some (vi (J x1)), some (vi (J x2)), some (vi (J x3)), some (vi (J x4)), some (vi (J x5))] [] h K := by
  show WP T N 235 59 [some (vr (some w)), some (vi (J x1)), some (vi (J x2)), some (vi (J x3)), some (vi (J x4)), some (vi (J x5))] [] h _
  refine R_ps 4 (pc2 := 65) (L2 := [some (vr (some w)), some (vi (J x1)), some (vi (J x2)), some (vi (J x3)), some (vi (J x4)), some (vi (J x5))]) (st2 := [vi (J 5), vi (J x4), vr (some w), vi (J x5)]) rfl ?_
  refine R_zcI (as := [vr (some w), vi (J x4), vi (J 5)]) rfl rfl ⟨Nat.le_of_ble_eq_true rfl, Nat.le_of_ble_eq_true rfl, rfl, (Or.inr ⟨_, rfl, t0⟩)⟩ rfl rfl k (fun x_3 h_2 r_4 k => ?_)
  refine R_zif (x := x5) (z := x_3) rfl r5 r_4 (fun c_5 => ?_) (fun c_5 => ?_)
  · have k := k.2 c_5
    refine R_ps 2 (pc2 := 44) (L2 := [some (vr (some w)), some (vi (J x1)), some (vi (J x2)), some (vi (J x3)), some (vi ((J x4) + J 1)), some (vi (J x5))]) (st2 := []) rfl ?_
    rw [show ((J x4) + J 1) = J (x4 + 1) from J_add' rfl rfl]
    exact R_drop k (LE_of (L := [some (vr (some w)), some (vi (J x1)), some (vi (J x2)), some (vi (J x3)), some (vi (J (x4 + 1))), none]) (L2 := [some (vr (some w)), some (vi (J x1)), some (vi (J x2)), some (vi (J x3)), some (vi (J (x4 + 1))), some (vi (J x5))]) ⟨rfl, rfl, rfl, rfl, rfl, trivial⟩)
  · have k := k.1 (Classical.not_not.mp c_5)
    refine R_ps 4 (pc2 := 77) (L2 := [some (vr (some w)), some (vi (J x1)), some (vi (J x2)), some (vi (J x3)), some (vi (J x4)), some (vi (J x5))]) (st2 := [vi (J x5), vi (J x4), vr (some w), vi (J x3)]) rfl ?_
    refine R_zcI (as := [vr (some w), vi (J x4), vi (J x5)]) rfl rfl ⟨Nat.le_of_ble_eq_true rfl, Nat.le_of_ble_eq_true rfl, rfl, (Or.inr ⟨_, rfl, t0⟩)⟩ rfl rfl k (fun x_8 h_7 r_9 k => ?_)
    refine R_zcI (as := [vi (J x_8)]) rfl rfl ⟨Nat.le_of_ble_eq_true rfl, Nat.le_of_ble_eq_true rfl, rfl, (Or.inl rfl)⟩ rfl rfl k (fun x_12 h_11 r_13 k => ?_)
    refine R_ps 1 (pc2 := 84) (L2 := [some (vr (some w)), some (vi (J x1)), some (vi (J x2)), some (vi (J x3)), some (vi (J x4)), some (vi (J x5))]) (st2 := [vi (J x1), vi (J x_12), vi (J x3)]) rfl ?_
    refine R_zif (x := x_12) (z := x1) rfl r_13 r1 (fun c_14 => ?_) (fun c_14 => ?_)
    · have k := k.2 c_14
      refine R_ps 5 (pc2 := 59) (L2 := [some (vr (some w)), some (vi (J x1)), some (vi (J x2)), some (vi ((J x3) + (J 0))), some (vi (J x4)), some (vi ((J x5) + J 1))]) (st2 := []) rfl ?_
      rw [show ((J x3) + (J 0)) = J (x3 + 0) from J_add' rfl rfl]
      rw [show ((J x5) + J 1) = J (x5 + 1) from J_add' rfl rfl]
      exact k
    · have k := k.1 (Classical.not_not.mp c_14)
      refine R_ps 1 (pc2 := 88) (L2 := [some (vr (some w)), some (vi (J x1)), some (vi (J x2)), some (vi (J x3)), some (vi (J x4)), some (vi (J x5))]) (st2 := [vi (J x2), vi (J x3)]) rfl ?_
      refine R_zif0 (x := x2) rfl r2 (fun c_15 => ?_) (fun c_15 => ?_)
      · have k := k.1 c_15
        refine R_ps 6 (pc2 := 59) (L2 := [some (vr (some w)), some (vi (J x1)), some (vi (J x2)), some (vi ((J x3) + (J 1))), some (vi (J x4)), some (vi ((J x5) + J 1))]) (st2 := []) rfl ?_
        rw [show ((J x3) + (J 1)) = J (x3 + 1) from J_add' rfl rfl]
        rw [show ((J x5) + J 1) = J (x5 + 1) from J_add' rfl rfl]
        exact k
      · have k := k.2 c_15
        refine R_ps 3 (pc2 := 96) (L2 := [some (vr (some w)), some (vi (J x1)), some (vi (J x2)), some (vi (J x3)), some (vi (J x4)), some (vi (J x5))]) (st2 := [vi (J x5), vi (J x4), vr (some w), vi (J x3)]) rfl ?_
        refine R_zcI (as := [vr (some w), vi (J x4), vi (J x5)]) rfl rfl ⟨Nat.le_of_ble_eq_true rfl, Nat.le_of_ble_eq_true rfl, rfl, (Or.inr ⟨_, rfl, t0⟩)⟩ rfl rfl k (fun x_18 h_17 r_19 k => ?_)
        refine R_zcI (as := [vi (J x_18)]) rfl rfl ⟨Nat.le_of_ble_eq_true rfl, Nat.le_of_ble_eq_true rfl, rfl, (Or.inl rfl)⟩ rfl rfl k (fun x_22 h_21 r_23 k => ?_)
        refine R_ps 1 (pc2 := 103) (L2 := [some (vr (some w)), some (vi (J x1)), some (vi (J x2)), some (vi (J x3)), some (vi (J x4)), some (vi (J x5))]) (st2 := [vi (J x2), vi (J x_22), vi (J x3)]) rfl ?_
        refine R_zif (x := x_22) (z := x2) rfl r_23 r2 (fun c_24 => ?_) (fun c_24 => ?_)
        · have k := k.2 c_24
          refine R_ps 5 (pc2 := 59) (L2 := [some (vr (some w)), some (vi (J x1)), some (vi (J x2)), some (vi ((J x3) + (J 0))), some (vi (J x4)), some (vi ((J x5) + J 1))]) (st2 := []) rfl ?_
          rw [show ((J x3) + (J 0)) = J (x3 + 0) from J_add' rfl rfl]
          rw [show ((J x5) + J 1) = J (x5 + 1) from J_add' rfl rfl]
          exact k
        · have k := k.1 (Classical.not_not.mp c_24)
          refine R_ps 6 (pc2 := 59) (L2 := [some (vr (some w)), some (vi (J x1)), some (vi (J x2)), some (vi ((J x3) + (J 1))), some (vi (J x4)), some (vi ((J x5) + J 1))]) (st2 := []) rfl ?_
          rw [show ((J x3) + (J 1)) = J (x3 + 1) from J_add' rfl rfl]
          rw [show ((J x5) + J 1) = J (x5 + 1) from J_add' rfl rfl]
          exact k
/-- DroneCorridorsModel.account -/
theorem z236 {T N : Nat → Nat} {h : PH} {w : Nat} {x1 : Int} {x2 : Int} {K : Int → PH → Prop} (t0 : T w = 12) (r1 : In x1) (r2 : In x2) (k : (ZI T N 164 [vr (some w), vi (J x1)] h (fun x_3 h_2 => (((x_3 = 0 → (∀ h_34, h_34 = wi h_2 w 0 1 → (((ai h_34 w 0) = 0 → (ZI T N 168 [vr (some w), vi (J x1), vi (J (7 + x2))] h_34 (fun x_41 h_40 => (K x_41 h_40)))) ∧ (¬ ((ai h_34 w 0) = 0) → (K 0 h_34))))) ∧ (¬ (x_3 = 0) → (ZI T N 158 [vi (J x2), vi (J 0), vi (J 4)] h_2 (fun x_8 h_7 => (((x_8 = 0 → (∀ h_23, h_23 = wi h_7 w 0 2 → (((ai h_23 w 0) = 0 → (ZI T N 168 [vr (some w), vi (J x1), vi (J (7 + x2))] h_23 (fun x_30 h_29 => (K x_30 h_29)))) ∧ (¬ ((ai h_23 w 0) = 0) → (K 0 h_23))))) ∧ (¬ (x_8 = 0) → (∀ h_12, h_12 = wi h_7 w 0 0 → (((ai h_12 w 0) = 0 → (ZI T N 168 [vr (some w), vi (J x1), vi (J (7 + x2))] h_12 (fun x_19 h_18 => (K x_19 h_18)))) ∧ (¬ ((ai h_12 w 0) = 0) → (K 0 h_12))))))))))))))) : ZI T N 236 [vr (some w), vi (J x1), vi (J x2)] h K := by
  show WP T N 236 0 [some (vr (some w)), some (vi (J x1)), some (vi (J x2))] [] h _
  refine R_ps 3 (pc2 := 3) (L2 := [some (vr (some w)), some (vi (J x1)), some (vi (J x2))]) (st2 := [vi (J x1), vr (some w), vr (some w)]) rfl ?_
  refine R_zcI (as := [vr (some w), vi (J x1)]) rfl rfl ⟨Nat.le_of_ble_eq_true rfl, Nat.le_of_ble_eq_true rfl, rfl, (Or.inr ⟨_, rfl, t0⟩)⟩ rfl rfl k (fun x_3 h_2 r_4 k => ?_)
  refine R_zif0 (x := x_3) rfl r_4 (fun c_5 => ?_) (fun c_5 => ?_)
  · have k := k.2 c_5
    refine R_ps 3 (pc2 := 16) (L2 := [some (vr (some w)), some (vi (J x1)), some (vi (J x2))]) (st2 := [vi (J 4), vi (J 0), vi (J x2), vr (some w)]) rfl ?_
    refine R_zcI (as := [vi (J x2), vi (J 0), vi (J 4)]) rfl rfl ⟨Nat.le_of_ble_eq_true rfl, Nat.le_of_ble_eq_true rfl, rfl, (Or.inl rfl)⟩ rfl rfl k (fun x_8 h_7 r_9 k => ?_)
    refine R_zif0 (x := x_8) rfl r_9 (fun c_10 => ?_) (fun c_10 => ?_)
    · have k := k.2 c_10
      refine R_ps 1 (pc2 := 27) (L2 := [some (vr (some w)), some (vi (J x1)), some (vi (J x2))]) (st2 := [vi (J 0), vr (some w)]) rfl ?_
      refine R_zputI (x := 0) (z := 0) rfl t0 rfl ?_
      show WP T N _ _ _ _ (wi h_7 w 0 0) _
      generalize e_13 : wi h_7 w 0 0 = h_12
      replace k := k h_12 e_13.symm
      refine R_ps 1 (pc2 := 31) (L2 := [some (vr (some w)), some (vi (J x1)), some (vi (J x2))]) (st2 := [vr (some w)]) rfl ?_
      refine R_zgetI (z := 0) rfl t0 rfl ?_
      refine R_zif0 (x := ai h_12 w 0) rfl (ai_in _ _ _) (fun c_15 => ?_) (fun c_15 => ?_)
      · have k := k.2 c_15
        refine R_ps 1 (pc2 := 50) (L2 := [some (vr (some w)), some (vi (J x1)), some (vi (J x2))]) (st2 := [vi (J 0)]) rfl ?_
        exact R_iret rfl rfl (R_zr (x := 0) (K := K) (by decide) k)
      · have k := k.1 (Classical.not_not.mp c_15)
        refine R_ps 5 (pc2 := 43) (L2 := [some (vr (some w)), some (vi (J x1)), some (vi (J x2))]) (st2 := [vi ((J 7) + (J x2)), vi (J x1), vr (some w)]) rfl ?_
        rw [show ((J 7) + (J x2)) = J (7 + x2) from J_add' rfl rfl]
        refine R_zcI (as := [vr (some w), vi (J x1), vi (J (7 + x2))]) rfl rfl ⟨Nat.le_of_ble_eq_true rfl, Nat.le_of_ble_eq_true rfl, rfl, (Or.inr ⟨_, rfl, t0⟩)⟩ rfl rfl k (fun x_19 h_18 r_20 k => ?_)
        refine R_ps 1 (pc2 := 50) (L2 := [some (vr (some w)), some (vi (J x1)), some (vi (J x2))]) (st2 := [vi (J x_19)]) rfl ?_
        exact R_iret rfl rfl (R_zr (x := x_19) (K := K) r_20 k)
    · have k := k.1 (Classical.not_not.mp c_10)
      refine R_ps 2 (pc2 := 27) (L2 := [some (vr (some w)), some (vi (J x1)), some (vi (J x2))]) (st2 := [vi (J 2), vr (some w)]) rfl ?_
      refine R_zputI (x := 2) (z := 0) rfl t0 rfl ?_
      show WP T N _ _ _ _ (wi h_7 w 0 2) _
      generalize e_24 : wi h_7 w 0 2 = h_23
      replace k := k h_23 e_24.symm
      refine R_ps 1 (pc2 := 31) (L2 := [some (vr (some w)), some (vi (J x1)), some (vi (J x2))]) (st2 := [vr (some w)]) rfl ?_
      refine R_zgetI (z := 0) rfl t0 rfl ?_
      refine R_zif0 (x := ai h_23 w 0) rfl (ai_in _ _ _) (fun c_26 => ?_) (fun c_26 => ?_)
      · have k := k.2 c_26
        refine R_ps 1 (pc2 := 50) (L2 := [some (vr (some w)), some (vi (J x1)), some (vi (J x2))]) (st2 := [vi (J 0)]) rfl ?_
        exact R_iret rfl rfl (R_zr (x := 0) (K := K) (by decide) k)
      · have k := k.1 (Classical.not_not.mp c_26)
        refine R_ps 5 (pc2 := 43) (L2 := [some (vr (some w)), some (vi (J x1)), some (vi (J x2))]) (st2 := [vi ((J 7) + (J x2)), vi (J x1), vr (some w)]) rfl ?_
        rw [show ((J 7) + (J x2)) = J (7 + x2) from J_add' rfl rfl]
        refine R_zcI (as := [vr (some w), vi (J x1), vi (J (7 + x2))]) rfl rfl ⟨Nat.le_of_ble_eq_true rfl, Nat.le_of_ble_eq_true rfl, rfl, (Or.inr ⟨_, rfl, t0⟩)⟩ rfl rfl k (fun x_30 h_29 r_31 k => ?_)
        refine R_ps 1 (pc2 := 50) (L2 := [some (vr (some w)), some (vi (J x1)), some (vi (J x2))]) (st2 := [vi (J x_30)]) rfl ?_
        exact R_iret rfl rfl (R_zr (x := x_30) (K := K) r_31 k)
  · have k := k.1 (Classical.not_not.mp c_5)
    refine R_ps 2 (pc2 := 27) (L2 := [some (vr (some w)), some (vi (J x1)), some (vi (J x2))]) (st2 := [vi (J 1), vr (some w)]) rfl ?_
    refine R_zputI (x := 1) (z := 0) rfl t0 rfl ?_
    show WP T N _ _ _ _ (wi h_2 w 0 1) _
    generalize e_35 : wi h_2 w 0 1 = h_34
    replace k := k h_34 e_35.symm
    refine R_ps 1 (pc2 := 31) (L2 := [some (vr (some w)), some (vi (J x1)), some (vi (J x2))]) (st2 := [vr (some w)]) rfl ?_
    refine R_zgetI (z := 0) rfl t0 rfl ?_
    refine R_zif0 (x := ai h_34 w 0) rfl (ai_in _ _ _) (fun c_37 => ?_) (fun c_37 => ?_)
    · have k := k.2 c_37
      refine R_ps 1 (pc2 := 50) (L2 := [some (vr (some w)), some (vi (J x1)), some (vi (J x2))]) (st2 := [vi (J 0)]) rfl ?_
      exact R_iret rfl rfl (R_zr (x := 0) (K := K) (by decide) k)
    · have k := k.1 (Classical.not_not.mp c_37)
      refine R_ps 5 (pc2 := 43) (L2 := [some (vr (some w)), some (vi (J x1)), some (vi (J x2))]) (st2 := [vi ((J 7) + (J x2)), vi (J x1), vr (some w)]) rfl ?_
      rw [show ((J 7) + (J x2)) = J (7 + x2) from J_add' rfl rfl]
      refine R_zcI (as := [vr (some w), vi (J x1), vi (J (7 + x2))]) rfl rfl ⟨Nat.le_of_ble_eq_true rfl, Nat.le_of_ble_eq_true rfl, rfl, (Or.inr ⟨_, rfl, t0⟩)⟩ rfl rfl k (fun x_41 h_40 r_42 k => ?_)
      refine R_ps 1 (pc2 := 50) (L2 := [some (vr (some w)), some (vi (J x1)), some (vi (J x2))]) (st2 := [vi (J x_41)]) rfl ?_
      exact R_iret rfl rfl (R_zr (x := x_41) (K := K) r_42 k)
/-- DroneCorridorsModel.audit -/
theorem z237 {T N : Nat → Nat} {h : PH} {w : Nat} {K : Int → PH → Prop} (t0 : T w = 12) (k : (∀ h_2, h_2 = wi h w 0 0 → ZW T N 237 9 [some (vr (some w)), some (vi (J 0)), some (vi (J 0)), none] [] h_2 K)) : ZI T N 237 [vr (some w)] h K := by
  show WP T N 237 0 [some (vr (some w)), none, none, none] [] h _
  refine R_ps 2 (pc2 := 2) (L2 := [some (vr (some w)), none, none, none]) (st2 := [vi (J 0), vr (some w)]) rfl ?_
  refine R_zputI (x := 0) (z := 0) rfl t0 rfl ?_
  show WP T N _ _ _ _ (wi h w 0 0) _
  generalize e_3 : wi h w 0 0 = h_2
  replace k := k h_2 e_3.symm
  refine R_ps 4 (pc2 := 9) (L2 := [some (vr (some w)), some (vi (J 0)), some (vi (J 0)), none]) (st2 := []) rfl ?_
  exact k
theorem z237_9 {T N : Nat → Nat} {h : PH} {w : Nat} {x1 : Int} {x2 : Int} {K : Int → PH → Prop} (t0 : T w = 12) (r1 : In x1) (r2 : In x2) (k : (∃ a_3, (gr h w 1) = some a_3 ∧ T a_3 = 22 ∧ (0 ≤ (117 : Int) ∧ (117 : Int) < (N a_3 : Int) ∧ (117 : Int) < 2147483648) ∧ ((x2 < (ai h a_3 117) → (ZI T N 168 [vr (some w), vi (J x2), vi (J 6)] h (fun x_11 h_10 => (ZI T N 168 [vr (some w), vi (J x2), vi (J 10)] h_10 (fun x_15 h_14 => (ZI T N 168 [vr (some w), vi (J x2), vi (J 7)] h_14 (fun x_19 h_18 => (ZI T N 168 [vr (some w), vi (J x2), vi (J 8)] h_18 (fun x_23 h_22 => (ZI T N 168 [vr (some w), vi (J x2), vi (J 9)] h_22 (fun x_27 h_26 => (ZI T N 168 [vr (some w), vi (J x2), vi (J 12)] h_26 (fun x_31 h_30 => (ZI T N 168 [vr (some w), vi (J x2), vi (J 1)] h_30 (fun x_35 h_34 => (In (((((x_11 + x_15) - x_19) - x_23) - x_27) - x_31) ∧ (((((((x_11 + x_15) - x_19) - x_23) - x_27) - x_31) = x_35 → (ZW T N 237 9 [some (vr (some w)), some (vi (J (x1 + 0))), some (vi (J (x2 + 1))), none] [] h_34 K)) ∧ (¬ ((((((x_11 + x_15) - x_19) - x_23) - x_27) - x_31) = x_35) → (ZW T N 237 9 [some (vr (some w)), some (vi (J (x1 + 1))), some (vi (J (x2 + 1))), none] [] h_34 K))))))))))))))))))) ∧ (¬ (x2 < (ai h a_3 117)) → (K x1 h))))) : ZW T N 237 9 [some (vr (some w)), some (vi (J x1)), some (vi (J x2)), none] [] h K := by
  show WP T N 237 9 [some (vr (some w)), some (vi (J x1)), some (vi (J x2)), none] [] h _
  refine R_ps 2 (pc2 := 11) (L2 := [some (vr (some w)), some (vi (J x1)), some (vi (J x2)), none]) (st2 := [vr (some w), vi (J x2)]) rfl ?_
  refine R_getR rfl t0 ?_
  refine R_ps 1 (pc2 := 16) (L2 := [some (vr (some w)), some (vi (J x1)), some (vi (J x2)), none]) (st2 := [vi (J 117), vr (gr h w 1), vi (J x2)]) rfl ?_
  obtain ⟨a_3, e_4, k⟩ := k
  rw [e_4]
  obtain ⟨t_5, k⟩ := k
  obtain ⟨t_6, k⟩ := k
  refine R_ziald (i := 117) rfl (Or.inl t_5) t_6 ?_
  refine R_zif (x := x2) (z := ai h a_3 117) rfl r2 (ai_in _ _ _) (fun c_7 => ?_) (fun c_7 => ?_)
  · have k := k.2 c_7
    refine R_ps 1 (pc2 := 93) (L2 := [some (vr (some w)), some (vi (J x1)), some (vi (J x2)), none]) (st2 := [vi (J x1)]) rfl ?_
    exact R_iret rfl rfl (R_zr (x := x1) (K := K) r1 k)
  · have k := k.1 (Classical.not_not.mp c_7)
    refine R_ps 3 (pc2 := 24) (L2 := [some (vr (some w)), some (vi (J x1)), some (vi (J x2)), none]) (st2 := [vi (J 6), vi (J x2), vr (some w)]) rfl ?_
    refine R_zcI (as := [vr (some w), vi (J x2), vi (J 6)]) rfl rfl ⟨Nat.le_of_ble_eq_true rfl, Nat.le_of_ble_eq_true rfl, rfl, (Or.inr ⟨_, rfl, t0⟩)⟩ rfl rfl k (fun x_11 h_10 r_12 k => ?_)
    refine R_ps 3 (pc2 := 31) (L2 := [some (vr (some w)), some (vi (J x1)), some (vi (J x2)), none]) (st2 := [vi (J 10), vi (J x2), vr (some w), vi (J x_11)]) rfl ?_
    refine R_zcI (as := [vr (some w), vi (J x2), vi (J 10)]) rfl rfl ⟨Nat.le_of_ble_eq_true rfl, Nat.le_of_ble_eq_true rfl, rfl, (Or.inr ⟨_, rfl, t0⟩)⟩ rfl rfl k (fun x_15 h_14 r_16 k => ?_)
    refine R_ps 4 (pc2 := 39) (L2 := [some (vr (some w)), some (vi (J x1)), some (vi (J x2)), none]) (st2 := [vi (J 7), vi (J x2), vr (some w), vi ((J x_11) + (J x_15))]) rfl ?_
    rw [show ((J x_11) + (J x_15)) = J (x_11 + x_15) from J_add' rfl rfl]
    refine R_zcI (as := [vr (some w), vi (J x2), vi (J 7)]) rfl rfl ⟨Nat.le_of_ble_eq_true rfl, Nat.le_of_ble_eq_true rfl, rfl, (Or.inr ⟨_, rfl, t0⟩)⟩ rfl rfl k (fun x_19 h_18 r_20 k => ?_)
    refine R_ps 4 (pc2 := 47) (L2 := [some (vr (some w)), some (vi (J x1)), some (vi (J x2)), none]) (st2 := [vi (J 8), vi (J x2), vr (some w), vi ((J (x_11 + x_15)) - (J x_19))]) rfl ?_
    rw [show ((J (x_11 + x_15)) - (J x_19)) = J ((x_11 + x_15) - x_19) from J_sub' rfl rfl]
    refine R_zcI (as := [vr (some w), vi (J x2), vi (J 8)]) rfl rfl ⟨Nat.le_of_ble_eq_true rfl, Nat.le_of_ble_eq_true rfl, rfl, (Or.inr ⟨_, rfl, t0⟩)⟩ rfl rfl k (fun x_23 h_22 r_24 k => ?_)
    refine R_ps 4 (pc2 := 55) (L2 := [some (vr (some w)), some (vi (J x1)), some (vi (J x2)), none]) (st2 := [vi (J 9), vi (J x2), vr (some w), vi ((J ((x_11 + x_15) - x_19)) - (J x_23))]) rfl ?_
    rw [show ((J ((x_11 + x_15) - x_19)) - (J x_23)) = J (((x_11 + x_15) - x_19) - x_23) from J_sub' rfl rfl]
    refine R_zcI (as := [vr (some w), vi (J x2), vi (J 9)]) rfl rfl ⟨Nat.le_of_ble_eq_true rfl, Nat.le_of_ble_eq_true rfl, rfl, (Or.inr ⟨_, rfl, t0⟩)⟩ rfl rfl k (fun x_27 h_26 r_28 k => ?_)
    refine R_ps 4 (pc2 := 63) (L2 := [some (vr (some w)), some (vi (J x1)), some (vi (J x2)), none]) (st2 := [vi (J 12), vi (J x2), vr (some w), vi ((J (((x_11 + x_15) - x_19) - x_23)) - (J x_27))]) rfl ?_
    rw [show ((J (((x_11 + x_15) - x_19) - x_23)) - (J x_27)) = J ((((x_11 + x_15) - x_19) - x_23) - x_27) from J_sub' rfl rfl]
    refine R_zcI (as := [vr (some w), vi (J x2), vi (J 12)]) rfl rfl ⟨Nat.le_of_ble_eq_true rfl, Nat.le_of_ble_eq_true rfl, rfl, (Or.inr ⟨_, rfl, t0⟩)⟩ rfl rfl k (fun x_31 h_30 r_32 k => ?_)
    refine R_ps 7 (pc2 := 73) (L2 := [some (vr (some w)), some (vi (J x1)), some (vi (J x2)), some (vi ((J ((((x_11 + x_15) - x_19) - x_23) - x_27)) - (J x_31)))]) (st2 := [vi (J 1), vi (J x2), vr (some w), vi ((J ((((x_11 + x_15) - x_19) - x_23) - x_27)) - (J x_31)), vi (J x1)]) rfl ?_
    rw [show ((J ((((x_11 + x_15) - x_19) - x_23) - x_27)) - (J x_31)) = J (((((x_11 + x_15) - x_19) - x_23) - x_27) - x_31) from J_sub' rfl rfl]
    refine R_zcI (as := [vr (some w), vi (J x2), vi (J 1)]) rfl rfl ⟨Nat.le_of_ble_eq_true rfl, Nat.le_of_ble_eq_true rfl, rfl, (Or.inr ⟨_, rfl, t0⟩)⟩ rfl rfl k (fun x_35 h_34 r_36 k => ?_)
    obtain ⟨t_38, k⟩ := k
    refine R_zif (x := ((((x_11 + x_15) - x_19) - x_23) - x_27) - x_31) (z := x_35) rfl t_38 r_36 (fun c_37 => ?_) (fun c_37 => ?_)
    · have k := k.1 c_37
      refine R_ps 5 (pc2 := 9) (L2 := [some (vr (some w)), some (vi ((J x1) + (J 0))), some (vi ((J x2) + J 1)), some (vi (J (((((x_11 + x_15) - x_19) - x_23) - x_27) - x_31)))]) (st2 := []) rfl ?_
      rw [show ((J x1) + (J 0)) = J (x1 + 0) from J_add' rfl rfl]
      rw [show ((J x2) + J 1) = J (x2 + 1) from J_add' rfl rfl]
      exact R_drop k (LE_of (L := [some (vr (some w)), some (vi (J (x1 + 0))), some (vi (J (x2 + 1))), none]) (L2 := [some (vr (some w)), some (vi (J (x1 + 0))), some (vi (J (x2 + 1))), some (vi (J (((((x_11 + x_15) - x_19) - x_23) - x_27) - x_31)))]) ⟨rfl, rfl, rfl, trivial⟩)
    · have k := k.2 c_37
      refine R_ps 6 (pc2 := 9) (L2 := [some (vr (some w)), some (vi ((J x1) + (J 1))), some (vi ((J x2) + J 1)), some (vi (J (((((x_11 + x_15) - x_19) - x_23) - x_27) - x_31)))]) (st2 := []) rfl ?_
      rw [show ((J x1) + (J 1)) = J (x1 + 1) from J_add' rfl rfl]
      rw [show ((J x2) + J 1) = J (x2 + 1) from J_add' rfl rfl]
      exact R_drop k (LE_of (L := [some (vr (some w)), some (vi (J (x1 + 1))), some (vi (J (x2 + 1))), none]) (L2 := [some (vr (some w)), some (vi (J (x1 + 1))), some (vi (J (x2 + 1))), some (vi (J (((((x_11 + x_15) - x_19) - x_23) - x_27) - x_31)))]) ⟨rfl, rfl, rfl, trivial⟩)
/-- DroneCorridorsModel.sum -/
theorem z238 {T N : Nat → Nat} {h : PH} {w : Nat} {x1 : Int} {K : Int → PH → Prop} (r1 : In x1) (k : (ZW T N 238 4 [some (vr (some w)), some (vi (J x1)), some (vi (J 0)), some (vi (J 0))] [] h K)) : ZI T N 238 [vr (some w), vi (J x1)] h K := by
  show WP T N 238 0 [some (vr (some w)), some (vi (J x1)), none, none] [] h _
  refine R_ps 4 (pc2 := 4) (L2 := [some (vr (some w)), some (vi (J x1)), some (vi (J 0)), some (vi (J 0))]) (st2 := []) rfl ?_
  exact k
theorem z238_4 {T N : Nat → Nat} {h : PH} {w : Nat} {x1 : Int} {x2 : Int} {x3 : Int} {K : Int → PH → Prop} (t0 : T w = 12) (r1 : In x1) (r2 : In x2) (r3 : In x3) (k : (∃ a_3, (gr h w 1) = some a_3 ∧ T a_3 = 22 ∧ (0 ≤ (117 : Int) ∧ (117 : Int) < (N a_3 : Int) ∧ (117 : Int) < 2147483648) ∧ ((x3 < (ai h a_3 117) → (ZI T N 168 [vr (some w), vi (J x3), vi (J (7 + x1))] h (fun x_11 h_10 => (ZW T N 238 4 [some (vr (some w)), some (vi (J x1)), some (vi (J (x2 + x_11))), some (vi (J (x3 + 1)))] [] h_10 K)))) ∧ (¬ (x3 < (ai h a_3 117)) → (K x2 h))))) : ZW T N 238 4 [some (vr (some w)), some (vi (J x1)), some (vi (J x2)), some (vi (J x3))] [] h K := by
  show WP T N 238 4 [some (vr (some w)), some (vi (J x1)), some (vi (J x2)), some (vi (J x3))] [] h _
  refine R_ps 2 (pc2 := 6) (L2 := [some (vr (some w)), some (vi (J x1)), some (vi (J x2)), some (vi (J x3))]) (st2 := [vr (some w), vi (J x3)]) rfl ?_
  refine R_getR rfl t0 ?_
  refine R_ps 1 (pc2 := 11) (L2 := [some (vr (some w)), some (vi (J x1)), some (vi (J x2)), some (vi (J x3))]) (st2 := [vi (J 117), vr (gr h w 1), vi (J x3)]) rfl ?_
  obtain ⟨a_3, e_4, k⟩ := k
  rw [e_4]
  obtain ⟨t_5, k⟩ := k
  obtain ⟨t_6, k⟩ := k
  refine R_ziald (i := 117) rfl (Or.inl t_5) t_6 ?_
  refine R_zif (x := x3) (z := ai h a_3 117) rfl r3 (ai_in _ _ _) (fun c_7 => ?_) (fun c_7 => ?_)
  · have k := k.2 c_7
    refine R_ps 1 (pc2 := 34) (L2 := [some (vr (some w)), some (vi (J x1)), some (vi (J x2)), some (vi (J x3))]) (st2 := [vi (J x2)]) rfl ?_
    exact R_iret rfl rfl (R_zr (x := x2) (K := K) r2 k)
  · have k := k.1 (Classical.not_not.mp c_7)
    refine R_ps 6 (pc2 := 22) (L2 := [some (vr (some w)), some (vi (J x1)), some (vi (J x2)), some (vi (J x3))]) (st2 := [vi ((J 7) + (J x1)), vi (J x3), vr (some w), vi (J x2)]) rfl ?_
    rw [show ((J 7) + (J x1)) = J (7 + x1) from J_add' rfl rfl]
    refine R_zcI (as := [vr (some w), vi (J x3), vi (J (7 + x1))]) rfl rfl ⟨Nat.le_of_ble_eq_true rfl, Nat.le_of_ble_eq_true rfl, rfl, (Or.inr ⟨_, rfl, t0⟩)⟩ rfl rfl k (fun x_11 h_10 r_12 k => ?_)
    refine R_ps 4 (pc2 := 4) (L2 := [some (vr (some w)), some (vi (J x1)), some (vi ((J x2) + (J x_11))), some (vi ((J x3) + J 1))]) (st2 := []) rfl ?_
    rw [show ((J x2) + (J x_11)) = J (x2 + x_11) from J_add' rfl rfl]
    rw [show ((J x3) + J 1) = J (x3 + 1) from J_add' rfl rfl]
    exact k
/-- DroneCorridorsModel.flyingShare -/
theorem z239 {T N : Nat → Nat} {h : PH} {w : Nat} {K : UInt64 → PH → Prop} (t0 : T w = 12) (k : (ZI T N 238 [vr (some w), vi (J 0)] h (fun x_3 h_2 => (ZI T N 238 [vr (some w), vi (J 1)] h_2 (fun x_7 h_6 => (ZI T N 238 [vr (some w), vi (J 2)] h_6 (fun x_11 h_10 => (In ((x_3 + x_7) + x_11) ∧ ((((x_3 + x_7) + x_11) = 0 → (∀ h_28, h_28 = wi h_10 w 0 1 → ((((x_3 + x_7) + x_11) = 0 → (K FP.dconst0 h_28)) ∧ (¬ (((x_3 + x_7) + x_11) = 0) → (ZI T N 238 [vr (some w), vi (J 0)] h_28 (fun x_33 h_32 => (vf_n64 (FP.ddiv (FP.i2d (J x_33)) (FP.i2d (J ((x_3 + x_7) + x_11)))) ∧ K (FP.ddiv (FP.i2d (J x_33)) (FP.i2d (J ((x_3 + x_7) + x_11)))) h_32))))))) ∧ (¬ (((x_3 + x_7) + x_11) = 0) → (∀ h_16, h_16 = wi h_10 w 0 0 → ((((x_3 + x_7) + x_11) = 0 → (K FP.dconst0 h_16)) ∧ (¬ (((x_3 + x_7) + x_11) = 0) → (ZI T N 238 [vr (some w), vi (J 0)] h_16 (fun x_21 h_20 => (vf_n64 (FP.ddiv (FP.i2d (J x_21)) (FP.i2d (J ((x_3 + x_7) + x_11)))) ∧ K (FP.ddiv (FP.i2d (J x_21)) (FP.i2d (J ((x_3 + x_7) + x_11)))) h_20)))))))))))))))) : CD T N 239 [vr (some w)] h K := by
  show WP T N 239 0 [some (vr (some w)), none] [] h _
  refine R_ps 2 (pc2 := 2) (L2 := [some (vr (some w)), none]) (st2 := [vi (J 0), vr (some w)]) rfl ?_
  refine R_zcI (as := [vr (some w), vi (J 0)]) rfl rfl ⟨Nat.le_of_ble_eq_true rfl, Nat.le_of_ble_eq_true rfl, rfl, (Or.inr ⟨_, rfl, t0⟩)⟩ rfl rfl k (fun x_3 h_2 r_4 k => ?_)
  refine R_ps 2 (pc2 := 7) (L2 := [some (vr (some w)), none]) (st2 := [vi (J 1), vr (some w), vi (J x_3)]) rfl ?_
  refine R_zcI (as := [vr (some w), vi (J 1)]) rfl rfl ⟨Nat.le_of_ble_eq_true rfl, Nat.le_of_ble_eq_true rfl, rfl, (Or.inr ⟨_, rfl, t0⟩)⟩ rfl rfl k (fun x_7 h_6 r_8 k => ?_)
  refine R_ps 3 (pc2 := 13) (L2 := [some (vr (some w)), none]) (st2 := [vi (J 2), vr (some w), vi ((J x_3) + (J x_7))]) rfl ?_
  rw [show ((J x_3) + (J x_7)) = J (x_3 + x_7) from J_add' rfl rfl]
  refine R_zcI (as := [vr (some w), vi (J 2)]) rfl rfl ⟨Nat.le_of_ble_eq_true rfl, Nat.le_of_ble_eq_true rfl, rfl, (Or.inr ⟨_, rfl, t0⟩)⟩ rfl rfl k (fun x_11 h_10 r_12 k => ?_)
  refine R_ps 4 (pc2 := 20) (L2 := [some (vr (some w)), some (vi ((J (x_3 + x_7)) + (J x_11)))]) (st2 := [vi ((J (x_3 + x_7)) + (J x_11)), vr (some w)]) rfl ?_
  rw [show ((J (x_3 + x_7)) + (J x_11)) = J ((x_3 + x_7) + x_11) from J_add' rfl rfl]
  obtain ⟨t_14, k⟩ := k
  refine R_zif0 (x := (x_3 + x_7) + x_11) rfl t_14 (fun c_13 => ?_) (fun c_13 => ?_)
  · have k := k.2 c_13
    refine R_ps 1 (pc2 := 28) (L2 := [some (vr (some w)), some (vi (J ((x_3 + x_7) + x_11)))]) (st2 := [vi (J 0), vr (some w)]) rfl ?_
    refine R_zputI (x := 0) (z := 0) rfl t0 rfl ?_
    show WP T N _ _ _ _ (wi h_10 w 0 0) _
    generalize e_17 : wi h_10 w 0 0 = h_16
    replace k := k h_16 e_17.symm
    refine R_ps 1 (pc2 := 32) (L2 := [some (vr (some w)), some (vi (J ((x_3 + x_7) + x_11)))]) (st2 := [vi (J ((x_3 + x_7) + x_11))]) rfl ?_
    refine R_zif0 (x := (x_3 + x_7) + x_11) rfl t_14 (fun c_18 => ?_) (fun c_18 => ?_)
    · have k := k.2 c_18
      refine R_ps 2 (pc2 := 41) (L2 := [some (vr (some w)), some (vi (J ((x_3 + x_7) + x_11)))]) (st2 := [vi (J 0), vr (some w)]) rfl ?_
      refine R_zcI (as := [vr (some w), vi (J 0)]) rfl rfl ⟨Nat.le_of_ble_eq_true rfl, Nat.le_of_ble_eq_true rfl, rfl, (Or.inr ⟨_, rfl, t0⟩)⟩ rfl rfl k (fun x_21 h_20 r_22 k => ?_)
      refine R_ps 3 (pc2 := 47) (L2 := [some (vr (some w)), some (vi (J ((x_3 + x_7) + x_11)))]) (st2 := [vd (FP.i2d (J ((x_3 + x_7) + x_11))), vd (FP.i2d (J x_21))]) rfl ?_
      obtain ⟨t_24, k⟩ := k
      refine R_ddiv rfl t_24 ?_
      exact R_dret rfl rfl ⟨_, rfl, k⟩
    · have k := k.1 (Classical.not_not.mp c_18)
      refine R_ps 2 (pc2 := 48) (L2 := [some (vr (some w)), some (vi (J ((x_3 + x_7) + x_11)))]) (st2 := [vd FP.dconst0]) rfl ?_
      exact R_dret rfl rfl ⟨_, rfl, k⟩
  · have k := k.1 (Classical.not_not.mp c_13)
    refine R_ps 2 (pc2 := 28) (L2 := [some (vr (some w)), some (vi (J ((x_3 + x_7) + x_11)))]) (st2 := [vi (J 1), vr (some w)]) rfl ?_
    refine R_zputI (x := 1) (z := 0) rfl t0 rfl ?_
    show WP T N _ _ _ _ (wi h_10 w 0 1) _
    generalize e_29 : wi h_10 w 0 1 = h_28
    replace k := k h_28 e_29.symm
    refine R_ps 1 (pc2 := 32) (L2 := [some (vr (some w)), some (vi (J ((x_3 + x_7) + x_11)))]) (st2 := [vi (J ((x_3 + x_7) + x_11))]) rfl ?_
    refine R_zif0 (x := (x_3 + x_7) + x_11) rfl t_14 (fun c_30 => ?_) (fun c_30 => ?_)
    · have k := k.2 c_30
      refine R_ps 2 (pc2 := 41) (L2 := [some (vr (some w)), some (vi (J ((x_3 + x_7) + x_11)))]) (st2 := [vi (J 0), vr (some w)]) rfl ?_
      refine R_zcI (as := [vr (some w), vi (J 0)]) rfl rfl ⟨Nat.le_of_ble_eq_true rfl, Nat.le_of_ble_eq_true rfl, rfl, (Or.inr ⟨_, rfl, t0⟩)⟩ rfl rfl k (fun x_33 h_32 r_34 k => ?_)
      refine R_ps 3 (pc2 := 47) (L2 := [some (vr (some w)), some (vi (J ((x_3 + x_7) + x_11)))]) (st2 := [vd (FP.i2d (J ((x_3 + x_7) + x_11))), vd (FP.i2d (J x_33))]) rfl ?_
      obtain ⟨t_36, k⟩ := k
      refine R_ddiv rfl t_36 ?_
      exact R_dret rfl rfl ⟨_, rfl, k⟩
    · have k := k.1 (Classical.not_not.mp c_30)
      refine R_ps 2 (pc2 := 48) (L2 := [some (vr (some w)), some (vi (J ((x_3 + x_7) + x_11)))]) (st2 := [vd FP.dconst0]) rfl ?_
      exact R_dret rfl rfl ⟨_, rfl, k⟩
/-- DroneCorridorsModel.busiest -/
theorem z240 {T N : Nat → Nat} {h : PH} {w : Nat} {K : Int → PH → Prop} (t0 : T w = 12) (k : (ZI T N 238 [vr (some w), vi (J 4)] h (fun x_3 h_2 => (((x_3 = 0 → (∀ h_10, h_10 = wi h_2 w 0 1 → ZW T N 240 21 [some (vr (some w)), some (vi (J 0)), some (vi (J 1))] [] h_10 K)) ∧ (¬ (x_3 = 0) → (∀ h_7, h_7 = wi h_2 w 0 0 → ZW T N 240 21 [some (vr (some w)), some (vi (J 0)), some (vi (J 1))] [] h_7 K))))))) : ZI T N 240 [vr (some w)] h K := by
  show WP T N 240 0 [some (vr (some w)), none, none] [] h _
  refine R_ps 3 (pc2 := 3) (L2 := [some (vr (some w)), none, none]) (st2 := [vi (J 4), vr (some w), vr (some w)]) rfl ?_
  refine R_zcI (as := [vr (some w), vi (J 4)]) rfl rfl ⟨Nat.le_of_ble_eq_true rfl, Nat.le_of_ble_eq_true rfl, rfl, (Or.inr ⟨_, rfl, t0⟩)⟩ rfl rfl k (fun x_3 h_2 r_4 k => ?_)
  refine R_zif0 (x := x_3) rfl r_4 (fun c_5 => ?_) (fun c_5 => ?_)
  · have k := k.2 c_5
    refine R_ps 1 (pc2 := 14) (L2 := [some (vr (some w)), none, none]) (st2 := [vi (J 0), vr (some w)]) rfl ?_
    refine R_zputI (x := 0) (z := 0) rfl t0 rfl ?_
    show WP T N _ _ _ _ (wi h_2 w 0 0) _
    generalize e_8 : wi h_2 w 0 0 = h_7
    replace k := k h_7 e_8.symm
    refine R_ps 4 (pc2 := 21) (L2 := [some (vr (some w)), some (vi (J 0)), some (vi (J 1))]) (st2 := []) rfl ?_
    exact k
  · have k := k.1 (Classical.not_not.mp c_5)
    refine R_ps 2 (pc2 := 14) (L2 := [some (vr (some w)), none, none]) (st2 := [vi (J 1), vr (some w)]) rfl ?_
    refine R_zputI (x := 1) (z := 0) rfl t0 rfl ?_
    show WP T N _ _ _ _ (wi h_2 w 0 1) _
    generalize e_11 : wi h_2 w 0 1 = h_10
    replace k := k h_10 e_11.symm
    refine R_ps 4 (pc2 := 21) (L2 := [some (vr (some w)), some (vi (J 0)), some (vi (J 1))]) (st2 := []) rfl ?_
    exact k
theorem z240_21 {T N : Nat → Nat} {h : PH} {w : Nat} {x1 : Int} {x2 : Int} {K : Int → PH → Prop} (t0 : T w = 12) (r1 : In x1) (r2 : In x2) (k : (∃ a_3, (gr h w 1) = some a_3 ∧ T a_3 = 22 ∧ (0 ≤ (117 : Int) ∧ (117 : Int) < (N a_3 : Int) ∧ (117 : Int) < 2147483648) ∧ ((x2 < (ai h a_3 117) → (ZI T N 168 [vr (some w), vi (J x2), vi (J 11)] h (fun x_14 h_13 => (ZI T N 168 [vr (some w), vi (J x1), vi (J 11)] h_13 (fun x_18 h_17 => (((x_18 < x_14 → (ZW T N 240 21 [some (vr (some w)), some (vi (J x2)), some (vi (J (x2 + 1)))] [] h_17 K)) ∧ (¬ (x_18 < x_14) → (ZW T N 240 21 [some (vr (some w)), some (vi (J x1)), some (vi (J (x2 + 1)))] [] h_17 K))))))))) ∧ (¬ (x2 < (ai h a_3 117)) → ((((ai h w 0) = 0 → (K x1 h)) ∧ (¬ ((ai h w 0) = 0) → (K 0 h)))))))) : ZW T N 240 21 [some (vr (some w)), some (vi (J x1)), some (vi (J x2))] [] h K := by
  show WP T N 240 21 [some (vr (some w)), some (vi (J x1)), some (vi (J x2))] [] h _
  refine R_ps 2 (pc2 := 23) (L2 := [some (vr (some w)), some (vi (J x1)), some (vi (J x2))]) (st2 := [vr (some w), vi (J x2)]) rfl ?_
  refine R_getR rfl t0 ?_
  refine R_ps 1 (pc2 := 28) (L2 := [some (vr (some w)), some (vi (J x1)), some (vi (J x2))]) (st2 := [vi (J 117), vr (gr h w 1), vi (J x2)]) rfl ?_
  obtain ⟨a_3, e_4, k⟩ := k
  rw [e_4]
  obtain ⟨t_5, k⟩ := k
  obtain ⟨t_6, k⟩ := k
  refine R_ziald (i := 117) rfl (Or.inl t_5) t_6 ?_
  refine R_zif (x := x2) (z := ai h a_3 117) rfl r2 (ai_in _ _ _) (fun c_7 => ?_) (fun c_7 => ?_)
  · have k := k.2 c_7
    refine R_ps 1 (pc2 := 62) (L2 := [some (vr (some w)), some (vi (J x1)), some (vi (J x2))]) (st2 := [vr (some w)]) rfl ?_
    refine R_zgetI (z := 0) rfl t0 rfl ?_
    refine R_zif0 (x := ai h w 0) rfl (ai_in _ _ _) (fun c_9 => ?_) (fun c_9 => ?_)
    · have k := k.2 c_9
      refine R_ps 1 (pc2 := 73) (L2 := [some (vr (some w)), some (vi (J x1)), some (vi (J x2))]) (st2 := [vi (J 0)]) rfl ?_
      exact R_iret rfl rfl (R_zr (x := 0) (K := K) (by decide) k)
    · have k := k.1 (Classical.not_not.mp c_9)
      refine R_ps 2 (pc2 := 73) (L2 := [some (vr (some w)), some (vi (J x1)), some (vi (J x2))]) (st2 := [vi (J x1)]) rfl ?_
      exact R_iret rfl rfl (R_zr (x := x1) (K := K) r1 k)
  · have k := k.1 (Classical.not_not.mp c_7)
    refine R_ps 3 (pc2 := 36) (L2 := [some (vr (some w)), some (vi (J x1)), some (vi (J x2))]) (st2 := [vi (J 11), vi (J x2), vr (some w)]) rfl ?_
    refine R_zcI (as := [vr (some w), vi (J x2), vi (J 11)]) rfl rfl ⟨Nat.le_of_ble_eq_true rfl, Nat.le_of_ble_eq_true rfl, rfl, (Or.inr ⟨_, rfl, t0⟩)⟩ rfl rfl k (fun x_14 h_13 r_15 k => ?_)
    refine R_ps 3 (pc2 := 43) (L2 := [some (vr (some w)), some (vi (J x1)), some (vi (J x2))]) (st2 := [vi (J 11), vi (J x1), vr (some w), vi (J x_14)]) rfl ?_
    refine R_zcI (as := [vr (some w), vi (J x1), vi (J 11)]) rfl rfl ⟨Nat.le_of_ble_eq_true rfl, Nat.le_of_ble_eq_true rfl, rfl, (Or.inr ⟨_, rfl, t0⟩)⟩ rfl rfl k (fun x_18 h_17 r_19 k => ?_)
    refine R_zif (x := x_14) (z := x_18) rfl r_15 r_19 (fun c_20 => ?_) (fun c_20 => ?_)
    · have k := k.2 c_20
      refine R_ps 4 (pc2 := 21) (L2 := [some (vr (some w)), some (vi (J x1)), some (vi ((J x2) + J 1))]) (st2 := []) rfl ?_
      rw [show ((J x2) + J 1) = J (x2 + 1) from J_add' rfl rfl]
      exact k
    · have k := k.1 (Classical.not_not.mp c_20)
      refine R_ps 5 (pc2 := 21) (L2 := [some (vr (some w)), some (vi (J x2)), some (vi ((J x2) + J 1))]) (st2 := []) rfl ?_
      rw [show ((J x2) + J 1) = J (x2 + 1) from J_add' rfl rfl]
      exact k
/-- DroneCorridorsModel.append -/
theorem z241 {T N : Nat → Nat} {h : PH} {w : Nat} {x1 : Int} {K : Int → PH → Prop} (t0 : T w = 12) (r1 : In x1) (k : (ZI T N 158 [vi (J x1), vi (J 32), vi (J 126)] h (fun x_3 h_2 => (((x_3 = 0 → (∀ h_53, h_53 = wi h_2 w 0 1 → ((0 < (ai h_53 w 0) → (K 0 h_53)) ∧ (¬ (0 < (ai h_53 w 0)) → (∃ a_60, (gr h_53 w 10) = some a_60 ∧ T a_60 = 23 ∧ (0 ≤ (ai h_53 w 11) ∧ (ai h_53 w 11) < (N a_60 : Int) ∧ (ai h_53 w 11) < 2147483648) ∧ (0 ≤ x1 ∧ x1 < 65536) ∧ ∀ h_62, h_62 = wi h_53 a_60 (ai h_53 w 11) x1 → ∀ h_69, h_69 = wi h_62 w 11 ((ai h_62 w 11) + 1) → K (ai h_69 w 11) h_69))))) ∧ (¬ (x_3 = 0) → ((((ai h_2 w 11) = 60 → (∀ h_31, h_31 = wi h_2 w 0 2 → ((0 < (ai h_31 w 0) → (K 0 h_31)) ∧ (¬ (0 < (ai h_31 w 0)) → (∃ a_38, (gr h_31 w 10) = some a_38 ∧ T a_38 = 23 ∧ (0 ≤ (ai h_31 w 11) ∧ (ai h_31 w 11) < (N a_38 : Int) ∧ (ai h_31 w 11) < 2147483648) ∧ (0 ≤ x1 ∧ x1 < 65536) ∧ ∀ h_40, h_40 = wi h_31 a_38 (ai h_31 w 11) x1 → ∀ h_47, h_47 = wi h_40 w 11 ((ai h_40 w 11) + 1) → K (ai h_47 w 11) h_47))))) ∧ (¬ ((ai h_2 w 11) = 60) → (∀ h_9, h_9 = wi h_2 w 0 0 → ((0 < (ai h_9 w 0) → (K 0 h_9)) ∧ (¬ (0 < (ai h_9 w 0)) → (∃ a_16, (gr h_9 w 10) = some a_16 ∧ T a_16 = 23 ∧ (0 ≤ (ai h_9 w 11) ∧ (ai h_9 w 11) < (N a_16 : Int) ∧ (ai h_9 w 11) < 2147483648) ∧ (0 ≤ x1 ∧ x1 < 65536) ∧ ∀ h_18, h_18 = wi h_9 a_16 (ai h_9 w 11) x1 → ∀ h_25, h_25 = wi h_18 w 11 ((ai h_18 w 11) + 1) → K (ai h_25 w 11) h_25))))))))))))) : ZI T N 241 [vr (some w), vi (J x1)] h K := by
  show WP T N 241 0 [some (vr (some w)), some (vi (J x1))] [] h _
  refine R_ps 4 (pc2 := 6) (L2 := [some (vr (some w)), some (vi (J x1))]) (st2 := [vi (J 126), vi (J 32), vi (J x1), vr (some w)]) rfl ?_
  refine R_zcI (as := [vi (J x1), vi (J 32), vi (J 126)]) rfl rfl ⟨Nat.le_of_ble_eq_true rfl, Nat.le_of_ble_eq_true rfl, rfl, (Or.inl rfl)⟩ rfl rfl k (fun x_3 h_2 r_4 k => ?_)
  refine R_zif0 (x := x_3) rfl r_4 (fun c_5 => ?_) (fun c_5 => ?_)
  · have k := k.2 c_5
    refine R_ps 1 (pc2 := 17) (L2 := [some (vr (some w)), some (vi (J x1))]) (st2 := [vr (some w), vr (some w)]) rfl ?_
    refine R_zgetI (z := 11) rfl t0 rfl ?_
    refine R_ps 1 (pc2 := 22) (L2 := [some (vr (some w)), some (vi (J x1))]) (st2 := [vi (J 60), vi (J (ai h_2 w 11)), vr (some w)]) rfl ?_
    refine R_zif (x := ai h_2 w 11) (z := 60) rfl (ai_in _ _ _) (by decide) (fun c_7 => ?_) (fun c_7 => ?_)
    · have k := k.2 c_7
      refine R_ps 1 (pc2 := 30) (L2 := [some (vr (some w)), some (vi (J x1))]) (st2 := [vi (J 0), vr (some w)]) rfl ?_
      refine R_zputI (x := 0) (z := 0) rfl t0 rfl ?_
      show WP T N _ _ _ _ (wi h_2 w 0 0) _
      generalize e_10 : wi h_2 w 0 0 = h_9
      replace k := k h_9 e_10.symm
      refine R_ps 1 (pc2 := 34) (L2 := [some (vr (some w)), some (vi (J x1))]) (st2 := [vr (some w)]) rfl ?_
      refine R_zgetI (z := 0) rfl t0 rfl ?_
      refine R_zif0 (x := ai h_9 w 0) rfl (ai_in _ _ _) (fun c_12 => ?_) (fun c_12 => ?_)
      · have k := k.2 c_12
        refine R_ps 1 (pc2 := 43) (L2 := [some (vr (some w)), some (vi (J x1))]) (st2 := [vr (some w)]) rfl ?_
        refine R_getR rfl t0 ?_
        refine R_ps 1 (pc2 := 47) (L2 := [some (vr (some w)), some (vi (J x1))]) (st2 := [vr (some w), vr (gr h_9 w 10)]) rfl ?_
        refine R_zgetI (z := 11) rfl t0 rfl ?_
        refine R_ps 1 (pc2 := 51) (L2 := [some (vr (some w)), some (vi (J x1))]) (st2 := [vi (J x1), vi (J (ai h_9 w 11)), vr (gr h_9 w 10)]) rfl ?_
        obtain ⟨a_16, e_17, k⟩ := k
        rw [e_17]
        obtain ⟨t_20, k⟩ := k
        obtain ⟨t_21, k⟩ := k
        obtain ⟨t_22, k⟩ := k
        refine R_zcast (i := ai h_9 w 11) (x := x1) rfl t_20 t_21 t_22 ?_
        show WP T N _ _ _ _ (wi h_9 a_16 (ai h_9 w 11) x1) _
        generalize e_19 : wi h_9 a_16 (ai h_9 w 11) x1 = h_18
        replace k := k h_18 e_19.symm
        refine R_ps 2 (pc2 := 54) (L2 := [some (vr (some w)), some (vi (J x1))]) (st2 := [vr (some w), vr (some w)]) rfl ?_
        refine R_zgetI (z := 11) rfl t0 rfl ?_
        refine R_ps 2 (pc2 := 59) (L2 := [some (vr (some w)), some (vi (J x1))]) (st2 := [vi ((J (ai h_18 w 11)) + (J 1)), vr (some w)]) rfl ?_
        rw [show ((J (ai h_18 w 11)) + (J 1)) = J ((ai h_18 w 11) + 1) from J_add' rfl rfl]
        refine R_zputI (x := (ai h_18 w 11) + 1) (z := 11) rfl t0 rfl ?_
        show WP T N _ _ _ _ (wi h_18 w 11 ((ai h_18 w 11) + 1)) _
        generalize e_26 : wi h_18 w 11 ((ai h_18 w 11) + 1) = h_25
        replace k := k h_25 e_26.symm
        refine R_ps 1 (pc2 := 63) (L2 := [some (vr (some w)), some (vi (J x1))]) (st2 := [vr (some w)]) rfl ?_
        refine R_zgetI (z := 11) rfl t0 rfl ?_
        exact R_iret rfl rfl (R_zr (x := ai h_25 w 11) (K := K) (ai_in _ _ _) k)
      · have k := k.1 (Classical.not_not.mp c_12)
        refine R_ps 1 (pc2 := 41) (L2 := [some (vr (some w)), some (vi (J x1))]) (st2 := [vi (J 0)]) rfl ?_
        exact R_iret rfl rfl (R_zr (x := 0) (K := K) (by decide) k)
    · have k := k.1 (Classical.not_not.mp c_7)
      refine R_ps 2 (pc2 := 30) (L2 := [some (vr (some w)), some (vi (J x1))]) (st2 := [vi (J 2), vr (some w)]) rfl ?_
      refine R_zputI (x := 2) (z := 0) rfl t0 rfl ?_
      show WP T N _ _ _ _ (wi h_2 w 0 2) _
      generalize e_32 : wi h_2 w 0 2 = h_31
      replace k := k h_31 e_32.symm
      refine R_ps 1 (pc2 := 34) (L2 := [some (vr (some w)), some (vi (J x1))]) (st2 := [vr (some w)]) rfl ?_
      refine R_zgetI (z := 0) rfl t0 rfl ?_
      refine R_zif0 (x := ai h_31 w 0) rfl (ai_in _ _ _) (fun c_34 => ?_) (fun c_34 => ?_)
      · have k := k.2 c_34
        refine R_ps 1 (pc2 := 43) (L2 := [some (vr (some w)), some (vi (J x1))]) (st2 := [vr (some w)]) rfl ?_
        refine R_getR rfl t0 ?_
        refine R_ps 1 (pc2 := 47) (L2 := [some (vr (some w)), some (vi (J x1))]) (st2 := [vr (some w), vr (gr h_31 w 10)]) rfl ?_
        refine R_zgetI (z := 11) rfl t0 rfl ?_
        refine R_ps 1 (pc2 := 51) (L2 := [some (vr (some w)), some (vi (J x1))]) (st2 := [vi (J x1), vi (J (ai h_31 w 11)), vr (gr h_31 w 10)]) rfl ?_
        obtain ⟨a_38, e_39, k⟩ := k
        rw [e_39]
        obtain ⟨t_42, k⟩ := k
        obtain ⟨t_43, k⟩ := k
        obtain ⟨t_44, k⟩ := k
        refine R_zcast (i := ai h_31 w 11) (x := x1) rfl t_42 t_43 t_44 ?_
        show WP T N _ _ _ _ (wi h_31 a_38 (ai h_31 w 11) x1) _
        generalize e_41 : wi h_31 a_38 (ai h_31 w 11) x1 = h_40
        replace k := k h_40 e_41.symm
        refine R_ps 2 (pc2 := 54) (L2 := [some (vr (some w)), some (vi (J x1))]) (st2 := [vr (some w), vr (some w)]) rfl ?_
        refine R_zgetI (z := 11) rfl t0 rfl ?_
        refine R_ps 2 (pc2 := 59) (L2 := [some (vr (some w)), some (vi (J x1))]) (st2 := [vi ((J (ai h_40 w 11)) + (J 1)), vr (some w)]) rfl ?_
        rw [show ((J (ai h_40 w 11)) + (J 1)) = J ((ai h_40 w 11) + 1) from J_add' rfl rfl]
        refine R_zputI (x := (ai h_40 w 11) + 1) (z := 11) rfl t0 rfl ?_
        show WP T N _ _ _ _ (wi h_40 w 11 ((ai h_40 w 11) + 1)) _
        generalize e_48 : wi h_40 w 11 ((ai h_40 w 11) + 1) = h_47
        replace k := k h_47 e_48.symm
        refine R_ps 1 (pc2 := 63) (L2 := [some (vr (some w)), some (vi (J x1))]) (st2 := [vr (some w)]) rfl ?_
        refine R_zgetI (z := 11) rfl t0 rfl ?_
        exact R_iret rfl rfl (R_zr (x := ai h_47 w 11) (K := K) (ai_in _ _ _) k)
      · have k := k.1 (Classical.not_not.mp c_34)
        refine R_ps 1 (pc2 := 41) (L2 := [some (vr (some w)), some (vi (J x1))]) (st2 := [vi (J 0)]) rfl ?_
        exact R_iret rfl rfl (R_zr (x := 0) (K := K) (by decide) k)
  · have k := k.1 (Classical.not_not.mp c_5)
    refine R_ps 2 (pc2 := 30) (L2 := [some (vr (some w)), some (vi (J x1))]) (st2 := [vi (J 1), vr (some w)]) rfl ?_
    refine R_zputI (x := 1) (z := 0) rfl t0 rfl ?_
    show WP T N _ _ _ _ (wi h_2 w 0 1) _
    generalize e_54 : wi h_2 w 0 1 = h_53
    replace k := k h_53 e_54.symm
    refine R_ps 1 (pc2 := 34) (L2 := [some (vr (some w)), some (vi (J x1))]) (st2 := [vr (some w)]) rfl ?_
    refine R_zgetI (z := 0) rfl t0 rfl ?_
    refine R_zif0 (x := ai h_53 w 0) rfl (ai_in _ _ _) (fun c_56 => ?_) (fun c_56 => ?_)
    · have k := k.2 c_56
      refine R_ps 1 (pc2 := 43) (L2 := [some (vr (some w)), some (vi (J x1))]) (st2 := [vr (some w)]) rfl ?_
      refine R_getR rfl t0 ?_
      refine R_ps 1 (pc2 := 47) (L2 := [some (vr (some w)), some (vi (J x1))]) (st2 := [vr (some w), vr (gr h_53 w 10)]) rfl ?_
      refine R_zgetI (z := 11) rfl t0 rfl ?_
      refine R_ps 1 (pc2 := 51) (L2 := [some (vr (some w)), some (vi (J x1))]) (st2 := [vi (J x1), vi (J (ai h_53 w 11)), vr (gr h_53 w 10)]) rfl ?_
      obtain ⟨a_60, e_61, k⟩ := k
      rw [e_61]
      obtain ⟨t_64, k⟩ := k
      obtain ⟨t_65, k⟩ := k
      obtain ⟨t_66, k⟩ := k
      refine R_zcast (i := ai h_53 w 11) (x := x1) rfl t_64 t_65 t_66 ?_
      show WP T N _ _ _ _ (wi h_53 a_60 (ai h_53 w 11) x1) _
      generalize e_63 : wi h_53 a_60 (ai h_53 w 11) x1 = h_62
      replace k := k h_62 e_63.symm
      refine R_ps 2 (pc2 := 54) (L2 := [some (vr (some w)), some (vi (J x1))]) (st2 := [vr (some w), vr (some w)]) rfl ?_
      refine R_zgetI (z := 11) rfl t0 rfl ?_
      refine R_ps 2 (pc2 := 59) (L2 := [some (vr (some w)), some (vi (J x1))]) (st2 := [vi ((J (ai h_62 w 11)) + (J 1)), vr (some w)]) rfl ?_
      rw [show ((J (ai h_62 w 11)) + (J 1)) = J ((ai h_62 w 11) + 1) from J_add' rfl rfl]
      refine R_zputI (x := (ai h_62 w 11) + 1) (z := 11) rfl t0 rfl ?_
      show WP T N _ _ _ _ (wi h_62 w 11 ((ai h_62 w 11) + 1)) _
      generalize e_70 : wi h_62 w 11 ((ai h_62 w 11) + 1) = h_69
      replace k := k h_69 e_70.symm
      refine R_ps 1 (pc2 := 63) (L2 := [some (vr (some w)), some (vi (J x1))]) (st2 := [vr (some w)]) rfl ?_
      refine R_zgetI (z := 11) rfl t0 rfl ?_
      exact R_iret rfl rfl (R_zr (x := ai h_69 w 11) (K := K) (ai_in _ _ _) k)
    · have k := k.1 (Classical.not_not.mp c_56)
      refine R_ps 1 (pc2 := 41) (L2 := [some (vr (some w)), some (vi (J x1))]) (st2 := [vi (J 0)]) rfl ?_
      exact R_iret rfl rfl (R_zr (x := 0) (K := K) (by decide) k)
/-- DroneCorridorsModel.here -/
theorem z242 {T N : Nat → Nat} {h : PH} {w : Nat} {K : Int → PH → Prop} (t0 : T w = 12) (k : ((((ai h w 24) < (ai h w 11) → (∃ a_8, (gr h w 10) = some a_8 ∧ T a_8 = 23 ∧ (0 ≤ (ai h w 24) ∧ (ai h w 24) < (N a_8 : Int) ∧ (ai h w 24) < 2147483648) ∧ K (ai h a_8 (ai h w 24)) h)) ∧ (¬ ((ai h w 24) < (ai h w 11)) → (K (-1) h))))) : ZI T N 242 [vr (some w)] h K := by
  show WP T N 242 0 [some (vr (some w))] [] h _
  refine R_ps 1 (pc2 := 1) (L2 := [some (vr (some w))]) (st2 := [vr (some w)]) rfl ?_
  refine R_zgetI (z := 24) rfl t0 rfl ?_
  refine R_ps 1 (pc2 := 5) (L2 := [some (vr (some w))]) (st2 := [vr (some w), vi (J (ai h w 24))]) rfl ?_
  refine R_zgetI (z := 11) rfl t0 rfl ?_
  refine R_zif (x := ai h w 24) (z := ai h w 11) rfl (ai_in _ _ _) (ai_in _ _ _) (fun c_3 => ?_) (fun c_3 => ?_)
  · have k := k.2 c_3
    refine R_ps 1 (pc2 := 24) (L2 := [some (vr (some w))]) (st2 := [vi (J (-1))]) rfl ?_
    exact R_iret rfl rfl (R_zr (x := (-1)) (K := K) (by decide) k)
  · have k := k.1 (Classical.not_not.mp c_3)
    refine R_ps 1 (pc2 := 12) (L2 := [some (vr (some w))]) (st2 := [vr (some w)]) rfl ?_
    refine R_getR rfl t0 ?_
    refine R_ps 1 (pc2 := 16) (L2 := [some (vr (some w))]) (st2 := [vr (some w), vr (gr h w 10)]) rfl ?_
    refine R_zgetI (z := 24) rfl t0 rfl ?_
    obtain ⟨a_8, e_9, k⟩ := k
    rw [e_9]
    obtain ⟨t_10, k⟩ := k
    obtain ⟨t_11, k⟩ := k
    refine R_zcald (i := ai h w 24) rfl t_10 t_11 ?_
    refine R_ps 1 (pc2 := 24) (L2 := [some (vr (some w))]) (st2 := [vi (J (ai h a_8 (ai h w 24)))]) rfl ?_
    exact R_iret rfl rfl (R_zr (x := ai h a_8 (ai h w 24)) (K := K) (ai_in _ _ _) k)
/-- DroneCorridorsModel.takes -/
theorem z243 {T N : Nat → Nat} {h : PH} {w : Nat} {x1 : Int} {K : PH → Prop} (t0 : T w = 12) (r1 : In x1) (k : (ZI T N 242 [vr (some w)] h (fun x_4 h_3 => (((x_4 = x1 → (((zor (ai h w 25) 0) = 0 ∨ (zor (ai h w 25) 0) = 1) ∧ ∀ h_8, h_8 = wi h_3 w 25 (zor (ai h w 25) 0) → (((ai h_8 w 25) = 0 → (∀ h_15, h_15 = wi h_8 w 24 ((ai h_8 w 24) + 1) → K h_15)) ∧ (¬ ((ai h_8 w 25) = 0) → (∀ h_19, h_19 = wi h_8 w 24 ((ai h_8 w 24) + 0) → K h_19))))) ∧ (¬ (x_4 = x1) → (((zor (ai h w 25) 1) = 0 ∨ (zor (ai h w 25) 1) = 1) ∧ ∀ h_23, h_23 = wi h_3 w 25 (zor (ai h w 25) 1) → (((ai h_23 w 25) = 0 → (∀ h_30, h_30 = wi h_23 w 24 ((ai h_23 w 24) + 1) → K h_30)) ∧ (¬ ((ai h_23 w 25) = 0) → (∀ h_34, h_34 = wi h_23 w 24 ((ai h_23 w 24) + 0) → K h_34)))))))))) : CV T N 243 [vr (some w), vi (J x1)] h K := by
  show WP T N 243 0 [some (vr (some w)), some (vi (J x1))] [] h _
  refine R_ps 2 (pc2 := 2) (L2 := [some (vr (some w)), some (vi (J x1))]) (st2 := [vr (some w), vr (some w)]) rfl ?_
  refine R_zgetZ (z := 25) rfl t0 rfl ?_
  refine R_ps 1 (pc2 := 6) (L2 := [some (vr (some w)), some (vi (J x1))]) (st2 := [vr (some w), vi (J (ai h w 25)), vr (some w)]) rfl ?_
  refine R_zcI (as := [vr (some w)]) rfl rfl ⟨Nat.le_of_ble_eq_true rfl, Nat.le_of_ble_eq_true rfl, rfl, (Or.inr ⟨_, rfl, t0⟩)⟩ rfl rfl k (fun x_4 h_3 r_5 k => ?_)
  refine R_ps 1 (pc2 := 10) (L2 := [some (vr (some w)), some (vi (J x1))]) (st2 := [vi (J x1), vi (J x_4), vi (J (ai h w 25)), vr (some w)]) rfl ?_
  refine R_zif (x := x_4) (z := x1) rfl r_5 r1 (fun c_6 => ?_) (fun c_6 => ?_)
  · have k := k.1 c_6
    refine R_ps 2 (pc2 := 19) (L2 := [some (vr (some w)), some (vi (J x1))]) (st2 := [vi ((J (ai h w 25)) ||| (J 0)), vr (some w)]) rfl ?_
    rw [show ((J (ai h w 25)) ||| (J 0)) = J (zor (ai h w 25) 0) from J_or' rfl rfl]
    obtain ⟨t_10, k⟩ := k
    refine R_zputZ (x := zor (ai h w 25) 0) (z := 25) rfl t0 t_10 rfl ?_
    show WP T N _ _ _ _ (wi h_3 w 25 (zor (ai h w 25) 0)) _
    generalize e_9 : wi h_3 w 25 (zor (ai h w 25) 0) = h_8
    replace k := k h_8 e_9.symm
    refine R_ps 2 (pc2 := 24) (L2 := [some (vr (some w)), some (vi (J x1))]) (st2 := [vr (some w), vr (some w)]) rfl ?_
    refine R_zgetI (z := 24) rfl t0 rfl ?_
    refine R_ps 1 (pc2 := 28) (L2 := [some (vr (some w)), some (vi (J x1))]) (st2 := [vr (some w), vi (J (ai h_8 w 24)), vr (some w)]) rfl ?_
    refine R_zgetZ (z := 25) rfl t0 rfl ?_
    refine R_zif0 (x := ai h_8 w 25) rfl (ai_in _ _ _) (fun c_13 => ?_) (fun c_13 => ?_)
    · have k := k.1 c_13
      refine R_ps 2 (pc2 := 40) (L2 := [some (vr (some w)), some (vi (J x1))]) (st2 := [vi ((J (ai h_8 w 24)) + (J 1)), vr (some w)]) rfl ?_
      rw [show ((J (ai h_8 w 24)) + (J 1)) = J ((ai h_8 w 24) + 1) from J_add' rfl rfl]
      refine R_zputI (x := (ai h_8 w 24) + 1) (z := 24) rfl t0 rfl ?_
      show WP T N _ _ _ _ (wi h_8 w 24 ((ai h_8 w 24) + 1)) _
      generalize e_16 : wi h_8 w 24 ((ai h_8 w 24) + 1) = h_15
      replace k := k h_15 e_16.symm
      exact R_ret rfl rfl ⟨rfl, k⟩
    · have k := k.2 c_13
      refine R_ps 3 (pc2 := 40) (L2 := [some (vr (some w)), some (vi (J x1))]) (st2 := [vi ((J (ai h_8 w 24)) + (J 0)), vr (some w)]) rfl ?_
      rw [show ((J (ai h_8 w 24)) + (J 0)) = J ((ai h_8 w 24) + 0) from J_add' rfl rfl]
      refine R_zputI (x := (ai h_8 w 24) + 0) (z := 24) rfl t0 rfl ?_
      show WP T N _ _ _ _ (wi h_8 w 24 ((ai h_8 w 24) + 0)) _
      generalize e_20 : wi h_8 w 24 ((ai h_8 w 24) + 0) = h_19
      replace k := k h_19 e_20.symm
      exact R_ret rfl rfl ⟨rfl, k⟩
  · have k := k.2 c_6
    refine R_ps 3 (pc2 := 19) (L2 := [some (vr (some w)), some (vi (J x1))]) (st2 := [vi ((J (ai h w 25)) ||| (J 1)), vr (some w)]) rfl ?_
    rw [show ((J (ai h w 25)) ||| (J 1)) = J (zor (ai h w 25) 1) from J_or' rfl rfl]
    obtain ⟨t_25, k⟩ := k
    refine R_zputZ (x := zor (ai h w 25) 1) (z := 25) rfl t0 t_25 rfl ?_
    show WP T N _ _ _ _ (wi h_3 w 25 (zor (ai h w 25) 1)) _
    generalize e_24 : wi h_3 w 25 (zor (ai h w 25) 1) = h_23
    replace k := k h_23 e_24.symm
    refine R_ps 2 (pc2 := 24) (L2 := [some (vr (some w)), some (vi (J x1))]) (st2 := [vr (some w), vr (some w)]) rfl ?_
    refine R_zgetI (z := 24) rfl t0 rfl ?_
    refine R_ps 1 (pc2 := 28) (L2 := [some (vr (some w)), some (vi (J x1))]) (st2 := [vr (some w), vi (J (ai h_23 w 24)), vr (some w)]) rfl ?_
    refine R_zgetZ (z := 25) rfl t0 rfl ?_
    refine R_zif0 (x := ai h_23 w 25) rfl (ai_in _ _ _) (fun c_28 => ?_) (fun c_28 => ?_)
    · have k := k.1 c_28
      refine R_ps 2 (pc2 := 40) (L2 := [some (vr (some w)), some (vi (J x1))]) (st2 := [vi ((J (ai h_23 w 24)) + (J 1)), vr (some w)]) rfl ?_
      rw [show ((J (ai h_23 w 24)) + (J 1)) = J ((ai h_23 w 24) + 1) from J_add' rfl rfl]
      refine R_zputI (x := (ai h_23 w 24) + 1) (z := 24) rfl t0 rfl ?_
      show WP T N _ _ _ _ (wi h_23 w 24 ((ai h_23 w 24) + 1)) _
      generalize e_31 : wi h_23 w 24 ((ai h_23 w 24) + 1) = h_30
      replace k := k h_30 e_31.symm
      exact R_ret rfl rfl ⟨rfl, k⟩
    · have k := k.2 c_28
      refine R_ps 3 (pc2 := 40) (L2 := [some (vr (some w)), some (vi (J x1))]) (st2 := [vi ((J (ai h_23 w 24)) + (J 0)), vr (some w)]) rfl ?_
      rw [show ((J (ai h_23 w 24)) + (J 0)) = J ((ai h_23 w 24) + 0) from J_add' rfl rfl]
      refine R_zputI (x := (ai h_23 w 24) + 0) (z := 24) rfl t0 rfl ?_
      show WP T N _ _ _ _ (wi h_23 w 24 ((ai h_23 w 24) + 0)) _
      generalize e_35 : wi h_23 w 24 ((ai h_23 w 24) + 0) = h_34
      replace k := k h_34 e_35.symm
      exact R_ret rfl rfl ⟨rfl, k⟩
/-- DroneCorridorsModel.digit -/
theorem z244 {T N : Nat → Nat} {h : PH} {w : Nat} {x1 : Int} {K : Int → PH → Prop} (t0 : T w = 12) (r1 : In x1) (k : (ZI T N 242 [vr (some w)] h (fun x_3 h_2 => (ZI T N 158 [vi (J (x_3 - 48)), vi (J x1), vi (J 9)] h_2 (fun x_8 h_7 => (((x_8 = 0 → (((zor (ai h_2 w 25) 1) = 0 ∨ (zor (ai h_2 w 25) 1) = 1) ∧ ∀ h_35, h_35 = wi h_7 w 25 (zor (ai h_2 w 25) 1) → (((ai h_35 w 25) = 0 → (∀ h_42, h_42 = wi h_35 w 24 ((ai h_35 w 24) + 1) → (((ai h_42 w 25) = 0 → (In (x_3 - 48) ∧ K (x_3 - 48) h_42)) ∧ (¬ ((ai h_42 w 25) = 0) → (K 0 h_42))))) ∧ (¬ ((ai h_35 w 25) = 0) → (∀ h_50, h_50 = wi h_35 w 24 ((ai h_35 w 24) + 0) → (((ai h_50 w 25) = 0 → (In (x_3 - 48) ∧ K (x_3 - 48) h_50)) ∧ (¬ ((ai h_50 w 25) = 0) → (K 0 h_50)))))))) ∧ (¬ (x_8 = 0) → (((zor (ai h_2 w 25) 0) = 0 ∨ (zor (ai h_2 w 25) 0) = 1) ∧ ∀ h_12, h_12 = wi h_7 w 25 (zor (ai h_2 w 25) 0) → (((ai h_12 w 25) = 0 → (∀ h_19, h_19 = wi h_12 w 24 ((ai h_12 w 24) + 1) → (((ai h_19 w 25) = 0 → (In (x_3 - 48) ∧ K (x_3 - 48) h_19)) ∧ (¬ ((ai h_19 w 25) = 0) → (K 0 h_19))))) ∧ (¬ ((ai h_12 w 25) = 0) → (∀ h_27, h_27 = wi h_12 w 24 ((ai h_12 w 24) + 0) → (((ai h_27 w 25) = 0 → (In (x_3 - 48) ∧ K (x_3 - 48) h_27)) ∧ (¬ ((ai h_27 w 25) = 0) → (K 0 h_27))))))))))))))) : ZI T N 244 [vr (some w), vi (J x1)] h K := by
  show WP T N 244 0 [some (vr (some w)), some (vi (J x1)), none] [] h _
  refine R_ps 1 (pc2 := 1) (L2 := [some (vr (some w)), some (vi (J x1)), none]) (st2 := [vr (some w)]) rfl ?_
  refine R_zcI (as := [vr (some w)]) rfl rfl ⟨Nat.le_of_ble_eq_true rfl, Nat.le_of_ble_eq_true rfl, rfl, (Or.inr ⟨_, rfl, t0⟩)⟩ rfl rfl k (fun x_3 h_2 r_4 k => ?_)
  refine R_ps 5 (pc2 := 10) (L2 := [some (vr (some w)), some (vi (J x1)), some (vi ((J x_3) - (J 48)))]) (st2 := [vr (some w), vr (some w)]) rfl ?_
  rw [show ((J x_3) - (J 48)) = J (x_3 - 48) from J_sub' rfl rfl]
  refine R_zgetZ (z := 25) rfl t0 rfl ?_
  refine R_ps 3 (pc2 := 17) (L2 := [some (vr (some w)), some (vi (J x1)), some (vi (J (x_3 - 48)))]) (st2 := [vi (J 9), vi (J x1), vi (J (x_3 - 48)), vi (J (ai h_2 w 25)), vr (some w)]) rfl ?_
  refine R_zcI (as := [vi (J (x_3 - 48)), vi (J x1), vi (J 9)]) rfl rfl ⟨Nat.le_of_ble_eq_true rfl, Nat.le_of_ble_eq_true rfl, rfl, (Or.inl rfl)⟩ rfl rfl k (fun x_8 h_7 r_9 k => ?_)
  refine R_zif0 (x := x_8) rfl r_9 (fun c_10 => ?_) (fun c_10 => ?_)
  · have k := k.2 c_10
    refine R_ps 2 (pc2 := 29) (L2 := [some (vr (some w)), some (vi (J x1)), some (vi (J (x_3 - 48)))]) (st2 := [vi ((J (ai h_2 w 25)) ||| (J 0)), vr (some w)]) rfl ?_
    rw [show ((J (ai h_2 w 25)) ||| (J 0)) = J (zor (ai h_2 w 25) 0) from J_or' rfl rfl]
    obtain ⟨t_14, k⟩ := k
    refine R_zputZ (x := zor (ai h_2 w 25) 0) (z := 25) rfl t0 t_14 rfl ?_
    show WP T N _ _ _ _ (wi h_7 w 25 (zor (ai h_2 w 25) 0)) _
    generalize e_13 : wi h_7 w 25 (zor (ai h_2 w 25) 0) = h_12
    replace k := k h_12 e_13.symm
    refine R_ps 2 (pc2 := 34) (L2 := [some (vr (some w)), some (vi (J x1)), some (vi (J (x_3 - 48)))]) (st2 := [vr (some w), vr (some w)]) rfl ?_
    refine R_zgetI (z := 24) rfl t0 rfl ?_
    refine R_ps 1 (pc2 := 38) (L2 := [some (vr (some w)), some (vi (J x1)), some (vi (J (x_3 - 48)))]) (st2 := [vr (some w), vi (J (ai h_12 w 24)), vr (some w)]) rfl ?_
    refine R_zgetZ (z := 25) rfl t0 rfl ?_
    refine R_zif0 (x := ai h_12 w 25) rfl (ai_in _ _ _) (fun c_17 => ?_) (fun c_17 => ?_)
    · have k := k.1 c_17
      refine R_ps 2 (pc2 := 50) (L2 := [some (vr (some w)), some (vi (J x1)), some (vi (J (x_3 - 48)))]) (st2 := [vi ((J (ai h_12 w 24)) + (J 1)), vr (some w)]) rfl ?_
      rw [show ((J (ai h_12 w 24)) + (J 1)) = J ((ai h_12 w 24) + 1) from J_add' rfl rfl]
      refine R_zputI (x := (ai h_12 w 24) + 1) (z := 24) rfl t0 rfl ?_
      show WP T N _ _ _ _ (wi h_12 w 24 ((ai h_12 w 24) + 1)) _
      generalize e_20 : wi h_12 w 24 ((ai h_12 w 24) + 1) = h_19
      replace k := k h_19 e_20.symm
      refine R_ps 1 (pc2 := 54) (L2 := [some (vr (some w)), some (vi (J x1)), some (vi (J (x_3 - 48)))]) (st2 := [vr (some w)]) rfl ?_
      refine R_zgetZ (z := 25) rfl t0 rfl ?_
      refine R_zif0 (x := ai h_19 w 25) rfl (ai_in _ _ _) (fun c_22 => ?_) (fun c_22 => ?_)
      · have k := k.1 c_22
        refine R_ps 1 (pc2 := 65) (L2 := [some (vr (some w)), some (vi (J x1)), some (vi (J (x_3 - 48)))]) (st2 := [vi (J (x_3 - 48))]) rfl ?_
        obtain ⟨t_24, k⟩ := k
        exact R_iret rfl rfl (R_zr (x := x_3 - 48) (K := K) t_24 k)
      · have k := k.2 c_22
        refine R_ps 2 (pc2 := 65) (L2 := [some (vr (some w)), some (vi (J x1)), some (vi (J (x_3 - 48)))]) (st2 := [vi (J 0)]) rfl ?_
        exact R_iret rfl rfl (R_zr (x := 0) (K := K) (by decide) k)
    · have k := k.2 c_17
      refine R_ps 3 (pc2 := 50) (L2 := [some (vr (some w)), some (vi (J x1)), some (vi (J (x_3 - 48)))]) (st2 := [vi ((J (ai h_12 w 24)) + (J 0)), vr (some w)]) rfl ?_
      rw [show ((J (ai h_12 w 24)) + (J 0)) = J ((ai h_12 w 24) + 0) from J_add' rfl rfl]
      refine R_zputI (x := (ai h_12 w 24) + 0) (z := 24) rfl t0 rfl ?_
      show WP T N _ _ _ _ (wi h_12 w 24 ((ai h_12 w 24) + 0)) _
      generalize e_28 : wi h_12 w 24 ((ai h_12 w 24) + 0) = h_27
      replace k := k h_27 e_28.symm
      refine R_ps 1 (pc2 := 54) (L2 := [some (vr (some w)), some (vi (J x1)), some (vi (J (x_3 - 48)))]) (st2 := [vr (some w)]) rfl ?_
      refine R_zgetZ (z := 25) rfl t0 rfl ?_
      refine R_zif0 (x := ai h_27 w 25) rfl (ai_in _ _ _) (fun c_30 => ?_) (fun c_30 => ?_)
      · have k := k.1 c_30
        refine R_ps 1 (pc2 := 65) (L2 := [some (vr (some w)), some (vi (J x1)), some (vi (J (x_3 - 48)))]) (st2 := [vi (J (x_3 - 48))]) rfl ?_
        obtain ⟨t_32, k⟩ := k
        exact R_iret rfl rfl (R_zr (x := x_3 - 48) (K := K) t_32 k)
      · have k := k.2 c_30
        refine R_ps 2 (pc2 := 65) (L2 := [some (vr (some w)), some (vi (J x1)), some (vi (J (x_3 - 48)))]) (st2 := [vi (J 0)]) rfl ?_
        exact R_iret rfl rfl (R_zr (x := 0) (K := K) (by decide) k)
  · have k := k.1 (Classical.not_not.mp c_10)
    refine R_ps 3 (pc2 := 29) (L2 := [some (vr (some w)), some (vi (J x1)), some (vi (J (x_3 - 48)))]) (st2 := [vi ((J (ai h_2 w 25)) ||| (J 1)), vr (some w)]) rfl ?_
    rw [show ((J (ai h_2 w 25)) ||| (J 1)) = J (zor (ai h_2 w 25) 1) from J_or' rfl rfl]
    obtain ⟨t_37, k⟩ := k
    refine R_zputZ (x := zor (ai h_2 w 25) 1) (z := 25) rfl t0 t_37 rfl ?_
    show WP T N _ _ _ _ (wi h_7 w 25 (zor (ai h_2 w 25) 1)) _
    generalize e_36 : wi h_7 w 25 (zor (ai h_2 w 25) 1) = h_35
    replace k := k h_35 e_36.symm
    refine R_ps 2 (pc2 := 34) (L2 := [some (vr (some w)), some (vi (J x1)), some (vi (J (x_3 - 48)))]) (st2 := [vr (some w), vr (some w)]) rfl ?_
    refine R_zgetI (z := 24) rfl t0 rfl ?_
    refine R_ps 1 (pc2 := 38) (L2 := [some (vr (some w)), some (vi (J x1)), some (vi (J (x_3 - 48)))]) (st2 := [vr (some w), vi (J (ai h_35 w 24)), vr (some w)]) rfl ?_
    refine R_zgetZ (z := 25) rfl t0 rfl ?_
    refine R_zif0 (x := ai h_35 w 25) rfl (ai_in _ _ _) (fun c_40 => ?_) (fun c_40 => ?_)
    · have k := k.1 c_40
      refine R_ps 2 (pc2 := 50) (L2 := [some (vr (some w)), some (vi (J x1)), some (vi (J (x_3 - 48)))]) (st2 := [vi ((J (ai h_35 w 24)) + (J 1)), vr (some w)]) rfl ?_
      rw [show ((J (ai h_35 w 24)) + (J 1)) = J ((ai h_35 w 24) + 1) from J_add' rfl rfl]
      refine R_zputI (x := (ai h_35 w 24) + 1) (z := 24) rfl t0 rfl ?_
      show WP T N _ _ _ _ (wi h_35 w 24 ((ai h_35 w 24) + 1)) _
      generalize e_43 : wi h_35 w 24 ((ai h_35 w 24) + 1) = h_42
      replace k := k h_42 e_43.symm
      refine R_ps 1 (pc2 := 54) (L2 := [some (vr (some w)), some (vi (J x1)), some (vi (J (x_3 - 48)))]) (st2 := [vr (some w)]) rfl ?_
      refine R_zgetZ (z := 25) rfl t0 rfl ?_
      refine R_zif0 (x := ai h_42 w 25) rfl (ai_in _ _ _) (fun c_45 => ?_) (fun c_45 => ?_)
      · have k := k.1 c_45
        refine R_ps 1 (pc2 := 65) (L2 := [some (vr (some w)), some (vi (J x1)), some (vi (J (x_3 - 48)))]) (st2 := [vi (J (x_3 - 48))]) rfl ?_
        obtain ⟨t_47, k⟩ := k
        exact R_iret rfl rfl (R_zr (x := x_3 - 48) (K := K) t_47 k)
      · have k := k.2 c_45
        refine R_ps 2 (pc2 := 65) (L2 := [some (vr (some w)), some (vi (J x1)), some (vi (J (x_3 - 48)))]) (st2 := [vi (J 0)]) rfl ?_
        exact R_iret rfl rfl (R_zr (x := 0) (K := K) (by decide) k)
    · have k := k.2 c_40
      refine R_ps 3 (pc2 := 50) (L2 := [some (vr (some w)), some (vi (J x1)), some (vi (J (x_3 - 48)))]) (st2 := [vi ((J (ai h_35 w 24)) + (J 0)), vr (some w)]) rfl ?_
      rw [show ((J (ai h_35 w 24)) + (J 0)) = J ((ai h_35 w 24) + 0) from J_add' rfl rfl]
      refine R_zputI (x := (ai h_35 w 24) + 0) (z := 24) rfl t0 rfl ?_
      show WP T N _ _ _ _ (wi h_35 w 24 ((ai h_35 w 24) + 0)) _
      generalize e_51 : wi h_35 w 24 ((ai h_35 w 24) + 0) = h_50
      replace k := k h_50 e_51.symm
      refine R_ps 1 (pc2 := 54) (L2 := [some (vr (some w)), some (vi (J x1)), some (vi (J (x_3 - 48)))]) (st2 := [vr (some w)]) rfl ?_
      refine R_zgetZ (z := 25) rfl t0 rfl ?_
      refine R_zif0 (x := ai h_50 w 25) rfl (ai_in _ _ _) (fun c_53 => ?_) (fun c_53 => ?_)
      · have k := k.1 c_53
        refine R_ps 1 (pc2 := 65) (L2 := [some (vr (some w)), some (vi (J x1)), some (vi (J (x_3 - 48)))]) (st2 := [vi (J (x_3 - 48))]) rfl ?_
        obtain ⟨t_55, k⟩ := k
        exact R_iret rfl rfl (R_zr (x := x_3 - 48) (K := K) t_55 k)
      · have k := k.2 c_53
        refine R_ps 2 (pc2 := 65) (L2 := [some (vr (some w)), some (vi (J x1)), some (vi (J (x_3 - 48)))]) (st2 := [vi (J 0)]) rfl ?_
        exact R_iret rfl rfl (R_zr (x := 0) (K := K) (by decide) k)
/-- DroneCorridorsModel.entry -/
theorem z245 {T N : Nat → Nat} {h : PH} {w : Nat} {K : PH → Prop} (t0 : T w = 12) (k : (ZI T N 242 [vr (some w)] h (fun x_3 h_2 => (∀ h_6, h_6 = wi h_2 w 26 x_3 → (((ai h_6 w 26) = 110 → (((zor (ai h_6 w 25) 0) = 0 ∨ (zor (ai h_6 w 25) 0) = 1) ∧ ∀ h_12, h_12 = wi h_6 w 25 (zor (ai h_6 w 25) 0) → (((ai h_12 w 25) = 0 → (∀ h_19, h_19 = wi h_12 w 24 ((ai h_12 w 24) + 1) → (((ai h_19 w 25) = 0 → ((((ai h_19 w 26) = 110 → (∀ h_26, h_26 = wi h_19 w 27 0 → (((ai h_26 w 26) = 99 → ((((ai h_26 w 25) = 0 → (CV T N 243 [vr (some w), vi (J 45)] h_26 (fun h_33 => (WV T N 245 162 [some (vr (some w))] [] h_33 K)))) ∧ (¬ ((ai h_26 w 25) = 0) → (WV T N 245 162 [some (vr (some w))] [] h_26 K))))) ∧ (¬ ((ai h_26 w 26) = 99) → (WV T N 245 207 [some (vr (some w))] [] h_26 K))))) ∧ (¬ ((ai h_19 w 26) = 110) → ((((ai h_19 w 26) = 112 → (∀ h_68, h_68 = wi h_19 w 27 0 → (((ai h_68 w 26) = 99 → ((((ai h_68 w 25) = 0 → (CV T N 243 [vr (some w), vi (J 45)] h_68 (fun h_75 => (WV T N 245 162 [some (vr (some w))] [] h_75 K)))) ∧ (¬ ((ai h_68 w 25) = 0) → (WV T N 245 162 [some (vr (some w))] [] h_68 K))))) ∧ (¬ ((ai h_68 w 26) = 99) → (WV T N 245 207 [some (vr (some w))] [] h_68 K))))) ∧ (¬ ((ai h_19 w 26) = 112) → ((((ai h_19 w 26) = 116 → (ZI T N 244 [vr (some w), vi (J 1)] h_19 (fun x_55 h_54 => (∀ h_58, h_58 = wi h_54 w 27 x_55 → (((ai h_58 w 26) = 99 → ((((ai h_58 w 25) = 0 → (CV T N 243 [vr (some w), vi (J 45)] h_58 (fun h_65 => (WV T N 245 162 [some (vr (some w))] [] h_65 K)))) ∧ (¬ ((ai h_58 w 25) = 0) → (WV T N 245 162 [some (vr (some w))] [] h_58 K))))) ∧ (¬ ((ai h_58 w 26) = 99) → (WV T N 245 207 [some (vr (some w))] [] h_58 K))))))) ∧ (¬ ((ai h_19 w 26) = 116) → (ZI T N 244 [vr (some w), vi (J 0)] h_19 (fun x_41 h_40 => (∀ h_44, h_44 = wi h_40 w 27 x_41 → (((ai h_44 w 26) = 99 → ((((ai h_44 w 25) = 0 → (CV T N 243 [vr (some w), vi (J 45)] h_44 (fun h_51 => (WV T N 245 162 [some (vr (some w))] [] h_51 K)))) ∧ (¬ ((ai h_44 w 25) = 0) → (WV T N 245 162 [some (vr (some w))] [] h_44 K))))) ∧ (¬ ((ai h_44 w 26) = 99) → (WV T N 245 207 [some (vr (some w))] [] h_44 K)))))))))))))))) ∧ (¬ ((ai h_19 w 25) = 0) → (K h_19))))) ∧ (¬ ((ai h_12 w 25) = 0) → (∀ h_79, h_79 = wi h_12 w 24 ((ai h_12 w 24) + 0) → (((ai h_79 w 25) = 0 → ((((ai h_79 w 26) = 110 → (∀ h_86, h_86 = wi h_79 w 27 0 → (((ai h_86 w 26) = 99 → ((((ai h_86 w 25) = 0 → (CV T N 243 [vr (some w), vi (J 45)] h_86 (fun h_93 => (WV T N 245 162 [some (vr (some w))] [] h_93 K)))) ∧ (¬ ((ai h_86 w 25) = 0) → (WV T N 245 162 [some (vr (some w))] [] h_86 K))))) ∧ (¬ ((ai h_86 w 26) = 99) → (WV T N 245 207 [some (vr (some w))] [] h_86 K))))) ∧ (¬ ((ai h_79 w 26) = 110) → ((((ai h_79 w 26) = 112 → (∀ h_128, h_128 = wi h_79 w 27 0 → (((ai h_128 w 26) = 99 → ((((ai h_128 w 25) = 0 → (CV T N 243 [vr (some w), vi (J 45)] h_128 (fun h_135 => (WV T N 245 162 [some (vr (some w))] [] h_135 K)))) ∧ (¬ ((ai h_128 w 25) = 0) → (WV T N 245 162 [some (vr (some w))] [] h_128 K))))) ∧ (¬ ((ai h_128 w 26) = 99) → (WV T N 245 207 [some (vr (some w))] [] h_128 K))))) ∧ (¬ ((ai h_79 w 26) = 112) → ((((ai h_79 w 26) = 116 → (ZI T N 244 [vr (some w), vi (J 1)] h_79 (fun x_115 h_114 => (∀ h_118, h_118 = wi h_114 w 27 x_115 → (((ai h_118 w 26) = 99 → ((((ai h_118 w 25) = 0 → (CV T N 243 [vr (some w), vi (J 45)] h_118 (fun h_125 => (WV T N 245 162 [some (vr (some w))] [] h_125 K)))) ∧ (¬ ((ai h_118 w 25) = 0) → (WV T N 245 162 [some (vr (some w))] [] h_118 K))))) ∧ (¬ ((ai h_118 w 26) = 99) → (WV T N 245 207 [some (vr (some w))] [] h_118 K))))))) ∧ (¬ ((ai h_79 w 26) = 116) → (ZI T N 244 [vr (some w), vi (J 0)] h_79 (fun x_101 h_100 => (∀ h_104, h_104 = wi h_100 w 27 x_101 → (((ai h_104 w 26) = 99 → ((((ai h_104 w 25) = 0 → (CV T N 243 [vr (some w), vi (J 45)] h_104 (fun h_111 => (WV T N 245 162 [some (vr (some w))] [] h_111 K)))) ∧ (¬ ((ai h_104 w 25) = 0) → (WV T N 245 162 [some (vr (some w))] [] h_104 K))))) ∧ (¬ ((ai h_104 w 26) = 99) → (WV T N 245 207 [some (vr (some w))] [] h_104 K)))))))))))))))) ∧ (¬ ((ai h_79 w 25) = 0) → (K h_79)))))))) ∧ (¬ ((ai h_6 w 26) = 110) → ((((ai h_6 w 26) = 112 → (((zor (ai h_6 w 25) 0) = 0 ∨ (zor (ai h_6 w 25) 0) = 1) ∧ ∀ h_141, h_141 = wi h_6 w 25 (zor (ai h_6 w 25) 0) → (((ai h_141 w 25) = 0 → (∀ h_148, h_148 = wi h_141 w 24 ((ai h_141 w 24) + 1) → (((ai h_148 w 25) = 0 → ((((ai h_148 w 26) = 110 → (∀ h_155, h_155 = wi h_148 w 27 0 → (((ai h_155 w 26) = 99 → ((((ai h_155 w 25) = 0 → (CV T N 243 [vr (some w), vi (J 45)] h_155 (fun h_162 => (WV T N 245 162 [some (vr (some w))] [] h_162 K)))) ∧ (¬ ((ai h_155 w 25) = 0) → (WV T N 245 162 [some (vr (some w))] [] h_155 K))))) ∧ (¬ ((ai h_155 w 26) = 99) → (WV T N 245 207 [some (vr (some w))] [] h_155 K))))) ∧ (¬ ((ai h_148 w 26) = 110) → ((((ai h_148 w 26) = 112 → (∀ h_197, h_197 = wi h_148 w 27 0 → (((ai h_197 w 26) = 99 → ((((ai h_197 w 25) = 0 → (CV T N 243 [vr (some w), vi (J 45)] h_197 (fun h_204 => (WV T N 245 162 [some (vr (some w))] [] h_204 K)))) ∧ (¬ ((ai h_197 w 25) = 0) → (WV T N 245 162 [some (vr (some w))] [] h_197 K))))) ∧ (¬ ((ai h_197 w 26) = 99) → (WV T N 245 207 [some (vr (some w))] [] h_197 K))))) ∧ (¬ ((ai h_148 w 26) = 112) → ((((ai h_148 w 26) = 116 → (ZI T N 244 [vr (some w), vi (J 1)] h_148 (fun x_184 h_183 => (∀ h_187, h_187 = wi h_183 w 27 x_184 → (((ai h_187 w 26) = 99 → ((((ai h_187 w 25) = 0 → (CV T N 243 [vr (some w), vi (J 45)] h_187 (fun h_194 => (WV T N 245 162 [some (vr (some w))] [] h_194 K)))) ∧ (¬ ((ai h_187 w 25) = 0) → (WV T N 245 162 [some (vr (some w))] [] h_187 K))))) ∧ (¬ ((ai h_187 w 26) = 99) → (WV T N 245 207 [some (vr (some w))] [] h_187 K))))))) ∧ (¬ ((ai h_148 w 26) = 116) → (ZI T N 244 [vr (some w), vi (J 0)] h_148 (fun x_170 h_169 => (∀ h_173, h_173 = wi h_169 w 27 x_170 → (((ai h_173 w 26) = 99 → ((((ai h_173 w 25) = 0 → (CV T N 243 [vr (some w), vi (J 45)] h_173 (fun h_180 => (WV T N 245 162 [some (vr (some w))] [] h_180 K)))) ∧ (¬ ((ai h_173 w 25) = 0) → (WV T N 245 162 [some (vr (some w))] [] h_173 K))))) ∧ (¬ ((ai h_173 w 26) = 99) → (WV T N 245 207 [some (vr (some w))] [] h_173 K)))))))))))))))) ∧ (¬ ((ai h_148 w 25) = 0) → (K h_148))))) ∧ (¬ ((ai h_141 w 25) = 0) → (∀ h_208, h_208 = wi h_141 w 24 ((ai h_141 w 24) + 0) → (((ai h_208 w 25) = 0 → ((((ai h_208 w 26) = 110 → (∀ h_215, h_215 = wi h_208 w 27 0 → (((ai h_215 w 26) = 99 → ((((ai h_215 w 25) = 0 → (CV T N 243 [vr (some w), vi (J 45)] h_215 (fun h_222 => (WV T N 245 162 [some (vr (some w))] [] h_222 K)))) ∧ (¬ ((ai h_215 w 25) = 0) → (WV T N 245 162 [some (vr (some w))] [] h_215 K))))) ∧ (¬ ((ai h_215 w 26) = 99) → (WV T N 245 207 [some (vr (some w))] [] h_215 K))))) ∧ (¬ ((ai h_208 w 26) = 110) → ((((ai h_208 w 26) = 112 → (∀ h_257, h_257 = wi h_208 w 27 0 → (((ai h_257 w 26) = 99 → ((((ai h_257 w 25) = 0 → (CV T N 243 [vr (some w), vi (J 45)] h_257 (fun h_264 => (WV T N 245 162 [some (vr (some w))] [] h_264 K)))) ∧ (¬ ((ai h_257 w 25) = 0) → (WV T N 245 162 [some (vr (some w))] [] h_257 K))))) ∧ (¬ ((ai h_257 w 26) = 99) → (WV T N 245 207 [some (vr (some w))] [] h_257 K))))) ∧ (¬ ((ai h_208 w 26) = 112) → ((((ai h_208 w 26) = 116 → (ZI T N 244 [vr (some w), vi (J 1)] h_208 (fun x_244 h_243 => (∀ h_247, h_247 = wi h_243 w 27 x_244 → (((ai h_247 w 26) = 99 → ((((ai h_247 w 25) = 0 → (CV T N 243 [vr (some w), vi (J 45)] h_247 (fun h_254 => (WV T N 245 162 [some (vr (some w))] [] h_254 K)))) ∧ (¬ ((ai h_247 w 25) = 0) → (WV T N 245 162 [some (vr (some w))] [] h_247 K))))) ∧ (¬ ((ai h_247 w 26) = 99) → (WV T N 245 207 [some (vr (some w))] [] h_247 K))))))) ∧ (¬ ((ai h_208 w 26) = 116) → (ZI T N 244 [vr (some w), vi (J 0)] h_208 (fun x_230 h_229 => (∀ h_233, h_233 = wi h_229 w 27 x_230 → (((ai h_233 w 26) = 99 → ((((ai h_233 w 25) = 0 → (CV T N 243 [vr (some w), vi (J 45)] h_233 (fun h_240 => (WV T N 245 162 [some (vr (some w))] [] h_240 K)))) ∧ (¬ ((ai h_233 w 25) = 0) → (WV T N 245 162 [some (vr (some w))] [] h_233 K))))) ∧ (¬ ((ai h_233 w 26) = 99) → (WV T N 245 207 [some (vr (some w))] [] h_233 K)))))))))))))))) ∧ (¬ ((ai h_208 w 25) = 0) → (K h_208)))))))) ∧ (¬ ((ai h_6 w 26) = 112) → ((((ai h_6 w 26) = 99 → (((zor (ai h_6 w 25) 0) = 0 ∨ (zor (ai h_6 w 25) 0) = 1) ∧ ∀ h_270, h_270 = wi h_6 w 25 (zor (ai h_6 w 25) 0) → (((ai h_270 w 25) = 0 → (∀ h_277, h_277 = wi h_270 w 24 ((ai h_270 w 24) + 1) → (((ai h_277 w 25) = 0 → ((((ai h_277 w 26) = 110 → (∀ h_284, h_284 = wi h_277 w 27 0 → (((ai h_284 w 26) = 99 → ((((ai h_284 w 25) = 0 → (CV T N 243 [vr (some w), vi (J 45)] h_284 (fun h_291 => (WV T N 245 162 [some (vr (some w))] [] h_291 K)))) ∧ (¬ ((ai h_284 w 25) = 0) → (WV T N 245 162 [some (vr (some w))] [] h_284 K))))) ∧ (¬ ((ai h_284 w 26) = 99) → (WV T N 245 207 [some (vr (some w))] [] h_284 K))))) ∧ (¬ ((ai h_277 w 26) = 110) → ((((ai h_277 w 26) = 112 → (∀ h_326, h_326 = wi h_277 w 27 0 → (((ai h_326 w 26) = 99 → ((((ai h_326 w 25) = 0 → (CV T N 243 [vr (some w), vi (J 45)] h_326 (fun h_333 => (WV T N 245 162 [some (vr (some w))] [] h_333 K)))) ∧ (¬ ((ai h_326 w 25) = 0) → (WV T N 245 162 [some (vr (some w))] [] h_326 K))))) ∧ (¬ ((ai h_326 w 26) = 99) → (WV T N 245 207 [some (vr (some w))] [] h_326 K))))) ∧ (¬ ((ai h_277 w 26) = 112) → ((((ai h_277 w 26) = 116 → (ZI T N 244 [vr (some w), vi (J 1)] h_277 (fun x_313 h_312 => (∀ h_316, h_316 = wi h_312 w 27 x_313 → (((ai h_316 w 26) = 99 → ((((ai h_316 w 25) = 0 → (CV T N 243 [vr (some w), vi (J 45)] h_316 (fun h_323 => (WV T N 245 162 [some (vr (some w))] [] h_323 K)))) ∧ (¬ ((ai h_316 w 25) = 0) → (WV T N 245 162 [some (vr (some w))] [] h_316 K))))) ∧ (¬ ((ai h_316 w 26) = 99) → (WV T N 245 207 [some (vr (some w))] [] h_316 K))))))) ∧ (¬ ((ai h_277 w 26) = 116) → (ZI T N 244 [vr (some w), vi (J 0)] h_277 (fun x_299 h_298 => (∀ h_302, h_302 = wi h_298 w 27 x_299 → (((ai h_302 w 26) = 99 → ((((ai h_302 w 25) = 0 → (CV T N 243 [vr (some w), vi (J 45)] h_302 (fun h_309 => (WV T N 245 162 [some (vr (some w))] [] h_309 K)))) ∧ (¬ ((ai h_302 w 25) = 0) → (WV T N 245 162 [some (vr (some w))] [] h_302 K))))) ∧ (¬ ((ai h_302 w 26) = 99) → (WV T N 245 207 [some (vr (some w))] [] h_302 K)))))))))))))))) ∧ (¬ ((ai h_277 w 25) = 0) → (K h_277))))) ∧ (¬ ((ai h_270 w 25) = 0) → (∀ h_337, h_337 = wi h_270 w 24 ((ai h_270 w 24) + 0) → (((ai h_337 w 25) = 0 → ((((ai h_337 w 26) = 110 → (∀ h_344, h_344 = wi h_337 w 27 0 → (((ai h_344 w 26) = 99 → ((((ai h_344 w 25) = 0 → (CV T N 243 [vr (some w), vi (J 45)] h_344 (fun h_351 => (WV T N 245 162 [some (vr (some w))] [] h_351 K)))) ∧ (¬ ((ai h_344 w 25) = 0) → (WV T N 245 162 [some (vr (some w))] [] h_344 K))))) ∧ (¬ ((ai h_344 w 26) = 99) → (WV T N 245 207 [some (vr (some w))] [] h_344 K))))) ∧ (¬ ((ai h_337 w 26) = 110) → ((((ai h_337 w 26) = 112 → (∀ h_386, h_386 = wi h_337 w 27 0 → (((ai h_386 w 26) = 99 → ((((ai h_386 w 25) = 0 → (CV T N 243 [vr (some w), vi (J 45)] h_386 (fun h_393 => (WV T N 245 162 [some (vr (some w))] [] h_393 K)))) ∧ (¬ ((ai h_386 w 25) = 0) → (WV T N 245 162 [some (vr (some w))] [] h_386 K))))) ∧ (¬ ((ai h_386 w 26) = 99) → (WV T N 245 207 [some (vr (some w))] [] h_386 K))))) ∧ (¬ ((ai h_337 w 26) = 112) → ((((ai h_337 w 26) = 116 → (ZI T N 244 [vr (some w), vi (J 1)] h_337 (fun x_373 h_372 => (∀ h_376, h_376 = wi h_372 w 27 x_373 → (((ai h_376 w 26) = 99 → ((((ai h_376 w 25) = 0 → (CV T N 243 [vr (some w), vi (J 45)] h_376 (fun h_383 => (WV T N 245 162 [some (vr (some w))] [] h_383 K)))) ∧ (¬ ((ai h_376 w 25) = 0) → (WV T N 245 162 [some (vr (some w))] [] h_376 K))))) ∧ (¬ ((ai h_376 w 26) = 99) → (WV T N 245 207 [some (vr (some w))] [] h_376 K))))))) ∧ (¬ ((ai h_337 w 26) = 116) → (ZI T N 244 [vr (some w), vi (J 0)] h_337 (fun x_359 h_358 => (∀ h_362, h_362 = wi h_358 w 27 x_359 → (((ai h_362 w 26) = 99 → ((((ai h_362 w 25) = 0 → (CV T N 243 [vr (some w), vi (J 45)] h_362 (fun h_369 => (WV T N 245 162 [some (vr (some w))] [] h_369 K)))) ∧ (¬ ((ai h_362 w 25) = 0) → (WV T N 245 162 [some (vr (some w))] [] h_362 K))))) ∧ (¬ ((ai h_362 w 26) = 99) → (WV T N 245 207 [some (vr (some w))] [] h_362 K)))))))))))))))) ∧ (¬ ((ai h_337 w 25) = 0) → (K h_337)))))))) ∧ (¬ ((ai h_6 w 26) = 99) → ((((ai h_6 w 26) = 100 → (((zor (ai h_6 w 25) 0) = 0 ∨ (zor (ai h_6 w 25) 0) = 1) ∧ ∀ h_399, h_399 = wi h_6 w 25 (zor (ai h_6 w 25) 0) → (((ai h_399 w 25) = 0 → (∀ h_406, h_406 = wi h_399 w 24 ((ai h_399 w 24) + 1) → (((ai h_406 w 25) = 0 → ((((ai h_406 w 26) = 110 → (∀ h_413, h_413 = wi h_406 w 27 0 → (((ai h_413 w 26) = 99 → ((((ai h_413 w 25) = 0 → (CV T N 243 [vr (some w), vi (J 45)] h_413 (fun h_420 => (WV T N 245 162 [some (vr (some w))] [] h_420 K)))) ∧ (¬ ((ai h_413 w 25) = 0) → (WV T N 245 162 [some (vr (some w))] [] h_413 K))))) ∧ (¬ ((ai h_413 w 26) = 99) → (WV T N 245 207 [some (vr (some w))] [] h_413 K))))) ∧ (¬ ((ai h_406 w 26) = 110) → ((((ai h_406 w 26) = 112 → (∀ h_455, h_455 = wi h_406 w 27 0 → (((ai h_455 w 26) = 99 → ((((ai h_455 w 25) = 0 → (CV T N 243 [vr (some w), vi (J 45)] h_455 (fun h_462 => (WV T N 245 162 [some (vr (some w))] [] h_462 K)))) ∧ (¬ ((ai h_455 w 25) = 0) → (WV T N 245 162 [some (vr (some w))] [] h_455 K))))) ∧ (¬ ((ai h_455 w 26) = 99) → (WV T N 245 207 [some (vr (some w))] [] h_455 K))))) ∧ (¬ ((ai h_406 w 26) = 112) → ((((ai h_406 w 26) = 116 → (ZI T N 244 [vr (some w), vi (J 1)] h_406 (fun x_442 h_441 => (∀ h_445, h_445 = wi h_441 w 27 x_442 → (((ai h_445 w 26) = 99 → ((((ai h_445 w 25) = 0 → (CV T N 243 [vr (some w), vi (J 45)] h_445 (fun h_452 => (WV T N 245 162 [some (vr (some w))] [] h_452 K)))) ∧ (¬ ((ai h_445 w 25) = 0) → (WV T N 245 162 [some (vr (some w))] [] h_445 K))))) ∧ (¬ ((ai h_445 w 26) = 99) → (WV T N 245 207 [some (vr (some w))] [] h_445 K))))))) ∧ (¬ ((ai h_406 w 26) = 116) → (ZI T N 244 [vr (some w), vi (J 0)] h_406 (fun x_428 h_427 => (∀ h_431, h_431 = wi h_427 w 27 x_428 → (((ai h_431 w 26) = 99 → ((((ai h_431 w 25) = 0 → (CV T N 243 [vr (some w), vi (J 45)] h_431 (fun h_438 => (WV T N 245 162 [some (vr (some w))] [] h_438 K)))) ∧ (¬ ((ai h_431 w 25) = 0) → (WV T N 245 162 [some (vr (some w))] [] h_431 K))))) ∧ (¬ ((ai h_431 w 26) = 99) → (WV T N 245 207 [some (vr (some w))] [] h_431 K)))))))))))))))) ∧ (¬ ((ai h_406 w 25) = 0) → (K h_406))))) ∧ (¬ ((ai h_399 w 25) = 0) → (∀ h_466, h_466 = wi h_399 w 24 ((ai h_399 w 24) + 0) → (((ai h_466 w 25) = 0 → ((((ai h_466 w 26) = 110 → (∀ h_473, h_473 = wi h_466 w 27 0 → (((ai h_473 w 26) = 99 → ((((ai h_473 w 25) = 0 → (CV T N 243 [vr (some w), vi (J 45)] h_473 (fun h_480 => (WV T N 245 162 [some (vr (some w))] [] h_480 K)))) ∧ (¬ ((ai h_473 w 25) = 0) → (WV T N 245 162 [some (vr (some w))] [] h_473 K))))) ∧ (¬ ((ai h_473 w 26) = 99) → (WV T N 245 207 [some (vr (some w))] [] h_473 K))))) ∧ (¬ ((ai h_466 w 26) = 110) → ((((ai h_466 w 26) = 112 → (∀ h_515, h_515 = wi h_466 w 27 0 → (((ai h_515 w 26) = 99 → ((((ai h_515 w 25) = 0 → (CV T N 243 [vr (some w), vi (J 45)] h_515 (fun h_522 => (WV T N 245 162 [some (vr (some w))] [] h_522 K)))) ∧ (¬ ((ai h_515 w 25) = 0) → (WV T N 245 162 [some (vr (some w))] [] h_515 K))))) ∧ (¬ ((ai h_515 w 26) = 99) → (WV T N 245 207 [some (vr (some w))] [] h_515 K))))) ∧ (¬ ((ai h_466 w 26) = 112) → ((((ai h_466 w 26) = 116 → (ZI T N 244 [vr (some w), vi (J 1)] h_466 (fun x_502 h_501 => (∀ h_505, h_505 = wi h_501 w 27 x_502 → (((ai h_505 w 26) = 99 → ((((ai h_505 w 25) = 0 → (CV T N 243 [vr (some w), vi (J 45)] h_505 (fun h_512 => (WV T N 245 162 [some (vr (some w))] [] h_512 K)))) ∧ (¬ ((ai h_505 w 25) = 0) → (WV T N 245 162 [some (vr (some w))] [] h_505 K))))) ∧ (¬ ((ai h_505 w 26) = 99) → (WV T N 245 207 [some (vr (some w))] [] h_505 K))))))) ∧ (¬ ((ai h_466 w 26) = 116) → (ZI T N 244 [vr (some w), vi (J 0)] h_466 (fun x_488 h_487 => (∀ h_491, h_491 = wi h_487 w 27 x_488 → (((ai h_491 w 26) = 99 → ((((ai h_491 w 25) = 0 → (CV T N 243 [vr (some w), vi (J 45)] h_491 (fun h_498 => (WV T N 245 162 [some (vr (some w))] [] h_498 K)))) ∧ (¬ ((ai h_491 w 25) = 0) → (WV T N 245 162 [some (vr (some w))] [] h_491 K))))) ∧ (¬ ((ai h_491 w 26) = 99) → (WV T N 245 207 [some (vr (some w))] [] h_491 K)))))))))))))))) ∧ (¬ ((ai h_466 w 25) = 0) → (K h_466)))))))) ∧ (¬ ((ai h_6 w 26) = 100) → ((((ai h_6 w 26) = 116 → (((zor (ai h_6 w 25) 0) = 0 ∨ (zor (ai h_6 w 25) 0) = 1) ∧ ∀ h_528, h_528 = wi h_6 w 25 (zor (ai h_6 w 25) 0) → (((ai h_528 w 25) = 0 → (∀ h_535, h_535 = wi h_528 w 24 ((ai h_528 w 24) + 1) → (((ai h_535 w 25) = 0 → ((((ai h_535 w 26) = 110 → (∀ h_542, h_542 = wi h_535 w 27 0 → (((ai h_542 w 26) = 99 → ((((ai h_542 w 25) = 0 → (CV T N 243 [vr (some w), vi (J 45)] h_542 (fun h_549 => (WV T N 245 162 [some (vr (some w))] [] h_549 K)))) ∧ (¬ ((ai h_542 w 25) = 0) → (WV T N 245 162 [some (vr (some w))] [] h_542 K))))) ∧ (¬ ((ai h_542 w 26) = 99) → (WV T N 245 207 [some (vr (some w))] [] h_542 K))))) ∧ (¬ ((ai h_535 w 26) = 110) → ((((ai h_535 w 26) = 112 → (∀ h_584, h_584 = wi h_535 w 27 0 → (((ai h_584 w 26) = 99 → ((((ai h_584 w 25) = 0 → (CV T N 243 [vr (some w), vi (J 45)] h_584 (fun h_591 => (WV T N 245 162 [some (vr (some w))] [] h_591 K)))) ∧ (¬ ((ai h_584 w 25) = 0) → (WV T N 245 162 [some (vr (some w))] [] h_584 K))))) ∧ (¬ ((ai h_584 w 26) = 99) → (WV T N 245 207 [some (vr (some w))] [] h_584 K))))) ∧ (¬ ((ai h_535 w 26) = 112) → ((((ai h_535 w 26) = 116 → (ZI T N 244 [vr (some w), vi (J 1)] h_535 (fun x_571 h_570 => (∀ h_574, h_574 = wi h_570 w 27 x_571 → (((ai h_574 w 26) = 99 → ((((ai h_574 w 25) = 0 → (CV T N 243 [vr (some w), vi (J 45)] h_574 (fun h_581 => (WV T N 245 162 [some (vr (some w))] [] h_581 K)))) ∧ (¬ ((ai h_574 w 25) = 0) → (WV T N 245 162 [some (vr (some w))] [] h_574 K))))) ∧ (¬ ((ai h_574 w 26) = 99) → (WV T N 245 207 [some (vr (some w))] [] h_574 K))))))) ∧ (¬ ((ai h_535 w 26) = 116) → (ZI T N 244 [vr (some w), vi (J 0)] h_535 (fun x_557 h_556 => (∀ h_560, h_560 = wi h_556 w 27 x_557 → (((ai h_560 w 26) = 99 → ((((ai h_560 w 25) = 0 → (CV T N 243 [vr (some w), vi (J 45)] h_560 (fun h_567 => (WV T N 245 162 [some (vr (some w))] [] h_567 K)))) ∧ (¬ ((ai h_560 w 25) = 0) → (WV T N 245 162 [some (vr (some w))] [] h_560 K))))) ∧ (¬ ((ai h_560 w 26) = 99) → (WV T N 245 207 [some (vr (some w))] [] h_560 K)))))))))))))))) ∧ (¬ ((ai h_535 w 25) = 0) → (K h_535))))) ∧ (¬ ((ai h_528 w 25) = 0) → (∀ h_595, h_595 = wi h_528 w 24 ((ai h_528 w 24) + 0) → (((ai h_595 w 25) = 0 → ((((ai h_595 w 26) = 110 → (∀ h_602, h_602 = wi h_595 w 27 0 → (((ai h_602 w 26) = 99 → ((((ai h_602 w 25) = 0 → (CV T N 243 [vr (some w), vi (J 45)] h_602 (fun h_609 => (WV T N 245 162 [some (vr (some w))] [] h_609 K)))) ∧ (¬ ((ai h_602 w 25) = 0) → (WV T N 245 162 [some (vr (some w))] [] h_602 K))))) ∧ (¬ ((ai h_602 w 26) = 99) → (WV T N 245 207 [some (vr (some w))] [] h_602 K))))) ∧ (¬ ((ai h_595 w 26) = 110) → ((((ai h_595 w 26) = 112 → (∀ h_644, h_644 = wi h_595 w 27 0 → (((ai h_644 w 26) = 99 → ((((ai h_644 w 25) = 0 → (CV T N 243 [vr (some w), vi (J 45)] h_644 (fun h_651 => (WV T N 245 162 [some (vr (some w))] [] h_651 K)))) ∧ (¬ ((ai h_644 w 25) = 0) → (WV T N 245 162 [some (vr (some w))] [] h_644 K))))) ∧ (¬ ((ai h_644 w 26) = 99) → (WV T N 245 207 [some (vr (some w))] [] h_644 K))))) ∧ (¬ ((ai h_595 w 26) = 112) → ((((ai h_595 w 26) = 116 → (ZI T N 244 [vr (some w), vi (J 1)] h_595 (fun x_631 h_630 => (∀ h_634, h_634 = wi h_630 w 27 x_631 → (((ai h_634 w 26) = 99 → ((((ai h_634 w 25) = 0 → (CV T N 243 [vr (some w), vi (J 45)] h_634 (fun h_641 => (WV T N 245 162 [some (vr (some w))] [] h_641 K)))) ∧ (¬ ((ai h_634 w 25) = 0) → (WV T N 245 162 [some (vr (some w))] [] h_634 K))))) ∧ (¬ ((ai h_634 w 26) = 99) → (WV T N 245 207 [some (vr (some w))] [] h_634 K))))))) ∧ (¬ ((ai h_595 w 26) = 116) → (ZI T N 244 [vr (some w), vi (J 0)] h_595 (fun x_617 h_616 => (∀ h_620, h_620 = wi h_616 w 27 x_617 → (((ai h_620 w 26) = 99 → ((((ai h_620 w 25) = 0 → (CV T N 243 [vr (some w), vi (J 45)] h_620 (fun h_627 => (WV T N 245 162 [some (vr (some w))] [] h_627 K)))) ∧ (¬ ((ai h_620 w 25) = 0) → (WV T N 245 162 [some (vr (some w))] [] h_620 K))))) ∧ (¬ ((ai h_620 w 26) = 99) → (WV T N 245 207 [some (vr (some w))] [] h_620 K)))))))))))))))) ∧ (¬ ((ai h_595 w 25) = 0) → (K h_595)))))))) ∧ (¬ ((ai h_6 w 26) = 116) → (((zor (ai h_6 w 25) 1) = 0 ∨ (zor (ai h_6 w 25) 1) = 1) ∧ ∀ h_655, h_655 = wi h_6 w 25 (zor (ai h_6 w 25) 1) → (((ai h_655 w 25) = 0 → (∀ h_662, h_662 = wi h_655 w 24 ((ai h_655 w 24) + 1) → (((ai h_662 w 25) = 0 → ((((ai h_662 w 26) = 110 → (∀ h_669, h_669 = wi h_662 w 27 0 → (((ai h_669 w 26) = 99 → ((((ai h_669 w 25) = 0 → (CV T N 243 [vr (some w), vi (J 45)] h_669 (fun h_676 => (WV T N 245 162 [some (vr (some w))] [] h_676 K)))) ∧ (¬ ((ai h_669 w 25) = 0) → (WV T N 245 162 [some (vr (some w))] [] h_669 K))))) ∧ (¬ ((ai h_669 w 26) = 99) → (WV T N 245 207 [some (vr (some w))] [] h_669 K))))) ∧ (¬ ((ai h_662 w 26) = 110) → ((((ai h_662 w 26) = 112 → (∀ h_711, h_711 = wi h_662 w 27 0 → (((ai h_711 w 26) = 99 → ((((ai h_711 w 25) = 0 → (CV T N 243 [vr (some w), vi (J 45)] h_711 (fun h_718 => (WV T N 245 162 [some (vr (some w))] [] h_718 K)))) ∧ (¬ ((ai h_711 w 25) = 0) → (WV T N 245 162 [some (vr (some w))] [] h_711 K))))) ∧ (¬ ((ai h_711 w 26) = 99) → (WV T N 245 207 [some (vr (some w))] [] h_711 K))))) ∧ (¬ ((ai h_662 w 26) = 112) → ((((ai h_662 w 26) = 116 → (ZI T N 244 [vr (some w), vi (J 1)] h_662 (fun x_698 h_697 => (∀ h_701, h_701 = wi h_697 w 27 x_698 → (((ai h_701 w 26) = 99 → ((((ai h_701 w 25) = 0 → (CV T N 243 [vr (some w), vi (J 45)] h_701 (fun h_708 => (WV T N 245 162 [some (vr (some w))] [] h_708 K)))) ∧ (¬ ((ai h_701 w 25) = 0) → (WV T N 245 162 [some (vr (some w))] [] h_701 K))))) ∧ (¬ ((ai h_701 w 26) = 99) → (WV T N 245 207 [some (vr (some w))] [] h_701 K))))))) ∧ (¬ ((ai h_662 w 26) = 116) → (ZI T N 244 [vr (some w), vi (J 0)] h_662 (fun x_684 h_683 => (∀ h_687, h_687 = wi h_683 w 27 x_684 → (((ai h_687 w 26) = 99 → ((((ai h_687 w 25) = 0 → (CV T N 243 [vr (some w), vi (J 45)] h_687 (fun h_694 => (WV T N 245 162 [some (vr (some w))] [] h_694 K)))) ∧ (¬ ((ai h_687 w 25) = 0) → (WV T N 245 162 [some (vr (some w))] [] h_687 K))))) ∧ (¬ ((ai h_687 w 26) = 99) → (WV T N 245 207 [some (vr (some w))] [] h_687 K)))))))))))))))) ∧ (¬ ((ai h_662 w 25) = 0) → (K h_662))))) ∧ (¬ ((ai h_655 w 25) = 0) → (∀ h_722, h_722 = wi h_655 w 24 ((ai h_655 w 24) + 0) → (((ai h_722 w 25) = 0 → ((((ai h_722 w 26) = 110 → (∀ h_729, h_729 = wi h_722 w 27 0 → (((ai h_729 w 26) = 99 → ((((ai h_729 w 25) = 0 → (CV T N 243 [vr (some w), vi (J 45)] h_729 (fun h_736 => (WV T N 245 162 [some (vr (some w))] [] h_736 K)))) ∧ (¬ ((ai h_729 w 25) = 0) → (WV T N 245 162 [some (vr (some w))] [] h_729 K))))) ∧ (¬ ((ai h_729 w 26) = 99) → (WV T N 245 207 [some (vr (some w))] [] h_729 K))))) ∧ (¬ ((ai h_722 w 26) = 110) → ((((ai h_722 w 26) = 112 → (∀ h_771, h_771 = wi h_722 w 27 0 → (((ai h_771 w 26) = 99 → ((((ai h_771 w 25) = 0 → (CV T N 243 [vr (some w), vi (J 45)] h_771 (fun h_778 => (WV T N 245 162 [some (vr (some w))] [] h_778 K)))) ∧ (¬ ((ai h_771 w 25) = 0) → (WV T N 245 162 [some (vr (some w))] [] h_771 K))))) ∧ (¬ ((ai h_771 w 26) = 99) → (WV T N 245 207 [some (vr (some w))] [] h_771 K))))) ∧ (¬ ((ai h_722 w 26) = 112) → ((((ai h_722 w 26) = 116 → (ZI T N 244 [vr (some w), vi (J 1)] h_722 (fun x_758 h_757 => (∀ h_761, h_761 = wi h_757 w 27 x_758 → (((ai h_761 w 26) = 99 → ((((ai h_761 w 25) = 0 → (CV T N 243 [vr (some w), vi (J 45)] h_761 (fun h_768 => (WV T N 245 162 [some (vr (some w))] [] h_768 K)))) ∧ (¬ ((ai h_761 w 25) = 0) → (WV T N 245 162 [some (vr (some w))] [] h_761 K))))) ∧ (¬ ((ai h_761 w 26) = 99) → (WV T N 245 207 [some (vr (some w))] [] h_761 K))))))) ∧ (¬ ((ai h_722 w 26) = 116) → (ZI T N 244 [vr (some w), vi (J 0)] h_722 (fun x_744 h_743 => (∀ h_747, h_747 = wi h_743 w 27 x_744 → (((ai h_747 w 26) = 99 → ((((ai h_747 w 25) = 0 → (CV T N 243 [vr (some w), vi (J 45)] h_747 (fun h_754 => (WV T N 245 162 [some (vr (some w))] [] h_754 K)))) ∧ (¬ ((ai h_747 w 25) = 0) → (WV T N 245 162 [some (vr (some w))] [] h_747 K))))) ∧ (¬ ((ai h_747 w 26) = 99) → (WV T N 245 207 [some (vr (some w))] [] h_747 K)))))))))))))))) ∧ (¬ ((ai h_722 w 25) = 0) → (K h_722))))))))))))))))))))))))) : CV T N 245 [vr (some w)] h K := by
  show WP T N 245 0 [some (vr (some w))] [] h _
  refine R_ps 2 (pc2 := 2) (L2 := [some (vr (some w))]) (st2 := [vr (some w), vr (some w)]) rfl ?_
  refine R_zcI (as := [vr (some w)]) rfl rfl ⟨Nat.le_of_ble_eq_true rfl, Nat.le_of_ble_eq_true rfl, rfl, (Or.inr ⟨_, rfl, t0⟩)⟩ rfl rfl k (fun x_3 h_2 r_4 k => ?_)
  refine R_zputI (x := x_3) (z := 26) rfl t0 rfl ?_
  show WP T N _ _ _ _ (wi h_2 w 26 x_3) _
  generalize e_7 : wi h_2 w 26 x_3 = h_6
  replace k := k h_6 e_7.symm
  refine R_ps 2 (pc2 := 10) (L2 := [some (vr (some w))]) (st2 := [vr (some w), vr (some w)]) rfl ?_
  refine R_zgetZ (z := 25) rfl t0 rfl ?_
  refine R_ps 1 (pc2 := 14) (L2 := [some (vr (some w))]) (st2 := [vr (some w), vi (J (ai h_6 w 25)), vr (some w)]) rfl ?_
  refine R_zgetI (z := 26) rfl t0 rfl ?_
  refine R_ps 1 (pc2 := 19) (L2 := [some (vr (some w))]) (st2 := [vi (J 110), vi (J (ai h_6 w 26)), vi (J (ai h_6 w 25)), vr (some w)]) rfl ?_
  refine R_zif (x := ai h_6 w 26) (z := 110) rfl (ai_in _ _ _) (by decide) (fun c_10 => ?_) (fun c_10 => ?_)
  · have k := k.1 c_10
    refine R_ps 2 (pc2 := 64) (L2 := [some (vr (some w))]) (st2 := [vi ((J (ai h_6 w 25)) ||| (J 0)), vr (some w)]) rfl ?_
    rw [show ((J (ai h_6 w 25)) ||| (J 0)) = J (zor (ai h_6 w 25) 0) from J_or' rfl rfl]
    obtain ⟨t_14, k⟩ := k
    refine R_zputZ (x := zor (ai h_6 w 25) 0) (z := 25) rfl t0 t_14 rfl ?_
    show WP T N _ _ _ _ (wi h_6 w 25 (zor (ai h_6 w 25) 0)) _
    generalize e_13 : wi h_6 w 25 (zor (ai h_6 w 25) 0) = h_12
    replace k := k h_12 e_13.symm
    refine R_ps 2 (pc2 := 69) (L2 := [some (vr (some w))]) (st2 := [vr (some w), vr (some w)]) rfl ?_
    refine R_zgetI (z := 24) rfl t0 rfl ?_
    refine R_ps 1 (pc2 := 73) (L2 := [some (vr (some w))]) (st2 := [vr (some w), vi (J (ai h_12 w 24)), vr (some w)]) rfl ?_
    refine R_zgetZ (z := 25) rfl t0 rfl ?_
    refine R_zif0 (x := ai h_12 w 25) rfl (ai_in _ _ _) (fun c_17 => ?_) (fun c_17 => ?_)
    · have k := k.1 c_17
      refine R_ps 2 (pc2 := 85) (L2 := [some (vr (some w))]) (st2 := [vi ((J (ai h_12 w 24)) + (J 1)), vr (some w)]) rfl ?_
      rw [show ((J (ai h_12 w 24)) + (J 1)) = J ((ai h_12 w 24) + 1) from J_add' rfl rfl]
      refine R_zputI (x := (ai h_12 w 24) + 1) (z := 24) rfl t0 rfl ?_
      show WP T N _ _ _ _ (wi h_12 w 24 ((ai h_12 w 24) + 1)) _
      generalize e_20 : wi h_12 w 24 ((ai h_12 w 24) + 1) = h_19
      replace k := k h_19 e_20.symm
      refine R_ps 1 (pc2 := 89) (L2 := [some (vr (some w))]) (st2 := [vr (some w)]) rfl ?_
      refine R_zgetZ (z := 25) rfl t0 rfl ?_
      refine R_zif0 (x := ai h_19 w 25) rfl (ai_in _ _ _) (fun c_22 => ?_) (fun c_22 => ?_)
      · have k := k.1 c_22
        refine R_ps 2 (pc2 := 98) (L2 := [some (vr (some w))]) (st2 := [vr (some w), vr (some w)]) rfl ?_
        refine R_zgetI (z := 26) rfl t0 rfl ?_
        refine R_ps 1 (pc2 := 103) (L2 := [some (vr (some w))]) (st2 := [vi (J 110), vi (J (ai h_19 w 26)), vr (some w)]) rfl ?_
        refine R_zif (x := ai h_19 w 26) (z := 110) rfl (ai_in _ _ _) (by decide) (fun c_24 => ?_) (fun c_24 => ?_)
        · have k := k.1 c_24
          refine R_ps 2 (pc2 := 137) (L2 := [some (vr (some w))]) (st2 := [vi (J 0), vr (some w)]) rfl ?_
          refine R_zputI (x := 0) (z := 27) rfl t0 rfl ?_
          show WP T N _ _ _ _ (wi h_19 w 27 0) _
          generalize e_27 : wi h_19 w 27 0 = h_26
          replace k := k h_26 e_27.symm
          refine R_ps 1 (pc2 := 141) (L2 := [some (vr (some w))]) (st2 := [vr (some w)]) rfl ?_
          refine R_zgetI (z := 26) rfl t0 rfl ?_
          refine R_ps 1 (pc2 := 146) (L2 := [some (vr (some w))]) (st2 := [vi (J 99), vi (J (ai h_26 w 26))]) rfl ?_
          refine R_zif (x := ai h_26 w 26) (z := 99) rfl (ai_in _ _ _) (by decide) (fun c_29 => ?_) (fun c_29 => ?_)
          · have k := k.2 c_29
            exact k
          · have k := k.1 (Classical.not_not.mp c_29)
            refine R_ps 1 (pc2 := 150) (L2 := [some (vr (some w))]) (st2 := [vr (some w)]) rfl ?_
            refine R_zgetZ (z := 25) rfl t0 rfl ?_
            refine R_zif0 (x := ai h_26 w 25) rfl (ai_in _ _ _) (fun c_31 => ?_) (fun c_31 => ?_)
            · have k := k.2 c_31
              exact k
            · have k := k.1 (Classical.not_not.mp c_31)
              refine R_ps 2 (pc2 := 159) (L2 := [some (vr (some w))]) (st2 := [vi (J 45), vr (some w)]) rfl ?_
              refine R_cV (as := [vr (some w), vi (J 45)]) rfl rfl ⟨Nat.le_of_ble_eq_true rfl, Nat.le_of_ble_eq_true rfl, rfl, (Or.inr ⟨_, rfl, t0⟩)⟩ rfl rfl k (fun h_33 k => ?_)
              exact k
        · have k := k.2 c_24
          refine R_ps 1 (pc2 := 107) (L2 := [some (vr (some w))]) (st2 := [vr (some w), vr (some w)]) rfl ?_
          refine R_zgetI (z := 26) rfl t0 rfl ?_
          refine R_ps 1 (pc2 := 112) (L2 := [some (vr (some w))]) (st2 := [vi (J 112), vi (J (ai h_19 w 26)), vr (some w)]) rfl ?_
          refine R_zif (x := ai h_19 w 26) (z := 112) rfl (ai_in _ _ _) (by decide) (fun c_36 => ?_) (fun c_36 => ?_)
          · have k := k.2 c_36
            refine R_ps 2 (pc2 := 121) (L2 := [some (vr (some w))]) (st2 := [vr (some w), vr (some w), vr (some w)]) rfl ?_
            refine R_zgetI (z := 26) rfl t0 rfl ?_
            refine R_ps 1 (pc2 := 126) (L2 := [some (vr (some w))]) (st2 := [vi (J 116), vi (J (ai h_19 w 26)), vr (some w), vr (some w)]) rfl ?_
            refine R_zif (x := ai h_19 w 26) (z := 116) rfl (ai_in _ _ _) (by decide) (fun c_38 => ?_) (fun c_38 => ?_)
            · have k := k.2 c_38
              refine R_ps 1 (pc2 := 134) (L2 := [some (vr (some w))]) (st2 := [vi (J 0), vr (some w), vr (some w)]) rfl ?_
              refine R_zcI (as := [vr (some w), vi (J 0)]) rfl rfl ⟨Nat.le_of_ble_eq_true rfl, Nat.le_of_ble_eq_true rfl, rfl, (Or.inr ⟨_, rfl, t0⟩)⟩ rfl rfl k (fun x_41 h_40 r_42 k => ?_)
              refine R_zputI (x := x_41) (z := 27) rfl t0 rfl ?_
              show WP T N _ _ _ _ (wi h_40 w 27 x_41) _
              generalize e_45 : wi h_40 w 27 x_41 = h_44
              replace k := k h_44 e_45.symm
              refine R_ps 1 (pc2 := 141) (L2 := [some (vr (some w))]) (st2 := [vr (some w)]) rfl ?_
              refine R_zgetI (z := 26) rfl t0 rfl ?_
              refine R_ps 1 (pc2 := 146) (L2 := [some (vr (some w))]) (st2 := [vi (J 99), vi (J (ai h_44 w 26))]) rfl ?_
              refine R_zif (x := ai h_44 w 26) (z := 99) rfl (ai_in _ _ _) (by decide) (fun c_47 => ?_) (fun c_47 => ?_)
              · have k := k.2 c_47
                exact k
              · have k := k.1 (Classical.not_not.mp c_47)
                refine R_ps 1 (pc2 := 150) (L2 := [some (vr (some w))]) (st2 := [vr (some w)]) rfl ?_
                refine R_zgetZ (z := 25) rfl t0 rfl ?_
                refine R_zif0 (x := ai h_44 w 25) rfl (ai_in _ _ _) (fun c_49 => ?_) (fun c_49 => ?_)
                · have k := k.2 c_49
                  exact k
                · have k := k.1 (Classical.not_not.mp c_49)
                  refine R_ps 2 (pc2 := 159) (L2 := [some (vr (some w))]) (st2 := [vi (J 45), vr (some w)]) rfl ?_
                  refine R_cV (as := [vr (some w), vi (J 45)]) rfl rfl ⟨Nat.le_of_ble_eq_true rfl, Nat.le_of_ble_eq_true rfl, rfl, (Or.inr ⟨_, rfl, t0⟩)⟩ rfl rfl k (fun h_51 k => ?_)
                  exact k
            · have k := k.1 (Classical.not_not.mp c_38)
              refine R_ps 2 (pc2 := 134) (L2 := [some (vr (some w))]) (st2 := [vi (J 1), vr (some w), vr (some w)]) rfl ?_
              refine R_zcI (as := [vr (some w), vi (J 1)]) rfl rfl ⟨Nat.le_of_ble_eq_true rfl, Nat.le_of_ble_eq_true rfl, rfl, (Or.inr ⟨_, rfl, t0⟩)⟩ rfl rfl k (fun x_55 h_54 r_56 k => ?_)
              refine R_zputI (x := x_55) (z := 27) rfl t0 rfl ?_
              show WP T N _ _ _ _ (wi h_54 w 27 x_55) _
              generalize e_59 : wi h_54 w 27 x_55 = h_58
              replace k := k h_58 e_59.symm
              refine R_ps 1 (pc2 := 141) (L2 := [some (vr (some w))]) (st2 := [vr (some w)]) rfl ?_
              refine R_zgetI (z := 26) rfl t0 rfl ?_
              refine R_ps 1 (pc2 := 146) (L2 := [some (vr (some w))]) (st2 := [vi (J 99), vi (J (ai h_58 w 26))]) rfl ?_
              refine R_zif (x := ai h_58 w 26) (z := 99) rfl (ai_in _ _ _) (by decide) (fun c_61 => ?_) (fun c_61 => ?_)
              · have k := k.2 c_61
                exact k
              · have k := k.1 (Classical.not_not.mp c_61)
                refine R_ps 1 (pc2 := 150) (L2 := [some (vr (some w))]) (st2 := [vr (some w)]) rfl ?_
                refine R_zgetZ (z := 25) rfl t0 rfl ?_
                refine R_zif0 (x := ai h_58 w 25) rfl (ai_in _ _ _) (fun c_63 => ?_) (fun c_63 => ?_)
                · have k := k.2 c_63
                  exact k
                · have k := k.1 (Classical.not_not.mp c_63)
                  refine R_ps 2 (pc2 := 159) (L2 := [some (vr (some w))]) (st2 := [vi (J 45), vr (some w)]) rfl ?_
                  refine R_cV (as := [vr (some w), vi (J 45)]) rfl rfl ⟨Nat.le_of_ble_eq_true rfl, Nat.le_of_ble_eq_true rfl, rfl, (Or.inr ⟨_, rfl, t0⟩)⟩ rfl rfl k (fun h_65 k => ?_)
                  exact k
          · have k := k.1 (Classical.not_not.mp c_36)
            refine R_ps 2 (pc2 := 137) (L2 := [some (vr (some w))]) (st2 := [vi (J 0), vr (some w)]) rfl ?_
            refine R_zputI (x := 0) (z := 27) rfl t0 rfl ?_
            show WP T N _ _ _ _ (wi h_19 w 27 0) _
            generalize e_69 : wi h_19 w 27 0 = h_68
            replace k := k h_68 e_69.symm
            refine R_ps 1 (pc2 := 141) (L2 := [some (vr (some w))]) (st2 := [vr (some w)]) rfl ?_
            refine R_zgetI (z := 26) rfl t0 rfl ?_
            refine R_ps 1 (pc2 := 146) (L2 := [some (vr (some w))]) (st2 := [vi (J 99), vi (J (ai h_68 w 26))]) rfl ?_
            refine R_zif (x := ai h_68 w 26) (z := 99) rfl (ai_in _ _ _) (by decide) (fun c_71 => ?_) (fun c_71 => ?_)
            · have k := k.2 c_71
              exact k
            · have k := k.1 (Classical.not_not.mp c_71)
              refine R_ps 1 (pc2 := 150) (L2 := [some (vr (some w))]) (st2 := [vr (some w)]) rfl ?_
              refine R_zgetZ (z := 25) rfl t0 rfl ?_
              refine R_zif0 (x := ai h_68 w 25) rfl (ai_in _ _ _) (fun c_73 => ?_) (fun c_73 => ?_)
              · have k := k.2 c_73
                exact k
              · have k := k.1 (Classical.not_not.mp c_73)
                refine R_ps 2 (pc2 := 159) (L2 := [some (vr (some w))]) (st2 := [vi (J 45), vr (some w)]) rfl ?_
                refine R_cV (as := [vr (some w), vi (J 45)]) rfl rfl ⟨Nat.le_of_ble_eq_true rfl, Nat.le_of_ble_eq_true rfl, rfl, (Or.inr ⟨_, rfl, t0⟩)⟩ rfl rfl k (fun h_75 k => ?_)
                exact k
      · have k := k.2 c_22
        exact R_ret rfl rfl ⟨rfl, k⟩
    · have k := k.2 c_17
      refine R_ps 3 (pc2 := 85) (L2 := [some (vr (some w))]) (st2 := [vi ((J (ai h_12 w 24)) + (J 0)), vr (some w)]) rfl ?_
      rw [show ((J (ai h_12 w 24)) + (J 0)) = J ((ai h_12 w 24) + 0) from J_add' rfl rfl]
      refine R_zputI (x := (ai h_12 w 24) + 0) (z := 24) rfl t0 rfl ?_
      show WP T N _ _ _ _ (wi h_12 w 24 ((ai h_12 w 24) + 0)) _
      generalize e_80 : wi h_12 w 24 ((ai h_12 w 24) + 0) = h_79
      replace k := k h_79 e_80.symm
      refine R_ps 1 (pc2 := 89) (L2 := [some (vr (some w))]) (st2 := [vr (some w)]) rfl ?_
      refine R_zgetZ (z := 25) rfl t0 rfl ?_
      refine R_zif0 (x := ai h_79 w 25) rfl (ai_in _ _ _) (fun c_82 => ?_) (fun c_82 => ?_)
      · have k := k.1 c_82
        refine R_ps 2 (pc2 := 98) (L2 := [some (vr (some w))]) (st2 := [vr (some w), vr (some w)]) rfl ?_
        refine R_zgetI (z := 26) rfl t0 rfl ?_
        refine R_ps 1 (pc2 := 103) (L2 := [some (vr (some w))]) (st2 := [vi (J 110), vi (J (ai h_79 w 26)), vr (some w)]) rfl ?_
        refine R_zif (x := ai h_79 w 26) (z := 110) rfl (ai_in _ _ _) (by decide) (fun c_84 => ?_) (fun c_84 => ?_)
        · have k := k.1 c_84
          refine R_ps 2 (pc2 := 137) (L2 := [some (vr (some w))]) (st2 := [vi (J 0), vr (some w)]) rfl ?_
          refine R_zputI (x := 0) (z := 27) rfl t0 rfl ?_
          show WP T N _ _ _ _ (wi h_79 w 27 0) _
          generalize e_87 : wi h_79 w 27 0 = h_86
          replace k := k h_86 e_87.symm
          refine R_ps 1 (pc2 := 141) (L2 := [some (vr (some w))]) (st2 := [vr (some w)]) rfl ?_
          refine R_zgetI (z := 26) rfl t0 rfl ?_
          refine R_ps 1 (pc2 := 146) (L2 := [some (vr (some w))]) (st2 := [vi (J 99), vi (J (ai h_86 w 26))]) rfl ?_
          refine R_zif (x := ai h_86 w 26) (z := 99) rfl (ai_in _ _ _) (by decide) (fun c_89 => ?_) (fun c_89 => ?_)
          · have k := k.2 c_89
            exact k
          · have k := k.1 (Classical.not_not.mp c_89)
            refine R_ps 1 (pc2 := 150) (L2 := [some (vr (some w))]) (st2 := [vr (some w)]) rfl ?_
            refine R_zgetZ (z := 25) rfl t0 rfl ?_
            refine R_zif0 (x := ai h_86 w 25) rfl (ai_in _ _ _) (fun c_91 => ?_) (fun c_91 => ?_)
            · have k := k.2 c_91
              exact k
            · have k := k.1 (Classical.not_not.mp c_91)
              refine R_ps 2 (pc2 := 159) (L2 := [some (vr (some w))]) (st2 := [vi (J 45), vr (some w)]) rfl ?_
              refine R_cV (as := [vr (some w), vi (J 45)]) rfl rfl ⟨Nat.le_of_ble_eq_true rfl, Nat.le_of_ble_eq_true rfl, rfl, (Or.inr ⟨_, rfl, t0⟩)⟩ rfl rfl k (fun h_93 k => ?_)
              exact k
        · have k := k.2 c_84
          refine R_ps 1 (pc2 := 107) (L2 := [some (vr (some w))]) (st2 := [vr (some w), vr (some w)]) rfl ?_
          refine R_zgetI (z := 26) rfl t0 rfl ?_
          refine R_ps 1 (pc2 := 112) (L2 := [some (vr (some w))]) (st2 := [vi (J 112), vi (J (ai h_79 w 26)), vr (some w)]) rfl ?_
          refine R_zif (x := ai h_79 w 26) (z := 112) rfl (ai_in _ _ _) (by decide) (fun c_96 => ?_) (fun c_96 => ?_)
          · have k := k.2 c_96
            refine R_ps 2 (pc2 := 121) (L2 := [some (vr (some w))]) (st2 := [vr (some w), vr (some w), vr (some w)]) rfl ?_
            refine R_zgetI (z := 26) rfl t0 rfl ?_
            refine R_ps 1 (pc2 := 126) (L2 := [some (vr (some w))]) (st2 := [vi (J 116), vi (J (ai h_79 w 26)), vr (some w), vr (some w)]) rfl ?_
            refine R_zif (x := ai h_79 w 26) (z := 116) rfl (ai_in _ _ _) (by decide) (fun c_98 => ?_) (fun c_98 => ?_)
            · have k := k.2 c_98
              refine R_ps 1 (pc2 := 134) (L2 := [some (vr (some w))]) (st2 := [vi (J 0), vr (some w), vr (some w)]) rfl ?_
              refine R_zcI (as := [vr (some w), vi (J 0)]) rfl rfl ⟨Nat.le_of_ble_eq_true rfl, Nat.le_of_ble_eq_true rfl, rfl, (Or.inr ⟨_, rfl, t0⟩)⟩ rfl rfl k (fun x_101 h_100 r_102 k => ?_)
              refine R_zputI (x := x_101) (z := 27) rfl t0 rfl ?_
              show WP T N _ _ _ _ (wi h_100 w 27 x_101) _
              generalize e_105 : wi h_100 w 27 x_101 = h_104
              replace k := k h_104 e_105.symm
              refine R_ps 1 (pc2 := 141) (L2 := [some (vr (some w))]) (st2 := [vr (some w)]) rfl ?_
              refine R_zgetI (z := 26) rfl t0 rfl ?_
              refine R_ps 1 (pc2 := 146) (L2 := [some (vr (some w))]) (st2 := [vi (J 99), vi (J (ai h_104 w 26))]) rfl ?_
              refine R_zif (x := ai h_104 w 26) (z := 99) rfl (ai_in _ _ _) (by decide) (fun c_107 => ?_) (fun c_107 => ?_)
              · have k := k.2 c_107
                exact k
              · have k := k.1 (Classical.not_not.mp c_107)
                refine R_ps 1 (pc2 := 150) (L2 := [some (vr (some w))]) (st2 := [vr (some w)]) rfl ?_
                refine R_zgetZ (z := 25) rfl t0 rfl ?_
                refine R_zif0 (x := ai h_104 w 25) rfl (ai_in _ _ _) (fun c_109 => ?_) (fun c_109 => ?_)
                · have k := k.2 c_109
                  exact k
                · have k := k.1 (Classical.not_not.mp c_109)
                  refine R_ps 2 (pc2 := 159) (L2 := [some (vr (some w))]) (st2 := [vi (J 45), vr (some w)]) rfl ?_
                  refine R_cV (as := [vr (some w), vi (J 45)]) rfl rfl ⟨Nat.le_of_ble_eq_true rfl, Nat.le_of_ble_eq_true rfl, rfl, (Or.inr ⟨_, rfl, t0⟩)⟩ rfl rfl k (fun h_111 k => ?_)
                  exact k
            · have k := k.1 (Classical.not_not.mp c_98)
              refine R_ps 2 (pc2 := 134) (L2 := [some (vr (some w))]) (st2 := [vi (J 1), vr (some w), vr (some w)]) rfl ?_
              refine R_zcI (as := [vr (some w), vi (J 1)]) rfl rfl ⟨Nat.le_of_ble_eq_true rfl, Nat.le_of_ble_eq_true rfl, rfl, (Or.inr ⟨_, rfl, t0⟩)⟩ rfl rfl k (fun x_115 h_114 r_116 k => ?_)
              refine R_zputI (x := x_115) (z := 27) rfl t0 rfl ?_
              show WP T N _ _ _ _ (wi h_114 w 27 x_115) _
              generalize e_119 : wi h_114 w 27 x_115 = h_118
              replace k := k h_118 e_119.symm
              refine R_ps 1 (pc2 := 141) (L2 := [some (vr (some w))]) (st2 := [vr (some w)]) rfl ?_
              refine R_zgetI (z := 26) rfl t0 rfl ?_
              refine R_ps 1 (pc2 := 146) (L2 := [some (vr (some w))]) (st2 := [vi (J 99), vi (J (ai h_118 w 26))]) rfl ?_
              refine R_zif (x := ai h_118 w 26) (z := 99) rfl (ai_in _ _ _) (by decide) (fun c_121 => ?_) (fun c_121 => ?_)
              · have k := k.2 c_121
                exact k
              · have k := k.1 (Classical.not_not.mp c_121)
                refine R_ps 1 (pc2 := 150) (L2 := [some (vr (some w))]) (st2 := [vr (some w)]) rfl ?_
                refine R_zgetZ (z := 25) rfl t0 rfl ?_
                refine R_zif0 (x := ai h_118 w 25) rfl (ai_in _ _ _) (fun c_123 => ?_) (fun c_123 => ?_)
                · have k := k.2 c_123
                  exact k
                · have k := k.1 (Classical.not_not.mp c_123)
                  refine R_ps 2 (pc2 := 159) (L2 := [some (vr (some w))]) (st2 := [vi (J 45), vr (some w)]) rfl ?_
                  refine R_cV (as := [vr (some w), vi (J 45)]) rfl rfl ⟨Nat.le_of_ble_eq_true rfl, Nat.le_of_ble_eq_true rfl, rfl, (Or.inr ⟨_, rfl, t0⟩)⟩ rfl rfl k (fun h_125 k => ?_)
                  exact k
          · have k := k.1 (Classical.not_not.mp c_96)
            refine R_ps 2 (pc2 := 137) (L2 := [some (vr (some w))]) (st2 := [vi (J 0), vr (some w)]) rfl ?_
            refine R_zputI (x := 0) (z := 27) rfl t0 rfl ?_
            show WP T N _ _ _ _ (wi h_79 w 27 0) _
            generalize e_129 : wi h_79 w 27 0 = h_128
            replace k := k h_128 e_129.symm
            refine R_ps 1 (pc2 := 141) (L2 := [some (vr (some w))]) (st2 := [vr (some w)]) rfl ?_
            refine R_zgetI (z := 26) rfl t0 rfl ?_
            refine R_ps 1 (pc2 := 146) (L2 := [some (vr (some w))]) (st2 := [vi (J 99), vi (J (ai h_128 w 26))]) rfl ?_
            refine R_zif (x := ai h_128 w 26) (z := 99) rfl (ai_in _ _ _) (by decide) (fun c_131 => ?_) (fun c_131 => ?_)
            · have k := k.2 c_131
              exact k
            · have k := k.1 (Classical.not_not.mp c_131)
              refine R_ps 1 (pc2 := 150) (L2 := [some (vr (some w))]) (st2 := [vr (some w)]) rfl ?_
              refine R_zgetZ (z := 25) rfl t0 rfl ?_
              refine R_zif0 (x := ai h_128 w 25) rfl (ai_in _ _ _) (fun c_133 => ?_) (fun c_133 => ?_)
              · have k := k.2 c_133
                exact k
              · have k := k.1 (Classical.not_not.mp c_133)
                refine R_ps 2 (pc2 := 159) (L2 := [some (vr (some w))]) (st2 := [vi (J 45), vr (some w)]) rfl ?_
                refine R_cV (as := [vr (some w), vi (J 45)]) rfl rfl ⟨Nat.le_of_ble_eq_true rfl, Nat.le_of_ble_eq_true rfl, rfl, (Or.inr ⟨_, rfl, t0⟩)⟩ rfl rfl k (fun h_135 k => ?_)
                exact k
      · have k := k.2 c_82
        exact R_ret rfl rfl ⟨rfl, k⟩
  · have k := k.2 c_10
    refine R_ps 1 (pc2 := 23) (L2 := [some (vr (some w))]) (st2 := [vr (some w), vi (J (ai h_6 w 25)), vr (some w)]) rfl ?_
    refine R_zgetI (z := 26) rfl t0 rfl ?_
    refine R_ps 1 (pc2 := 28) (L2 := [some (vr (some w))]) (st2 := [vi (J 112), vi (J (ai h_6 w 26)), vi (J (ai h_6 w 25)), vr (some w)]) rfl ?_
    refine R_zif (x := ai h_6 w 26) (z := 112) rfl (ai_in _ _ _) (by decide) (fun c_139 => ?_) (fun c_139 => ?_)
    · have k := k.1 c_139
      refine R_ps 2 (pc2 := 64) (L2 := [some (vr (some w))]) (st2 := [vi ((J (ai h_6 w 25)) ||| (J 0)), vr (some w)]) rfl ?_
      rw [show ((J (ai h_6 w 25)) ||| (J 0)) = J (zor (ai h_6 w 25) 0) from J_or' rfl rfl]
      obtain ⟨t_143, k⟩ := k
      refine R_zputZ (x := zor (ai h_6 w 25) 0) (z := 25) rfl t0 t_143 rfl ?_
      show WP T N _ _ _ _ (wi h_6 w 25 (zor (ai h_6 w 25) 0)) _
      generalize e_142 : wi h_6 w 25 (zor (ai h_6 w 25) 0) = h_141
      replace k := k h_141 e_142.symm
      refine R_ps 2 (pc2 := 69) (L2 := [some (vr (some w))]) (st2 := [vr (some w), vr (some w)]) rfl ?_
      refine R_zgetI (z := 24) rfl t0 rfl ?_
      refine R_ps 1 (pc2 := 73) (L2 := [some (vr (some w))]) (st2 := [vr (some w), vi (J (ai h_141 w 24)), vr (some w)]) rfl ?_
      refine R_zgetZ (z := 25) rfl t0 rfl ?_
      refine R_zif0 (x := ai h_141 w 25) rfl (ai_in _ _ _) (fun c_146 => ?_) (fun c_146 => ?_)
      · have k := k.1 c_146
        refine R_ps 2 (pc2 := 85) (L2 := [some (vr (some w))]) (st2 := [vi ((J (ai h_141 w 24)) + (J 1)), vr (some w)]) rfl ?_
        rw [show ((J (ai h_141 w 24)) + (J 1)) = J ((ai h_141 w 24) + 1) from J_add' rfl rfl]
        refine R_zputI (x := (ai h_141 w 24) + 1) (z := 24) rfl t0 rfl ?_
        show WP T N _ _ _ _ (wi h_141 w 24 ((ai h_141 w 24) + 1)) _
        generalize e_149 : wi h_141 w 24 ((ai h_141 w 24) + 1) = h_148
        replace k := k h_148 e_149.symm
        refine R_ps 1 (pc2 := 89) (L2 := [some (vr (some w))]) (st2 := [vr (some w)]) rfl ?_
        refine R_zgetZ (z := 25) rfl t0 rfl ?_
        refine R_zif0 (x := ai h_148 w 25) rfl (ai_in _ _ _) (fun c_151 => ?_) (fun c_151 => ?_)
        · have k := k.1 c_151
          refine R_ps 2 (pc2 := 98) (L2 := [some (vr (some w))]) (st2 := [vr (some w), vr (some w)]) rfl ?_
          refine R_zgetI (z := 26) rfl t0 rfl ?_
          refine R_ps 1 (pc2 := 103) (L2 := [some (vr (some w))]) (st2 := [vi (J 110), vi (J (ai h_148 w 26)), vr (some w)]) rfl ?_
          refine R_zif (x := ai h_148 w 26) (z := 110) rfl (ai_in _ _ _) (by decide) (fun c_153 => ?_) (fun c_153 => ?_)
          · have k := k.1 c_153
            refine R_ps 2 (pc2 := 137) (L2 := [some (vr (some w))]) (st2 := [vi (J 0), vr (some w)]) rfl ?_
            refine R_zputI (x := 0) (z := 27) rfl t0 rfl ?_
            show WP T N _ _ _ _ (wi h_148 w 27 0) _
            generalize e_156 : wi h_148 w 27 0 = h_155
            replace k := k h_155 e_156.symm
            refine R_ps 1 (pc2 := 141) (L2 := [some (vr (some w))]) (st2 := [vr (some w)]) rfl ?_
            refine R_zgetI (z := 26) rfl t0 rfl ?_
            refine R_ps 1 (pc2 := 146) (L2 := [some (vr (some w))]) (st2 := [vi (J 99), vi (J (ai h_155 w 26))]) rfl ?_
            refine R_zif (x := ai h_155 w 26) (z := 99) rfl (ai_in _ _ _) (by decide) (fun c_158 => ?_) (fun c_158 => ?_)
            · have k := k.2 c_158
              exact k
            · have k := k.1 (Classical.not_not.mp c_158)
              refine R_ps 1 (pc2 := 150) (L2 := [some (vr (some w))]) (st2 := [vr (some w)]) rfl ?_
              refine R_zgetZ (z := 25) rfl t0 rfl ?_
              refine R_zif0 (x := ai h_155 w 25) rfl (ai_in _ _ _) (fun c_160 => ?_) (fun c_160 => ?_)
              · have k := k.2 c_160
                exact k
              · have k := k.1 (Classical.not_not.mp c_160)
                refine R_ps 2 (pc2 := 159) (L2 := [some (vr (some w))]) (st2 := [vi (J 45), vr (some w)]) rfl ?_
                refine R_cV (as := [vr (some w), vi (J 45)]) rfl rfl ⟨Nat.le_of_ble_eq_true rfl, Nat.le_of_ble_eq_true rfl, rfl, (Or.inr ⟨_, rfl, t0⟩)⟩ rfl rfl k (fun h_162 k => ?_)
                exact k
          · have k := k.2 c_153
            refine R_ps 1 (pc2 := 107) (L2 := [some (vr (some w))]) (st2 := [vr (some w), vr (some w)]) rfl ?_
            refine R_zgetI (z := 26) rfl t0 rfl ?_
            refine R_ps 1 (pc2 := 112) (L2 := [some (vr (some w))]) (st2 := [vi (J 112), vi (J (ai h_148 w 26)), vr (some w)]) rfl ?_
            refine R_zif (x := ai h_148 w 26) (z := 112) rfl (ai_in _ _ _) (by decide) (fun c_165 => ?_) (fun c_165 => ?_)
            · have k := k.2 c_165
              refine R_ps 2 (pc2 := 121) (L2 := [some (vr (some w))]) (st2 := [vr (some w), vr (some w), vr (some w)]) rfl ?_
              refine R_zgetI (z := 26) rfl t0 rfl ?_
              refine R_ps 1 (pc2 := 126) (L2 := [some (vr (some w))]) (st2 := [vi (J 116), vi (J (ai h_148 w 26)), vr (some w), vr (some w)]) rfl ?_
              refine R_zif (x := ai h_148 w 26) (z := 116) rfl (ai_in _ _ _) (by decide) (fun c_167 => ?_) (fun c_167 => ?_)
              · have k := k.2 c_167
                refine R_ps 1 (pc2 := 134) (L2 := [some (vr (some w))]) (st2 := [vi (J 0), vr (some w), vr (some w)]) rfl ?_
                refine R_zcI (as := [vr (some w), vi (J 0)]) rfl rfl ⟨Nat.le_of_ble_eq_true rfl, Nat.le_of_ble_eq_true rfl, rfl, (Or.inr ⟨_, rfl, t0⟩)⟩ rfl rfl k (fun x_170 h_169 r_171 k => ?_)
                refine R_zputI (x := x_170) (z := 27) rfl t0 rfl ?_
                show WP T N _ _ _ _ (wi h_169 w 27 x_170) _
                generalize e_174 : wi h_169 w 27 x_170 = h_173
                replace k := k h_173 e_174.symm
                refine R_ps 1 (pc2 := 141) (L2 := [some (vr (some w))]) (st2 := [vr (some w)]) rfl ?_
                refine R_zgetI (z := 26) rfl t0 rfl ?_
                refine R_ps 1 (pc2 := 146) (L2 := [some (vr (some w))]) (st2 := [vi (J 99), vi (J (ai h_173 w 26))]) rfl ?_
                refine R_zif (x := ai h_173 w 26) (z := 99) rfl (ai_in _ _ _) (by decide) (fun c_176 => ?_) (fun c_176 => ?_)
                · have k := k.2 c_176
                  exact k
                · have k := k.1 (Classical.not_not.mp c_176)
                  refine R_ps 1 (pc2 := 150) (L2 := [some (vr (some w))]) (st2 := [vr (some w)]) rfl ?_
                  refine R_zgetZ (z := 25) rfl t0 rfl ?_
                  refine R_zif0 (x := ai h_173 w 25) rfl (ai_in _ _ _) (fun c_178 => ?_) (fun c_178 => ?_)
                  · have k := k.2 c_178
                    exact k
                  · have k := k.1 (Classical.not_not.mp c_178)
                    refine R_ps 2 (pc2 := 159) (L2 := [some (vr (some w))]) (st2 := [vi (J 45), vr (some w)]) rfl ?_
                    refine R_cV (as := [vr (some w), vi (J 45)]) rfl rfl ⟨Nat.le_of_ble_eq_true rfl, Nat.le_of_ble_eq_true rfl, rfl, (Or.inr ⟨_, rfl, t0⟩)⟩ rfl rfl k (fun h_180 k => ?_)
                    exact k
              · have k := k.1 (Classical.not_not.mp c_167)
                refine R_ps 2 (pc2 := 134) (L2 := [some (vr (some w))]) (st2 := [vi (J 1), vr (some w), vr (some w)]) rfl ?_
                refine R_zcI (as := [vr (some w), vi (J 1)]) rfl rfl ⟨Nat.le_of_ble_eq_true rfl, Nat.le_of_ble_eq_true rfl, rfl, (Or.inr ⟨_, rfl, t0⟩)⟩ rfl rfl k (fun x_184 h_183 r_185 k => ?_)
                refine R_zputI (x := x_184) (z := 27) rfl t0 rfl ?_
                show WP T N _ _ _ _ (wi h_183 w 27 x_184) _
                generalize e_188 : wi h_183 w 27 x_184 = h_187
                replace k := k h_187 e_188.symm
                refine R_ps 1 (pc2 := 141) (L2 := [some (vr (some w))]) (st2 := [vr (some w)]) rfl ?_
                refine R_zgetI (z := 26) rfl t0 rfl ?_
                refine R_ps 1 (pc2 := 146) (L2 := [some (vr (some w))]) (st2 := [vi (J 99), vi (J (ai h_187 w 26))]) rfl ?_
                refine R_zif (x := ai h_187 w 26) (z := 99) rfl (ai_in _ _ _) (by decide) (fun c_190 => ?_) (fun c_190 => ?_)
                · have k := k.2 c_190
                  exact k
                · have k := k.1 (Classical.not_not.mp c_190)
                  refine R_ps 1 (pc2 := 150) (L2 := [some (vr (some w))]) (st2 := [vr (some w)]) rfl ?_
                  refine R_zgetZ (z := 25) rfl t0 rfl ?_
                  refine R_zif0 (x := ai h_187 w 25) rfl (ai_in _ _ _) (fun c_192 => ?_) (fun c_192 => ?_)
                  · have k := k.2 c_192
                    exact k
                  · have k := k.1 (Classical.not_not.mp c_192)
                    refine R_ps 2 (pc2 := 159) (L2 := [some (vr (some w))]) (st2 := [vi (J 45), vr (some w)]) rfl ?_
                    refine R_cV (as := [vr (some w), vi (J 45)]) rfl rfl ⟨Nat.le_of_ble_eq_true rfl, Nat.le_of_ble_eq_true rfl, rfl, (Or.inr ⟨_, rfl, t0⟩)⟩ rfl rfl k (fun h_194 k => ?_)
                    exact k
            · have k := k.1 (Classical.not_not.mp c_165)
              refine R_ps 2 (pc2 := 137) (L2 := [some (vr (some w))]) (st2 := [vi (J 0), vr (some w)]) rfl ?_
              refine R_zputI (x := 0) (z := 27) rfl t0 rfl ?_
              show WP T N _ _ _ _ (wi h_148 w 27 0) _
              generalize e_198 : wi h_148 w 27 0 = h_197
              replace k := k h_197 e_198.symm
              refine R_ps 1 (pc2 := 141) (L2 := [some (vr (some w))]) (st2 := [vr (some w)]) rfl ?_
              refine R_zgetI (z := 26) rfl t0 rfl ?_
              refine R_ps 1 (pc2 := 146) (L2 := [some (vr (some w))]) (st2 := [vi (J 99), vi (J (ai h_197 w 26))]) rfl ?_
              refine R_zif (x := ai h_197 w 26) (z := 99) rfl (ai_in _ _ _) (by decide) (fun c_200 => ?_) (fun c_200 => ?_)
              · have k := k.2 c_200
                exact k
              · have k := k.1 (Classical.not_not.mp c_200)
                refine R_ps 1 (pc2 := 150) (L2 := [some (vr (some w))]) (st2 := [vr (some w)]) rfl ?_
                refine R_zgetZ (z := 25) rfl t0 rfl ?_
                refine R_zif0 (x := ai h_197 w 25) rfl (ai_in _ _ _) (fun c_202 => ?_) (fun c_202 => ?_)
                · have k := k.2 c_202
                  exact k
                · have k := k.1 (Classical.not_not.mp c_202)
                  refine R_ps 2 (pc2 := 159) (L2 := [some (vr (some w))]) (st2 := [vi (J 45), vr (some w)]) rfl ?_
                  refine R_cV (as := [vr (some w), vi (J 45)]) rfl rfl ⟨Nat.le_of_ble_eq_true rfl, Nat.le_of_ble_eq_true rfl, rfl, (Or.inr ⟨_, rfl, t0⟩)⟩ rfl rfl k (fun h_204 k => ?_)
                  exact k
        · have k := k.2 c_151
          exact R_ret rfl rfl ⟨rfl, k⟩
      · have k := k.2 c_146
        refine R_ps 3 (pc2 := 85) (L2 := [some (vr (some w))]) (st2 := [vi ((J (ai h_141 w 24)) + (J 0)), vr (some w)]) rfl ?_
        rw [show ((J (ai h_141 w 24)) + (J 0)) = J ((ai h_141 w 24) + 0) from J_add' rfl rfl]
        refine R_zputI (x := (ai h_141 w 24) + 0) (z := 24) rfl t0 rfl ?_
        show WP T N _ _ _ _ (wi h_141 w 24 ((ai h_141 w 24) + 0)) _
        generalize e_209 : wi h_141 w 24 ((ai h_141 w 24) + 0) = h_208
        replace k := k h_208 e_209.symm
        refine R_ps 1 (pc2 := 89) (L2 := [some (vr (some w))]) (st2 := [vr (some w)]) rfl ?_
        refine R_zgetZ (z := 25) rfl t0 rfl ?_
        refine R_zif0 (x := ai h_208 w 25) rfl (ai_in _ _ _) (fun c_211 => ?_) (fun c_211 => ?_)
        · have k := k.1 c_211
          refine R_ps 2 (pc2 := 98) (L2 := [some (vr (some w))]) (st2 := [vr (some w), vr (some w)]) rfl ?_
          refine R_zgetI (z := 26) rfl t0 rfl ?_
          refine R_ps 1 (pc2 := 103) (L2 := [some (vr (some w))]) (st2 := [vi (J 110), vi (J (ai h_208 w 26)), vr (some w)]) rfl ?_
          refine R_zif (x := ai h_208 w 26) (z := 110) rfl (ai_in _ _ _) (by decide) (fun c_213 => ?_) (fun c_213 => ?_)
          · have k := k.1 c_213
            refine R_ps 2 (pc2 := 137) (L2 := [some (vr (some w))]) (st2 := [vi (J 0), vr (some w)]) rfl ?_
            refine R_zputI (x := 0) (z := 27) rfl t0 rfl ?_
            show WP T N _ _ _ _ (wi h_208 w 27 0) _
            generalize e_216 : wi h_208 w 27 0 = h_215
            replace k := k h_215 e_216.symm
            refine R_ps 1 (pc2 := 141) (L2 := [some (vr (some w))]) (st2 := [vr (some w)]) rfl ?_
            refine R_zgetI (z := 26) rfl t0 rfl ?_
            refine R_ps 1 (pc2 := 146) (L2 := [some (vr (some w))]) (st2 := [vi (J 99), vi (J (ai h_215 w 26))]) rfl ?_
            refine R_zif (x := ai h_215 w 26) (z := 99) rfl (ai_in _ _ _) (by decide) (fun c_218 => ?_) (fun c_218 => ?_)
            · have k := k.2 c_218
              exact k
            · have k := k.1 (Classical.not_not.mp c_218)
              refine R_ps 1 (pc2 := 150) (L2 := [some (vr (some w))]) (st2 := [vr (some w)]) rfl ?_
              refine R_zgetZ (z := 25) rfl t0 rfl ?_
              refine R_zif0 (x := ai h_215 w 25) rfl (ai_in _ _ _) (fun c_220 => ?_) (fun c_220 => ?_)
              · have k := k.2 c_220
                exact k
              · have k := k.1 (Classical.not_not.mp c_220)
                refine R_ps 2 (pc2 := 159) (L2 := [some (vr (some w))]) (st2 := [vi (J 45), vr (some w)]) rfl ?_
                refine R_cV (as := [vr (some w), vi (J 45)]) rfl rfl ⟨Nat.le_of_ble_eq_true rfl, Nat.le_of_ble_eq_true rfl, rfl, (Or.inr ⟨_, rfl, t0⟩)⟩ rfl rfl k (fun h_222 k => ?_)
                exact k
          · have k := k.2 c_213
            refine R_ps 1 (pc2 := 107) (L2 := [some (vr (some w))]) (st2 := [vr (some w), vr (some w)]) rfl ?_
            refine R_zgetI (z := 26) rfl t0 rfl ?_
            refine R_ps 1 (pc2 := 112) (L2 := [some (vr (some w))]) (st2 := [vi (J 112), vi (J (ai h_208 w 26)), vr (some w)]) rfl ?_
            refine R_zif (x := ai h_208 w 26) (z := 112) rfl (ai_in _ _ _) (by decide) (fun c_225 => ?_) (fun c_225 => ?_)
            · have k := k.2 c_225
              refine R_ps 2 (pc2 := 121) (L2 := [some (vr (some w))]) (st2 := [vr (some w), vr (some w), vr (some w)]) rfl ?_
              refine R_zgetI (z := 26) rfl t0 rfl ?_
              refine R_ps 1 (pc2 := 126) (L2 := [some (vr (some w))]) (st2 := [vi (J 116), vi (J (ai h_208 w 26)), vr (some w), vr (some w)]) rfl ?_
              refine R_zif (x := ai h_208 w 26) (z := 116) rfl (ai_in _ _ _) (by decide) (fun c_227 => ?_) (fun c_227 => ?_)
              · have k := k.2 c_227
                refine R_ps 1 (pc2 := 134) (L2 := [some (vr (some w))]) (st2 := [vi (J 0), vr (some w), vr (some w)]) rfl ?_
                refine R_zcI (as := [vr (some w), vi (J 0)]) rfl rfl ⟨Nat.le_of_ble_eq_true rfl, Nat.le_of_ble_eq_true rfl, rfl, (Or.inr ⟨_, rfl, t0⟩)⟩ rfl rfl k (fun x_230 h_229 r_231 k => ?_)
                refine R_zputI (x := x_230) (z := 27) rfl t0 rfl ?_
                show WP T N _ _ _ _ (wi h_229 w 27 x_230) _
                generalize e_234 : wi h_229 w 27 x_230 = h_233
                replace k := k h_233 e_234.symm
                refine R_ps 1 (pc2 := 141) (L2 := [some (vr (some w))]) (st2 := [vr (some w)]) rfl ?_
                refine R_zgetI (z := 26) rfl t0 rfl ?_
                refine R_ps 1 (pc2 := 146) (L2 := [some (vr (some w))]) (st2 := [vi (J 99), vi (J (ai h_233 w 26))]) rfl ?_
                refine R_zif (x := ai h_233 w 26) (z := 99) rfl (ai_in _ _ _) (by decide) (fun c_236 => ?_) (fun c_236 => ?_)
                · have k := k.2 c_236
                  exact k
                · have k := k.1 (Classical.not_not.mp c_236)
                  refine R_ps 1 (pc2 := 150) (L2 := [some (vr (some w))]) (st2 := [vr (some w)]) rfl ?_
                  refine R_zgetZ (z := 25) rfl t0 rfl ?_
                  refine R_zif0 (x := ai h_233 w 25) rfl (ai_in _ _ _) (fun c_238 => ?_) (fun c_238 => ?_)
                  · have k := k.2 c_238
                    exact k
                  · have k := k.1 (Classical.not_not.mp c_238)
                    refine R_ps 2 (pc2 := 159) (L2 := [some (vr (some w))]) (st2 := [vi (J 45), vr (some w)]) rfl ?_
                    refine R_cV (as := [vr (some w), vi (J 45)]) rfl rfl ⟨Nat.le_of_ble_eq_true rfl, Nat.le_of_ble_eq_true rfl, rfl, (Or.inr ⟨_, rfl, t0⟩)⟩ rfl rfl k (fun h_240 k => ?_)
                    exact k
              · have k := k.1 (Classical.not_not.mp c_227)
                refine R_ps 2 (pc2 := 134) (L2 := [some (vr (some w))]) (st2 := [vi (J 1), vr (some w), vr (some w)]) rfl ?_
                refine R_zcI (as := [vr (some w), vi (J 1)]) rfl rfl ⟨Nat.le_of_ble_eq_true rfl, Nat.le_of_ble_eq_true rfl, rfl, (Or.inr ⟨_, rfl, t0⟩)⟩ rfl rfl k (fun x_244 h_243 r_245 k => ?_)
                refine R_zputI (x := x_244) (z := 27) rfl t0 rfl ?_
                show WP T N _ _ _ _ (wi h_243 w 27 x_244) _
                generalize e_248 : wi h_243 w 27 x_244 = h_247
                replace k := k h_247 e_248.symm
                refine R_ps 1 (pc2 := 141) (L2 := [some (vr (some w))]) (st2 := [vr (some w)]) rfl ?_
                refine R_zgetI (z := 26) rfl t0 rfl ?_
                refine R_ps 1 (pc2 := 146) (L2 := [some (vr (some w))]) (st2 := [vi (J 99), vi (J (ai h_247 w 26))]) rfl ?_
                refine R_zif (x := ai h_247 w 26) (z := 99) rfl (ai_in _ _ _) (by decide) (fun c_250 => ?_) (fun c_250 => ?_)
                · have k := k.2 c_250
                  exact k
                · have k := k.1 (Classical.not_not.mp c_250)
                  refine R_ps 1 (pc2 := 150) (L2 := [some (vr (some w))]) (st2 := [vr (some w)]) rfl ?_
                  refine R_zgetZ (z := 25) rfl t0 rfl ?_
                  refine R_zif0 (x := ai h_247 w 25) rfl (ai_in _ _ _) (fun c_252 => ?_) (fun c_252 => ?_)
                  · have k := k.2 c_252
                    exact k
                  · have k := k.1 (Classical.not_not.mp c_252)
                    refine R_ps 2 (pc2 := 159) (L2 := [some (vr (some w))]) (st2 := [vi (J 45), vr (some w)]) rfl ?_
                    refine R_cV (as := [vr (some w), vi (J 45)]) rfl rfl ⟨Nat.le_of_ble_eq_true rfl, Nat.le_of_ble_eq_true rfl, rfl, (Or.inr ⟨_, rfl, t0⟩)⟩ rfl rfl k (fun h_254 k => ?_)
                    exact k
            · have k := k.1 (Classical.not_not.mp c_225)
              refine R_ps 2 (pc2 := 137) (L2 := [some (vr (some w))]) (st2 := [vi (J 0), vr (some w)]) rfl ?_
              refine R_zputI (x := 0) (z := 27) rfl t0 rfl ?_
              show WP T N _ _ _ _ (wi h_208 w 27 0) _
              generalize e_258 : wi h_208 w 27 0 = h_257
              replace k := k h_257 e_258.symm
              refine R_ps 1 (pc2 := 141) (L2 := [some (vr (some w))]) (st2 := [vr (some w)]) rfl ?_
              refine R_zgetI (z := 26) rfl t0 rfl ?_
              refine R_ps 1 (pc2 := 146) (L2 := [some (vr (some w))]) (st2 := [vi (J 99), vi (J (ai h_257 w 26))]) rfl ?_
              refine R_zif (x := ai h_257 w 26) (z := 99) rfl (ai_in _ _ _) (by decide) (fun c_260 => ?_) (fun c_260 => ?_)
              · have k := k.2 c_260
                exact k
              · have k := k.1 (Classical.not_not.mp c_260)
                refine R_ps 1 (pc2 := 150) (L2 := [some (vr (some w))]) (st2 := [vr (some w)]) rfl ?_
                refine R_zgetZ (z := 25) rfl t0 rfl ?_
                refine R_zif0 (x := ai h_257 w 25) rfl (ai_in _ _ _) (fun c_262 => ?_) (fun c_262 => ?_)
                · have k := k.2 c_262
                  exact k
                · have k := k.1 (Classical.not_not.mp c_262)
                  refine R_ps 2 (pc2 := 159) (L2 := [some (vr (some w))]) (st2 := [vi (J 45), vr (some w)]) rfl ?_
                  refine R_cV (as := [vr (some w), vi (J 45)]) rfl rfl ⟨Nat.le_of_ble_eq_true rfl, Nat.le_of_ble_eq_true rfl, rfl, (Or.inr ⟨_, rfl, t0⟩)⟩ rfl rfl k (fun h_264 k => ?_)
                  exact k
        · have k := k.2 c_211
          exact R_ret rfl rfl ⟨rfl, k⟩
    · have k := k.2 c_139
      refine R_ps 1 (pc2 := 32) (L2 := [some (vr (some w))]) (st2 := [vr (some w), vi (J (ai h_6 w 25)), vr (some w)]) rfl ?_
      refine R_zgetI (z := 26) rfl t0 rfl ?_
      refine R_ps 1 (pc2 := 37) (L2 := [some (vr (some w))]) (st2 := [vi (J 99), vi (J (ai h_6 w 26)), vi (J (ai h_6 w 25)), vr (some w)]) rfl ?_
      refine R_zif (x := ai h_6 w 26) (z := 99) rfl (ai_in _ _ _) (by decide) (fun c_268 => ?_) (fun c_268 => ?_)
      · have k := k.1 c_268
        refine R_ps 2 (pc2 := 64) (L2 := [some (vr (some w))]) (st2 := [vi ((J (ai h_6 w 25)) ||| (J 0)), vr (some w)]) rfl ?_
        rw [show ((J (ai h_6 w 25)) ||| (J 0)) = J (zor (ai h_6 w 25) 0) from J_or' rfl rfl]
        obtain ⟨t_272, k⟩ := k
        refine R_zputZ (x := zor (ai h_6 w 25) 0) (z := 25) rfl t0 t_272 rfl ?_
        show WP T N _ _ _ _ (wi h_6 w 25 (zor (ai h_6 w 25) 0)) _
        generalize e_271 : wi h_6 w 25 (zor (ai h_6 w 25) 0) = h_270
        replace k := k h_270 e_271.symm
        refine R_ps 2 (pc2 := 69) (L2 := [some (vr (some w))]) (st2 := [vr (some w), vr (some w)]) rfl ?_
        refine R_zgetI (z := 24) rfl t0 rfl ?_
        refine R_ps 1 (pc2 := 73) (L2 := [some (vr (some w))]) (st2 := [vr (some w), vi (J (ai h_270 w 24)), vr (some w)]) rfl ?_
        refine R_zgetZ (z := 25) rfl t0 rfl ?_
        refine R_zif0 (x := ai h_270 w 25) rfl (ai_in _ _ _) (fun c_275 => ?_) (fun c_275 => ?_)
        · have k := k.1 c_275
          refine R_ps 2 (pc2 := 85) (L2 := [some (vr (some w))]) (st2 := [vi ((J (ai h_270 w 24)) + (J 1)), vr (some w)]) rfl ?_
          rw [show ((J (ai h_270 w 24)) + (J 1)) = J ((ai h_270 w 24) + 1) from J_add' rfl rfl]
          refine R_zputI (x := (ai h_270 w 24) + 1) (z := 24) rfl t0 rfl ?_
          show WP T N _ _ _ _ (wi h_270 w 24 ((ai h_270 w 24) + 1)) _
          generalize e_278 : wi h_270 w 24 ((ai h_270 w 24) + 1) = h_277
          replace k := k h_277 e_278.symm
          refine R_ps 1 (pc2 := 89) (L2 := [some (vr (some w))]) (st2 := [vr (some w)]) rfl ?_
          refine R_zgetZ (z := 25) rfl t0 rfl ?_
          refine R_zif0 (x := ai h_277 w 25) rfl (ai_in _ _ _) (fun c_280 => ?_) (fun c_280 => ?_)
          · have k := k.1 c_280
            refine R_ps 2 (pc2 := 98) (L2 := [some (vr (some w))]) (st2 := [vr (some w), vr (some w)]) rfl ?_
            refine R_zgetI (z := 26) rfl t0 rfl ?_
            refine R_ps 1 (pc2 := 103) (L2 := [some (vr (some w))]) (st2 := [vi (J 110), vi (J (ai h_277 w 26)), vr (some w)]) rfl ?_
            refine R_zif (x := ai h_277 w 26) (z := 110) rfl (ai_in _ _ _) (by decide) (fun c_282 => ?_) (fun c_282 => ?_)
            · have k := k.1 c_282
              refine R_ps 2 (pc2 := 137) (L2 := [some (vr (some w))]) (st2 := [vi (J 0), vr (some w)]) rfl ?_
              refine R_zputI (x := 0) (z := 27) rfl t0 rfl ?_
              show WP T N _ _ _ _ (wi h_277 w 27 0) _
              generalize e_285 : wi h_277 w 27 0 = h_284
              replace k := k h_284 e_285.symm
              refine R_ps 1 (pc2 := 141) (L2 := [some (vr (some w))]) (st2 := [vr (some w)]) rfl ?_
              refine R_zgetI (z := 26) rfl t0 rfl ?_
              refine R_ps 1 (pc2 := 146) (L2 := [some (vr (some w))]) (st2 := [vi (J 99), vi (J (ai h_284 w 26))]) rfl ?_
              refine R_zif (x := ai h_284 w 26) (z := 99) rfl (ai_in _ _ _) (by decide) (fun c_287 => ?_) (fun c_287 => ?_)
              · have k := k.2 c_287
                exact k
              · have k := k.1 (Classical.not_not.mp c_287)
                refine R_ps 1 (pc2 := 150) (L2 := [some (vr (some w))]) (st2 := [vr (some w)]) rfl ?_
                refine R_zgetZ (z := 25) rfl t0 rfl ?_
                refine R_zif0 (x := ai h_284 w 25) rfl (ai_in _ _ _) (fun c_289 => ?_) (fun c_289 => ?_)
                · have k := k.2 c_289
                  exact k
                · have k := k.1 (Classical.not_not.mp c_289)
                  refine R_ps 2 (pc2 := 159) (L2 := [some (vr (some w))]) (st2 := [vi (J 45), vr (some w)]) rfl ?_
                  refine R_cV (as := [vr (some w), vi (J 45)]) rfl rfl ⟨Nat.le_of_ble_eq_true rfl, Nat.le_of_ble_eq_true rfl, rfl, (Or.inr ⟨_, rfl, t0⟩)⟩ rfl rfl k (fun h_291 k => ?_)
                  exact k
            · have k := k.2 c_282
              refine R_ps 1 (pc2 := 107) (L2 := [some (vr (some w))]) (st2 := [vr (some w), vr (some w)]) rfl ?_
              refine R_zgetI (z := 26) rfl t0 rfl ?_
              refine R_ps 1 (pc2 := 112) (L2 := [some (vr (some w))]) (st2 := [vi (J 112), vi (J (ai h_277 w 26)), vr (some w)]) rfl ?_
              refine R_zif (x := ai h_277 w 26) (z := 112) rfl (ai_in _ _ _) (by decide) (fun c_294 => ?_) (fun c_294 => ?_)
              · have k := k.2 c_294
                refine R_ps 2 (pc2 := 121) (L2 := [some (vr (some w))]) (st2 := [vr (some w), vr (some w), vr (some w)]) rfl ?_
                refine R_zgetI (z := 26) rfl t0 rfl ?_
                refine R_ps 1 (pc2 := 126) (L2 := [some (vr (some w))]) (st2 := [vi (J 116), vi (J (ai h_277 w 26)), vr (some w), vr (some w)]) rfl ?_
                refine R_zif (x := ai h_277 w 26) (z := 116) rfl (ai_in _ _ _) (by decide) (fun c_296 => ?_) (fun c_296 => ?_)
                · have k := k.2 c_296
                  refine R_ps 1 (pc2 := 134) (L2 := [some (vr (some w))]) (st2 := [vi (J 0), vr (some w), vr (some w)]) rfl ?_
                  refine R_zcI (as := [vr (some w), vi (J 0)]) rfl rfl ⟨Nat.le_of_ble_eq_true rfl, Nat.le_of_ble_eq_true rfl, rfl, (Or.inr ⟨_, rfl, t0⟩)⟩ rfl rfl k (fun x_299 h_298 r_300 k => ?_)
                  refine R_zputI (x := x_299) (z := 27) rfl t0 rfl ?_
                  show WP T N _ _ _ _ (wi h_298 w 27 x_299) _
                  generalize e_303 : wi h_298 w 27 x_299 = h_302
                  replace k := k h_302 e_303.symm
                  refine R_ps 1 (pc2 := 141) (L2 := [some (vr (some w))]) (st2 := [vr (some w)]) rfl ?_
                  refine R_zgetI (z := 26) rfl t0 rfl ?_
                  refine R_ps 1 (pc2 := 146) (L2 := [some (vr (some w))]) (st2 := [vi (J 99), vi (J (ai h_302 w 26))]) rfl ?_
                  refine R_zif (x := ai h_302 w 26) (z := 99) rfl (ai_in _ _ _) (by decide) (fun c_305 => ?_) (fun c_305 => ?_)
                  · have k := k.2 c_305
                    exact k
                  · have k := k.1 (Classical.not_not.mp c_305)
                    refine R_ps 1 (pc2 := 150) (L2 := [some (vr (some w))]) (st2 := [vr (some w)]) rfl ?_
                    refine R_zgetZ (z := 25) rfl t0 rfl ?_
                    refine R_zif0 (x := ai h_302 w 25) rfl (ai_in _ _ _) (fun c_307 => ?_) (fun c_307 => ?_)
                    · have k := k.2 c_307
                      exact k
                    · have k := k.1 (Classical.not_not.mp c_307)
                      refine R_ps 2 (pc2 := 159) (L2 := [some (vr (some w))]) (st2 := [vi (J 45), vr (some w)]) rfl ?_
                      refine R_cV (as := [vr (some w), vi (J 45)]) rfl rfl ⟨Nat.le_of_ble_eq_true rfl, Nat.le_of_ble_eq_true rfl, rfl, (Or.inr ⟨_, rfl, t0⟩)⟩ rfl rfl k (fun h_309 k => ?_)
                      exact k
                · have k := k.1 (Classical.not_not.mp c_296)
                  refine R_ps 2 (pc2 := 134) (L2 := [some (vr (some w))]) (st2 := [vi (J 1), vr (some w), vr (some w)]) rfl ?_
                  refine R_zcI (as := [vr (some w), vi (J 1)]) rfl rfl ⟨Nat.le_of_ble_eq_true rfl, Nat.le_of_ble_eq_true rfl, rfl, (Or.inr ⟨_, rfl, t0⟩)⟩ rfl rfl k (fun x_313 h_312 r_314 k => ?_)
                  refine R_zputI (x := x_313) (z := 27) rfl t0 rfl ?_
                  show WP T N _ _ _ _ (wi h_312 w 27 x_313) _
                  generalize e_317 : wi h_312 w 27 x_313 = h_316
                  replace k := k h_316 e_317.symm
                  refine R_ps 1 (pc2 := 141) (L2 := [some (vr (some w))]) (st2 := [vr (some w)]) rfl ?_
                  refine R_zgetI (z := 26) rfl t0 rfl ?_
                  refine R_ps 1 (pc2 := 146) (L2 := [some (vr (some w))]) (st2 := [vi (J 99), vi (J (ai h_316 w 26))]) rfl ?_
                  refine R_zif (x := ai h_316 w 26) (z := 99) rfl (ai_in _ _ _) (by decide) (fun c_319 => ?_) (fun c_319 => ?_)
                  · have k := k.2 c_319
                    exact k
                  · have k := k.1 (Classical.not_not.mp c_319)
                    refine R_ps 1 (pc2 := 150) (L2 := [some (vr (some w))]) (st2 := [vr (some w)]) rfl ?_
                    refine R_zgetZ (z := 25) rfl t0 rfl ?_
                    refine R_zif0 (x := ai h_316 w 25) rfl (ai_in _ _ _) (fun c_321 => ?_) (fun c_321 => ?_)
                    · have k := k.2 c_321
                      exact k
                    · have k := k.1 (Classical.not_not.mp c_321)
                      refine R_ps 2 (pc2 := 159) (L2 := [some (vr (some w))]) (st2 := [vi (J 45), vr (some w)]) rfl ?_
                      refine R_cV (as := [vr (some w), vi (J 45)]) rfl rfl ⟨Nat.le_of_ble_eq_true rfl, Nat.le_of_ble_eq_true rfl, rfl, (Or.inr ⟨_, rfl, t0⟩)⟩ rfl rfl k (fun h_323 k => ?_)
                      exact k
              · have k := k.1 (Classical.not_not.mp c_294)
                refine R_ps 2 (pc2 := 137) (L2 := [some (vr (some w))]) (st2 := [vi (J 0), vr (some w)]) rfl ?_
                refine R_zputI (x := 0) (z := 27) rfl t0 rfl ?_
                show WP T N _ _ _ _ (wi h_277 w 27 0) _
                generalize e_327 : wi h_277 w 27 0 = h_326
                replace k := k h_326 e_327.symm
                refine R_ps 1 (pc2 := 141) (L2 := [some (vr (some w))]) (st2 := [vr (some w)]) rfl ?_
                refine R_zgetI (z := 26) rfl t0 rfl ?_
                refine R_ps 1 (pc2 := 146) (L2 := [some (vr (some w))]) (st2 := [vi (J 99), vi (J (ai h_326 w 26))]) rfl ?_
                refine R_zif (x := ai h_326 w 26) (z := 99) rfl (ai_in _ _ _) (by decide) (fun c_329 => ?_) (fun c_329 => ?_)
                · have k := k.2 c_329
                  exact k
                · have k := k.1 (Classical.not_not.mp c_329)
                  refine R_ps 1 (pc2 := 150) (L2 := [some (vr (some w))]) (st2 := [vr (some w)]) rfl ?_
                  refine R_zgetZ (z := 25) rfl t0 rfl ?_
                  refine R_zif0 (x := ai h_326 w 25) rfl (ai_in _ _ _) (fun c_331 => ?_) (fun c_331 => ?_)
                  · have k := k.2 c_331
                    exact k
                  · have k := k.1 (Classical.not_not.mp c_331)
                    refine R_ps 2 (pc2 := 159) (L2 := [some (vr (some w))]) (st2 := [vi (J 45), vr (some w)]) rfl ?_
                    refine R_cV (as := [vr (some w), vi (J 45)]) rfl rfl ⟨Nat.le_of_ble_eq_true rfl, Nat.le_of_ble_eq_true rfl, rfl, (Or.inr ⟨_, rfl, t0⟩)⟩ rfl rfl k (fun h_333 k => ?_)
                    exact k
          · have k := k.2 c_280
            exact R_ret rfl rfl ⟨rfl, k⟩
        · have k := k.2 c_275
          refine R_ps 3 (pc2 := 85) (L2 := [some (vr (some w))]) (st2 := [vi ((J (ai h_270 w 24)) + (J 0)), vr (some w)]) rfl ?_
          rw [show ((J (ai h_270 w 24)) + (J 0)) = J ((ai h_270 w 24) + 0) from J_add' rfl rfl]
          refine R_zputI (x := (ai h_270 w 24) + 0) (z := 24) rfl t0 rfl ?_
          show WP T N _ _ _ _ (wi h_270 w 24 ((ai h_270 w 24) + 0)) _
          generalize e_338 : wi h_270 w 24 ((ai h_270 w 24) + 0) = h_337
          replace k := k h_337 e_338.symm
          refine R_ps 1 (pc2 := 89) (L2 := [some (vr (some w))]) (st2 := [vr (some w)]) rfl ?_
          refine R_zgetZ (z := 25) rfl t0 rfl ?_
          refine R_zif0 (x := ai h_337 w 25) rfl (ai_in _ _ _) (fun c_340 => ?_) (fun c_340 => ?_)
          · have k := k.1 c_340
            refine R_ps 2 (pc2 := 98) (L2 := [some (vr (some w))]) (st2 := [vr (some w), vr (some w)]) rfl ?_
            refine R_zgetI (z := 26) rfl t0 rfl ?_
            refine R_ps 1 (pc2 := 103) (L2 := [some (vr (some w))]) (st2 := [vi (J 110), vi (J (ai h_337 w 26)), vr (some w)]) rfl ?_
            refine R_zif (x := ai h_337 w 26) (z := 110) rfl (ai_in _ _ _) (by decide) (fun c_342 => ?_) (fun c_342 => ?_)
            · have k := k.1 c_342
              refine R_ps 2 (pc2 := 137) (L2 := [some (vr (some w))]) (st2 := [vi (J 0), vr (some w)]) rfl ?_
              refine R_zputI (x := 0) (z := 27) rfl t0 rfl ?_
              show WP T N _ _ _ _ (wi h_337 w 27 0) _
              generalize e_345 : wi h_337 w 27 0 = h_344
              replace k := k h_344 e_345.symm
              refine R_ps 1 (pc2 := 141) (L2 := [some (vr (some w))]) (st2 := [vr (some w)]) rfl ?_
              refine R_zgetI (z := 26) rfl t0 rfl ?_
              refine R_ps 1 (pc2 := 146) (L2 := [some (vr (some w))]) (st2 := [vi (J 99), vi (J (ai h_344 w 26))]) rfl ?_
              refine R_zif (x := ai h_344 w 26) (z := 99) rfl (ai_in _ _ _) (by decide) (fun c_347 => ?_) (fun c_347 => ?_)
              · have k := k.2 c_347
                exact k
              · have k := k.1 (Classical.not_not.mp c_347)
                refine R_ps 1 (pc2 := 150) (L2 := [some (vr (some w))]) (st2 := [vr (some w)]) rfl ?_
                refine R_zgetZ (z := 25) rfl t0 rfl ?_
                refine R_zif0 (x := ai h_344 w 25) rfl (ai_in _ _ _) (fun c_349 => ?_) (fun c_349 => ?_)
                · have k := k.2 c_349
                  exact k
                · have k := k.1 (Classical.not_not.mp c_349)
                  refine R_ps 2 (pc2 := 159) (L2 := [some (vr (some w))]) (st2 := [vi (J 45), vr (some w)]) rfl ?_
                  refine R_cV (as := [vr (some w), vi (J 45)]) rfl rfl ⟨Nat.le_of_ble_eq_true rfl, Nat.le_of_ble_eq_true rfl, rfl, (Or.inr ⟨_, rfl, t0⟩)⟩ rfl rfl k (fun h_351 k => ?_)
                  exact k
            · have k := k.2 c_342
              refine R_ps 1 (pc2 := 107) (L2 := [some (vr (some w))]) (st2 := [vr (some w), vr (some w)]) rfl ?_
              refine R_zgetI (z := 26) rfl t0 rfl ?_
              refine R_ps 1 (pc2 := 112) (L2 := [some (vr (some w))]) (st2 := [vi (J 112), vi (J (ai h_337 w 26)), vr (some w)]) rfl ?_
              refine R_zif (x := ai h_337 w 26) (z := 112) rfl (ai_in _ _ _) (by decide) (fun c_354 => ?_) (fun c_354 => ?_)
              · have k := k.2 c_354
                refine R_ps 2 (pc2 := 121) (L2 := [some (vr (some w))]) (st2 := [vr (some w), vr (some w), vr (some w)]) rfl ?_
                refine R_zgetI (z := 26) rfl t0 rfl ?_
                refine R_ps 1 (pc2 := 126) (L2 := [some (vr (some w))]) (st2 := [vi (J 116), vi (J (ai h_337 w 26)), vr (some w), vr (some w)]) rfl ?_
                refine R_zif (x := ai h_337 w 26) (z := 116) rfl (ai_in _ _ _) (by decide) (fun c_356 => ?_) (fun c_356 => ?_)
                · have k := k.2 c_356
                  refine R_ps 1 (pc2 := 134) (L2 := [some (vr (some w))]) (st2 := [vi (J 0), vr (some w), vr (some w)]) rfl ?_
                  refine R_zcI (as := [vr (some w), vi (J 0)]) rfl rfl ⟨Nat.le_of_ble_eq_true rfl, Nat.le_of_ble_eq_true rfl, rfl, (Or.inr ⟨_, rfl, t0⟩)⟩ rfl rfl k (fun x_359 h_358 r_360 k => ?_)
                  refine R_zputI (x := x_359) (z := 27) rfl t0 rfl ?_
                  show WP T N _ _ _ _ (wi h_358 w 27 x_359) _
                  generalize e_363 : wi h_358 w 27 x_359 = h_362
                  replace k := k h_362 e_363.symm
                  refine R_ps 1 (pc2 := 141) (L2 := [some (vr (some w))]) (st2 := [vr (some w)]) rfl ?_
                  refine R_zgetI (z := 26) rfl t0 rfl ?_
                  refine R_ps 1 (pc2 := 146) (L2 := [some (vr (some w))]) (st2 := [vi (J 99), vi (J (ai h_362 w 26))]) rfl ?_
                  refine R_zif (x := ai h_362 w 26) (z := 99) rfl (ai_in _ _ _) (by decide) (fun c_365 => ?_) (fun c_365 => ?_)
                  · have k := k.2 c_365
                    exact k
                  · have k := k.1 (Classical.not_not.mp c_365)
                    refine R_ps 1 (pc2 := 150) (L2 := [some (vr (some w))]) (st2 := [vr (some w)]) rfl ?_
                    refine R_zgetZ (z := 25) rfl t0 rfl ?_
                    refine R_zif0 (x := ai h_362 w 25) rfl (ai_in _ _ _) (fun c_367 => ?_) (fun c_367 => ?_)
                    · have k := k.2 c_367
                      exact k
                    · have k := k.1 (Classical.not_not.mp c_367)
                      refine R_ps 2 (pc2 := 159) (L2 := [some (vr (some w))]) (st2 := [vi (J 45), vr (some w)]) rfl ?_
                      refine R_cV (as := [vr (some w), vi (J 45)]) rfl rfl ⟨Nat.le_of_ble_eq_true rfl, Nat.le_of_ble_eq_true rfl, rfl, (Or.inr ⟨_, rfl, t0⟩)⟩ rfl rfl k (fun h_369 k => ?_)
                      exact k
                · have k := k.1 (Classical.not_not.mp c_356)
                  refine R_ps 2 (pc2 := 134) (L2 := [some (vr (some w))]) (st2 := [vi (J 1), vr (some w), vr (some w)]) rfl ?_
                  refine R_zcI (as := [vr (some w), vi (J 1)]) rfl rfl ⟨Nat.le_of_ble_eq_true rfl, Nat.le_of_ble_eq_true rfl, rfl, (Or.inr ⟨_, rfl, t0⟩)⟩ rfl rfl k (fun x_373 h_372 r_374 k => ?_)
                  refine R_zputI (x := x_373) (z := 27) rfl t0 rfl ?_
                  show WP T N _ _ _ _ (wi h_372 w 27 x_373) _
                  generalize e_377 : wi h_372 w 27 x_373 = h_376
                  replace k := k h_376 e_377.symm
                  refine R_ps 1 (pc2 := 141) (L2 := [some (vr (some w))]) (st2 := [vr (some w)]) rfl ?_
                  refine R_zgetI (z := 26) rfl t0 rfl ?_
                  refine R_ps 1 (pc2 := 146) (L2 := [some (vr (some w))]) (st2 := [vi (J 99), vi (J (ai h_376 w 26))]) rfl ?_
                  refine R_zif (x := ai h_376 w 26) (z := 99) rfl (ai_in _ _ _) (by decide) (fun c_379 => ?_) (fun c_379 => ?_)
                  · have k := k.2 c_379
                    exact k
                  · have k := k.1 (Classical.not_not.mp c_379)
                    refine R_ps 1 (pc2 := 150) (L2 := [some (vr (some w))]) (st2 := [vr (some w)]) rfl ?_
                    refine R_zgetZ (z := 25) rfl t0 rfl ?_
                    refine R_zif0 (x := ai h_376 w 25) rfl (ai_in _ _ _) (fun c_381 => ?_) (fun c_381 => ?_)
                    · have k := k.2 c_381
                      exact k
                    · have k := k.1 (Classical.not_not.mp c_381)
                      refine R_ps 2 (pc2 := 159) (L2 := [some (vr (some w))]) (st2 := [vi (J 45), vr (some w)]) rfl ?_
                      refine R_cV (as := [vr (some w), vi (J 45)]) rfl rfl ⟨Nat.le_of_ble_eq_true rfl, Nat.le_of_ble_eq_true rfl, rfl, (Or.inr ⟨_, rfl, t0⟩)⟩ rfl rfl k (fun h_383 k => ?_)
                      exact k
              · have k := k.1 (Classical.not_not.mp c_354)
                refine R_ps 2 (pc2 := 137) (L2 := [some (vr (some w))]) (st2 := [vi (J 0), vr (some w)]) rfl ?_
                refine R_zputI (x := 0) (z := 27) rfl t0 rfl ?_
                show WP T N _ _ _ _ (wi h_337 w 27 0) _
                generalize e_387 : wi h_337 w 27 0 = h_386
                replace k := k h_386 e_387.symm
                refine R_ps 1 (pc2 := 141) (L2 := [some (vr (some w))]) (st2 := [vr (some w)]) rfl ?_
                refine R_zgetI (z := 26) rfl t0 rfl ?_
                refine R_ps 1 (pc2 := 146) (L2 := [some (vr (some w))]) (st2 := [vi (J 99), vi (J (ai h_386 w 26))]) rfl ?_
                refine R_zif (x := ai h_386 w 26) (z := 99) rfl (ai_in _ _ _) (by decide) (fun c_389 => ?_) (fun c_389 => ?_)
                · have k := k.2 c_389
                  exact k
                · have k := k.1 (Classical.not_not.mp c_389)
                  refine R_ps 1 (pc2 := 150) (L2 := [some (vr (some w))]) (st2 := [vr (some w)]) rfl ?_
                  refine R_zgetZ (z := 25) rfl t0 rfl ?_
                  refine R_zif0 (x := ai h_386 w 25) rfl (ai_in _ _ _) (fun c_391 => ?_) (fun c_391 => ?_)
                  · have k := k.2 c_391
                    exact k
                  · have k := k.1 (Classical.not_not.mp c_391)
                    refine R_ps 2 (pc2 := 159) (L2 := [some (vr (some w))]) (st2 := [vi (J 45), vr (some w)]) rfl ?_
                    refine R_cV (as := [vr (some w), vi (J 45)]) rfl rfl ⟨Nat.le_of_ble_eq_true rfl, Nat.le_of_ble_eq_true rfl, rfl, (Or.inr ⟨_, rfl, t0⟩)⟩ rfl rfl k (fun h_393 k => ?_)
                    exact k
          · have k := k.2 c_340
            exact R_ret rfl rfl ⟨rfl, k⟩
      · have k := k.2 c_268
        refine R_ps 1 (pc2 := 41) (L2 := [some (vr (some w))]) (st2 := [vr (some w), vi (J (ai h_6 w 25)), vr (some w)]) rfl ?_
        refine R_zgetI (z := 26) rfl t0 rfl ?_
        refine R_ps 1 (pc2 := 46) (L2 := [some (vr (some w))]) (st2 := [vi (J 100), vi (J (ai h_6 w 26)), vi (J (ai h_6 w 25)), vr (some w)]) rfl ?_
        refine R_zif (x := ai h_6 w 26) (z := 100) rfl (ai_in _ _ _) (by decide) (fun c_397 => ?_) (fun c_397 => ?_)
        · have k := k.1 c_397
          refine R_ps 2 (pc2 := 64) (L2 := [some (vr (some w))]) (st2 := [vi ((J (ai h_6 w 25)) ||| (J 0)), vr (some w)]) rfl ?_
          rw [show ((J (ai h_6 w 25)) ||| (J 0)) = J (zor (ai h_6 w 25) 0) from J_or' rfl rfl]
          obtain ⟨t_401, k⟩ := k
          refine R_zputZ (x := zor (ai h_6 w 25) 0) (z := 25) rfl t0 t_401 rfl ?_
          show WP T N _ _ _ _ (wi h_6 w 25 (zor (ai h_6 w 25) 0)) _
          generalize e_400 : wi h_6 w 25 (zor (ai h_6 w 25) 0) = h_399
          replace k := k h_399 e_400.symm
          refine R_ps 2 (pc2 := 69) (L2 := [some (vr (some w))]) (st2 := [vr (some w), vr (some w)]) rfl ?_
          refine R_zgetI (z := 24) rfl t0 rfl ?_
          refine R_ps 1 (pc2 := 73) (L2 := [some (vr (some w))]) (st2 := [vr (some w), vi (J (ai h_399 w 24)), vr (some w)]) rfl ?_
          refine R_zgetZ (z := 25) rfl t0 rfl ?_
          refine R_zif0 (x := ai h_399 w 25) rfl (ai_in _ _ _) (fun c_404 => ?_) (fun c_404 => ?_)
          · have k := k.1 c_404
            refine R_ps 2 (pc2 := 85) (L2 := [some (vr (some w))]) (st2 := [vi ((J (ai h_399 w 24)) + (J 1)), vr (some w)]) rfl ?_
            rw [show ((J (ai h_399 w 24)) + (J 1)) = J ((ai h_399 w 24) + 1) from J_add' rfl rfl]
            refine R_zputI (x := (ai h_399 w 24) + 1) (z := 24) rfl t0 rfl ?_
            show WP T N _ _ _ _ (wi h_399 w 24 ((ai h_399 w 24) + 1)) _
            generalize e_407 : wi h_399 w 24 ((ai h_399 w 24) + 1) = h_406
            replace k := k h_406 e_407.symm
            refine R_ps 1 (pc2 := 89) (L2 := [some (vr (some w))]) (st2 := [vr (some w)]) rfl ?_
            refine R_zgetZ (z := 25) rfl t0 rfl ?_
            refine R_zif0 (x := ai h_406 w 25) rfl (ai_in _ _ _) (fun c_409 => ?_) (fun c_409 => ?_)
            · have k := k.1 c_409
              refine R_ps 2 (pc2 := 98) (L2 := [some (vr (some w))]) (st2 := [vr (some w), vr (some w)]) rfl ?_
              refine R_zgetI (z := 26) rfl t0 rfl ?_
              refine R_ps 1 (pc2 := 103) (L2 := [some (vr (some w))]) (st2 := [vi (J 110), vi (J (ai h_406 w 26)), vr (some w)]) rfl ?_
              refine R_zif (x := ai h_406 w 26) (z := 110) rfl (ai_in _ _ _) (by decide) (fun c_411 => ?_) (fun c_411 => ?_)
              · have k := k.1 c_411
                refine R_ps 2 (pc2 := 137) (L2 := [some (vr (some w))]) (st2 := [vi (J 0), vr (some w)]) rfl ?_
                refine R_zputI (x := 0) (z := 27) rfl t0 rfl ?_
                show WP T N _ _ _ _ (wi h_406 w 27 0) _
                generalize e_414 : wi h_406 w 27 0 = h_413
                replace k := k h_413 e_414.symm
                refine R_ps 1 (pc2 := 141) (L2 := [some (vr (some w))]) (st2 := [vr (some w)]) rfl ?_
                refine R_zgetI (z := 26) rfl t0 rfl ?_
                refine R_ps 1 (pc2 := 146) (L2 := [some (vr (some w))]) (st2 := [vi (J 99), vi (J (ai h_413 w 26))]) rfl ?_
                refine R_zif (x := ai h_413 w 26) (z := 99) rfl (ai_in _ _ _) (by decide) (fun c_416 => ?_) (fun c_416 => ?_)
                · have k := k.2 c_416
                  exact k
                · have k := k.1 (Classical.not_not.mp c_416)
                  refine R_ps 1 (pc2 := 150) (L2 := [some (vr (some w))]) (st2 := [vr (some w)]) rfl ?_
                  refine R_zgetZ (z := 25) rfl t0 rfl ?_
                  refine R_zif0 (x := ai h_413 w 25) rfl (ai_in _ _ _) (fun c_418 => ?_) (fun c_418 => ?_)
                  · have k := k.2 c_418
                    exact k
                  · have k := k.1 (Classical.not_not.mp c_418)
                    refine R_ps 2 (pc2 := 159) (L2 := [some (vr (some w))]) (st2 := [vi (J 45), vr (some w)]) rfl ?_
                    refine R_cV (as := [vr (some w), vi (J 45)]) rfl rfl ⟨Nat.le_of_ble_eq_true rfl, Nat.le_of_ble_eq_true rfl, rfl, (Or.inr ⟨_, rfl, t0⟩)⟩ rfl rfl k (fun h_420 k => ?_)
                    exact k
              · have k := k.2 c_411
                refine R_ps 1 (pc2 := 107) (L2 := [some (vr (some w))]) (st2 := [vr (some w), vr (some w)]) rfl ?_
                refine R_zgetI (z := 26) rfl t0 rfl ?_
                refine R_ps 1 (pc2 := 112) (L2 := [some (vr (some w))]) (st2 := [vi (J 112), vi (J (ai h_406 w 26)), vr (some w)]) rfl ?_
                refine R_zif (x := ai h_406 w 26) (z := 112) rfl (ai_in _ _ _) (by decide) (fun c_423 => ?_) (fun c_423 => ?_)
                · have k := k.2 c_423
                  refine R_ps 2 (pc2 := 121) (L2 := [some (vr (some w))]) (st2 := [vr (some w), vr (some w), vr (some w)]) rfl ?_
                  refine R_zgetI (z := 26) rfl t0 rfl ?_
                  refine R_ps 1 (pc2 := 126) (L2 := [some (vr (some w))]) (st2 := [vi (J 116), vi (J (ai h_406 w 26)), vr (some w), vr (some w)]) rfl ?_
                  refine R_zif (x := ai h_406 w 26) (z := 116) rfl (ai_in _ _ _) (by decide) (fun c_425 => ?_) (fun c_425 => ?_)
                  · have k := k.2 c_425
                    refine R_ps 1 (pc2 := 134) (L2 := [some (vr (some w))]) (st2 := [vi (J 0), vr (some w), vr (some w)]) rfl ?_
                    refine R_zcI (as := [vr (some w), vi (J 0)]) rfl rfl ⟨Nat.le_of_ble_eq_true rfl, Nat.le_of_ble_eq_true rfl, rfl, (Or.inr ⟨_, rfl, t0⟩)⟩ rfl rfl k (fun x_428 h_427 r_429 k => ?_)
                    refine R_zputI (x := x_428) (z := 27) rfl t0 rfl ?_
                    show WP T N _ _ _ _ (wi h_427 w 27 x_428) _
                    generalize e_432 : wi h_427 w 27 x_428 = h_431
                    replace k := k h_431 e_432.symm
                    refine R_ps 1 (pc2 := 141) (L2 := [some (vr (some w))]) (st2 := [vr (some w)]) rfl ?_
                    refine R_zgetI (z := 26) rfl t0 rfl ?_
                    refine R_ps 1 (pc2 := 146) (L2 := [some (vr (some w))]) (st2 := [vi (J 99), vi (J (ai h_431 w 26))]) rfl ?_
                    refine R_zif (x := ai h_431 w 26) (z := 99) rfl (ai_in _ _ _) (by decide) (fun c_434 => ?_) (fun c_434 => ?_)
                    · have k := k.2 c_434
                      exact k
                    · have k := k.1 (Classical.not_not.mp c_434)
                      refine R_ps 1 (pc2 := 150) (L2 := [some (vr (some w))]) (st2 := [vr (some w)]) rfl ?_
                      refine R_zgetZ (z := 25) rfl t0 rfl ?_
                      refine R_zif0 (x := ai h_431 w 25) rfl (ai_in _ _ _) (fun c_436 => ?_) (fun c_436 => ?_)
                      · have k := k.2 c_436
                        exact k
                      · have k := k.1 (Classical.not_not.mp c_436)
                        refine R_ps 2 (pc2 := 159) (L2 := [some (vr (some w))]) (st2 := [vi (J 45), vr (some w)]) rfl ?_
                        refine R_cV (as := [vr (some w), vi (J 45)]) rfl rfl ⟨Nat.le_of_ble_eq_true rfl, Nat.le_of_ble_eq_true rfl, rfl, (Or.inr ⟨_, rfl, t0⟩)⟩ rfl rfl k (fun h_438 k => ?_)
                        exact k
                  · have k := k.1 (Classical.not_not.mp c_425)
                    refine R_ps 2 (pc2 := 134) (L2 := [some (vr (some w))]) (st2 := [vi (J 1), vr (some w), vr (some w)]) rfl ?_
                    refine R_zcI (as := [vr (some w), vi (J 1)]) rfl rfl ⟨Nat.le_of_ble_eq_true rfl, Nat.le_of_ble_eq_true rfl, rfl, (Or.inr ⟨_, rfl, t0⟩)⟩ rfl rfl k (fun x_442 h_441 r_443 k => ?_)
                    refine R_zputI (x := x_442) (z := 27) rfl t0 rfl ?_
                    show WP T N _ _ _ _ (wi h_441 w 27 x_442) _
                    generalize e_446 : wi h_441 w 27 x_442 = h_445
                    replace k := k h_445 e_446.symm
                    refine R_ps 1 (pc2 := 141) (L2 := [some (vr (some w))]) (st2 := [vr (some w)]) rfl ?_
                    refine R_zgetI (z := 26) rfl t0 rfl ?_
                    refine R_ps 1 (pc2 := 146) (L2 := [some (vr (some w))]) (st2 := [vi (J 99), vi (J (ai h_445 w 26))]) rfl ?_
                    refine R_zif (x := ai h_445 w 26) (z := 99) rfl (ai_in _ _ _) (by decide) (fun c_448 => ?_) (fun c_448 => ?_)
                    · have k := k.2 c_448
                      exact k
                    · have k := k.1 (Classical.not_not.mp c_448)
                      refine R_ps 1 (pc2 := 150) (L2 := [some (vr (some w))]) (st2 := [vr (some w)]) rfl ?_
                      refine R_zgetZ (z := 25) rfl t0 rfl ?_
                      refine R_zif0 (x := ai h_445 w 25) rfl (ai_in _ _ _) (fun c_450 => ?_) (fun c_450 => ?_)
                      · have k := k.2 c_450
                        exact k
                      · have k := k.1 (Classical.not_not.mp c_450)
                        refine R_ps 2 (pc2 := 159) (L2 := [some (vr (some w))]) (st2 := [vi (J 45), vr (some w)]) rfl ?_
                        refine R_cV (as := [vr (some w), vi (J 45)]) rfl rfl ⟨Nat.le_of_ble_eq_true rfl, Nat.le_of_ble_eq_true rfl, rfl, (Or.inr ⟨_, rfl, t0⟩)⟩ rfl rfl k (fun h_452 k => ?_)
                        exact k
                · have k := k.1 (Classical.not_not.mp c_423)
                  refine R_ps 2 (pc2 := 137) (L2 := [some (vr (some w))]) (st2 := [vi (J 0), vr (some w)]) rfl ?_
                  refine R_zputI (x := 0) (z := 27) rfl t0 rfl ?_
                  show WP T N _ _ _ _ (wi h_406 w 27 0) _
                  generalize e_456 : wi h_406 w 27 0 = h_455
                  replace k := k h_455 e_456.symm
                  refine R_ps 1 (pc2 := 141) (L2 := [some (vr (some w))]) (st2 := [vr (some w)]) rfl ?_
                  refine R_zgetI (z := 26) rfl t0 rfl ?_
                  refine R_ps 1 (pc2 := 146) (L2 := [some (vr (some w))]) (st2 := [vi (J 99), vi (J (ai h_455 w 26))]) rfl ?_
                  refine R_zif (x := ai h_455 w 26) (z := 99) rfl (ai_in _ _ _) (by decide) (fun c_458 => ?_) (fun c_458 => ?_)
                  · have k := k.2 c_458
                    exact k
                  · have k := k.1 (Classical.not_not.mp c_458)
                    refine R_ps 1 (pc2 := 150) (L2 := [some (vr (some w))]) (st2 := [vr (some w)]) rfl ?_
                    refine R_zgetZ (z := 25) rfl t0 rfl ?_
                    refine R_zif0 (x := ai h_455 w 25) rfl (ai_in _ _ _) (fun c_460 => ?_) (fun c_460 => ?_)
                    · have k := k.2 c_460
                      exact k
                    · have k := k.1 (Classical.not_not.mp c_460)
                      refine R_ps 2 (pc2 := 159) (L2 := [some (vr (some w))]) (st2 := [vi (J 45), vr (some w)]) rfl ?_
                      refine R_cV (as := [vr (some w), vi (J 45)]) rfl rfl ⟨Nat.le_of_ble_eq_true rfl, Nat.le_of_ble_eq_true rfl, rfl, (Or.inr ⟨_, rfl, t0⟩)⟩ rfl rfl k (fun h_462 k => ?_)
                      exact k
            · have k := k.2 c_409
              exact R_ret rfl rfl ⟨rfl, k⟩
          · have k := k.2 c_404
            refine R_ps 3 (pc2 := 85) (L2 := [some (vr (some w))]) (st2 := [vi ((J (ai h_399 w 24)) + (J 0)), vr (some w)]) rfl ?_
            rw [show ((J (ai h_399 w 24)) + (J 0)) = J ((ai h_399 w 24) + 0) from J_add' rfl rfl]
            refine R_zputI (x := (ai h_399 w 24) + 0) (z := 24) rfl t0 rfl ?_
            show WP T N _ _ _ _ (wi h_399 w 24 ((ai h_399 w 24) + 0)) _
            generalize e_467 : wi h_399 w 24 ((ai h_399 w 24) + 0) = h_466
            replace k := k h_466 e_467.symm
            refine R_ps 1 (pc2 := 89) (L2 := [some (vr (some w))]) (st2 := [vr (some w)]) rfl ?_
            refine R_zgetZ (z := 25) rfl t0 rfl ?_
            refine R_zif0 (x := ai h_466 w 25) rfl (ai_in _ _ _) (fun c_469 => ?_) (fun c_469 => ?_)
            · have k := k.1 c_469
              refine R_ps 2 (pc2 := 98) (L2 := [some (vr (some w))]) (st2 := [vr (some w), vr (some w)]) rfl ?_
              refine R_zgetI (z := 26) rfl t0 rfl ?_
              refine R_ps 1 (pc2 := 103) (L2 := [some (vr (some w))]) (st2 := [vi (J 110), vi (J (ai h_466 w 26)), vr (some w)]) rfl ?_
              refine R_zif (x := ai h_466 w 26) (z := 110) rfl (ai_in _ _ _) (by decide) (fun c_471 => ?_) (fun c_471 => ?_)
              · have k := k.1 c_471
                refine R_ps 2 (pc2 := 137) (L2 := [some (vr (some w))]) (st2 := [vi (J 0), vr (some w)]) rfl ?_
                refine R_zputI (x := 0) (z := 27) rfl t0 rfl ?_
                show WP T N _ _ _ _ (wi h_466 w 27 0) _
                generalize e_474 : wi h_466 w 27 0 = h_473
                replace k := k h_473 e_474.symm
                refine R_ps 1 (pc2 := 141) (L2 := [some (vr (some w))]) (st2 := [vr (some w)]) rfl ?_
                refine R_zgetI (z := 26) rfl t0 rfl ?_
                refine R_ps 1 (pc2 := 146) (L2 := [some (vr (some w))]) (st2 := [vi (J 99), vi (J (ai h_473 w 26))]) rfl ?_
                refine R_zif (x := ai h_473 w 26) (z := 99) rfl (ai_in _ _ _) (by decide) (fun c_476 => ?_) (fun c_476 => ?_)
                · have k := k.2 c_476
                  exact k
                · have k := k.1 (Classical.not_not.mp c_476)
                  refine R_ps 1 (pc2 := 150) (L2 := [some (vr (some w))]) (st2 := [vr (some w)]) rfl ?_
                  refine R_zgetZ (z := 25) rfl t0 rfl ?_
                  refine R_zif0 (x := ai h_473 w 25) rfl (ai_in _ _ _) (fun c_478 => ?_) (fun c_478 => ?_)
                  · have k := k.2 c_478
                    exact k
                  · have k := k.1 (Classical.not_not.mp c_478)
                    refine R_ps 2 (pc2 := 159) (L2 := [some (vr (some w))]) (st2 := [vi (J 45), vr (some w)]) rfl ?_
                    refine R_cV (as := [vr (some w), vi (J 45)]) rfl rfl ⟨Nat.le_of_ble_eq_true rfl, Nat.le_of_ble_eq_true rfl, rfl, (Or.inr ⟨_, rfl, t0⟩)⟩ rfl rfl k (fun h_480 k => ?_)
                    exact k
              · have k := k.2 c_471
                refine R_ps 1 (pc2 := 107) (L2 := [some (vr (some w))]) (st2 := [vr (some w), vr (some w)]) rfl ?_
                refine R_zgetI (z := 26) rfl t0 rfl ?_
                refine R_ps 1 (pc2 := 112) (L2 := [some (vr (some w))]) (st2 := [vi (J 112), vi (J (ai h_466 w 26)), vr (some w)]) rfl ?_
                refine R_zif (x := ai h_466 w 26) (z := 112) rfl (ai_in _ _ _) (by decide) (fun c_483 => ?_) (fun c_483 => ?_)
                · have k := k.2 c_483
                  refine R_ps 2 (pc2 := 121) (L2 := [some (vr (some w))]) (st2 := [vr (some w), vr (some w), vr (some w)]) rfl ?_
                  refine R_zgetI (z := 26) rfl t0 rfl ?_
                  refine R_ps 1 (pc2 := 126) (L2 := [some (vr (some w))]) (st2 := [vi (J 116), vi (J (ai h_466 w 26)), vr (some w), vr (some w)]) rfl ?_
                  refine R_zif (x := ai h_466 w 26) (z := 116) rfl (ai_in _ _ _) (by decide) (fun c_485 => ?_) (fun c_485 => ?_)
                  · have k := k.2 c_485
                    refine R_ps 1 (pc2 := 134) (L2 := [some (vr (some w))]) (st2 := [vi (J 0), vr (some w), vr (some w)]) rfl ?_
                    refine R_zcI (as := [vr (some w), vi (J 0)]) rfl rfl ⟨Nat.le_of_ble_eq_true rfl, Nat.le_of_ble_eq_true rfl, rfl, (Or.inr ⟨_, rfl, t0⟩)⟩ rfl rfl k (fun x_488 h_487 r_489 k => ?_)
                    refine R_zputI (x := x_488) (z := 27) rfl t0 rfl ?_
                    show WP T N _ _ _ _ (wi h_487 w 27 x_488) _
                    generalize e_492 : wi h_487 w 27 x_488 = h_491
                    replace k := k h_491 e_492.symm
                    refine R_ps 1 (pc2 := 141) (L2 := [some (vr (some w))]) (st2 := [vr (some w)]) rfl ?_
                    refine R_zgetI (z := 26) rfl t0 rfl ?_
                    refine R_ps 1 (pc2 := 146) (L2 := [some (vr (some w))]) (st2 := [vi (J 99), vi (J (ai h_491 w 26))]) rfl ?_
                    refine R_zif (x := ai h_491 w 26) (z := 99) rfl (ai_in _ _ _) (by decide) (fun c_494 => ?_) (fun c_494 => ?_)
                    · have k := k.2 c_494
                      exact k
                    · have k := k.1 (Classical.not_not.mp c_494)
                      refine R_ps 1 (pc2 := 150) (L2 := [some (vr (some w))]) (st2 := [vr (some w)]) rfl ?_
                      refine R_zgetZ (z := 25) rfl t0 rfl ?_
                      refine R_zif0 (x := ai h_491 w 25) rfl (ai_in _ _ _) (fun c_496 => ?_) (fun c_496 => ?_)
                      · have k := k.2 c_496
                        exact k
                      · have k := k.1 (Classical.not_not.mp c_496)
                        refine R_ps 2 (pc2 := 159) (L2 := [some (vr (some w))]) (st2 := [vi (J 45), vr (some w)]) rfl ?_
                        refine R_cV (as := [vr (some w), vi (J 45)]) rfl rfl ⟨Nat.le_of_ble_eq_true rfl, Nat.le_of_ble_eq_true rfl, rfl, (Or.inr ⟨_, rfl, t0⟩)⟩ rfl rfl k (fun h_498 k => ?_)
                        exact k
                  · have k := k.1 (Classical.not_not.mp c_485)
                    refine R_ps 2 (pc2 := 134) (L2 := [some (vr (some w))]) (st2 := [vi (J 1), vr (some w), vr (some w)]) rfl ?_
                    refine R_zcI (as := [vr (some w), vi (J 1)]) rfl rfl ⟨Nat.le_of_ble_eq_true rfl, Nat.le_of_ble_eq_true rfl, rfl, (Or.inr ⟨_, rfl, t0⟩)⟩ rfl rfl k (fun x_502 h_501 r_503 k => ?_)
                    refine R_zputI (x := x_502) (z := 27) rfl t0 rfl ?_
                    show WP T N _ _ _ _ (wi h_501 w 27 x_502) _
                    generalize e_506 : wi h_501 w 27 x_502 = h_505
                    replace k := k h_505 e_506.symm
                    refine R_ps 1 (pc2 := 141) (L2 := [some (vr (some w))]) (st2 := [vr (some w)]) rfl ?_
                    refine R_zgetI (z := 26) rfl t0 rfl ?_
                    refine R_ps 1 (pc2 := 146) (L2 := [some (vr (some w))]) (st2 := [vi (J 99), vi (J (ai h_505 w 26))]) rfl ?_
                    refine R_zif (x := ai h_505 w 26) (z := 99) rfl (ai_in _ _ _) (by decide) (fun c_508 => ?_) (fun c_508 => ?_)
                    · have k := k.2 c_508
                      exact k
                    · have k := k.1 (Classical.not_not.mp c_508)
                      refine R_ps 1 (pc2 := 150) (L2 := [some (vr (some w))]) (st2 := [vr (some w)]) rfl ?_
                      refine R_zgetZ (z := 25) rfl t0 rfl ?_
                      refine R_zif0 (x := ai h_505 w 25) rfl (ai_in _ _ _) (fun c_510 => ?_) (fun c_510 => ?_)
                      · have k := k.2 c_510
                        exact k
                      · have k := k.1 (Classical.not_not.mp c_510)
                        refine R_ps 2 (pc2 := 159) (L2 := [some (vr (some w))]) (st2 := [vi (J 45), vr (some w)]) rfl ?_
                        refine R_cV (as := [vr (some w), vi (J 45)]) rfl rfl ⟨Nat.le_of_ble_eq_true rfl, Nat.le_of_ble_eq_true rfl, rfl, (Or.inr ⟨_, rfl, t0⟩)⟩ rfl rfl k (fun h_512 k => ?_)
                        exact k
                · have k := k.1 (Classical.not_not.mp c_483)
                  refine R_ps 2 (pc2 := 137) (L2 := [some (vr (some w))]) (st2 := [vi (J 0), vr (some w)]) rfl ?_
                  refine R_zputI (x := 0) (z := 27) rfl t0 rfl ?_
                  show WP T N _ _ _ _ (wi h_466 w 27 0) _
                  generalize e_516 : wi h_466 w 27 0 = h_515
                  replace k := k h_515 e_516.symm
                  refine R_ps 1 (pc2 := 141) (L2 := [some (vr (some w))]) (st2 := [vr (some w)]) rfl ?_
                  refine R_zgetI (z := 26) rfl t0 rfl ?_
                  refine R_ps 1 (pc2 := 146) (L2 := [some (vr (some w))]) (st2 := [vi (J 99), vi (J (ai h_515 w 26))]) rfl ?_
                  refine R_zif (x := ai h_515 w 26) (z := 99) rfl (ai_in _ _ _) (by decide) (fun c_518 => ?_) (fun c_518 => ?_)
                  · have k := k.2 c_518
                    exact k
                  · have k := k.1 (Classical.not_not.mp c_518)
                    refine R_ps 1 (pc2 := 150) (L2 := [some (vr (some w))]) (st2 := [vr (some w)]) rfl ?_
                    refine R_zgetZ (z := 25) rfl t0 rfl ?_
                    refine R_zif0 (x := ai h_515 w 25) rfl (ai_in _ _ _) (fun c_520 => ?_) (fun c_520 => ?_)
                    · have k := k.2 c_520
                      exact k
                    · have k := k.1 (Classical.not_not.mp c_520)
                      refine R_ps 2 (pc2 := 159) (L2 := [some (vr (some w))]) (st2 := [vi (J 45), vr (some w)]) rfl ?_
                      refine R_cV (as := [vr (some w), vi (J 45)]) rfl rfl ⟨Nat.le_of_ble_eq_true rfl, Nat.le_of_ble_eq_true rfl, rfl, (Or.inr ⟨_, rfl, t0⟩)⟩ rfl rfl k (fun h_522 k => ?_)
                      exact k
            · have k := k.2 c_469
              exact R_ret rfl rfl ⟨rfl, k⟩
        · have k := k.2 c_397
          refine R_ps 1 (pc2 := 50) (L2 := [some (vr (some w))]) (st2 := [vr (some w), vi (J (ai h_6 w 25)), vr (some w)]) rfl ?_
          refine R_zgetI (z := 26) rfl t0 rfl ?_
          refine R_ps 1 (pc2 := 55) (L2 := [some (vr (some w))]) (st2 := [vi (J 116), vi (J (ai h_6 w 26)), vi (J (ai h_6 w 25)), vr (some w)]) rfl ?_
          refine R_zif (x := ai h_6 w 26) (z := 116) rfl (ai_in _ _ _) (by decide) (fun c_526 => ?_) (fun c_526 => ?_)
          · have k := k.1 c_526
            refine R_ps 2 (pc2 := 64) (L2 := [some (vr (some w))]) (st2 := [vi ((J (ai h_6 w 25)) ||| (J 0)), vr (some w)]) rfl ?_
            rw [show ((J (ai h_6 w 25)) ||| (J 0)) = J (zor (ai h_6 w 25) 0) from J_or' rfl rfl]
            obtain ⟨t_530, k⟩ := k
            refine R_zputZ (x := zor (ai h_6 w 25) 0) (z := 25) rfl t0 t_530 rfl ?_
            show WP T N _ _ _ _ (wi h_6 w 25 (zor (ai h_6 w 25) 0)) _
            generalize e_529 : wi h_6 w 25 (zor (ai h_6 w 25) 0) = h_528
            replace k := k h_528 e_529.symm
            refine R_ps 2 (pc2 := 69) (L2 := [some (vr (some w))]) (st2 := [vr (some w), vr (some w)]) rfl ?_
            refine R_zgetI (z := 24) rfl t0 rfl ?_
            refine R_ps 1 (pc2 := 73) (L2 := [some (vr (some w))]) (st2 := [vr (some w), vi (J (ai h_528 w 24)), vr (some w)]) rfl ?_
            refine R_zgetZ (z := 25) rfl t0 rfl ?_
            refine R_zif0 (x := ai h_528 w 25) rfl (ai_in _ _ _) (fun c_533 => ?_) (fun c_533 => ?_)
            · have k := k.1 c_533
              refine R_ps 2 (pc2 := 85) (L2 := [some (vr (some w))]) (st2 := [vi ((J (ai h_528 w 24)) + (J 1)), vr (some w)]) rfl ?_
              rw [show ((J (ai h_528 w 24)) + (J 1)) = J ((ai h_528 w 24) + 1) from J_add' rfl rfl]
              refine R_zputI (x := (ai h_528 w 24) + 1) (z := 24) rfl t0 rfl ?_
              show WP T N _ _ _ _ (wi h_528 w 24 ((ai h_528 w 24) + 1)) _
              generalize e_536 : wi h_528 w 24 ((ai h_528 w 24) + 1) = h_535
              replace k := k h_535 e_536.symm
              refine R_ps 1 (pc2 := 89) (L2 := [some (vr (some w))]) (st2 := [vr (some w)]) rfl ?_
              refine R_zgetZ (z := 25) rfl t0 rfl ?_
              refine R_zif0 (x := ai h_535 w 25) rfl (ai_in _ _ _) (fun c_538 => ?_) (fun c_538 => ?_)
              · have k := k.1 c_538
                refine R_ps 2 (pc2 := 98) (L2 := [some (vr (some w))]) (st2 := [vr (some w), vr (some w)]) rfl ?_
                refine R_zgetI (z := 26) rfl t0 rfl ?_
                refine R_ps 1 (pc2 := 103) (L2 := [some (vr (some w))]) (st2 := [vi (J 110), vi (J (ai h_535 w 26)), vr (some w)]) rfl ?_
                refine R_zif (x := ai h_535 w 26) (z := 110) rfl (ai_in _ _ _) (by decide) (fun c_540 => ?_) (fun c_540 => ?_)
                · have k := k.1 c_540
                  refine R_ps 2 (pc2 := 137) (L2 := [some (vr (some w))]) (st2 := [vi (J 0), vr (some w)]) rfl ?_
                  refine R_zputI (x := 0) (z := 27) rfl t0 rfl ?_
                  show WP T N _ _ _ _ (wi h_535 w 27 0) _
                  generalize e_543 : wi h_535 w 27 0 = h_542
                  replace k := k h_542 e_543.symm
                  refine R_ps 1 (pc2 := 141) (L2 := [some (vr (some w))]) (st2 := [vr (some w)]) rfl ?_
                  refine R_zgetI (z := 26) rfl t0 rfl ?_
                  refine R_ps 1 (pc2 := 146) (L2 := [some (vr (some w))]) (st2 := [vi (J 99), vi (J (ai h_542 w 26))]) rfl ?_
                  refine R_zif (x := ai h_542 w 26) (z := 99) rfl (ai_in _ _ _) (by decide) (fun c_545 => ?_) (fun c_545 => ?_)
                  · have k := k.2 c_545
                    exact k
                  · have k := k.1 (Classical.not_not.mp c_545)
                    refine R_ps 1 (pc2 := 150) (L2 := [some (vr (some w))]) (st2 := [vr (some w)]) rfl ?_
                    refine R_zgetZ (z := 25) rfl t0 rfl ?_
                    refine R_zif0 (x := ai h_542 w 25) rfl (ai_in _ _ _) (fun c_547 => ?_) (fun c_547 => ?_)
                    · have k := k.2 c_547
                      exact k
                    · have k := k.1 (Classical.not_not.mp c_547)
                      refine R_ps 2 (pc2 := 159) (L2 := [some (vr (some w))]) (st2 := [vi (J 45), vr (some w)]) rfl ?_
                      refine R_cV (as := [vr (some w), vi (J 45)]) rfl rfl ⟨Nat.le_of_ble_eq_true rfl, Nat.le_of_ble_eq_true rfl, rfl, (Or.inr ⟨_, rfl, t0⟩)⟩ rfl rfl k (fun h_549 k => ?_)
                      exact k
                · have k := k.2 c_540
                  refine R_ps 1 (pc2 := 107) (L2 := [some (vr (some w))]) (st2 := [vr (some w), vr (some w)]) rfl ?_
                  refine R_zgetI (z := 26) rfl t0 rfl ?_
                  refine R_ps 1 (pc2 := 112) (L2 := [some (vr (some w))]) (st2 := [vi (J 112), vi (J (ai h_535 w 26)), vr (some w)]) rfl ?_
                  refine R_zif (x := ai h_535 w 26) (z := 112) rfl (ai_in _ _ _) (by decide) (fun c_552 => ?_) (fun c_552 => ?_)
                  · have k := k.2 c_552
                    refine R_ps 2 (pc2 := 121) (L2 := [some (vr (some w))]) (st2 := [vr (some w), vr (some w), vr (some w)]) rfl ?_
                    refine R_zgetI (z := 26) rfl t0 rfl ?_
                    refine R_ps 1 (pc2 := 126) (L2 := [some (vr (some w))]) (st2 := [vi (J 116), vi (J (ai h_535 w 26)), vr (some w), vr (some w)]) rfl ?_
                    refine R_zif (x := ai h_535 w 26) (z := 116) rfl (ai_in _ _ _) (by decide) (fun c_554 => ?_) (fun c_554 => ?_)
                    · have k := k.2 c_554
                      refine R_ps 1 (pc2 := 134) (L2 := [some (vr (some w))]) (st2 := [vi (J 0), vr (some w), vr (some w)]) rfl ?_
                      refine R_zcI (as := [vr (some w), vi (J 0)]) rfl rfl ⟨Nat.le_of_ble_eq_true rfl, Nat.le_of_ble_eq_true rfl, rfl, (Or.inr ⟨_, rfl, t0⟩)⟩ rfl rfl k (fun x_557 h_556 r_558 k => ?_)
                      refine R_zputI (x := x_557) (z := 27) rfl t0 rfl ?_
                      show WP T N _ _ _ _ (wi h_556 w 27 x_557) _
                      generalize e_561 : wi h_556 w 27 x_557 = h_560
                      replace k := k h_560 e_561.symm
                      refine R_ps 1 (pc2 := 141) (L2 := [some (vr (some w))]) (st2 := [vr (some w)]) rfl ?_
                      refine R_zgetI (z := 26) rfl t0 rfl ?_
                      refine R_ps 1 (pc2 := 146) (L2 := [some (vr (some w))]) (st2 := [vi (J 99), vi (J (ai h_560 w 26))]) rfl ?_
                      refine R_zif (x := ai h_560 w 26) (z := 99) rfl (ai_in _ _ _) (by decide) (fun c_563 => ?_) (fun c_563 => ?_)
                      · have k := k.2 c_563
                        exact k
                      · have k := k.1 (Classical.not_not.mp c_563)
                        refine R_ps 1 (pc2 := 150) (L2 := [some (vr (some w))]) (st2 := [vr (some w)]) rfl ?_
                        refine R_zgetZ (z := 25) rfl t0 rfl ?_
                        refine R_zif0 (x := ai h_560 w 25) rfl (ai_in _ _ _) (fun c_565 => ?_) (fun c_565 => ?_)
                        · have k := k.2 c_565
                          exact k
                        · have k := k.1 (Classical.not_not.mp c_565)
                          refine R_ps 2 (pc2 := 159) (L2 := [some (vr (some w))]) (st2 := [vi (J 45), vr (some w)]) rfl ?_
                          refine R_cV (as := [vr (some w), vi (J 45)]) rfl rfl ⟨Nat.le_of_ble_eq_true rfl, Nat.le_of_ble_eq_true rfl, rfl, (Or.inr ⟨_, rfl, t0⟩)⟩ rfl rfl k (fun h_567 k => ?_)
                          exact k
                    · have k := k.1 (Classical.not_not.mp c_554)
                      refine R_ps 2 (pc2 := 134) (L2 := [some (vr (some w))]) (st2 := [vi (J 1), vr (some w), vr (some w)]) rfl ?_
                      refine R_zcI (as := [vr (some w), vi (J 1)]) rfl rfl ⟨Nat.le_of_ble_eq_true rfl, Nat.le_of_ble_eq_true rfl, rfl, (Or.inr ⟨_, rfl, t0⟩)⟩ rfl rfl k (fun x_571 h_570 r_572 k => ?_)
                      refine R_zputI (x := x_571) (z := 27) rfl t0 rfl ?_
                      show WP T N _ _ _ _ (wi h_570 w 27 x_571) _
                      generalize e_575 : wi h_570 w 27 x_571 = h_574
                      replace k := k h_574 e_575.symm
                      refine R_ps 1 (pc2 := 141) (L2 := [some (vr (some w))]) (st2 := [vr (some w)]) rfl ?_
                      refine R_zgetI (z := 26) rfl t0 rfl ?_
                      refine R_ps 1 (pc2 := 146) (L2 := [some (vr (some w))]) (st2 := [vi (J 99), vi (J (ai h_574 w 26))]) rfl ?_
                      refine R_zif (x := ai h_574 w 26) (z := 99) rfl (ai_in _ _ _) (by decide) (fun c_577 => ?_) (fun c_577 => ?_)
                      · have k := k.2 c_577
                        exact k
                      · have k := k.1 (Classical.not_not.mp c_577)
                        refine R_ps 1 (pc2 := 150) (L2 := [some (vr (some w))]) (st2 := [vr (some w)]) rfl ?_
                        refine R_zgetZ (z := 25) rfl t0 rfl ?_
                        refine R_zif0 (x := ai h_574 w 25) rfl (ai_in _ _ _) (fun c_579 => ?_) (fun c_579 => ?_)
                        · have k := k.2 c_579
                          exact k
                        · have k := k.1 (Classical.not_not.mp c_579)
                          refine R_ps 2 (pc2 := 159) (L2 := [some (vr (some w))]) (st2 := [vi (J 45), vr (some w)]) rfl ?_
                          refine R_cV (as := [vr (some w), vi (J 45)]) rfl rfl ⟨Nat.le_of_ble_eq_true rfl, Nat.le_of_ble_eq_true rfl, rfl, (Or.inr ⟨_, rfl, t0⟩)⟩ rfl rfl k (fun h_581 k => ?_)
                          exact k
                  · have k := k.1 (Classical.not_not.mp c_552)
                    refine R_ps 2 (pc2 := 137) (L2 := [some (vr (some w))]) (st2 := [vi (J 0), vr (some w)]) rfl ?_
                    refine R_zputI (x := 0) (z := 27) rfl t0 rfl ?_
                    show WP T N _ _ _ _ (wi h_535 w 27 0) _
                    generalize e_585 : wi h_535 w 27 0 = h_584
                    replace k := k h_584 e_585.symm
                    refine R_ps 1 (pc2 := 141) (L2 := [some (vr (some w))]) (st2 := [vr (some w)]) rfl ?_
                    refine R_zgetI (z := 26) rfl t0 rfl ?_
                    refine R_ps 1 (pc2 := 146) (L2 := [some (vr (some w))]) (st2 := [vi (J 99), vi (J (ai h_584 w 26))]) rfl ?_
                    refine R_zif (x := ai h_584 w 26) (z := 99) rfl (ai_in _ _ _) (by decide) (fun c_587 => ?_) (fun c_587 => ?_)
                    · have k := k.2 c_587
                      exact k
                    · have k := k.1 (Classical.not_not.mp c_587)
                      refine R_ps 1 (pc2 := 150) (L2 := [some (vr (some w))]) (st2 := [vr (some w)]) rfl ?_
                      refine R_zgetZ (z := 25) rfl t0 rfl ?_
                      refine R_zif0 (x := ai h_584 w 25) rfl (ai_in _ _ _) (fun c_589 => ?_) (fun c_589 => ?_)
                      · have k := k.2 c_589
                        exact k
                      · have k := k.1 (Classical.not_not.mp c_589)
                        refine R_ps 2 (pc2 := 159) (L2 := [some (vr (some w))]) (st2 := [vi (J 45), vr (some w)]) rfl ?_
                        refine R_cV (as := [vr (some w), vi (J 45)]) rfl rfl ⟨Nat.le_of_ble_eq_true rfl, Nat.le_of_ble_eq_true rfl, rfl, (Or.inr ⟨_, rfl, t0⟩)⟩ rfl rfl k (fun h_591 k => ?_)
                        exact k
              · have k := k.2 c_538
                exact R_ret rfl rfl ⟨rfl, k⟩
            · have k := k.2 c_533
              refine R_ps 3 (pc2 := 85) (L2 := [some (vr (some w))]) (st2 := [vi ((J (ai h_528 w 24)) + (J 0)), vr (some w)]) rfl ?_
              rw [show ((J (ai h_528 w 24)) + (J 0)) = J ((ai h_528 w 24) + 0) from J_add' rfl rfl]
              refine R_zputI (x := (ai h_528 w 24) + 0) (z := 24) rfl t0 rfl ?_
              show WP T N _ _ _ _ (wi h_528 w 24 ((ai h_528 w 24) + 0)) _
              generalize e_596 : wi h_528 w 24 ((ai h_528 w 24) + 0) = h_595
              replace k := k h_595 e_596.symm
              refine R_ps 1 (pc2 := 89) (L2 := [some (vr (some w))]) (st2 := [vr (some w)]) rfl ?_
              refine R_zgetZ (z := 25) rfl t0 rfl ?_
              refine R_zif0 (x := ai h_595 w 25) rfl (ai_in _ _ _) (fun c_598 => ?_) (fun c_598 => ?_)
              · have k := k.1 c_598
                refine R_ps 2 (pc2 := 98) (L2 := [some (vr (some w))]) (st2 := [vr (some w), vr (some w)]) rfl ?_
                refine R_zgetI (z := 26) rfl t0 rfl ?_
                refine R_ps 1 (pc2 := 103) (L2 := [some (vr (some w))]) (st2 := [vi (J 110), vi (J (ai h_595 w 26)), vr (some w)]) rfl ?_
                refine R_zif (x := ai h_595 w 26) (z := 110) rfl (ai_in _ _ _) (by decide) (fun c_600 => ?_) (fun c_600 => ?_)
                · have k := k.1 c_600
                  refine R_ps 2 (pc2 := 137) (L2 := [some (vr (some w))]) (st2 := [vi (J 0), vr (some w)]) rfl ?_
                  refine R_zputI (x := 0) (z := 27) rfl t0 rfl ?_
                  show WP T N _ _ _ _ (wi h_595 w 27 0) _
                  generalize e_603 : wi h_595 w 27 0 = h_602
                  replace k := k h_602 e_603.symm
                  refine R_ps 1 (pc2 := 141) (L2 := [some (vr (some w))]) (st2 := [vr (some w)]) rfl ?_
                  refine R_zgetI (z := 26) rfl t0 rfl ?_
                  refine R_ps 1 (pc2 := 146) (L2 := [some (vr (some w))]) (st2 := [vi (J 99), vi (J (ai h_602 w 26))]) rfl ?_
                  refine R_zif (x := ai h_602 w 26) (z := 99) rfl (ai_in _ _ _) (by decide) (fun c_605 => ?_) (fun c_605 => ?_)
                  · have k := k.2 c_605
                    exact k
                  · have k := k.1 (Classical.not_not.mp c_605)
                    refine R_ps 1 (pc2 := 150) (L2 := [some (vr (some w))]) (st2 := [vr (some w)]) rfl ?_
                    refine R_zgetZ (z := 25) rfl t0 rfl ?_
                    refine R_zif0 (x := ai h_602 w 25) rfl (ai_in _ _ _) (fun c_607 => ?_) (fun c_607 => ?_)
                    · have k := k.2 c_607
                      exact k
                    · have k := k.1 (Classical.not_not.mp c_607)
                      refine R_ps 2 (pc2 := 159) (L2 := [some (vr (some w))]) (st2 := [vi (J 45), vr (some w)]) rfl ?_
                      refine R_cV (as := [vr (some w), vi (J 45)]) rfl rfl ⟨Nat.le_of_ble_eq_true rfl, Nat.le_of_ble_eq_true rfl, rfl, (Or.inr ⟨_, rfl, t0⟩)⟩ rfl rfl k (fun h_609 k => ?_)
                      exact k
                · have k := k.2 c_600
                  refine R_ps 1 (pc2 := 107) (L2 := [some (vr (some w))]) (st2 := [vr (some w), vr (some w)]) rfl ?_
                  refine R_zgetI (z := 26) rfl t0 rfl ?_
                  refine R_ps 1 (pc2 := 112) (L2 := [some (vr (some w))]) (st2 := [vi (J 112), vi (J (ai h_595 w 26)), vr (some w)]) rfl ?_
                  refine R_zif (x := ai h_595 w 26) (z := 112) rfl (ai_in _ _ _) (by decide) (fun c_612 => ?_) (fun c_612 => ?_)
                  · have k := k.2 c_612
                    refine R_ps 2 (pc2 := 121) (L2 := [some (vr (some w))]) (st2 := [vr (some w), vr (some w), vr (some w)]) rfl ?_
                    refine R_zgetI (z := 26) rfl t0 rfl ?_
                    refine R_ps 1 (pc2 := 126) (L2 := [some (vr (some w))]) (st2 := [vi (J 116), vi (J (ai h_595 w 26)), vr (some w), vr (some w)]) rfl ?_
                    refine R_zif (x := ai h_595 w 26) (z := 116) rfl (ai_in _ _ _) (by decide) (fun c_614 => ?_) (fun c_614 => ?_)
                    · have k := k.2 c_614
                      refine R_ps 1 (pc2 := 134) (L2 := [some (vr (some w))]) (st2 := [vi (J 0), vr (some w), vr (some w)]) rfl ?_
                      refine R_zcI (as := [vr (some w), vi (J 0)]) rfl rfl ⟨Nat.le_of_ble_eq_true rfl, Nat.le_of_ble_eq_true rfl, rfl, (Or.inr ⟨_, rfl, t0⟩)⟩ rfl rfl k (fun x_617 h_616 r_618 k => ?_)
                      refine R_zputI (x := x_617) (z := 27) rfl t0 rfl ?_
                      show WP T N _ _ _ _ (wi h_616 w 27 x_617) _
                      generalize e_621 : wi h_616 w 27 x_617 = h_620
                      replace k := k h_620 e_621.symm
                      refine R_ps 1 (pc2 := 141) (L2 := [some (vr (some w))]) (st2 := [vr (some w)]) rfl ?_
                      refine R_zgetI (z := 26) rfl t0 rfl ?_
                      refine R_ps 1 (pc2 := 146) (L2 := [some (vr (some w))]) (st2 := [vi (J 99), vi (J (ai h_620 w 26))]) rfl ?_
                      refine R_zif (x := ai h_620 w 26) (z := 99) rfl (ai_in _ _ _) (by decide) (fun c_623 => ?_) (fun c_623 => ?_)
                      · have k := k.2 c_623
                        exact k
                      · have k := k.1 (Classical.not_not.mp c_623)
                        refine R_ps 1 (pc2 := 150) (L2 := [some (vr (some w))]) (st2 := [vr (some w)]) rfl ?_
                        refine R_zgetZ (z := 25) rfl t0 rfl ?_
                        refine R_zif0 (x := ai h_620 w 25) rfl (ai_in _ _ _) (fun c_625 => ?_) (fun c_625 => ?_)
                        · have k := k.2 c_625
                          exact k
                        · have k := k.1 (Classical.not_not.mp c_625)
                          refine R_ps 2 (pc2 := 159) (L2 := [some (vr (some w))]) (st2 := [vi (J 45), vr (some w)]) rfl ?_
                          refine R_cV (as := [vr (some w), vi (J 45)]) rfl rfl ⟨Nat.le_of_ble_eq_true rfl, Nat.le_of_ble_eq_true rfl, rfl, (Or.inr ⟨_, rfl, t0⟩)⟩ rfl rfl k (fun h_627 k => ?_)
                          exact k
                    · have k := k.1 (Classical.not_not.mp c_614)
                      refine R_ps 2 (pc2 := 134) (L2 := [some (vr (some w))]) (st2 := [vi (J 1), vr (some w), vr (some w)]) rfl ?_
                      refine R_zcI (as := [vr (some w), vi (J 1)]) rfl rfl ⟨Nat.le_of_ble_eq_true rfl, Nat.le_of_ble_eq_true rfl, rfl, (Or.inr ⟨_, rfl, t0⟩)⟩ rfl rfl k (fun x_631 h_630 r_632 k => ?_)
                      refine R_zputI (x := x_631) (z := 27) rfl t0 rfl ?_
                      show WP T N _ _ _ _ (wi h_630 w 27 x_631) _
                      generalize e_635 : wi h_630 w 27 x_631 = h_634
                      replace k := k h_634 e_635.symm
                      refine R_ps 1 (pc2 := 141) (L2 := [some (vr (some w))]) (st2 := [vr (some w)]) rfl ?_
                      refine R_zgetI (z := 26) rfl t0 rfl ?_
                      refine R_ps 1 (pc2 := 146) (L2 := [some (vr (some w))]) (st2 := [vi (J 99), vi (J (ai h_634 w 26))]) rfl ?_
                      refine R_zif (x := ai h_634 w 26) (z := 99) rfl (ai_in _ _ _) (by decide) (fun c_637 => ?_) (fun c_637 => ?_)
                      · have k := k.2 c_637
                        exact k
                      · have k := k.1 (Classical.not_not.mp c_637)
                        refine R_ps 1 (pc2 := 150) (L2 := [some (vr (some w))]) (st2 := [vr (some w)]) rfl ?_
                        refine R_zgetZ (z := 25) rfl t0 rfl ?_
                        refine R_zif0 (x := ai h_634 w 25) rfl (ai_in _ _ _) (fun c_639 => ?_) (fun c_639 => ?_)
                        · have k := k.2 c_639
                          exact k
                        · have k := k.1 (Classical.not_not.mp c_639)
                          refine R_ps 2 (pc2 := 159) (L2 := [some (vr (some w))]) (st2 := [vi (J 45), vr (some w)]) rfl ?_
                          refine R_cV (as := [vr (some w), vi (J 45)]) rfl rfl ⟨Nat.le_of_ble_eq_true rfl, Nat.le_of_ble_eq_true rfl, rfl, (Or.inr ⟨_, rfl, t0⟩)⟩ rfl rfl k (fun h_641 k => ?_)
                          exact k
                  · have k := k.1 (Classical.not_not.mp c_612)
                    refine R_ps 2 (pc2 := 137) (L2 := [some (vr (some w))]) (st2 := [vi (J 0), vr (some w)]) rfl ?_
                    refine R_zputI (x := 0) (z := 27) rfl t0 rfl ?_
                    show WP T N _ _ _ _ (wi h_595 w 27 0) _
                    generalize e_645 : wi h_595 w 27 0 = h_644
                    replace k := k h_644 e_645.symm
                    refine R_ps 1 (pc2 := 141) (L2 := [some (vr (some w))]) (st2 := [vr (some w)]) rfl ?_
                    refine R_zgetI (z := 26) rfl t0 rfl ?_
                    refine R_ps 1 (pc2 := 146) (L2 := [some (vr (some w))]) (st2 := [vi (J 99), vi (J (ai h_644 w 26))]) rfl ?_
                    refine R_zif (x := ai h_644 w 26) (z := 99) rfl (ai_in _ _ _) (by decide) (fun c_647 => ?_) (fun c_647 => ?_)
                    · have k := k.2 c_647
                      exact k
                    · have k := k.1 (Classical.not_not.mp c_647)
                      refine R_ps 1 (pc2 := 150) (L2 := [some (vr (some w))]) (st2 := [vr (some w)]) rfl ?_
                      refine R_zgetZ (z := 25) rfl t0 rfl ?_
                      refine R_zif0 (x := ai h_644 w 25) rfl (ai_in _ _ _) (fun c_649 => ?_) (fun c_649 => ?_)
                      · have k := k.2 c_649
                        exact k
                      · have k := k.1 (Classical.not_not.mp c_649)
                        refine R_ps 2 (pc2 := 159) (L2 := [some (vr (some w))]) (st2 := [vi (J 45), vr (some w)]) rfl ?_
                        refine R_cV (as := [vr (some w), vi (J 45)]) rfl rfl ⟨Nat.le_of_ble_eq_true rfl, Nat.le_of_ble_eq_true rfl, rfl, (Or.inr ⟨_, rfl, t0⟩)⟩ rfl rfl k (fun h_651 k => ?_)
                        exact k
              · have k := k.2 c_598
                exact R_ret rfl rfl ⟨rfl, k⟩
          · have k := k.2 c_526
            refine R_ps 3 (pc2 := 64) (L2 := [some (vr (some w))]) (st2 := [vi ((J (ai h_6 w 25)) ||| (J 1)), vr (some w)]) rfl ?_
            rw [show ((J (ai h_6 w 25)) ||| (J 1)) = J (zor (ai h_6 w 25) 1) from J_or' rfl rfl]
            obtain ⟨t_657, k⟩ := k
            refine R_zputZ (x := zor (ai h_6 w 25) 1) (z := 25) rfl t0 t_657 rfl ?_
            show WP T N _ _ _ _ (wi h_6 w 25 (zor (ai h_6 w 25) 1)) _
            generalize e_656 : wi h_6 w 25 (zor (ai h_6 w 25) 1) = h_655
            replace k := k h_655 e_656.symm
            refine R_ps 2 (pc2 := 69) (L2 := [some (vr (some w))]) (st2 := [vr (some w), vr (some w)]) rfl ?_
            refine R_zgetI (z := 24) rfl t0 rfl ?_
            refine R_ps 1 (pc2 := 73) (L2 := [some (vr (some w))]) (st2 := [vr (some w), vi (J (ai h_655 w 24)), vr (some w)]) rfl ?_
            refine R_zgetZ (z := 25) rfl t0 rfl ?_
            refine R_zif0 (x := ai h_655 w 25) rfl (ai_in _ _ _) (fun c_660 => ?_) (fun c_660 => ?_)
            · have k := k.1 c_660
              refine R_ps 2 (pc2 := 85) (L2 := [some (vr (some w))]) (st2 := [vi ((J (ai h_655 w 24)) + (J 1)), vr (some w)]) rfl ?_
              rw [show ((J (ai h_655 w 24)) + (J 1)) = J ((ai h_655 w 24) + 1) from J_add' rfl rfl]
              refine R_zputI (x := (ai h_655 w 24) + 1) (z := 24) rfl t0 rfl ?_
              show WP T N _ _ _ _ (wi h_655 w 24 ((ai h_655 w 24) + 1)) _
              generalize e_663 : wi h_655 w 24 ((ai h_655 w 24) + 1) = h_662
              replace k := k h_662 e_663.symm
              refine R_ps 1 (pc2 := 89) (L2 := [some (vr (some w))]) (st2 := [vr (some w)]) rfl ?_
              refine R_zgetZ (z := 25) rfl t0 rfl ?_
              refine R_zif0 (x := ai h_662 w 25) rfl (ai_in _ _ _) (fun c_665 => ?_) (fun c_665 => ?_)
              · have k := k.1 c_665
                refine R_ps 2 (pc2 := 98) (L2 := [some (vr (some w))]) (st2 := [vr (some w), vr (some w)]) rfl ?_
                refine R_zgetI (z := 26) rfl t0 rfl ?_
                refine R_ps 1 (pc2 := 103) (L2 := [some (vr (some w))]) (st2 := [vi (J 110), vi (J (ai h_662 w 26)), vr (some w)]) rfl ?_
                refine R_zif (x := ai h_662 w 26) (z := 110) rfl (ai_in _ _ _) (by decide) (fun c_667 => ?_) (fun c_667 => ?_)
                · have k := k.1 c_667
                  refine R_ps 2 (pc2 := 137) (L2 := [some (vr (some w))]) (st2 := [vi (J 0), vr (some w)]) rfl ?_
                  refine R_zputI (x := 0) (z := 27) rfl t0 rfl ?_
                  show WP T N _ _ _ _ (wi h_662 w 27 0) _
                  generalize e_670 : wi h_662 w 27 0 = h_669
                  replace k := k h_669 e_670.symm
                  refine R_ps 1 (pc2 := 141) (L2 := [some (vr (some w))]) (st2 := [vr (some w)]) rfl ?_
                  refine R_zgetI (z := 26) rfl t0 rfl ?_
                  refine R_ps 1 (pc2 := 146) (L2 := [some (vr (some w))]) (st2 := [vi (J 99), vi (J (ai h_669 w 26))]) rfl ?_
                  refine R_zif (x := ai h_669 w 26) (z := 99) rfl (ai_in _ _ _) (by decide) (fun c_672 => ?_) (fun c_672 => ?_)
                  · have k := k.2 c_672
                    exact k
                  · have k := k.1 (Classical.not_not.mp c_672)
                    refine R_ps 1 (pc2 := 150) (L2 := [some (vr (some w))]) (st2 := [vr (some w)]) rfl ?_
                    refine R_zgetZ (z := 25) rfl t0 rfl ?_
                    refine R_zif0 (x := ai h_669 w 25) rfl (ai_in _ _ _) (fun c_674 => ?_) (fun c_674 => ?_)
                    · have k := k.2 c_674
                      exact k
                    · have k := k.1 (Classical.not_not.mp c_674)
                      refine R_ps 2 (pc2 := 159) (L2 := [some (vr (some w))]) (st2 := [vi (J 45), vr (some w)]) rfl ?_
                      refine R_cV (as := [vr (some w), vi (J 45)]) rfl rfl ⟨Nat.le_of_ble_eq_true rfl, Nat.le_of_ble_eq_true rfl, rfl, (Or.inr ⟨_, rfl, t0⟩)⟩ rfl rfl k (fun h_676 k => ?_)
                      exact k
                · have k := k.2 c_667
                  refine R_ps 1 (pc2 := 107) (L2 := [some (vr (some w))]) (st2 := [vr (some w), vr (some w)]) rfl ?_
                  refine R_zgetI (z := 26) rfl t0 rfl ?_
                  refine R_ps 1 (pc2 := 112) (L2 := [some (vr (some w))]) (st2 := [vi (J 112), vi (J (ai h_662 w 26)), vr (some w)]) rfl ?_
                  refine R_zif (x := ai h_662 w 26) (z := 112) rfl (ai_in _ _ _) (by decide) (fun c_679 => ?_) (fun c_679 => ?_)
                  · have k := k.2 c_679
                    refine R_ps 2 (pc2 := 121) (L2 := [some (vr (some w))]) (st2 := [vr (some w), vr (some w), vr (some w)]) rfl ?_
                    refine R_zgetI (z := 26) rfl t0 rfl ?_
                    refine R_ps 1 (pc2 := 126) (L2 := [some (vr (some w))]) (st2 := [vi (J 116), vi (J (ai h_662 w 26)), vr (some w), vr (some w)]) rfl ?_
                    refine R_zif (x := ai h_662 w 26) (z := 116) rfl (ai_in _ _ _) (by decide) (fun c_681 => ?_) (fun c_681 => ?_)
                    · have k := k.2 c_681
                      refine R_ps 1 (pc2 := 134) (L2 := [some (vr (some w))]) (st2 := [vi (J 0), vr (some w), vr (some w)]) rfl ?_
                      refine R_zcI (as := [vr (some w), vi (J 0)]) rfl rfl ⟨Nat.le_of_ble_eq_true rfl, Nat.le_of_ble_eq_true rfl, rfl, (Or.inr ⟨_, rfl, t0⟩)⟩ rfl rfl k (fun x_684 h_683 r_685 k => ?_)
                      refine R_zputI (x := x_684) (z := 27) rfl t0 rfl ?_
                      show WP T N _ _ _ _ (wi h_683 w 27 x_684) _
                      generalize e_688 : wi h_683 w 27 x_684 = h_687
                      replace k := k h_687 e_688.symm
                      refine R_ps 1 (pc2 := 141) (L2 := [some (vr (some w))]) (st2 := [vr (some w)]) rfl ?_
                      refine R_zgetI (z := 26) rfl t0 rfl ?_
                      refine R_ps 1 (pc2 := 146) (L2 := [some (vr (some w))]) (st2 := [vi (J 99), vi (J (ai h_687 w 26))]) rfl ?_
                      refine R_zif (x := ai h_687 w 26) (z := 99) rfl (ai_in _ _ _) (by decide) (fun c_690 => ?_) (fun c_690 => ?_)
                      · have k := k.2 c_690
                        exact k
                      · have k := k.1 (Classical.not_not.mp c_690)
                        refine R_ps 1 (pc2 := 150) (L2 := [some (vr (some w))]) (st2 := [vr (some w)]) rfl ?_
                        refine R_zgetZ (z := 25) rfl t0 rfl ?_
                        refine R_zif0 (x := ai h_687 w 25) rfl (ai_in _ _ _) (fun c_692 => ?_) (fun c_692 => ?_)
                        · have k := k.2 c_692
                          exact k
                        · have k := k.1 (Classical.not_not.mp c_692)
                          refine R_ps 2 (pc2 := 159) (L2 := [some (vr (some w))]) (st2 := [vi (J 45), vr (some w)]) rfl ?_
                          refine R_cV (as := [vr (some w), vi (J 45)]) rfl rfl ⟨Nat.le_of_ble_eq_true rfl, Nat.le_of_ble_eq_true rfl, rfl, (Or.inr ⟨_, rfl, t0⟩)⟩ rfl rfl k (fun h_694 k => ?_)
                          exact k
                    · have k := k.1 (Classical.not_not.mp c_681)
                      refine R_ps 2 (pc2 := 134) (L2 := [some (vr (some w))]) (st2 := [vi (J 1), vr (some w), vr (some w)]) rfl ?_
                      refine R_zcI (as := [vr (some w), vi (J 1)]) rfl rfl ⟨Nat.le_of_ble_eq_true rfl, Nat.le_of_ble_eq_true rfl, rfl, (Or.inr ⟨_, rfl, t0⟩)⟩ rfl rfl k (fun x_698 h_697 r_699 k => ?_)
                      refine R_zputI (x := x_698) (z := 27) rfl t0 rfl ?_
                      show WP T N _ _ _ _ (wi h_697 w 27 x_698) _
                      generalize e_702 : wi h_697 w 27 x_698 = h_701
                      replace k := k h_701 e_702.symm
                      refine R_ps 1 (pc2 := 141) (L2 := [some (vr (some w))]) (st2 := [vr (some w)]) rfl ?_
                      refine R_zgetI (z := 26) rfl t0 rfl ?_
                      refine R_ps 1 (pc2 := 146) (L2 := [some (vr (some w))]) (st2 := [vi (J 99), vi (J (ai h_701 w 26))]) rfl ?_
                      refine R_zif (x := ai h_701 w 26) (z := 99) rfl (ai_in _ _ _) (by decide) (fun c_704 => ?_) (fun c_704 => ?_)
                      · have k := k.2 c_704
                        exact k
                      · have k := k.1 (Classical.not_not.mp c_704)
                        refine R_ps 1 (pc2 := 150) (L2 := [some (vr (some w))]) (st2 := [vr (some w)]) rfl ?_
                        refine R_zgetZ (z := 25) rfl t0 rfl ?_
                        refine R_zif0 (x := ai h_701 w 25) rfl (ai_in _ _ _) (fun c_706 => ?_) (fun c_706 => ?_)
                        · have k := k.2 c_706
                          exact k
                        · have k := k.1 (Classical.not_not.mp c_706)
                          refine R_ps 2 (pc2 := 159) (L2 := [some (vr (some w))]) (st2 := [vi (J 45), vr (some w)]) rfl ?_
                          refine R_cV (as := [vr (some w), vi (J 45)]) rfl rfl ⟨Nat.le_of_ble_eq_true rfl, Nat.le_of_ble_eq_true rfl, rfl, (Or.inr ⟨_, rfl, t0⟩)⟩ rfl rfl k (fun h_708 k => ?_)
                          exact k
                  · have k := k.1 (Classical.not_not.mp c_679)
                    refine R_ps 2 (pc2 := 137) (L2 := [some (vr (some w))]) (st2 := [vi (J 0), vr (some w)]) rfl ?_
                    refine R_zputI (x := 0) (z := 27) rfl t0 rfl ?_
                    show WP T N _ _ _ _ (wi h_662 w 27 0) _
                    generalize e_712 : wi h_662 w 27 0 = h_711
                    replace k := k h_711 e_712.symm
                    refine R_ps 1 (pc2 := 141) (L2 := [some (vr (some w))]) (st2 := [vr (some w)]) rfl ?_
                    refine R_zgetI (z := 26) rfl t0 rfl ?_
                    refine R_ps 1 (pc2 := 146) (L2 := [some (vr (some w))]) (st2 := [vi (J 99), vi (J (ai h_711 w 26))]) rfl ?_
                    refine R_zif (x := ai h_711 w 26) (z := 99) rfl (ai_in _ _ _) (by decide) (fun c_714 => ?_) (fun c_714 => ?_)
                    · have k := k.2 c_714
                      exact k
                    · have k := k.1 (Classical.not_not.mp c_714)
                      refine R_ps 1 (pc2 := 150) (L2 := [some (vr (some w))]) (st2 := [vr (some w)]) rfl ?_
                      refine R_zgetZ (z := 25) rfl t0 rfl ?_
                      refine R_zif0 (x := ai h_711 w 25) rfl (ai_in _ _ _) (fun c_716 => ?_) (fun c_716 => ?_)
                      · have k := k.2 c_716
                        exact k
                      · have k := k.1 (Classical.not_not.mp c_716)
                        refine R_ps 2 (pc2 := 159) (L2 := [some (vr (some w))]) (st2 := [vi (J 45), vr (some w)]) rfl ?_
                        refine R_cV (as := [vr (some w), vi (J 45)]) rfl rfl ⟨Nat.le_of_ble_eq_true rfl, Nat.le_of_ble_eq_true rfl, rfl, (Or.inr ⟨_, rfl, t0⟩)⟩ rfl rfl k (fun h_718 k => ?_)
                        exact k
              · have k := k.2 c_665
                exact R_ret rfl rfl ⟨rfl, k⟩
            · have k := k.2 c_660
              refine R_ps 3 (pc2 := 85) (L2 := [some (vr (some w))]) (st2 := [vi ((J (ai h_655 w 24)) + (J 0)), vr (some w)]) rfl ?_
              rw [show ((J (ai h_655 w 24)) + (J 0)) = J ((ai h_655 w 24) + 0) from J_add' rfl rfl]
              refine R_zputI (x := (ai h_655 w 24) + 0) (z := 24) rfl t0 rfl ?_
              show WP T N _ _ _ _ (wi h_655 w 24 ((ai h_655 w 24) + 0)) _
              generalize e_723 : wi h_655 w 24 ((ai h_655 w 24) + 0) = h_722
              replace k := k h_722 e_723.symm
              refine R_ps 1 (pc2 := 89) (L2 := [some (vr (some w))]) (st2 := [vr (some w)]) rfl ?_
              refine R_zgetZ (z := 25) rfl t0 rfl ?_
              refine R_zif0 (x := ai h_722 w 25) rfl (ai_in _ _ _) (fun c_725 => ?_) (fun c_725 => ?_)
              · have k := k.1 c_725
                refine R_ps 2 (pc2 := 98) (L2 := [some (vr (some w))]) (st2 := [vr (some w), vr (some w)]) rfl ?_
                refine R_zgetI (z := 26) rfl t0 rfl ?_
                refine R_ps 1 (pc2 := 103) (L2 := [some (vr (some w))]) (st2 := [vi (J 110), vi (J (ai h_722 w 26)), vr (some w)]) rfl ?_
                refine R_zif (x := ai h_722 w 26) (z := 110) rfl (ai_in _ _ _) (by decide) (fun c_727 => ?_) (fun c_727 => ?_)
                · have k := k.1 c_727
                  refine R_ps 2 (pc2 := 137) (L2 := [some (vr (some w))]) (st2 := [vi (J 0), vr (some w)]) rfl ?_
                  refine R_zputI (x := 0) (z := 27) rfl t0 rfl ?_
                  show WP T N _ _ _ _ (wi h_722 w 27 0) _
                  generalize e_730 : wi h_722 w 27 0 = h_729
                  replace k := k h_729 e_730.symm
                  refine R_ps 1 (pc2 := 141) (L2 := [some (vr (some w))]) (st2 := [vr (some w)]) rfl ?_
                  refine R_zgetI (z := 26) rfl t0 rfl ?_
                  refine R_ps 1 (pc2 := 146) (L2 := [some (vr (some w))]) (st2 := [vi (J 99), vi (J (ai h_729 w 26))]) rfl ?_
                  refine R_zif (x := ai h_729 w 26) (z := 99) rfl (ai_in _ _ _) (by decide) (fun c_732 => ?_) (fun c_732 => ?_)
                  · have k := k.2 c_732
                    exact k
                  · have k := k.1 (Classical.not_not.mp c_732)
                    refine R_ps 1 (pc2 := 150) (L2 := [some (vr (some w))]) (st2 := [vr (some w)]) rfl ?_
                    refine R_zgetZ (z := 25) rfl t0 rfl ?_
                    refine R_zif0 (x := ai h_729 w 25) rfl (ai_in _ _ _) (fun c_734 => ?_) (fun c_734 => ?_)
                    · have k := k.2 c_734
                      exact k
                    · have k := k.1 (Classical.not_not.mp c_734)
                      refine R_ps 2 (pc2 := 159) (L2 := [some (vr (some w))]) (st2 := [vi (J 45), vr (some w)]) rfl ?_
                      refine R_cV (as := [vr (some w), vi (J 45)]) rfl rfl ⟨Nat.le_of_ble_eq_true rfl, Nat.le_of_ble_eq_true rfl, rfl, (Or.inr ⟨_, rfl, t0⟩)⟩ rfl rfl k (fun h_736 k => ?_)
                      exact k
                · have k := k.2 c_727
                  refine R_ps 1 (pc2 := 107) (L2 := [some (vr (some w))]) (st2 := [vr (some w), vr (some w)]) rfl ?_
                  refine R_zgetI (z := 26) rfl t0 rfl ?_
                  refine R_ps 1 (pc2 := 112) (L2 := [some (vr (some w))]) (st2 := [vi (J 112), vi (J (ai h_722 w 26)), vr (some w)]) rfl ?_
                  refine R_zif (x := ai h_722 w 26) (z := 112) rfl (ai_in _ _ _) (by decide) (fun c_739 => ?_) (fun c_739 => ?_)
                  · have k := k.2 c_739
                    refine R_ps 2 (pc2 := 121) (L2 := [some (vr (some w))]) (st2 := [vr (some w), vr (some w), vr (some w)]) rfl ?_
                    refine R_zgetI (z := 26) rfl t0 rfl ?_
                    refine R_ps 1 (pc2 := 126) (L2 := [some (vr (some w))]) (st2 := [vi (J 116), vi (J (ai h_722 w 26)), vr (some w), vr (some w)]) rfl ?_
                    refine R_zif (x := ai h_722 w 26) (z := 116) rfl (ai_in _ _ _) (by decide) (fun c_741 => ?_) (fun c_741 => ?_)
                    · have k := k.2 c_741
                      refine R_ps 1 (pc2 := 134) (L2 := [some (vr (some w))]) (st2 := [vi (J 0), vr (some w), vr (some w)]) rfl ?_
                      refine R_zcI (as := [vr (some w), vi (J 0)]) rfl rfl ⟨Nat.le_of_ble_eq_true rfl, Nat.le_of_ble_eq_true rfl, rfl, (Or.inr ⟨_, rfl, t0⟩)⟩ rfl rfl k (fun x_744 h_743 r_745 k => ?_)
                      refine R_zputI (x := x_744) (z := 27) rfl t0 rfl ?_
                      show WP T N _ _ _ _ (wi h_743 w 27 x_744) _
                      generalize e_748 : wi h_743 w 27 x_744 = h_747
                      replace k := k h_747 e_748.symm
                      refine R_ps 1 (pc2 := 141) (L2 := [some (vr (some w))]) (st2 := [vr (some w)]) rfl ?_
                      refine R_zgetI (z := 26) rfl t0 rfl ?_
                      refine R_ps 1 (pc2 := 146) (L2 := [some (vr (some w))]) (st2 := [vi (J 99), vi (J (ai h_747 w 26))]) rfl ?_
                      refine R_zif (x := ai h_747 w 26) (z := 99) rfl (ai_in _ _ _) (by decide) (fun c_750 => ?_) (fun c_750 => ?_)
                      · have k := k.2 c_750
                        exact k
                      · have k := k.1 (Classical.not_not.mp c_750)
                        refine R_ps 1 (pc2 := 150) (L2 := [some (vr (some w))]) (st2 := [vr (some w)]) rfl ?_
                        refine R_zgetZ (z := 25) rfl t0 rfl ?_
                        refine R_zif0 (x := ai h_747 w 25) rfl (ai_in _ _ _) (fun c_752 => ?_) (fun c_752 => ?_)
                        · have k := k.2 c_752
                          exact k
                        · have k := k.1 (Classical.not_not.mp c_752)
                          refine R_ps 2 (pc2 := 159) (L2 := [some (vr (some w))]) (st2 := [vi (J 45), vr (some w)]) rfl ?_
                          refine R_cV (as := [vr (some w), vi (J 45)]) rfl rfl ⟨Nat.le_of_ble_eq_true rfl, Nat.le_of_ble_eq_true rfl, rfl, (Or.inr ⟨_, rfl, t0⟩)⟩ rfl rfl k (fun h_754 k => ?_)
                          exact k
                    · have k := k.1 (Classical.not_not.mp c_741)
                      refine R_ps 2 (pc2 := 134) (L2 := [some (vr (some w))]) (st2 := [vi (J 1), vr (some w), vr (some w)]) rfl ?_
                      refine R_zcI (as := [vr (some w), vi (J 1)]) rfl rfl ⟨Nat.le_of_ble_eq_true rfl, Nat.le_of_ble_eq_true rfl, rfl, (Or.inr ⟨_, rfl, t0⟩)⟩ rfl rfl k (fun x_758 h_757 r_759 k => ?_)
                      refine R_zputI (x := x_758) (z := 27) rfl t0 rfl ?_
                      show WP T N _ _ _ _ (wi h_757 w 27 x_758) _
                      generalize e_762 : wi h_757 w 27 x_758 = h_761
                      replace k := k h_761 e_762.symm
                      refine R_ps 1 (pc2 := 141) (L2 := [some (vr (some w))]) (st2 := [vr (some w)]) rfl ?_
                      refine R_zgetI (z := 26) rfl t0 rfl ?_
                      refine R_ps 1 (pc2 := 146) (L2 := [some (vr (some w))]) (st2 := [vi (J 99), vi (J (ai h_761 w 26))]) rfl ?_
                      refine R_zif (x := ai h_761 w 26) (z := 99) rfl (ai_in _ _ _) (by decide) (fun c_764 => ?_) (fun c_764 => ?_)
                      · have k := k.2 c_764
                        exact k
                      · have k := k.1 (Classical.not_not.mp c_764)
                        refine R_ps 1 (pc2 := 150) (L2 := [some (vr (some w))]) (st2 := [vr (some w)]) rfl ?_
                        refine R_zgetZ (z := 25) rfl t0 rfl ?_
                        refine R_zif0 (x := ai h_761 w 25) rfl (ai_in _ _ _) (fun c_766 => ?_) (fun c_766 => ?_)
                        · have k := k.2 c_766
                          exact k
                        · have k := k.1 (Classical.not_not.mp c_766)
                          refine R_ps 2 (pc2 := 159) (L2 := [some (vr (some w))]) (st2 := [vi (J 45), vr (some w)]) rfl ?_
                          refine R_cV (as := [vr (some w), vi (J 45)]) rfl rfl ⟨Nat.le_of_ble_eq_true rfl, Nat.le_of_ble_eq_true rfl, rfl, (Or.inr ⟨_, rfl, t0⟩)⟩ rfl rfl k (fun h_768 k => ?_)
                          exact k
                  · have k := k.1 (Classical.not_not.mp c_739)
                    refine R_ps 2 (pc2 := 137) (L2 := [some (vr (some w))]) (st2 := [vi (J 0), vr (some w)]) rfl ?_
                    refine R_zputI (x := 0) (z := 27) rfl t0 rfl ?_
                    show WP T N _ _ _ _ (wi h_722 w 27 0) _
                    generalize e_772 : wi h_722 w 27 0 = h_771
                    replace k := k h_771 e_772.symm
                    refine R_ps 1 (pc2 := 141) (L2 := [some (vr (some w))]) (st2 := [vr (some w)]) rfl ?_
                    refine R_zgetI (z := 26) rfl t0 rfl ?_
                    refine R_ps 1 (pc2 := 146) (L2 := [some (vr (some w))]) (st2 := [vi (J 99), vi (J (ai h_771 w 26))]) rfl ?_
                    refine R_zif (x := ai h_771 w 26) (z := 99) rfl (ai_in _ _ _) (by decide) (fun c_774 => ?_) (fun c_774 => ?_)
                    · have k := k.2 c_774
                      exact k
                    · have k := k.1 (Classical.not_not.mp c_774)
                      refine R_ps 1 (pc2 := 150) (L2 := [some (vr (some w))]) (st2 := [vr (some w)]) rfl ?_
                      refine R_zgetZ (z := 25) rfl t0 rfl ?_
                      refine R_zif0 (x := ai h_771 w 25) rfl (ai_in _ _ _) (fun c_776 => ?_) (fun c_776 => ?_)
                      · have k := k.2 c_776
                        exact k
                      · have k := k.1 (Classical.not_not.mp c_776)
                        refine R_ps 2 (pc2 := 159) (L2 := [some (vr (some w))]) (st2 := [vi (J 45), vr (some w)]) rfl ?_
                        refine R_cV (as := [vr (some w), vi (J 45)]) rfl rfl ⟨Nat.le_of_ble_eq_true rfl, Nat.le_of_ble_eq_true rfl, rfl, (Or.inr ⟨_, rfl, t0⟩)⟩ rfl rfl k (fun h_778 k => ?_)
                        exact k
              · have k := k.2 c_725
                exact R_ret rfl rfl ⟨rfl, k⟩
theorem z245_162 {T N : Nat → Nat} {h : PH} {w : Nat} {K : PH → Prop} (t0 : T w = 12) (k : ((((ai h w 25) = 0 → (ZI T N 244 [vr (some w), vi (J 0)] h (fun x_5 h_4 => (∀ h_8, h_8 = wi h_4 w 28 x_5 → WV T N 245 178 [some (vr (some w))] [] h_8 K)))) ∧ (¬ ((ai h w 25) = 0) → (WV T N 245 178 [some (vr (some w))] [] h K))))) : WV T N 245 162 [some (vr (some w))] [] h K := by
  show WP T N 245 162 [some (vr (some w))] [] h _
  refine R_ps 1 (pc2 := 163) (L2 := [some (vr (some w))]) (st2 := [vr (some w)]) rfl ?_
  refine R_zgetZ (z := 25) rfl t0 rfl ?_
  refine R_zif0 (x := ai h w 25) rfl (ai_in _ _ _) (fun c_2 => ?_) (fun c_2 => ?_)
  · have k := k.2 c_2
    exact k
  · have k := k.1 (Classical.not_not.mp c_2)
    refine R_ps 3 (pc2 := 172) (L2 := [some (vr (some w))]) (st2 := [vi (J 0), vr (some w), vr (some w)]) rfl ?_
    refine R_zcI (as := [vr (some w), vi (J 0)]) rfl rfl ⟨Nat.le_of_ble_eq_true rfl, Nat.le_of_ble_eq_true rfl, rfl, (Or.inr ⟨_, rfl, t0⟩)⟩ rfl rfl k (fun x_5 h_4 r_6 k => ?_)
    refine R_zputI (x := x_5) (z := 28) rfl t0 rfl ?_
    show WP T N _ _ _ _ (wi h_4 w 28 x_5) _
    generalize e_9 : wi h_4 w 28 x_5 = h_8
    replace k := k h_8 e_9.symm
    exact k
theorem z245_178 {T N : Nat → Nat} {h : PH} {w : Nat} {K : PH → Prop} (t0 : T w = 12) (k : ((((ai h w 25) = 0 → (CV T N 243 [vr (some w), vi (J 42)] h (fun h_4 => (WV T N 245 191 [some (vr (some w))] [] h_4 K)))) ∧ (¬ ((ai h w 25) = 0) → (WV T N 245 191 [some (vr (some w))] [] h K))))) : WV T N 245 178 [some (vr (some w))] [] h K := by
  show WP T N 245 178 [some (vr (some w))] [] h _
  refine R_ps 1 (pc2 := 179) (L2 := [some (vr (some w))]) (st2 := [vr (some w)]) rfl ?_
  refine R_zgetZ (z := 25) rfl t0 rfl ?_
  refine R_zif0 (x := ai h w 25) rfl (ai_in _ _ _) (fun c_2 => ?_) (fun c_2 => ?_)
  · have k := k.2 c_2
    exact k
  · have k := k.1 (Classical.not_not.mp c_2)
    refine R_ps 2 (pc2 := 188) (L2 := [some (vr (some w))]) (st2 := [vi (J 42), vr (some w)]) rfl ?_
    refine R_cV (as := [vr (some w), vi (J 42)]) rfl rfl ⟨Nat.le_of_ble_eq_true rfl, Nat.le_of_ble_eq_true rfl, rfl, (Or.inr ⟨_, rfl, t0⟩)⟩ rfl rfl k (fun h_4 k => ?_)
    exact k
theorem z245_191 {T N : Nat → Nat} {h : PH} {w : Nat} {K : PH → Prop} (t0 : T w = 12) (k : ((((ai h w 25) = 0 → (ZI T N 244 [vr (some w), vi (J 1)] h (fun x_5 h_4 => (∀ h_8, h_8 = wi h_4 w 29 x_5 → WV T N 245 207 [some (vr (some w))] [] h_8 K)))) ∧ (¬ ((ai h w 25) = 0) → (WV T N 245 207 [some (vr (some w))] [] h K))))) : WV T N 245 191 [some (vr (some w))] [] h K := by
  show WP T N 245 191 [some (vr (some w))] [] h _
  refine R_ps 1 (pc2 := 192) (L2 := [some (vr (some w))]) (st2 := [vr (some w)]) rfl ?_
  refine R_zgetZ (z := 25) rfl t0 rfl ?_
  refine R_zif0 (x := ai h w 25) rfl (ai_in _ _ _) (fun c_2 => ?_) (fun c_2 => ?_)
  · have k := k.2 c_2
    exact k
  · have k := k.1 (Classical.not_not.mp c_2)
    refine R_ps 3 (pc2 := 201) (L2 := [some (vr (some w))]) (st2 := [vi (J 1), vr (some w), vr (some w)]) rfl ?_
    refine R_zcI (as := [vr (some w), vi (J 1)]) rfl rfl ⟨Nat.le_of_ble_eq_true rfl, Nat.le_of_ble_eq_true rfl, rfl, (Or.inr ⟨_, rfl, t0⟩)⟩ rfl rfl k (fun x_5 h_4 r_6 k => ?_)
    refine R_zputI (x := x_5) (z := 29) rfl t0 rfl ?_
    show WP T N _ _ _ _ (wi h_4 w 29 x_5) _
    generalize e_9 : wi h_4 w 29 x_5 = h_8
    replace k := k h_8 e_9.symm
    exact k
theorem z245_207 {T N : Nat → Nat} {h : PH} {w : Nat} {K : PH → Prop} (t0 : T w = 12) (k : ((((ai h w 25) = 0 → (CV T N 243 [vr (some w), vi (J 59)] h (fun h_4 => (WV T N 245 220 [none] [] h_4 K)))) ∧ (¬ ((ai h w 25) = 0) → (WV T N 245 220 [none] [] h K))))) : WV T N 245 207 [some (vr (some w))] [] h K := by
  show WP T N 245 207 [some (vr (some w))] [] h _
  refine R_ps 1 (pc2 := 208) (L2 := [some (vr (some w))]) (st2 := [vr (some w)]) rfl ?_
  refine R_zgetZ (z := 25) rfl t0 rfl ?_
  refine R_zif0 (x := ai h w 25) rfl (ai_in _ _ _) (fun c_2 => ?_) (fun c_2 => ?_)
  · have k := k.2 c_2
    exact R_drop k (LE_of (L := [none]) (L2 := [some (vr (some w))]) trivial)
  · have k := k.1 (Classical.not_not.mp c_2)
    refine R_ps 2 (pc2 := 217) (L2 := [some (vr (some w))]) (st2 := [vi (J 59), vr (some w)]) rfl ?_
    refine R_cV (as := [vr (some w), vi (J 59)]) rfl rfl ⟨Nat.le_of_ble_eq_true rfl, Nat.le_of_ble_eq_true rfl, rfl, (Or.inr ⟨_, rfl, t0⟩)⟩ rfl rfl k (fun h_4 k => ?_)
    exact R_drop k (LE_of (L := [none]) (L2 := [some (vr (some w))]) trivial)
theorem z245_220 {T N : Nat → Nat} {h : PH} {K : PH → Prop} (k : (K h)) : WV T N 245 220 [none] [] h K := by
  show WP T N 245 220 [none] [] h _
  exact R_ret rfl rfl ⟨rfl, k⟩
/-- DroneCorridorsModel.acts -/
theorem z246 {T N : Nat → Nat} {h : PH} {w : Nat} {K : PH → Prop} (t0 : T w = 12) (k : ((((ai h w 26) = 99 → (ZI T N 174 [vr (some w), vi (J (ai h w 27)), vi (J (ai h w 28)), vi (J (ai h w 29)), vi (J 0)] h (fun x_8 h_7 => (K h_7)))) ∧ (¬ ((ai h w 26) = 99) → (((ai h w 26) = 100 → (ZI T N 195 [vr (some w), vi (J (ai h w 27)), vi (J 100)] h (fun x_14 h_13 => (K h_13)))) ∧ (¬ ((ai h w 26) = 100) → (((ai h w 26) = 110 → (ZI T N 171 [vr (some w), vi (J 0)] h (fun x_19 h_18 => (K h_18)))) ∧ (¬ ((ai h w 26) = 110) → (((ai h w 26) = 112 → (ZI T N 171 [vr (some w), vi (J 1)] h (fun x_24 h_23 => (K h_23)))) ∧ (¬ ((ai h w 26) = 112) → (∃ a_29, (gr h w 1) = some a_29 ∧ T a_29 = 22 ∧ (0 ≤ (448 : Int) ∧ (448 : Int) < (N a_29 : Int) ∧ (448 : Int) < 2147483648) ∧ In ((ai h a_29 448) + (ai h w 27)) ∧ ((10000 < ((ai h a_29 448) + (ai h w 27)) → (ZI T N 157 [vr (some w), vi (J 1)] h (fun x_43 h_42 => (K h_42)))) ∧ (¬ (10000 < ((ai h a_29 448) + (ai h w 27))) → (CV T N 231 [vr (some w), vi (J (ai h w 27))] h (fun h_38 => (K h_38)))))))))))))))) : CV T N 246 [vr (some w)] h K := by
  show WP T N 246 0 [some (vr (some w)), none] [] h _
  refine R_ps 3 (pc2 := 3) (L2 := [some (vr (some w)), some (vi (J 0))]) (st2 := [vr (some w)]) rfl ?_
  refine R_zgetI (z := 26) rfl t0 rfl ?_
  refine R_zlsw (x := ai h w 26) rfl rfl (ai_in _ _ _) ?_
  refine ⟨fun c_2 => ?_, fun c_2 => ?_⟩
  · have k := k.1 c_2
    show WP T N _ 66 _ _ _ _
    refine R_ps 2 (pc2 := 68) (L2 := [some (vr (some w)), some (vi (J 0))]) (st2 := [vr (some w), vr (some w)]) rfl ?_
    refine R_zgetI (z := 27) rfl t0 rfl ?_
    refine R_ps 1 (pc2 := 72) (L2 := [some (vr (some w)), some (vi (J 0))]) (st2 := [vr (some w), vi (J (ai h w 27)), vr (some w)]) rfl ?_
    refine R_zgetI (z := 28) rfl t0 rfl ?_
    refine R_ps 1 (pc2 := 76) (L2 := [some (vr (some w)), some (vi (J 0))]) (st2 := [vr (some w), vi (J (ai h w 28)), vi (J (ai h w 27)), vr (some w)]) rfl ?_
    refine R_zgetI (z := 29) rfl t0 rfl ?_
    refine R_ps 1 (pc2 := 80) (L2 := [some (vr (some w)), some (vi (J 0))]) (st2 := [vi (J 0), vi (J (ai h w 29)), vi (J (ai h w 28)), vi (J (ai h w 27)), vr (some w)]) rfl ?_
    refine R_zcI (as := [vr (some w), vi (J (ai h w 27)), vi (J (ai h w 28)), vi (J (ai h w 29)), vi (J 0)]) rfl rfl ⟨Nat.le_of_ble_eq_true rfl, Nat.le_of_ble_eq_true rfl, rfl, (Or.inr ⟨_, rfl, t0⟩)⟩ rfl rfl k (fun x_8 h_7 r_9 k => ?_)
    refine R_ps 2 (pc2 := 137) (L2 := [some (vr (some w)), some (vi (J x_8))]) (st2 := []) rfl ?_
    exact R_ret rfl rfl ⟨rfl, k⟩
  replace k := k.2 c_2
  refine ⟨fun c_2 => ?_, fun c_2 => ?_⟩
  · have k := k.1 c_2
    show WP T N _ 87 _ _ _ _
    refine R_ps 2 (pc2 := 89) (L2 := [some (vr (some w)), some (vi (J 0))]) (st2 := [vr (some w), vr (some w)]) rfl ?_
    refine R_zgetI (z := 27) rfl t0 rfl ?_
    refine R_ps 1 (pc2 := 94) (L2 := [some (vr (some w)), some (vi (J 0))]) (st2 := [vi (J 100), vi (J (ai h w 27)), vr (some w)]) rfl ?_
    refine R_zcI (as := [vr (some w), vi (J (ai h w 27)), vi (J 100)]) rfl rfl ⟨Nat.le_of_ble_eq_true rfl, Nat.le_of_ble_eq_true rfl, rfl, (Or.inr ⟨_, rfl, t0⟩)⟩ rfl rfl k (fun x_14 h_13 r_15 k => ?_)
    refine R_ps 2 (pc2 := 137) (L2 := [some (vr (some w)), some (vi (J x_14))]) (st2 := []) rfl ?_
    exact R_ret rfl rfl ⟨rfl, k⟩
  replace k := k.2 c_2
  refine ⟨fun c_2 => ?_, fun c_2 => ?_⟩
  · have k := k.1 c_2
    show WP T N _ 48 _ _ _ _
    refine R_ps 2 (pc2 := 50) (L2 := [some (vr (some w)), some (vi (J 0))]) (st2 := [vi (J 0), vr (some w)]) rfl ?_
    refine R_zcI (as := [vr (some w), vi (J 0)]) rfl rfl ⟨Nat.le_of_ble_eq_true rfl, Nat.le_of_ble_eq_true rfl, rfl, (Or.inr ⟨_, rfl, t0⟩)⟩ rfl rfl k (fun x_19 h_18 r_20 k => ?_)
    refine R_ps 2 (pc2 := 137) (L2 := [some (vr (some w)), some (vi (J x_19))]) (st2 := []) rfl ?_
    exact R_ret rfl rfl ⟨rfl, k⟩
  replace k := k.2 c_2
  refine ⟨fun c_2 => ?_, fun c_2 => ?_⟩
  · have k := k.1 c_2
    show WP T N _ 57 _ _ _ _
    refine R_ps 2 (pc2 := 59) (L2 := [some (vr (some w)), some (vi (J 0))]) (st2 := [vi (J 1), vr (some w)]) rfl ?_
    refine R_zcI (as := [vr (some w), vi (J 1)]) rfl rfl ⟨Nat.le_of_ble_eq_true rfl, Nat.le_of_ble_eq_true rfl, rfl, (Or.inr ⟨_, rfl, t0⟩)⟩ rfl rfl k (fun x_24 h_23 r_25 k => ?_)
    refine R_ps 2 (pc2 := 137) (L2 := [some (vr (some w)), some (vi (J x_24))]) (st2 := []) rfl ?_
    exact R_ret rfl rfl ⟨rfl, k⟩
  replace k := k.2 c_2
  show WP T N _ 101 _ _ _ _
  refine R_ps 1 (pc2 := 102) (L2 := [some (vr (some w)), some (vi (J 0))]) (st2 := [vr (some w)]) rfl ?_
  refine R_getR rfl t0 ?_
  refine R_ps 1 (pc2 := 108) (L2 := [some (vr (some w)), some (vi (J 0))]) (st2 := [vi (J 448), vr (gr h w 1)]) rfl ?_
  obtain ⟨a_29, e_30, k⟩ := k
  rw [e_30]
  obtain ⟨t_31, k⟩ := k
  obtain ⟨t_32, k⟩ := k
  refine R_ziald (i := 448) rfl (Or.inl t_31) t_32 ?_
  refine R_ps 1 (pc2 := 110) (L2 := [some (vr (some w)), some (vi (J 0))]) (st2 := [vr (some w), vi (J (ai h a_29 448))]) rfl ?_
  refine R_zgetI (z := 27) rfl t0 rfl ?_
  refine R_ps 2 (pc2 := 117) (L2 := [some (vr (some w)), some (vi (J 0))]) (st2 := [vi (J 10000), vi ((J (ai h a_29 448)) + (J (ai h w 27)))]) rfl ?_
  rw [show ((J (ai h a_29 448)) + (J (ai h w 27))) = J ((ai h a_29 448) + (ai h w 27)) from J_add' rfl rfl]
  obtain ⟨t_35, k⟩ := k
  refine R_zif (x := (ai h a_29 448) + (ai h w 27)) (z := 10000) rfl t_35 (by decide) (fun c_34 => ?_) (fun c_34 => ?_)
  · have k := k.2 c_34
    refine R_ps 2 (pc2 := 131) (L2 := [some (vr (some w)), some (vi (J 0))]) (st2 := [vr (some w), vr (some w)]) rfl ?_
    refine R_zgetI (z := 27) rfl t0 rfl ?_
    refine R_cV (as := [vr (some w), vi (J (ai h w 27))]) rfl rfl ⟨Nat.le_of_ble_eq_true rfl, Nat.le_of_ble_eq_true rfl, rfl, (Or.inr ⟨_, rfl, t0⟩)⟩ rfl rfl k (fun h_38 k => ?_)
    exact R_ret rfl rfl ⟨rfl, k⟩
  · have k := k.1 (Classical.not_not.mp c_34)
    refine R_ps 2 (pc2 := 122) (L2 := [some (vr (some w)), some (vi (J 0))]) (st2 := [vi (J 1), vr (some w)]) rfl ?_
    refine R_zcI (as := [vr (some w), vi (J 1)]) rfl rfl ⟨Nat.le_of_ble_eq_true rfl, Nat.le_of_ble_eq_true rfl, rfl, (Or.inr ⟨_, rfl, t0⟩)⟩ rfl rfl k (fun x_43 h_42 r_44 k => ?_)
    refine R_ps 2 (pc2 := 137) (L2 := [some (vr (some w)), some (vi (J x_43))]) (st2 := []) rfl ?_
    exact R_ret rfl rfl ⟨rfl, k⟩
/-- DroneCorridorsModel.read -/
theorem z247 {T N : Nat → Nat} {h : PH} {w : Nat} {K : Int → PH → Prop} (t0 : T w = 12) (k : (∀ h_2, h_2 = wi h w 0 0 → ∀ h_5, h_5 = wi h_2 w 25 0 → ∀ h_8, h_8 = wi h_5 w 24 0 → ZW T N 247 17 [some (vr (some w)), some (vi (J 0)), none, none] [] h_8 K)) : ZI T N 247 [vr (some w)] h K := by
  show WP T N 247 0 [some (vr (some w)), none, none, none] [] h _
  refine R_ps 2 (pc2 := 2) (L2 := [some (vr (some w)), none, none, none]) (st2 := [vi (J 0), vr (some w)]) rfl ?_
  refine R_zputI (x := 0) (z := 0) rfl t0 rfl ?_
  show WP T N _ _ _ _ (wi h w 0 0) _
  generalize e_3 : wi h w 0 0 = h_2
  replace k := k h_2 e_3.symm
  refine R_ps 2 (pc2 := 7) (L2 := [some (vr (some w)), none, none, none]) (st2 := [vi (J 0), vr (some w)]) rfl ?_
  refine R_zputZ (x := 0) (z := 25) rfl t0 (Or.inl rfl) rfl ?_
  show WP T N _ _ _ _ (wi h_2 w 25 0) _
  generalize e_6 : wi h_2 w 25 0 = h_5
  replace k := k h_5 e_6.symm
  refine R_ps 2 (pc2 := 12) (L2 := [some (vr (some w)), none, none, none]) (st2 := [vi (J 0), vr (some w)]) rfl ?_
  refine R_zputI (x := 0) (z := 24) rfl t0 rfl ?_
  show WP T N _ _ _ _ (wi h_5 w 24 0) _
  generalize e_9 : wi h_5 w 24 0 = h_8
  replace k := k h_8 e_9.symm
  refine R_ps 2 (pc2 := 17) (L2 := [some (vr (some w)), some (vi (J 0)), none, none]) (st2 := []) rfl ?_
  exact k
theorem z247_17 {T N : Nat → Nat} {h : PH} {w : Nat} {x1 : Int} {K : Int → PH → Prop} (t0 : T w = 12) (r1 : In x1) (k : ((((ai h w 25) = 0 → (((x1 = 0 → (CV T N 245 [vr (some w)] h (fun h_31 => (ZW T N 247 17 [some (vr (some w)), some (vi (J (x1 + 1))), none, none] [] h_31 K)))) ∧ (¬ (x1 = 0) → ((((ai h w 24) < (ai h w 11) → (CV T N 245 [vr (some w)] h (fun h_63 => (ZW T N 247 17 [some (vr (some w)), some (vi (J (x1 + 1))), none, none] [] h_63 K)))) ∧ (¬ ((ai h w 24) < (ai h w 11)) → (∀ h_38, h_38 = wi h w 11 0 → (((ai h_38 w 25) = 0 → (∀ h_43, h_43 = wi h_38 w 11 (ai h w 11) → ∀ h_46, h_46 = wi h_43 w 24 0 → CV T N 161 [vr (gr h_46 w 1), vr (gr h_46 w 3)] h_46 (fun h_51 => (ZW T N 247 103 [some (vr (some w)), some (vi (J x1)), none, some (vi (J 0))] [] h_51 K)))) ∧ (¬ ((ai h_38 w 25) = 0) → (∀ h_55, h_55 = wi h_38 w 8 (ai h_38 w 24) → ZI T N 157 [vr (some w), vi (J 1)] h_55 (fun x_59 h_58 => (K x_59 h_58))))))))))))) ∧ (¬ ((ai h w 25) = 0) → (∀ h_5, h_5 = wi h w 11 0 → (((ai h_5 w 25) = 0 → (∀ h_10, h_10 = wi h_5 w 11 (ai h w 11) → ∀ h_13, h_13 = wi h_10 w 24 0 → CV T N 161 [vr (gr h_13 w 1), vr (gr h_13 w 3)] h_13 (fun h_18 => (ZW T N 247 103 [some (vr (some w)), some (vi (J x1)), none, some (vi (J 0))] [] h_18 K)))) ∧ (¬ ((ai h_5 w 25) = 0) → (∀ h_22, h_22 = wi h_5 w 8 (ai h_5 w 24) → ZI T N 157 [vr (some w), vi (J 1)] h_22 (fun x_26 h_25 => (K x_26 h_25)))))))))) : ZW T N 247 17 [some (vr (some w)), some (vi (J x1)), none, none] [] h K := by
  show WP T N 247 17 [some (vr (some w)), some (vi (J x1)), none, none] [] h _
  refine R_ps 1 (pc2 := 18) (L2 := [some (vr (some w)), some (vi (J x1)), none, none]) (st2 := [vr (some w)]) rfl ?_
  refine R_zgetZ (z := 25) rfl t0 rfl ?_
  refine R_zif0 (x := ai h w 25) rfl (ai_in _ _ _) (fun c_2 => ?_) (fun c_2 => ?_)
  · have k := k.2 c_2
    refine R_ps 1 (pc2 := 50) (L2 := [some (vr (some w)), some (vi (J x1)), none, none]) (st2 := [vr (some w)]) rfl ?_
    refine R_zgetI (z := 11) rfl t0 rfl ?_
    refine R_ps 3 (pc2 := 56) (L2 := [some (vr (some w)), some (vi (J x1)), some (vi (J (ai h w 11))), none]) (st2 := [vi (J 0), vr (some w)]) rfl ?_
    refine R_zputI (x := 0) (z := 11) rfl t0 rfl ?_
    show WP T N _ _ _ _ (wi h w 11 0) _
    generalize e_6 : wi h w 11 0 = h_5
    replace k := k h_5 e_6.symm
    refine R_ps 1 (pc2 := 60) (L2 := [some (vr (some w)), some (vi (J x1)), some (vi (J (ai h w 11))), none]) (st2 := [vr (some w)]) rfl ?_
    refine R_zgetZ (z := 25) rfl t0 rfl ?_
    refine R_zif0 (x := ai h_5 w 25) rfl (ai_in _ _ _) (fun c_8 => ?_) (fun c_8 => ?_)
    · have k := k.1 c_8
      refine R_ps 2 (pc2 := 82) (L2 := [some (vr (some w)), some (vi (J x1)), some (vi (J (ai h w 11))), none]) (st2 := [vi (J (ai h w 11)), vr (some w)]) rfl ?_
      refine R_zputI (x := ai h w 11) (z := 11) rfl t0 rfl ?_
      show WP T N _ _ _ _ (wi h_5 w 11 (ai h w 11)) _
      generalize e_11 : wi h_5 w 11 (ai h w 11) = h_10
      replace k := k h_10 e_11.symm
      refine R_ps 2 (pc2 := 87) (L2 := [some (vr (some w)), some (vi (J x1)), some (vi (J (ai h w 11))), none]) (st2 := [vi (J 0), vr (some w)]) rfl ?_
      refine R_zputI (x := 0) (z := 24) rfl t0 rfl ?_
      show WP T N _ _ _ _ (wi h_10 w 24 0) _
      generalize e_14 : wi h_10 w 24 0 = h_13
      replace k := k h_13 e_14.symm
      refine R_ps 1 (pc2 := 91) (L2 := [some (vr (some w)), some (vi (J x1)), some (vi (J (ai h w 11))), none]) (st2 := [vr (some w)]) rfl ?_
      refine R_getR rfl t0 ?_
      refine R_ps 1 (pc2 := 95) (L2 := [some (vr (some w)), some (vi (J x1)), some (vi (J (ai h w 11))), none]) (st2 := [vr (some w), vr (gr h_13 w 1)]) rfl ?_
      refine R_getR rfl t0 ?_
      refine R_cV (as := [vr (gr h_13 w 1), vr (gr h_13 w 3)]) rfl rfl ⟨Nat.le_of_ble_eq_true rfl, Nat.le_of_ble_eq_true rfl, rfl, (Or.inl rfl)⟩ rfl rfl k (fun h_18 k => ?_)
      refine R_ps 2 (pc2 := 103) (L2 := [some (vr (some w)), some (vi (J x1)), some (vi (J (ai h w 11))), some (vi (J 0))]) (st2 := []) rfl ?_
      exact R_drop k (LE_of (L := [some (vr (some w)), some (vi (J x1)), none, some (vi (J 0))]) (L2 := [some (vr (some w)), some (vi (J x1)), some (vi (J (ai h w 11))), some (vi (J 0))]) ⟨rfl, rfl, rfl, trivial⟩)
    · have k := k.2 c_8
      refine R_ps 2 (pc2 := 68) (L2 := [some (vr (some w)), some (vi (J x1)), some (vi (J (ai h w 11))), none]) (st2 := [vr (some w), vr (some w)]) rfl ?_
      refine R_zgetI (z := 24) rfl t0 rfl ?_
      refine R_zputI (x := ai h_5 w 24) (z := 8) rfl t0 rfl ?_
      show WP T N _ _ _ _ (wi h_5 w 8 (ai h_5 w 24)) _
      generalize e_23 : wi h_5 w 8 (ai h_5 w 24) = h_22
      replace k := k h_22 e_23.symm
      refine R_ps 2 (pc2 := 76) (L2 := [some (vr (some w)), some (vi (J x1)), some (vi (J (ai h w 11))), none]) (st2 := [vi (J 1), vr (some w)]) rfl ?_
      refine R_zcI (as := [vr (some w), vi (J 1)]) rfl rfl ⟨Nat.le_of_ble_eq_true rfl, Nat.le_of_ble_eq_true rfl, rfl, (Or.inr ⟨_, rfl, t0⟩)⟩ rfl rfl k (fun x_26 h_25 r_27 k => ?_)
      exact R_iret rfl rfl (R_zr (x := x_26) (K := K) r_27 k)
  · have k := k.1 (Classical.not_not.mp c_2)
    refine R_ps 1 (pc2 := 25) (L2 := [some (vr (some w)), some (vi (J x1)), none, none]) (st2 := [vi (J x1)]) rfl ?_
    refine R_zif0 (x := x1) rfl r1 (fun c_29 => ?_) (fun c_29 => ?_)
    · have k := k.1 c_29
      refine R_ps 1 (pc2 := 40) (L2 := [some (vr (some w)), some (vi (J x1)), none, none]) (st2 := [vr (some w)]) rfl ?_
      refine R_cV (as := [vr (some w)]) rfl rfl ⟨Nat.le_of_ble_eq_true rfl, Nat.le_of_ble_eq_true rfl, rfl, (Or.inr ⟨_, rfl, t0⟩)⟩ rfl rfl k (fun h_31 k => ?_)
      refine R_ps 2 (pc2 := 17) (L2 := [some (vr (some w)), some (vi ((J x1) + J 1)), none, none]) (st2 := []) rfl ?_
      rw [show ((J x1) + J 1) = J (x1 + 1) from J_add' rfl rfl]
      exact k
    · have k := k.2 c_29
      refine R_ps 1 (pc2 := 29) (L2 := [some (vr (some w)), some (vi (J x1)), none, none]) (st2 := [vr (some w)]) rfl ?_
      refine R_zgetI (z := 24) rfl t0 rfl ?_
      refine R_ps 1 (pc2 := 33) (L2 := [some (vr (some w)), some (vi (J x1)), none, none]) (st2 := [vr (some w), vi (J (ai h w 24))]) rfl ?_
      refine R_zgetI (z := 11) rfl t0 rfl ?_
      refine R_zif (x := ai h w 24) (z := ai h w 11) rfl (ai_in _ _ _) (ai_in _ _ _) (fun c_35 => ?_) (fun c_35 => ?_)
      · have k := k.2 c_35
        refine R_ps 1 (pc2 := 50) (L2 := [some (vr (some w)), some (vi (J x1)), none, none]) (st2 := [vr (some w)]) rfl ?_
        refine R_zgetI (z := 11) rfl t0 rfl ?_
        refine R_ps 3 (pc2 := 56) (L2 := [some (vr (some w)), some (vi (J x1)), some (vi (J (ai h w 11))), none]) (st2 := [vi (J 0), vr (some w)]) rfl ?_
        refine R_zputI (x := 0) (z := 11) rfl t0 rfl ?_
        show WP T N _ _ _ _ (wi h w 11 0) _
        generalize e_39 : wi h w 11 0 = h_38
        replace k := k h_38 e_39.symm
        refine R_ps 1 (pc2 := 60) (L2 := [some (vr (some w)), some (vi (J x1)), some (vi (J (ai h w 11))), none]) (st2 := [vr (some w)]) rfl ?_
        refine R_zgetZ (z := 25) rfl t0 rfl ?_
        refine R_zif0 (x := ai h_38 w 25) rfl (ai_in _ _ _) (fun c_41 => ?_) (fun c_41 => ?_)
        · have k := k.1 c_41
          refine R_ps 2 (pc2 := 82) (L2 := [some (vr (some w)), some (vi (J x1)), some (vi (J (ai h w 11))), none]) (st2 := [vi (J (ai h w 11)), vr (some w)]) rfl ?_
          refine R_zputI (x := ai h w 11) (z := 11) rfl t0 rfl ?_
          show WP T N _ _ _ _ (wi h_38 w 11 (ai h w 11)) _
          generalize e_44 : wi h_38 w 11 (ai h w 11) = h_43
          replace k := k h_43 e_44.symm
          refine R_ps 2 (pc2 := 87) (L2 := [some (vr (some w)), some (vi (J x1)), some (vi (J (ai h w 11))), none]) (st2 := [vi (J 0), vr (some w)]) rfl ?_
          refine R_zputI (x := 0) (z := 24) rfl t0 rfl ?_
          show WP T N _ _ _ _ (wi h_43 w 24 0) _
          generalize e_47 : wi h_43 w 24 0 = h_46
          replace k := k h_46 e_47.symm
          refine R_ps 1 (pc2 := 91) (L2 := [some (vr (some w)), some (vi (J x1)), some (vi (J (ai h w 11))), none]) (st2 := [vr (some w)]) rfl ?_
          refine R_getR rfl t0 ?_
          refine R_ps 1 (pc2 := 95) (L2 := [some (vr (some w)), some (vi (J x1)), some (vi (J (ai h w 11))), none]) (st2 := [vr (some w), vr (gr h_46 w 1)]) rfl ?_
          refine R_getR rfl t0 ?_
          refine R_cV (as := [vr (gr h_46 w 1), vr (gr h_46 w 3)]) rfl rfl ⟨Nat.le_of_ble_eq_true rfl, Nat.le_of_ble_eq_true rfl, rfl, (Or.inl rfl)⟩ rfl rfl k (fun h_51 k => ?_)
          refine R_ps 2 (pc2 := 103) (L2 := [some (vr (some w)), some (vi (J x1)), some (vi (J (ai h w 11))), some (vi (J 0))]) (st2 := []) rfl ?_
          exact R_drop k (LE_of (L := [some (vr (some w)), some (vi (J x1)), none, some (vi (J 0))]) (L2 := [some (vr (some w)), some (vi (J x1)), some (vi (J (ai h w 11))), some (vi (J 0))]) ⟨rfl, rfl, rfl, trivial⟩)
        · have k := k.2 c_41
          refine R_ps 2 (pc2 := 68) (L2 := [some (vr (some w)), some (vi (J x1)), some (vi (J (ai h w 11))), none]) (st2 := [vr (some w), vr (some w)]) rfl ?_
          refine R_zgetI (z := 24) rfl t0 rfl ?_
          refine R_zputI (x := ai h_38 w 24) (z := 8) rfl t0 rfl ?_
          show WP T N _ _ _ _ (wi h_38 w 8 (ai h_38 w 24)) _
          generalize e_56 : wi h_38 w 8 (ai h_38 w 24) = h_55
          replace k := k h_55 e_56.symm
          refine R_ps 2 (pc2 := 76) (L2 := [some (vr (some w)), some (vi (J x1)), some (vi (J (ai h w 11))), none]) (st2 := [vi (J 1), vr (some w)]) rfl ?_
          refine R_zcI (as := [vr (some w), vi (J 1)]) rfl rfl ⟨Nat.le_of_ble_eq_true rfl, Nat.le_of_ble_eq_true rfl, rfl, (Or.inr ⟨_, rfl, t0⟩)⟩ rfl rfl k (fun x_59 h_58 r_60 k => ?_)
          exact R_iret rfl rfl (R_zr (x := x_59) (K := K) r_60 k)
      · have k := k.1 (Classical.not_not.mp c_35)
        refine R_ps 1 (pc2 := 40) (L2 := [some (vr (some w)), some (vi (J x1)), none, none]) (st2 := [vr (some w)]) rfl ?_
        refine R_cV (as := [vr (some w)]) rfl rfl ⟨Nat.le_of_ble_eq_true rfl, Nat.le_of_ble_eq_true rfl, rfl, (Or.inr ⟨_, rfl, t0⟩)⟩ rfl rfl k (fun h_63 k => ?_)
        refine R_ps 2 (pc2 := 17) (L2 := [some (vr (some w)), some (vi ((J x1) + J 1)), none, none]) (st2 := []) rfl ?_
        rw [show ((J x1) + J 1) = J (x1 + 1) from J_add' rfl rfl]
        exact k
theorem z247_103 {T N : Nat → Nat} {h : PH} {w : Nat} {x1 : Int} {x3 : Int} {K : Int → PH → Prop} (t0 : T w = 12) (r1 : In x1) (r3 : In x3) (k : (((x3 < x1 → ((((ai h w 0) = 0 → (CV T N 245 [vr (some w)] h (fun h_87 => (CV T N 246 [vr (some w)] h_87 (fun h_90 => (ZW T N 247 103 [some (vr (some w)), some (vi (J x1)), none, some (vi (J (x3 + 1)))] [] h_90 K)))))) ∧ (¬ ((ai h w 0) = 0) → (∀ h_46, h_46 = wi h w 11 0 → (((ai h_46 w 0) = 0 → (CV T N 161 [vr (gr h_46 w 1), vr (gr h_46 w 4)] h_46 (fun h_69 => (CV T N 161 [vr (gr h_69 w 3), vr (gr h_69 w 1)] h_69 (fun h_74 => (CV T N 160 [vr (some w)] h_74 (fun h_78 => (CV T N 161 [vr (gr h_78 w 4), vr (gr h_78 w 1)] h_78 (fun h_83 => (K x1 h_83)))))))))) ∧ (¬ ((ai h_46 w 0) = 0) → (CV T N 161 [vr (gr h_46 w 1), vr (gr h_46 w 4)] h_46 (fun h_53 => (CV T N 161 [vr (gr h_53 w 3), vr (gr h_53 w 1)] h_53 (fun h_58 => (ZI T N 157 [vr (some w), vi (J 2)] h_58 (fun x_63 h_62 => (K x_63 h_62)))))))))))))) ∧ (¬ (x3 < x1) → (∀ h_3, h_3 = wi h w 11 0 → (((ai h_3 w 0) = 0 → (CV T N 161 [vr (gr h_3 w 1), vr (gr h_3 w 4)] h_3 (fun h_26 => (CV T N 161 [vr (gr h_26 w 3), vr (gr h_26 w 1)] h_26 (fun h_31 => (CV T N 160 [vr (some w)] h_31 (fun h_35 => (CV T N 161 [vr (gr h_35 w 4), vr (gr h_35 w 1)] h_35 (fun h_40 => (K x1 h_40)))))))))) ∧ (¬ ((ai h_3 w 0) = 0) → (CV T N 161 [vr (gr h_3 w 1), vr (gr h_3 w 4)] h_3 (fun h_10 => (CV T N 161 [vr (gr h_10 w 3), vr (gr h_10 w 1)] h_10 (fun h_15 => (ZI T N 157 [vr (some w), vi (J 2)] h_15 (fun x_20 h_19 => (K x_20 h_19)))))))))))))) : ZW T N 247 103 [some (vr (some w)), some (vi (J x1)), none, some (vi (J x3))] [] h K := by
  show WP T N 247 103 [some (vr (some w)), some (vi (J x1)), none, some (vi (J x3))] [] h _
  refine R_ps 2 (pc2 := 105) (L2 := [some (vr (some w)), some (vi (J x1)), none, some (vi (J x3))]) (st2 := [vi (J x1), vi (J x3)]) rfl ?_
  refine R_zif (x := x3) (z := x1) rfl r3 r1 (fun c_1 => ?_) (fun c_1 => ?_)
  · have k := k.2 c_1
    refine R_ps 2 (pc2 := 131) (L2 := [some (vr (some w)), some (vi (J x1)), none, some (vi (J x3))]) (st2 := [vi (J 0), vr (some w)]) rfl ?_
    refine R_zputI (x := 0) (z := 11) rfl t0 rfl ?_
    show WP T N _ _ _ _ (wi h w 11 0) _
    generalize e_4 : wi h w 11 0 = h_3
    replace k := k h_3 e_4.symm
    refine R_ps 1 (pc2 := 135) (L2 := [some (vr (some w)), some (vi (J x1)), none, some (vi (J x3))]) (st2 := [vr (some w)]) rfl ?_
    refine R_zgetI (z := 0) rfl t0 rfl ?_
    refine R_zif0 (x := ai h_3 w 0) rfl (ai_in _ _ _) (fun c_6 => ?_) (fun c_6 => ?_)
    · have k := k.2 c_6
      refine R_ps 3 (pc2 := 148) (L2 := [some (vr (some w)), some (vi (J x1)), none, some (vi (J 0))]) (st2 := [vr (some w)]) rfl ?_
      refine R_getR rfl t0 ?_
      refine R_ps 1 (pc2 := 152) (L2 := [some (vr (some w)), some (vi (J x1)), none, some (vi (J 0))]) (st2 := [vr (some w), vr (gr h_3 w 1)]) rfl ?_
      refine R_getR rfl t0 ?_
      refine R_cV (as := [vr (gr h_3 w 1), vr (gr h_3 w 4)]) rfl rfl ⟨Nat.le_of_ble_eq_true rfl, Nat.le_of_ble_eq_true rfl, rfl, (Or.inl rfl)⟩ rfl rfl k (fun h_10 k => ?_)
      refine R_ps 1 (pc2 := 159) (L2 := [some (vr (some w)), some (vi (J x1)), none, some (vi (J 0))]) (st2 := [vr (some w)]) rfl ?_
      refine R_getR rfl t0 ?_
      refine R_ps 1 (pc2 := 163) (L2 := [some (vr (some w)), some (vi (J x1)), none, some (vi (J 0))]) (st2 := [vr (some w), vr (gr h_10 w 3)]) rfl ?_
      refine R_getR rfl t0 ?_
      refine R_cV (as := [vr (gr h_10 w 3), vr (gr h_10 w 1)]) rfl rfl ⟨Nat.le_of_ble_eq_true rfl, Nat.le_of_ble_eq_true rfl, rfl, (Or.inl rfl)⟩ rfl rfl k (fun h_15 k => ?_)
      refine R_ps 1 (pc2 := 170) (L2 := [some (vr (some w)), some (vi (J x1)), none, some (vi (J 0))]) (st2 := [vi (J 0)]) rfl ?_
      refine R_zif0 (x := 0) rfl (by decide) (fun c_17 => absurd (show ¬ (0 : Int) = (0 : Int) from c_17) (by decide)) (fun _ => ?_)
      refine R_ps 2 (pc2 := 175) (L2 := [some (vr (some w)), some (vi (J x1)), none, some (vi (J 0))]) (st2 := [vi (J 2), vr (some w)]) rfl ?_
      refine R_zcI (as := [vr (some w), vi (J 2)]) rfl rfl ⟨Nat.le_of_ble_eq_true rfl, Nat.le_of_ble_eq_true rfl, rfl, (Or.inr ⟨_, rfl, t0⟩)⟩ rfl rfl k (fun x_20 h_19 r_21 k => ?_)
      exact R_iret rfl rfl (R_zr (x := x_20) (K := K) r_21 k)
    · have k := k.1 (Classical.not_not.mp c_6)
      refine R_ps 4 (pc2 := 148) (L2 := [some (vr (some w)), some (vi (J x1)), none, some (vi (J 1))]) (st2 := [vr (some w)]) rfl ?_
      refine R_getR rfl t0 ?_
      refine R_ps 1 (pc2 := 152) (L2 := [some (vr (some w)), some (vi (J x1)), none, some (vi (J 1))]) (st2 := [vr (some w), vr (gr h_3 w 1)]) rfl ?_
      refine R_getR rfl t0 ?_
      refine R_cV (as := [vr (gr h_3 w 1), vr (gr h_3 w 4)]) rfl rfl ⟨Nat.le_of_ble_eq_true rfl, Nat.le_of_ble_eq_true rfl, rfl, (Or.inl rfl)⟩ rfl rfl k (fun h_26 k => ?_)
      refine R_ps 1 (pc2 := 159) (L2 := [some (vr (some w)), some (vi (J x1)), none, some (vi (J 1))]) (st2 := [vr (some w)]) rfl ?_
      refine R_getR rfl t0 ?_
      refine R_ps 1 (pc2 := 163) (L2 := [some (vr (some w)), some (vi (J x1)), none, some (vi (J 1))]) (st2 := [vr (some w), vr (gr h_26 w 3)]) rfl ?_
      refine R_getR rfl t0 ?_
      refine R_cV (as := [vr (gr h_26 w 3), vr (gr h_26 w 1)]) rfl rfl ⟨Nat.le_of_ble_eq_true rfl, Nat.le_of_ble_eq_true rfl, rfl, (Or.inl rfl)⟩ rfl rfl k (fun h_31 k => ?_)
      refine R_ps 1 (pc2 := 170) (L2 := [some (vr (some w)), some (vi (J x1)), none, some (vi (J 1))]) (st2 := [vi (J 1)]) rfl ?_
      refine R_zif0 (x := 1) rfl (by decide) (fun _ => ?_) (fun c_33 => absurd (show ¬ (1 : Int) = (0 : Int) by decide) c_33)
      refine R_ps 1 (pc2 := 180) (L2 := [some (vr (some w)), some (vi (J x1)), none, some (vi (J 1))]) (st2 := [vr (some w)]) rfl ?_
      refine R_cV (as := [vr (some w)]) rfl rfl ⟨Nat.le_of_ble_eq_true rfl, Nat.le_of_ble_eq_true rfl, rfl, (Or.inr ⟨_, rfl, t0⟩)⟩ rfl rfl k (fun h_35 k => ?_)
      refine R_ps 1 (pc2 := 184) (L2 := [some (vr (some w)), some (vi (J x1)), none, some (vi (J 1))]) (st2 := [vr (some w)]) rfl ?_
      refine R_getR rfl t0 ?_
      refine R_ps 1 (pc2 := 188) (L2 := [some (vr (some w)), some (vi (J x1)), none, some (vi (J 1))]) (st2 := [vr (some w), vr (gr h_35 w 4)]) rfl ?_
      refine R_getR rfl t0 ?_
      refine R_cV (as := [vr (gr h_35 w 4), vr (gr h_35 w 1)]) rfl rfl ⟨Nat.le_of_ble_eq_true rfl, Nat.le_of_ble_eq_true rfl, rfl, (Or.inl rfl)⟩ rfl rfl k (fun h_40 k => ?_)
      refine R_ps 1 (pc2 := 195) (L2 := [some (vr (some w)), some (vi (J x1)), none, some (vi (J 1))]) (st2 := [vi (J x1)]) rfl ?_
      exact R_iret rfl rfl (R_zr (x := x1) (K := K) r1 k)
  · have k := k.1 (Classical.not_not.mp c_1)
    refine R_ps 1 (pc2 := 109) (L2 := [some (vr (some w)), some (vi (J x1)), none, some (vi (J x3))]) (st2 := [vr (some w)]) rfl ?_
    refine R_zgetI (z := 0) rfl t0 rfl ?_
    refine R_zif0 (x := ai h w 0) rfl (ai_in _ _ _) (fun c_44 => ?_) (fun c_44 => ?_)
    · have k := k.2 c_44
      refine R_ps 2 (pc2 := 131) (L2 := [some (vr (some w)), some (vi (J x1)), none, some (vi (J x3))]) (st2 := [vi (J 0), vr (some w)]) rfl ?_
      refine R_zputI (x := 0) (z := 11) rfl t0 rfl ?_
      show WP T N _ _ _ _ (wi h w 11 0) _
      generalize e_47 : wi h w 11 0 = h_46
      replace k := k h_46 e_47.symm
      refine R_ps 1 (pc2 := 135) (L2 := [some (vr (some w)), some (vi (J x1)), none, some (vi (J x3))]) (st2 := [vr (some w)]) rfl ?_
      refine R_zgetI (z := 0) rfl t0 rfl ?_
      refine R_zif0 (x := ai h_46 w 0) rfl (ai_in _ _ _) (fun c_49 => ?_) (fun c_49 => ?_)
      · have k := k.2 c_49
        refine R_ps 3 (pc2 := 148) (L2 := [some (vr (some w)), some (vi (J x1)), none, some (vi (J 0))]) (st2 := [vr (some w)]) rfl ?_
        refine R_getR rfl t0 ?_
        refine R_ps 1 (pc2 := 152) (L2 := [some (vr (some w)), some (vi (J x1)), none, some (vi (J 0))]) (st2 := [vr (some w), vr (gr h_46 w 1)]) rfl ?_
        refine R_getR rfl t0 ?_
        refine R_cV (as := [vr (gr h_46 w 1), vr (gr h_46 w 4)]) rfl rfl ⟨Nat.le_of_ble_eq_true rfl, Nat.le_of_ble_eq_true rfl, rfl, (Or.inl rfl)⟩ rfl rfl k (fun h_53 k => ?_)
        refine R_ps 1 (pc2 := 159) (L2 := [some (vr (some w)), some (vi (J x1)), none, some (vi (J 0))]) (st2 := [vr (some w)]) rfl ?_
        refine R_getR rfl t0 ?_
        refine R_ps 1 (pc2 := 163) (L2 := [some (vr (some w)), some (vi (J x1)), none, some (vi (J 0))]) (st2 := [vr (some w), vr (gr h_53 w 3)]) rfl ?_
        refine R_getR rfl t0 ?_
        refine R_cV (as := [vr (gr h_53 w 3), vr (gr h_53 w 1)]) rfl rfl ⟨Nat.le_of_ble_eq_true rfl, Nat.le_of_ble_eq_true rfl, rfl, (Or.inl rfl)⟩ rfl rfl k (fun h_58 k => ?_)
        refine R_ps 1 (pc2 := 170) (L2 := [some (vr (some w)), some (vi (J x1)), none, some (vi (J 0))]) (st2 := [vi (J 0)]) rfl ?_
        refine R_zif0 (x := 0) rfl (by decide) (fun c_60 => absurd (show ¬ (0 : Int) = (0 : Int) from c_60) (by decide)) (fun _ => ?_)
        refine R_ps 2 (pc2 := 175) (L2 := [some (vr (some w)), some (vi (J x1)), none, some (vi (J 0))]) (st2 := [vi (J 2), vr (some w)]) rfl ?_
        refine R_zcI (as := [vr (some w), vi (J 2)]) rfl rfl ⟨Nat.le_of_ble_eq_true rfl, Nat.le_of_ble_eq_true rfl, rfl, (Or.inr ⟨_, rfl, t0⟩)⟩ rfl rfl k (fun x_63 h_62 r_64 k => ?_)
        exact R_iret rfl rfl (R_zr (x := x_63) (K := K) r_64 k)
      · have k := k.1 (Classical.not_not.mp c_49)
        refine R_ps 4 (pc2 := 148) (L2 := [some (vr (some w)), some (vi (J x1)), none, some (vi (J 1))]) (st2 := [vr (some w)]) rfl ?_
        refine R_getR rfl t0 ?_
        refine R_ps 1 (pc2 := 152) (L2 := [some (vr (some w)), some (vi (J x1)), none, some (vi (J 1))]) (st2 := [vr (some w), vr (gr h_46 w 1)]) rfl ?_
        refine R_getR rfl t0 ?_
        refine R_cV (as := [vr (gr h_46 w 1), vr (gr h_46 w 4)]) rfl rfl ⟨Nat.le_of_ble_eq_true rfl, Nat.le_of_ble_eq_true rfl, rfl, (Or.inl rfl)⟩ rfl rfl k (fun h_69 k => ?_)
        refine R_ps 1 (pc2 := 159) (L2 := [some (vr (some w)), some (vi (J x1)), none, some (vi (J 1))]) (st2 := [vr (some w)]) rfl ?_
        refine R_getR rfl t0 ?_
        refine R_ps 1 (pc2 := 163) (L2 := [some (vr (some w)), some (vi (J x1)), none, some (vi (J 1))]) (st2 := [vr (some w), vr (gr h_69 w 3)]) rfl ?_
        refine R_getR rfl t0 ?_
        refine R_cV (as := [vr (gr h_69 w 3), vr (gr h_69 w 1)]) rfl rfl ⟨Nat.le_of_ble_eq_true rfl, Nat.le_of_ble_eq_true rfl, rfl, (Or.inl rfl)⟩ rfl rfl k (fun h_74 k => ?_)
        refine R_ps 1 (pc2 := 170) (L2 := [some (vr (some w)), some (vi (J x1)), none, some (vi (J 1))]) (st2 := [vi (J 1)]) rfl ?_
        refine R_zif0 (x := 1) rfl (by decide) (fun _ => ?_) (fun c_76 => absurd (show ¬ (1 : Int) = (0 : Int) by decide) c_76)
        refine R_ps 1 (pc2 := 180) (L2 := [some (vr (some w)), some (vi (J x1)), none, some (vi (J 1))]) (st2 := [vr (some w)]) rfl ?_
        refine R_cV (as := [vr (some w)]) rfl rfl ⟨Nat.le_of_ble_eq_true rfl, Nat.le_of_ble_eq_true rfl, rfl, (Or.inr ⟨_, rfl, t0⟩)⟩ rfl rfl k (fun h_78 k => ?_)
        refine R_ps 1 (pc2 := 184) (L2 := [some (vr (some w)), some (vi (J x1)), none, some (vi (J 1))]) (st2 := [vr (some w)]) rfl ?_
        refine R_getR rfl t0 ?_
        refine R_ps 1 (pc2 := 188) (L2 := [some (vr (some w)), some (vi (J x1)), none, some (vi (J 1))]) (st2 := [vr (some w), vr (gr h_78 w 4)]) rfl ?_
        refine R_getR rfl t0 ?_
        refine R_cV (as := [vr (gr h_78 w 4), vr (gr h_78 w 1)]) rfl rfl ⟨Nat.le_of_ble_eq_true rfl, Nat.le_of_ble_eq_true rfl, rfl, (Or.inl rfl)⟩ rfl rfl k (fun h_83 k => ?_)
        refine R_ps 1 (pc2 := 195) (L2 := [some (vr (some w)), some (vi (J x1)), none, some (vi (J 1))]) (st2 := [vi (J x1)]) rfl ?_
        exact R_iret rfl rfl (R_zr (x := x1) (K := K) r1 k)
    · have k := k.1 (Classical.not_not.mp c_44)
      refine R_ps 1 (pc2 := 116) (L2 := [some (vr (some w)), some (vi (J x1)), none, some (vi (J x3))]) (st2 := [vr (some w)]) rfl ?_
      refine R_cV (as := [vr (some w)]) rfl rfl ⟨Nat.le_of_ble_eq_true rfl, Nat.le_of_ble_eq_true rfl, rfl, (Or.inr ⟨_, rfl, t0⟩)⟩ rfl rfl k (fun h_87 k => ?_)
      refine R_ps 1 (pc2 := 120) (L2 := [some (vr (some w)), some (vi (J x1)), none, some (vi (J x3))]) (st2 := [vr (some w)]) rfl ?_
      refine R_cV (as := [vr (some w)]) rfl rfl ⟨Nat.le_of_ble_eq_true rfl, Nat.le_of_ble_eq_true rfl, rfl, (Or.inr ⟨_, rfl, t0⟩)⟩ rfl rfl k (fun h_90 k => ?_)
      refine R_ps 2 (pc2 := 103) (L2 := [some (vr (some w)), some (vi (J x1)), none, some (vi ((J x3) + J 1))]) (st2 := []) rfl ?_
      rw [show ((J x3) + J 1) = J (x3 + 1) from J_add' rfl rfl]
      exact k
/-- DroneCorridorsModel.errorPosition -/
theorem z248 {T N : Nat → Nat} {h : PH} {w : Nat} {K : Int → PH → Prop} (t0 : T w = 12) (k : ((((ai h w 8) < 0 → (∀ h_12, h_12 = wi h w 0 1 → (((ai h_12 w 0) = 0 → (K (ai h_12 w 8) h_12)) ∧ (¬ ((ai h_12 w 0) = 0) → (K 0 h_12))))) ∧ (¬ ((ai h w 8) < 0) → (∀ h_4, h_4 = wi h w 0 0 → (((ai h_4 w 0) = 0 → (K (ai h_4 w 8) h_4)) ∧ (¬ ((ai h_4 w 0) = 0) → (K 0 h_4)))))))) : ZI T N 248 [vr (some w)] h K := by
  show WP T N 248 0 [some (vr (some w))] [] h _
  refine R_ps 2 (pc2 := 2) (L2 := [some (vr (some w))]) (st2 := [vr (some w), vr (some w)]) rfl ?_
  refine R_zgetI (z := 8) rfl t0 rfl ?_
  refine R_zif0 (x := ai h w 8) rfl (ai_in _ _ _) (fun c_2 => ?_) (fun c_2 => ?_)
  · have k := k.2 c_2
    refine R_ps 1 (pc2 := 13) (L2 := [some (vr (some w))]) (st2 := [vi (J 0), vr (some w)]) rfl ?_
    refine R_zputI (x := 0) (z := 0) rfl t0 rfl ?_
    show WP T N _ _ _ _ (wi h w 0 0) _
    generalize e_5 : wi h w 0 0 = h_4
    replace k := k h_4 e_5.symm
    refine R_ps 1 (pc2 := 17) (L2 := [some (vr (some w))]) (st2 := [vr (some w)]) rfl ?_
    refine R_zgetI (z := 0) rfl t0 rfl ?_
    refine R_zif0 (x := ai h_4 w 0) rfl (ai_in _ _ _) (fun c_7 => ?_) (fun c_7 => ?_)
    · have k := k.2 c_7
      refine R_ps 1 (pc2 := 31) (L2 := [some (vr (some w))]) (st2 := [vi (J 0)]) rfl ?_
      exact R_iret rfl rfl (R_zr (x := 0) (K := K) (by decide) k)
    · have k := k.1 (Classical.not_not.mp c_7)
      refine R_ps 1 (pc2 := 24) (L2 := [some (vr (some w))]) (st2 := [vr (some w)]) rfl ?_
      refine R_zgetI (z := 8) rfl t0 rfl ?_
      refine R_ps 1 (pc2 := 31) (L2 := [some (vr (some w))]) (st2 := [vi (J (ai h_4 w 8))]) rfl ?_
      exact R_iret rfl rfl (R_zr (x := ai h_4 w 8) (K := K) (ai_in _ _ _) k)
  · have k := k.1 (Classical.not_not.mp c_2)
    refine R_ps 2 (pc2 := 13) (L2 := [some (vr (some w))]) (st2 := [vi (J 1), vr (some w)]) rfl ?_
    refine R_zputI (x := 1) (z := 0) rfl t0 rfl ?_
    show WP T N _ _ _ _ (wi h w 0 1) _
    generalize e_13 : wi h w 0 1 = h_12
    replace k := k h_12 e_13.symm
    refine R_ps 1 (pc2 := 17) (L2 := [some (vr (some w))]) (st2 := [vr (some w)]) rfl ?_
    refine R_zgetI (z := 0) rfl t0 rfl ?_
    refine R_zif0 (x := ai h_12 w 0) rfl (ai_in _ _ _) (fun c_15 => ?_) (fun c_15 => ?_)
    · have k := k.2 c_15
      refine R_ps 1 (pc2 := 31) (L2 := [some (vr (some w))]) (st2 := [vi (J 0)]) rfl ?_
      exact R_iret rfl rfl (R_zr (x := 0) (K := K) (by decide) k)
    · have k := k.1 (Classical.not_not.mp c_15)
      refine R_ps 1 (pc2 := 24) (L2 := [some (vr (some w))]) (st2 := [vr (some w)]) rfl ?_
      refine R_zgetI (z := 8) rfl t0 rfl ?_
      refine R_ps 1 (pc2 := 31) (L2 := [some (vr (some w))]) (st2 := [vi (J (ai h_12 w 8))]) rfl ?_
      exact R_iret rfl rfl (R_zr (x := ai h_12 w 8) (K := K) (ai_in _ _ _) k)
/-- DroneCorridorsModel.describe -/
theorem z249 {T N : Nat → Nat} {h : PH} {w : Nat} {x1 : Int} {x2 : Int} {K : Int → PH → Prop} (t0 : T w = 12) (r1 : In x1) (r2 : In x2) (k : (ZI T N 163 [vr (some w), vi (J x1)] h (fun x_3 h_2 => (((x_3 = 0 → (∀ h_72, h_72 = wi h_2 w 0 1 → ((0 < (ai h_72 w 0) → (K 0 h_72)) ∧ (¬ (0 < (ai h_72 w 0)) → (((x2 = (-1) → (K 7 h_72)) ∧ (¬ (x2 = (-1)) → ((x2 = 0 → (K 99 h_72)) ∧ (¬ (x2 = 0) → ((x2 = 1 → (ZI T N 165 [vr (some w), vi (J x1), vi (J 0)] h_72 (fun x_81 h_80 => (In (48 + x_81) ∧ K (48 + x_81) h_80)))) ∧ (¬ (x2 = 1) → ((x2 = 2 → (K 45 h_72)) ∧ (¬ (x2 = 2) → ((x2 = 3 → (ZI T N 165 [vr (some w), vi (J x1), vi (J 1)] h_72 (fun x_88 h_87 => (In (48 + x_88) ∧ K (48 + x_88) h_87)))) ∧ (¬ (x2 = 3) → ((x2 = 4 → (K 42 h_72)) ∧ (¬ (x2 = 4) → ((x2 = 5 → (ZI T N 166 [vr (some w), vi (J x1)] h_72 (fun x_95 h_94 => (In (48 + x_95) ∧ K (48 + x_95) h_94)))) ∧ (¬ (x2 = 5) → (K 59 h_72)))))))))))))))))))) ∧ (¬ (x_3 = 0) → (ZI T N 158 [vi (J x2), vi (J (-1)), vi (J 6)] h_2 (fun x_8 h_7 => (((x_8 = 0 → (∀ h_42, h_42 = wi h_7 w 0 2 → ((0 < (ai h_42 w 0) → (K 0 h_42)) ∧ (¬ (0 < (ai h_42 w 0)) → (((x2 = (-1) → (K 7 h_42)) ∧ (¬ (x2 = (-1)) → ((x2 = 0 → (K 99 h_42)) ∧ (¬ (x2 = 0) → ((x2 = 1 → (ZI T N 165 [vr (some w), vi (J x1), vi (J 0)] h_42 (fun x_51 h_50 => (In (48 + x_51) ∧ K (48 + x_51) h_50)))) ∧ (¬ (x2 = 1) → ((x2 = 2 → (K 45 h_42)) ∧ (¬ (x2 = 2) → ((x2 = 3 → (ZI T N 165 [vr (some w), vi (J x1), vi (J 1)] h_42 (fun x_58 h_57 => (In (48 + x_58) ∧ K (48 + x_58) h_57)))) ∧ (¬ (x2 = 3) → ((x2 = 4 → (K 42 h_42)) ∧ (¬ (x2 = 4) → ((x2 = 5 → (ZI T N 166 [vr (some w), vi (J x1)] h_42 (fun x_65 h_64 => (In (48 + x_65) ∧ K (48 + x_65) h_64)))) ∧ (¬ (x2 = 5) → (K 59 h_42)))))))))))))))))))) ∧ (¬ (x_8 = 0) → (∀ h_12, h_12 = wi h_7 w 0 0 → ((0 < (ai h_12 w 0) → (K 0 h_12)) ∧ (¬ (0 < (ai h_12 w 0)) → (((x2 = (-1) → (K 7 h_12)) ∧ (¬ (x2 = (-1)) → ((x2 = 0 → (K 99 h_12)) ∧ (¬ (x2 = 0) → ((x2 = 1 → (ZI T N 165 [vr (some w), vi (J x1), vi (J 0)] h_12 (fun x_21 h_20 => (In (48 + x_21) ∧ K (48 + x_21) h_20)))) ∧ (¬ (x2 = 1) → ((x2 = 2 → (K 45 h_12)) ∧ (¬ (x2 = 2) → ((x2 = 3 → (ZI T N 165 [vr (some w), vi (J x1), vi (J 1)] h_12 (fun x_28 h_27 => (In (48 + x_28) ∧ K (48 + x_28) h_27)))) ∧ (¬ (x2 = 3) → ((x2 = 4 → (K 42 h_12)) ∧ (¬ (x2 = 4) → ((x2 = 5 → (ZI T N 166 [vr (some w), vi (J x1)] h_12 (fun x_35 h_34 => (In (48 + x_35) ∧ K (48 + x_35) h_34)))) ∧ (¬ (x2 = 5) → (K 59 h_12)))))))))))))))))))))))))))))) : ZI T N 249 [vr (some w), vi (J x1), vi (J x2)] h K := by
  show WP T N 249 0 [some (vr (some w)), some (vi (J x1)), some (vi (J x2))] [] h _
  refine R_ps 3 (pc2 := 3) (L2 := [some (vr (some w)), some (vi (J x1)), some (vi (J x2))]) (st2 := [vi (J x1), vr (some w), vr (some w)]) rfl ?_
  refine R_zcI (as := [vr (some w), vi (J x1)]) rfl rfl ⟨Nat.le_of_ble_eq_true rfl, Nat.le_of_ble_eq_true rfl, rfl, (Or.inr ⟨_, rfl, t0⟩)⟩ rfl rfl k (fun x_3 h_2 r_4 k => ?_)
  refine R_zif0 (x := x_3) rfl r_4 (fun c_5 => ?_) (fun c_5 => ?_)
  · have k := k.2 c_5
    refine R_ps 3 (pc2 := 17) (L2 := [some (vr (some w)), some (vi (J x1)), some (vi (J x2))]) (st2 := [vi (J 6), vi (J (-1)), vi (J x2), vr (some w)]) rfl ?_
    refine R_zcI (as := [vi (J x2), vi (J (-1)), vi (J 6)]) rfl rfl ⟨Nat.le_of_ble_eq_true rfl, Nat.le_of_ble_eq_true rfl, rfl, (Or.inl rfl)⟩ rfl rfl k (fun x_8 h_7 r_9 k => ?_)
    refine R_zif0 (x := x_8) rfl r_9 (fun c_10 => ?_) (fun c_10 => ?_)
    · have k := k.2 c_10
      refine R_ps 1 (pc2 := 28) (L2 := [some (vr (some w)), some (vi (J x1)), some (vi (J x2))]) (st2 := [vi (J 0), vr (some w)]) rfl ?_
      refine R_zputI (x := 0) (z := 0) rfl t0 rfl ?_
      show WP T N _ _ _ _ (wi h_7 w 0 0) _
      generalize e_13 : wi h_7 w 0 0 = h_12
      replace k := k h_12 e_13.symm
      refine R_ps 1 (pc2 := 32) (L2 := [some (vr (some w)), some (vi (J x1)), some (vi (J x2))]) (st2 := [vr (some w)]) rfl ?_
      refine R_zgetI (z := 0) rfl t0 rfl ?_
      refine R_zif0 (x := ai h_12 w 0) rfl (ai_in _ _ _) (fun c_15 => ?_) (fun c_15 => ?_)
      · have k := k.2 c_15
        refine R_ps 1 (pc2 := 41) (L2 := [some (vr (some w)), some (vi (J x1)), some (vi (J x2))]) (st2 := [vi (J x2)]) rfl ?_
        refine R_ztsw (x := x2) rfl rfl r2 ?_
        refine ⟨fun c_16 => ?_, fun c_16 => ?_⟩
        · have k := k.1 c_16
          show WP T N _ 84 _ _ _ _
          refine R_ps 1 (pc2 := 86) (L2 := [some (vr (some w)), some (vi (J x1)), some (vi (J x2))]) (st2 := [vi (J 7)]) rfl ?_
          exact R_iret rfl rfl (R_zr (x := 7) (K := K) (by decide) k)
        replace k := k.2 c_16
        refine ⟨fun c_16 => ?_, fun c_16 => ?_⟩
        · have k := k.1 c_16
          show WP T N _ 87 _ _ _ _
          refine R_ps 1 (pc2 := 89) (L2 := [some (vr (some w)), some (vi (J x1)), some (vi (J x2))]) (st2 := [vi (J 99)]) rfl ?_
          exact R_iret rfl rfl (R_zr (x := 99) (K := K) (by decide) k)
        replace k := k.2 c_16
        refine ⟨fun c_16 => ?_, fun c_16 => ?_⟩
        · have k := k.1 c_16
          show WP T N _ 90 _ _ _ _
          refine R_ps 4 (pc2 := 95) (L2 := [some (vr (some w)), some (vi (J x1)), some (vi (J x2))]) (st2 := [vi (J 0), vi (J x1), vr (some w), vi (J 48)]) rfl ?_
          refine R_zcI (as := [vr (some w), vi (J x1), vi (J 0)]) rfl rfl ⟨Nat.le_of_ble_eq_true rfl, Nat.le_of_ble_eq_true rfl, rfl, (Or.inr ⟨_, rfl, t0⟩)⟩ rfl rfl k (fun x_21 h_20 r_22 k => ?_)
          refine R_ps 1 (pc2 := 99) (L2 := [some (vr (some w)), some (vi (J x1)), some (vi (J x2))]) (st2 := [vi ((J 48) + (J x_21))]) rfl ?_
          rw [show ((J 48) + (J x_21)) = J (48 + x_21) from J_add' rfl rfl]
          obtain ⟨t_24, k⟩ := k
          exact R_iret rfl rfl (R_zr (x := 48 + x_21) (K := K) t_24 k)
        replace k := k.2 c_16
        refine ⟨fun c_16 => ?_, fun c_16 => ?_⟩
        · have k := k.1 c_16
          show WP T N _ 100 _ _ _ _
          refine R_ps 1 (pc2 := 102) (L2 := [some (vr (some w)), some (vi (J x1)), some (vi (J x2))]) (st2 := [vi (J 45)]) rfl ?_
          exact R_iret rfl rfl (R_zr (x := 45) (K := K) (by decide) k)
        replace k := k.2 c_16
        refine ⟨fun c_16 => ?_, fun c_16 => ?_⟩
        · have k := k.1 c_16
          show WP T N _ 103 _ _ _ _
          refine R_ps 4 (pc2 := 108) (L2 := [some (vr (some w)), some (vi (J x1)), some (vi (J x2))]) (st2 := [vi (J 1), vi (J x1), vr (some w), vi (J 48)]) rfl ?_
          refine R_zcI (as := [vr (some w), vi (J x1), vi (J 1)]) rfl rfl ⟨Nat.le_of_ble_eq_true rfl, Nat.le_of_ble_eq_true rfl, rfl, (Or.inr ⟨_, rfl, t0⟩)⟩ rfl rfl k (fun x_28 h_27 r_29 k => ?_)
          refine R_ps 1 (pc2 := 112) (L2 := [some (vr (some w)), some (vi (J x1)), some (vi (J x2))]) (st2 := [vi ((J 48) + (J x_28))]) rfl ?_
          rw [show ((J 48) + (J x_28)) = J (48 + x_28) from J_add' rfl rfl]
          obtain ⟨t_31, k⟩ := k
          exact R_iret rfl rfl (R_zr (x := 48 + x_28) (K := K) t_31 k)
        replace k := k.2 c_16
        refine ⟨fun c_16 => ?_, fun c_16 => ?_⟩
        · have k := k.1 c_16
          show WP T N _ 113 _ _ _ _
          refine R_ps 1 (pc2 := 115) (L2 := [some (vr (some w)), some (vi (J x1)), some (vi (J x2))]) (st2 := [vi (J 42)]) rfl ?_
          exact R_iret rfl rfl (R_zr (x := 42) (K := K) (by decide) k)
        replace k := k.2 c_16
        refine ⟨fun c_16 => ?_, fun c_16 => ?_⟩
        · have k := k.1 c_16
          show WP T N _ 116 _ _ _ _
          refine R_ps 3 (pc2 := 120) (L2 := [some (vr (some w)), some (vi (J x1)), some (vi (J x2))]) (st2 := [vi (J x1), vr (some w), vi (J 48)]) rfl ?_
          refine R_zcI (as := [vr (some w), vi (J x1)]) rfl rfl ⟨Nat.le_of_ble_eq_true rfl, Nat.le_of_ble_eq_true rfl, rfl, (Or.inr ⟨_, rfl, t0⟩)⟩ rfl rfl k (fun x_35 h_34 r_36 k => ?_)
          refine R_ps 1 (pc2 := 124) (L2 := [some (vr (some w)), some (vi (J x1)), some (vi (J x2))]) (st2 := [vi ((J 48) + (J x_35))]) rfl ?_
          rw [show ((J 48) + (J x_35)) = J (48 + x_35) from J_add' rfl rfl]
          obtain ⟨t_38, k⟩ := k
          exact R_iret rfl rfl (R_zr (x := 48 + x_35) (K := K) t_38 k)
        replace k := k.2 c_16
        show WP T N _ 125 _ _ _ _
        refine R_ps 1 (pc2 := 127) (L2 := [some (vr (some w)), some (vi (J x1)), some (vi (J x2))]) (st2 := [vi (J 59)]) rfl ?_
        exact R_iret rfl rfl (R_zr (x := 59) (K := K) (by decide) k)
      · have k := k.1 (Classical.not_not.mp c_15)
        refine R_ps 1 (pc2 := 39) (L2 := [some (vr (some w)), some (vi (J x1)), some (vi (J x2))]) (st2 := [vi (J 0)]) rfl ?_
        exact R_iret rfl rfl (R_zr (x := 0) (K := K) (by decide) k)
    · have k := k.1 (Classical.not_not.mp c_10)
      refine R_ps 2 (pc2 := 28) (L2 := [some (vr (some w)), some (vi (J x1)), some (vi (J x2))]) (st2 := [vi (J 2), vr (some w)]) rfl ?_
      refine R_zputI (x := 2) (z := 0) rfl t0 rfl ?_
      show WP T N _ _ _ _ (wi h_7 w 0 2) _
      generalize e_43 : wi h_7 w 0 2 = h_42
      replace k := k h_42 e_43.symm
      refine R_ps 1 (pc2 := 32) (L2 := [some (vr (some w)), some (vi (J x1)), some (vi (J x2))]) (st2 := [vr (some w)]) rfl ?_
      refine R_zgetI (z := 0) rfl t0 rfl ?_
      refine R_zif0 (x := ai h_42 w 0) rfl (ai_in _ _ _) (fun c_45 => ?_) (fun c_45 => ?_)
      · have k := k.2 c_45
        refine R_ps 1 (pc2 := 41) (L2 := [some (vr (some w)), some (vi (J x1)), some (vi (J x2))]) (st2 := [vi (J x2)]) rfl ?_
        refine R_ztsw (x := x2) rfl rfl r2 ?_
        refine ⟨fun c_46 => ?_, fun c_46 => ?_⟩
        · have k := k.1 c_46
          show WP T N _ 84 _ _ _ _
          refine R_ps 1 (pc2 := 86) (L2 := [some (vr (some w)), some (vi (J x1)), some (vi (J x2))]) (st2 := [vi (J 7)]) rfl ?_
          exact R_iret rfl rfl (R_zr (x := 7) (K := K) (by decide) k)
        replace k := k.2 c_46
        refine ⟨fun c_46 => ?_, fun c_46 => ?_⟩
        · have k := k.1 c_46
          show WP T N _ 87 _ _ _ _
          refine R_ps 1 (pc2 := 89) (L2 := [some (vr (some w)), some (vi (J x1)), some (vi (J x2))]) (st2 := [vi (J 99)]) rfl ?_
          exact R_iret rfl rfl (R_zr (x := 99) (K := K) (by decide) k)
        replace k := k.2 c_46
        refine ⟨fun c_46 => ?_, fun c_46 => ?_⟩
        · have k := k.1 c_46
          show WP T N _ 90 _ _ _ _
          refine R_ps 4 (pc2 := 95) (L2 := [some (vr (some w)), some (vi (J x1)), some (vi (J x2))]) (st2 := [vi (J 0), vi (J x1), vr (some w), vi (J 48)]) rfl ?_
          refine R_zcI (as := [vr (some w), vi (J x1), vi (J 0)]) rfl rfl ⟨Nat.le_of_ble_eq_true rfl, Nat.le_of_ble_eq_true rfl, rfl, (Or.inr ⟨_, rfl, t0⟩)⟩ rfl rfl k (fun x_51 h_50 r_52 k => ?_)
          refine R_ps 1 (pc2 := 99) (L2 := [some (vr (some w)), some (vi (J x1)), some (vi (J x2))]) (st2 := [vi ((J 48) + (J x_51))]) rfl ?_
          rw [show ((J 48) + (J x_51)) = J (48 + x_51) from J_add' rfl rfl]
          obtain ⟨t_54, k⟩ := k
          exact R_iret rfl rfl (R_zr (x := 48 + x_51) (K := K) t_54 k)
        replace k := k.2 c_46
        refine ⟨fun c_46 => ?_, fun c_46 => ?_⟩
        · have k := k.1 c_46
          show WP T N _ 100 _ _ _ _
          refine R_ps 1 (pc2 := 102) (L2 := [some (vr (some w)), some (vi (J x1)), some (vi (J x2))]) (st2 := [vi (J 45)]) rfl ?_
          exact R_iret rfl rfl (R_zr (x := 45) (K := K) (by decide) k)
        replace k := k.2 c_46
        refine ⟨fun c_46 => ?_, fun c_46 => ?_⟩
        · have k := k.1 c_46
          show WP T N _ 103 _ _ _ _
          refine R_ps 4 (pc2 := 108) (L2 := [some (vr (some w)), some (vi (J x1)), some (vi (J x2))]) (st2 := [vi (J 1), vi (J x1), vr (some w), vi (J 48)]) rfl ?_
          refine R_zcI (as := [vr (some w), vi (J x1), vi (J 1)]) rfl rfl ⟨Nat.le_of_ble_eq_true rfl, Nat.le_of_ble_eq_true rfl, rfl, (Or.inr ⟨_, rfl, t0⟩)⟩ rfl rfl k (fun x_58 h_57 r_59 k => ?_)
          refine R_ps 1 (pc2 := 112) (L2 := [some (vr (some w)), some (vi (J x1)), some (vi (J x2))]) (st2 := [vi ((J 48) + (J x_58))]) rfl ?_
          rw [show ((J 48) + (J x_58)) = J (48 + x_58) from J_add' rfl rfl]
          obtain ⟨t_61, k⟩ := k
          exact R_iret rfl rfl (R_zr (x := 48 + x_58) (K := K) t_61 k)
        replace k := k.2 c_46
        refine ⟨fun c_46 => ?_, fun c_46 => ?_⟩
        · have k := k.1 c_46
          show WP T N _ 113 _ _ _ _
          refine R_ps 1 (pc2 := 115) (L2 := [some (vr (some w)), some (vi (J x1)), some (vi (J x2))]) (st2 := [vi (J 42)]) rfl ?_
          exact R_iret rfl rfl (R_zr (x := 42) (K := K) (by decide) k)
        replace k := k.2 c_46
        refine ⟨fun c_46 => ?_, fun c_46 => ?_⟩
        · have k := k.1 c_46
          show WP T N _ 116 _ _ _ _
          refine R_ps 3 (pc2 := 120) (L2 := [some (vr (some w)), some (vi (J x1)), some (vi (J x2))]) (st2 := [vi (J x1), vr (some w), vi (J 48)]) rfl ?_
          refine R_zcI (as := [vr (some w), vi (J x1)]) rfl rfl ⟨Nat.le_of_ble_eq_true rfl, Nat.le_of_ble_eq_true rfl, rfl, (Or.inr ⟨_, rfl, t0⟩)⟩ rfl rfl k (fun x_65 h_64 r_66 k => ?_)
          refine R_ps 1 (pc2 := 124) (L2 := [some (vr (some w)), some (vi (J x1)), some (vi (J x2))]) (st2 := [vi ((J 48) + (J x_65))]) rfl ?_
          rw [show ((J 48) + (J x_65)) = J (48 + x_65) from J_add' rfl rfl]
          obtain ⟨t_68, k⟩ := k
          exact R_iret rfl rfl (R_zr (x := 48 + x_65) (K := K) t_68 k)
        replace k := k.2 c_46
        show WP T N _ 125 _ _ _ _
        refine R_ps 1 (pc2 := 127) (L2 := [some (vr (some w)), some (vi (J x1)), some (vi (J x2))]) (st2 := [vi (J 59)]) rfl ?_
        exact R_iret rfl rfl (R_zr (x := 59) (K := K) (by decide) k)
      · have k := k.1 (Classical.not_not.mp c_45)
        refine R_ps 1 (pc2 := 39) (L2 := [some (vr (some w)), some (vi (J x1)), some (vi (J x2))]) (st2 := [vi (J 0)]) rfl ?_
        exact R_iret rfl rfl (R_zr (x := 0) (K := K) (by decide) k)
  · have k := k.1 (Classical.not_not.mp c_5)
    refine R_ps 2 (pc2 := 28) (L2 := [some (vr (some w)), some (vi (J x1)), some (vi (J x2))]) (st2 := [vi (J 1), vr (some w)]) rfl ?_
    refine R_zputI (x := 1) (z := 0) rfl t0 rfl ?_
    show WP T N _ _ _ _ (wi h_2 w 0 1) _
    generalize e_73 : wi h_2 w 0 1 = h_72
    replace k := k h_72 e_73.symm
    refine R_ps 1 (pc2 := 32) (L2 := [some (vr (some w)), some (vi (J x1)), some (vi (J x2))]) (st2 := [vr (some w)]) rfl ?_
    refine R_zgetI (z := 0) rfl t0 rfl ?_
    refine R_zif0 (x := ai h_72 w 0) rfl (ai_in _ _ _) (fun c_75 => ?_) (fun c_75 => ?_)
    · have k := k.2 c_75
      refine R_ps 1 (pc2 := 41) (L2 := [some (vr (some w)), some (vi (J x1)), some (vi (J x2))]) (st2 := [vi (J x2)]) rfl ?_
      refine R_ztsw (x := x2) rfl rfl r2 ?_
      refine ⟨fun c_76 => ?_, fun c_76 => ?_⟩
      · have k := k.1 c_76
        show WP T N _ 84 _ _ _ _
        refine R_ps 1 (pc2 := 86) (L2 := [some (vr (some w)), some (vi (J x1)), some (vi (J x2))]) (st2 := [vi (J 7)]) rfl ?_
        exact R_iret rfl rfl (R_zr (x := 7) (K := K) (by decide) k)
      replace k := k.2 c_76
      refine ⟨fun c_76 => ?_, fun c_76 => ?_⟩
      · have k := k.1 c_76
        show WP T N _ 87 _ _ _ _
        refine R_ps 1 (pc2 := 89) (L2 := [some (vr (some w)), some (vi (J x1)), some (vi (J x2))]) (st2 := [vi (J 99)]) rfl ?_
        exact R_iret rfl rfl (R_zr (x := 99) (K := K) (by decide) k)
      replace k := k.2 c_76
      refine ⟨fun c_76 => ?_, fun c_76 => ?_⟩
      · have k := k.1 c_76
        show WP T N _ 90 _ _ _ _
        refine R_ps 4 (pc2 := 95) (L2 := [some (vr (some w)), some (vi (J x1)), some (vi (J x2))]) (st2 := [vi (J 0), vi (J x1), vr (some w), vi (J 48)]) rfl ?_
        refine R_zcI (as := [vr (some w), vi (J x1), vi (J 0)]) rfl rfl ⟨Nat.le_of_ble_eq_true rfl, Nat.le_of_ble_eq_true rfl, rfl, (Or.inr ⟨_, rfl, t0⟩)⟩ rfl rfl k (fun x_81 h_80 r_82 k => ?_)
        refine R_ps 1 (pc2 := 99) (L2 := [some (vr (some w)), some (vi (J x1)), some (vi (J x2))]) (st2 := [vi ((J 48) + (J x_81))]) rfl ?_
        rw [show ((J 48) + (J x_81)) = J (48 + x_81) from J_add' rfl rfl]
        obtain ⟨t_84, k⟩ := k
        exact R_iret rfl rfl (R_zr (x := 48 + x_81) (K := K) t_84 k)
      replace k := k.2 c_76
      refine ⟨fun c_76 => ?_, fun c_76 => ?_⟩
      · have k := k.1 c_76
        show WP T N _ 100 _ _ _ _
        refine R_ps 1 (pc2 := 102) (L2 := [some (vr (some w)), some (vi (J x1)), some (vi (J x2))]) (st2 := [vi (J 45)]) rfl ?_
        exact R_iret rfl rfl (R_zr (x := 45) (K := K) (by decide) k)
      replace k := k.2 c_76
      refine ⟨fun c_76 => ?_, fun c_76 => ?_⟩
      · have k := k.1 c_76
        show WP T N _ 103 _ _ _ _
        refine R_ps 4 (pc2 := 108) (L2 := [some (vr (some w)), some (vi (J x1)), some (vi (J x2))]) (st2 := [vi (J 1), vi (J x1), vr (some w), vi (J 48)]) rfl ?_
        refine R_zcI (as := [vr (some w), vi (J x1), vi (J 1)]) rfl rfl ⟨Nat.le_of_ble_eq_true rfl, Nat.le_of_ble_eq_true rfl, rfl, (Or.inr ⟨_, rfl, t0⟩)⟩ rfl rfl k (fun x_88 h_87 r_89 k => ?_)
        refine R_ps 1 (pc2 := 112) (L2 := [some (vr (some w)), some (vi (J x1)), some (vi (J x2))]) (st2 := [vi ((J 48) + (J x_88))]) rfl ?_
        rw [show ((J 48) + (J x_88)) = J (48 + x_88) from J_add' rfl rfl]
        obtain ⟨t_91, k⟩ := k
        exact R_iret rfl rfl (R_zr (x := 48 + x_88) (K := K) t_91 k)
      replace k := k.2 c_76
      refine ⟨fun c_76 => ?_, fun c_76 => ?_⟩
      · have k := k.1 c_76
        show WP T N _ 113 _ _ _ _
        refine R_ps 1 (pc2 := 115) (L2 := [some (vr (some w)), some (vi (J x1)), some (vi (J x2))]) (st2 := [vi (J 42)]) rfl ?_
        exact R_iret rfl rfl (R_zr (x := 42) (K := K) (by decide) k)
      replace k := k.2 c_76
      refine ⟨fun c_76 => ?_, fun c_76 => ?_⟩
      · have k := k.1 c_76
        show WP T N _ 116 _ _ _ _
        refine R_ps 3 (pc2 := 120) (L2 := [some (vr (some w)), some (vi (J x1)), some (vi (J x2))]) (st2 := [vi (J x1), vr (some w), vi (J 48)]) rfl ?_
        refine R_zcI (as := [vr (some w), vi (J x1)]) rfl rfl ⟨Nat.le_of_ble_eq_true rfl, Nat.le_of_ble_eq_true rfl, rfl, (Or.inr ⟨_, rfl, t0⟩)⟩ rfl rfl k (fun x_95 h_94 r_96 k => ?_)
        refine R_ps 1 (pc2 := 124) (L2 := [some (vr (some w)), some (vi (J x1)), some (vi (J x2))]) (st2 := [vi ((J 48) + (J x_95))]) rfl ?_
        rw [show ((J 48) + (J x_95)) = J (48 + x_95) from J_add' rfl rfl]
        obtain ⟨t_98, k⟩ := k
        exact R_iret rfl rfl (R_zr (x := 48 + x_95) (K := K) t_98 k)
      replace k := k.2 c_76
      show WP T N _ 125 _ _ _ _
      refine R_ps 1 (pc2 := 127) (L2 := [some (vr (some w)), some (vi (J x1)), some (vi (J x2))]) (st2 := [vi (J 59)]) rfl ?_
      exact R_iret rfl rfl (R_zr (x := 59) (K := K) (by decide) k)
    · have k := k.1 (Classical.not_not.mp c_75)
      refine R_ps 1 (pc2 := 39) (L2 := [some (vr (some w)), some (vi (J x1)), some (vi (J x2))]) (st2 := [vi (J 0)]) rfl ?_
      exact R_iret rfl rfl (R_zr (x := 0) (K := K) (by decide) k)
/-- DroneCorridorsModel.undo -/
theorem z250 {T N : Nat → Nat} {h : PH} {w : Nat} {K : Int → PH → Prop} (t0 : T w = 12) (k : ((((ai h w 6) = 0 → (∀ h_14, h_14 = wi h w 0 1 → (((ai h_14 w 0) = 1 → (K 0 h_14)) ∧ (¬ ((ai h_14 w 0) = 1) → (∀ h_20, h_20 = wi h_14 w 6 ((ai h_14 w 6) - 1) → ZW T N 250 38 [some (vr (some w)), some (vi (J 0))] [] h_20 K))))) ∧ (¬ ((ai h w 6) = 0) → (∀ h_4, h_4 = wi h w 0 0 → (((ai h_4 w 0) = 1 → (K 0 h_4)) ∧ (¬ ((ai h_4 w 0) = 1) → (∀ h_10, h_10 = wi h_4 w 6 ((ai h_4 w 6) - 1) → ZW T N 250 38 [some (vr (some w)), some (vi (J 0))] [] h_10 K)))))))) : ZI T N 250 [vr (some w)] h K := by
  show WP T N 250 0 [some (vr (some w)), none] [] h _
  refine R_ps 2 (pc2 := 2) (L2 := [some (vr (some w)), none]) (st2 := [vr (some w), vr (some w)]) rfl ?_
  refine R_zgetI (z := 6) rfl t0 rfl ?_
  refine R_zif0 (x := ai h w 6) rfl (ai_in _ _ _) (fun c_2 => ?_) (fun c_2 => ?_)
  · have k := k.2 c_2
    refine R_ps 1 (pc2 := 13) (L2 := [some (vr (some w)), none]) (st2 := [vi (J 0), vr (some w)]) rfl ?_
    refine R_zputI (x := 0) (z := 0) rfl t0 rfl ?_
    show WP T N _ _ _ _ (wi h w 0 0) _
    generalize e_5 : wi h w 0 0 = h_4
    replace k := k h_4 e_5.symm
    refine R_ps 1 (pc2 := 17) (L2 := [some (vr (some w)), none]) (st2 := [vr (some w)]) rfl ?_
    refine R_zgetI (z := 0) rfl t0 rfl ?_
    refine R_ps 1 (pc2 := 21) (L2 := [some (vr (some w)), none]) (st2 := [vi (J 1), vi (J (ai h_4 w 0))]) rfl ?_
    refine R_zif (x := ai h_4 w 0) (z := 1) rfl (ai_in _ _ _) (by decide) (fun c_7 => ?_) (fun c_7 => ?_)
    · have k := k.2 c_7
      refine R_ps 2 (pc2 := 28) (L2 := [some (vr (some w)), none]) (st2 := [vr (some w), vr (some w)]) rfl ?_
      refine R_zgetI (z := 6) rfl t0 rfl ?_
      refine R_ps 2 (pc2 := 33) (L2 := [some (vr (some w)), none]) (st2 := [vi ((J (ai h_4 w 6)) - (J 1)), vr (some w)]) rfl ?_
      rw [show ((J (ai h_4 w 6)) - (J 1)) = J ((ai h_4 w 6) - 1) from J_sub' rfl rfl]
      refine R_zputI (x := (ai h_4 w 6) - 1) (z := 6) rfl t0 rfl ?_
      show WP T N _ _ _ _ (wi h_4 w 6 ((ai h_4 w 6) - 1)) _
      generalize e_11 : wi h_4 w 6 ((ai h_4 w 6) - 1) = h_10
      replace k := k h_10 e_11.symm
      refine R_ps 2 (pc2 := 38) (L2 := [some (vr (some w)), some (vi (J 0))]) (st2 := []) rfl ?_
      exact k
    · have k := k.1 (Classical.not_not.mp c_7)
      refine R_ps 1 (pc2 := 25) (L2 := [some (vr (some w)), none]) (st2 := [vi (J 0)]) rfl ?_
      exact R_iret rfl rfl (R_zr (x := 0) (K := K) (by decide) k)
  · have k := k.1 (Classical.not_not.mp c_2)
    refine R_ps 2 (pc2 := 13) (L2 := [some (vr (some w)), none]) (st2 := [vi (J 1), vr (some w)]) rfl ?_
    refine R_zputI (x := 1) (z := 0) rfl t0 rfl ?_
    show WP T N _ _ _ _ (wi h w 0 1) _
    generalize e_15 : wi h w 0 1 = h_14
    replace k := k h_14 e_15.symm
    refine R_ps 1 (pc2 := 17) (L2 := [some (vr (some w)), none]) (st2 := [vr (some w)]) rfl ?_
    refine R_zgetI (z := 0) rfl t0 rfl ?_
    refine R_ps 1 (pc2 := 21) (L2 := [some (vr (some w)), none]) (st2 := [vi (J 1), vi (J (ai h_14 w 0))]) rfl ?_
    refine R_zif (x := ai h_14 w 0) (z := 1) rfl (ai_in _ _ _) (by decide) (fun c_17 => ?_) (fun c_17 => ?_)
    · have k := k.2 c_17
      refine R_ps 2 (pc2 := 28) (L2 := [some (vr (some w)), none]) (st2 := [vr (some w), vr (some w)]) rfl ?_
      refine R_zgetI (z := 6) rfl t0 rfl ?_
      refine R_ps 2 (pc2 := 33) (L2 := [some (vr (some w)), none]) (st2 := [vi ((J (ai h_14 w 6)) - (J 1)), vr (some w)]) rfl ?_
      rw [show ((J (ai h_14 w 6)) - (J 1)) = J ((ai h_14 w 6) - 1) from J_sub' rfl rfl]
      refine R_zputI (x := (ai h_14 w 6) - 1) (z := 6) rfl t0 rfl ?_
      show WP T N _ _ _ _ (wi h_14 w 6 ((ai h_14 w 6) - 1)) _
      generalize e_21 : wi h_14 w 6 ((ai h_14 w 6) - 1) = h_20
      replace k := k h_20 e_21.symm
      refine R_ps 2 (pc2 := 38) (L2 := [some (vr (some w)), some (vi (J 0))]) (st2 := []) rfl ?_
      exact k
    · have k := k.1 (Classical.not_not.mp c_17)
      refine R_ps 1 (pc2 := 25) (L2 := [some (vr (some w)), none]) (st2 := [vi (J 0)]) rfl ?_
      exact R_iret rfl rfl (R_zr (x := 0) (K := K) (by decide) k)
theorem z250_38 {T N : Nat → Nat} {h : PH} {w : Nat} {x1 : Int} {K : Int → PH → Prop} (t0 : T w = 12) (r1 : In x1) (k : (((x1 < 449 → (∃ a_8, (gr h w 5) = some a_8 ∧ T a_8 = 22 ∧ (0 ≤ (((ai h w 6) * 449) + x1) ∧ (((ai h w 6) * 449) + x1) < (N a_8 : Int) ∧ (((ai h w 6) * 449) + x1) < 2147483648) ∧ ∃ a_13, (gr h w 1) = some a_13 ∧ T a_13 = 22 ∧ (0 ≤ x1 ∧ x1 < (N a_13 : Int) ∧ x1 < 2147483648) ∧ ∀ h_15, h_15 = wi h a_13 x1 (ai h a_8 (((ai h w 6) * 449) + x1)) → ZW T N 250 38 [some (vr (some w)), some (vi (J (x1 + 1)))] [] h_15 K)) ∧ (¬ (x1 < 449) → (K (ai h w 6) h))))) : ZW T N 250 38 [some (vr (some w)), some (vi (J x1))] [] h K := by
  show WP T N 250 38 [some (vr (some w)), some (vi (J x1))] [] h _
  refine R_ps 2 (pc2 := 42) (L2 := [some (vr (some w)), some (vi (J x1))]) (st2 := [vi (J 449), vi (J x1)]) rfl ?_
  refine R_zif (x := x1) (z := 449) rfl r1 (by decide) (fun c_1 => ?_) (fun c_1 => ?_)
  · have k := k.2 c_1
    refine R_ps 1 (pc2 := 73) (L2 := [some (vr (some w)), some (vi (J x1))]) (st2 := [vr (some w)]) rfl ?_
    refine R_zgetI (z := 6) rfl t0 rfl ?_
    exact R_iret rfl rfl (R_zr (x := ai h w 6) (K := K) (ai_in _ _ _) k)
  · have k := k.1 (Classical.not_not.mp c_1)
    refine R_ps 1 (pc2 := 46) (L2 := [some (vr (some w)), some (vi (J x1))]) (st2 := [vr (some w)]) rfl ?_
    refine R_getR rfl t0 ?_
    refine R_ps 2 (pc2 := 51) (L2 := [some (vr (some w)), some (vi (J x1))]) (st2 := [vr (some w), vi (J x1), vr (gr h w 1)]) rfl ?_
    refine R_getR rfl t0 ?_
    refine R_ps 1 (pc2 := 55) (L2 := [some (vr (some w)), some (vi (J x1))]) (st2 := [vr (some w), vr (gr h w 5), vi (J x1), vr (gr h w 1)]) rfl ?_
    refine R_zgetI (z := 6) rfl t0 rfl ?_
    refine R_ps 4 (pc2 := 64) (L2 := [some (vr (some w)), some (vi (J x1))]) (st2 := [vi (((J (ai h w 6)) * (J 449)) + (J x1)), vr (gr h w 5), vi (J x1), vr (gr h w 1)]) rfl ?_
    rw [show (((J (ai h w 6)) * (J 449)) + (J x1)) = J (((ai h w 6) * 449) + x1) from J_add' (J_mul' rfl rfl) rfl]
    obtain ⟨a_8, e_9, k⟩ := k
    rw [e_9]
    obtain ⟨t_10, k⟩ := k
    obtain ⟨t_11, k⟩ := k
    refine R_ziald (i := ((ai h w 6) * 449) + x1) rfl (Or.inl t_10) t_11 ?_
    obtain ⟨a_13, e_14, k⟩ := k
    rw [e_14]
    obtain ⟨t_17, k⟩ := k
    obtain ⟨t_18, k⟩ := k
    refine R_ziast (i := x1) (x := ai h a_8 (((ai h w 6) * 449) + x1)) rfl t_17 t_18  ?_
    show WP T N _ _ _ _ (wi h a_13 x1 (ai h a_8 (((ai h w 6) * 449) + x1))) _
    generalize e_16 : wi h a_13 x1 (ai h a_8 (((ai h w 6) * 449) + x1)) = h_15
    replace k := k h_15 e_16.symm
    refine R_ps 2 (pc2 := 38) (L2 := [some (vr (some w)), some (vi ((J x1) + J 1))]) (st2 := []) rfl ?_
    rw [show ((J x1) + J 1) = J (x1 + 1) from J_add' rfl rfl]
    exact k
/-- DroneCorridorsModel.save -/
theorem z251 {T N : Nat → Nat} {h : PH} {w : Nat} {K : Int → PH → Prop} (t0 : T w = 12) (k : (∀ h_2, h_2 = wi h w 0 0 → CV T N 161 [vr (gr h_2 w 1), vr (gr h_2 w 2)] h_2 (fun h_7 => (∀ h_10, h_10 = wi h_7 w 9 1 → ∃ a_14, (gr h_10 w 1) = some a_14 ∧ T a_14 = 22 ∧ (0 ≤ (0 : Int) ∧ (0 : Int) < (N a_14 : Int) ∧ (0 : Int) < 2147483648) ∧ K (ai h_10 a_14 0) h_10)))) : ZI T N 251 [vr (some w)] h K := by
  show WP T N 251 0 [some (vr (some w))] [] h _
  refine R_ps 2 (pc2 := 2) (L2 := [some (vr (some w))]) (st2 := [vi (J 0), vr (some w)]) rfl ?_
  refine R_zputI (x := 0) (z := 0) rfl t0 rfl ?_
  show WP T N _ _ _ _ (wi h w 0 0) _
  generalize e_3 : wi h w 0 0 = h_2
  replace k := k h_2 e_3.symm
  refine R_ps 1 (pc2 := 6) (L2 := [some (vr (some w))]) (st2 := [vr (some w)]) rfl ?_
  refine R_getR rfl t0 ?_
  refine R_ps 1 (pc2 := 10) (L2 := [some (vr (some w))]) (st2 := [vr (some w), vr (gr h_2 w 1)]) rfl ?_
  refine R_getR rfl t0 ?_
  refine R_cV (as := [vr (gr h_2 w 1), vr (gr h_2 w 2)]) rfl rfl ⟨Nat.le_of_ble_eq_true rfl, Nat.le_of_ble_eq_true rfl, rfl, (Or.inl rfl)⟩ rfl rfl k (fun h_7 k => ?_)
  refine R_ps 2 (pc2 := 18) (L2 := [some (vr (some w))]) (st2 := [vi (J 1), vr (some w)]) rfl ?_
  refine R_zputZ (x := 1) (z := 9) rfl t0 (Or.inr rfl) rfl ?_
  show WP T N _ _ _ _ (wi h_7 w 9 1) _
  generalize e_11 : wi h_7 w 9 1 = h_10
  replace k := k h_10 e_11.symm
  refine R_ps 1 (pc2 := 22) (L2 := [some (vr (some w))]) (st2 := [vr (some w)]) rfl ?_
  refine R_getR rfl t0 ?_
  refine R_ps 1 (pc2 := 26) (L2 := [some (vr (some w))]) (st2 := [vi (J 0), vr (gr h_10 w 1)]) rfl ?_
  obtain ⟨a_14, e_15, k⟩ := k
  rw [e_15]
  obtain ⟨t_16, k⟩ := k
  obtain ⟨t_17, k⟩ := k
  refine R_ziald (i := 0) rfl (Or.inl t_16) t_17 ?_
  exact R_iret rfl rfl (R_zr (x := ai h_10 a_14 0) (K := K) (ai_in _ _ _) k)
/-- DroneCorridorsModel.restore -/
theorem z252 {T N : Nat → Nat} {h : PH} {w : Nat} {K : Int → PH → Prop} (t0 : T w = 12) (k : ((((ai h w 9) = 0 → (∀ h_4, h_4 = wi h w 0 1 → (((ai h_4 w 9) = 0 → (K 0 h_4)) ∧ (¬ ((ai h_4 w 9) = 0) → (CV T N 161 [vr (gr h_4 w 2), vr (gr h_4 w 1)] h_4 (fun h_11 => (∀ h_14, h_14 = wi h_11 w 6 0 → ∃ a_18, (gr h_14 w 1) = some a_18 ∧ T a_18 = 22 ∧ (0 ≤ (0 : Int) ∧ (0 : Int) < (N a_18 : Int) ∧ (0 : Int) < 2147483648) ∧ K (ai h_14 a_18 0) h_14))))))) ∧ (¬ ((ai h w 9) = 0) → (∀ h_25, h_25 = wi h w 0 0 → (((ai h_25 w 9) = 0 → (K 0 h_25)) ∧ (¬ ((ai h_25 w 9) = 0) → (CV T N 161 [vr (gr h_25 w 2), vr (gr h_25 w 1)] h_25 (fun h_32 => (∀ h_35, h_35 = wi h_32 w 6 0 → ∃ a_39, (gr h_35 w 1) = some a_39 ∧ T a_39 = 22 ∧ (0 ≤ (0 : Int) ∧ (0 : Int) < (N a_39 : Int) ∧ (0 : Int) < 2147483648) ∧ K (ai h_35 a_39 0) h_35)))))))))) : ZI T N 252 [vr (some w)] h K := by
  show WP T N 252 0 [some (vr (some w))] [] h _
  refine R_ps 2 (pc2 := 2) (L2 := [some (vr (some w))]) (st2 := [vr (some w), vr (some w)]) rfl ?_
  refine R_zgetZ (z := 9) rfl t0 rfl ?_
  refine R_zif0 (x := ai h w 9) rfl (ai_in _ _ _) (fun c_2 => ?_) (fun c_2 => ?_)
  · have k := k.1 c_2
    refine R_ps 1 (pc2 := 13) (L2 := [some (vr (some w))]) (st2 := [vi (J 1), vr (some w)]) rfl ?_
    refine R_zputI (x := 1) (z := 0) rfl t0 rfl ?_
    show WP T N _ _ _ _ (wi h w 0 1) _
    generalize e_5 : wi h w 0 1 = h_4
    replace k := k h_4 e_5.symm
    refine R_ps 1 (pc2 := 17) (L2 := [some (vr (some w))]) (st2 := [vr (some w)]) rfl ?_
    refine R_zgetZ (z := 9) rfl t0 rfl ?_
    refine R_zif0 (x := ai h_4 w 9) rfl (ai_in _ _ _) (fun c_7 => ?_) (fun c_7 => ?_)
    · have k := k.2 c_7
      refine R_ps 1 (pc2 := 26) (L2 := [some (vr (some w))]) (st2 := [vr (some w)]) rfl ?_
      refine R_getR rfl t0 ?_
      refine R_ps 1 (pc2 := 30) (L2 := [some (vr (some w))]) (st2 := [vr (some w), vr (gr h_4 w 2)]) rfl ?_
      refine R_getR rfl t0 ?_
      refine R_cV (as := [vr (gr h_4 w 2), vr (gr h_4 w 1)]) rfl rfl ⟨Nat.le_of_ble_eq_true rfl, Nat.le_of_ble_eq_true rfl, rfl, (Or.inl rfl)⟩ rfl rfl k (fun h_11 k => ?_)
      refine R_ps 2 (pc2 := 38) (L2 := [some (vr (some w))]) (st2 := [vi (J 0), vr (some w)]) rfl ?_
      refine R_zputI (x := 0) (z := 6) rfl t0 rfl ?_
      show WP T N _ _ _ _ (wi h_11 w 6 0) _
      generalize e_15 : wi h_11 w 6 0 = h_14
      replace k := k h_14 e_15.symm
      refine R_ps 1 (pc2 := 42) (L2 := [some (vr (some w))]) (st2 := [vr (some w)]) rfl ?_
      refine R_getR rfl t0 ?_
      refine R_ps 1 (pc2 := 46) (L2 := [some (vr (some w))]) (st2 := [vi (J 0), vr (gr h_14 w 1)]) rfl ?_
      obtain ⟨a_18, e_19, k⟩ := k
      rw [e_19]
      obtain ⟨t_20, k⟩ := k
      obtain ⟨t_21, k⟩ := k
      refine R_ziald (i := 0) rfl (Or.inl t_20) t_21 ?_
      exact R_iret rfl rfl (R_zr (x := ai h_14 a_18 0) (K := K) (ai_in _ _ _) k)
    · have k := k.1 (Classical.not_not.mp c_7)
      refine R_ps 1 (pc2 := 24) (L2 := [some (vr (some w))]) (st2 := [vi (J 0)]) rfl ?_
      exact R_iret rfl rfl (R_zr (x := 0) (K := K) (by decide) k)
  · have k := k.2 c_2
    refine R_ps 2 (pc2 := 13) (L2 := [some (vr (some w))]) (st2 := [vi (J 0), vr (some w)]) rfl ?_
    refine R_zputI (x := 0) (z := 0) rfl t0 rfl ?_
    show WP T N _ _ _ _ (wi h w 0 0) _
    generalize e_26 : wi h w 0 0 = h_25
    replace k := k h_25 e_26.symm
    refine R_ps 1 (pc2 := 17) (L2 := [some (vr (some w))]) (st2 := [vr (some w)]) rfl ?_
    refine R_zgetZ (z := 9) rfl t0 rfl ?_
    refine R_zif0 (x := ai h_25 w 9) rfl (ai_in _ _ _) (fun c_28 => ?_) (fun c_28 => ?_)
    · have k := k.2 c_28
      refine R_ps 1 (pc2 := 26) (L2 := [some (vr (some w))]) (st2 := [vr (some w)]) rfl ?_
      refine R_getR rfl t0 ?_
      refine R_ps 1 (pc2 := 30) (L2 := [some (vr (some w))]) (st2 := [vr (some w), vr (gr h_25 w 2)]) rfl ?_
      refine R_getR rfl t0 ?_
      refine R_cV (as := [vr (gr h_25 w 2), vr (gr h_25 w 1)]) rfl rfl ⟨Nat.le_of_ble_eq_true rfl, Nat.le_of_ble_eq_true rfl, rfl, (Or.inl rfl)⟩ rfl rfl k (fun h_32 k => ?_)
      refine R_ps 2 (pc2 := 38) (L2 := [some (vr (some w))]) (st2 := [vi (J 0), vr (some w)]) rfl ?_
      refine R_zputI (x := 0) (z := 6) rfl t0 rfl ?_
      show WP T N _ _ _ _ (wi h_32 w 6 0) _
      generalize e_36 : wi h_32 w 6 0 = h_35
      replace k := k h_35 e_36.symm
      refine R_ps 1 (pc2 := 42) (L2 := [some (vr (some w))]) (st2 := [vr (some w)]) rfl ?_
      refine R_getR rfl t0 ?_
      refine R_ps 1 (pc2 := 46) (L2 := [some (vr (some w))]) (st2 := [vi (J 0), vr (gr h_35 w 1)]) rfl ?_
      obtain ⟨a_39, e_40, k⟩ := k
      rw [e_40]
      obtain ⟨t_41, k⟩ := k
      obtain ⟨t_42, k⟩ := k
      refine R_ziald (i := 0) rfl (Or.inl t_41) t_42 ?_
      exact R_iret rfl rfl (R_zr (x := ai h_35 a_39 0) (K := K) (ai_in _ _ _) k)
    · have k := k.1 (Classical.not_not.mp c_28)
      refine R_ps 1 (pc2 := 24) (L2 := [some (vr (some w))]) (st2 := [vi (J 0)]) rfl ?_
      exact R_iret rfl rfl (R_zr (x := 0) (K := K) (by decide) k)
/-- java/util/Arrays.fill -/
theorem z253 {T N : Nat → Nat} {h : PH} {a0 : Nat} {y1 : Int64} {K : PH → Prop} (t0 : 21 ≤ T a0) (k : (WV T N 253 6 [some (vr (some a0)), some (vl y1), none, some (vi (J 0)), some (vi (J (N a0 : Int)))] [] h K)) : CV T N 253 [vr (some a0), vl y1] h K := by
  show WP T N 253 0 [some (vr (some a0)), some (vl y1), none, none, none] [] h _
  refine R_ps 3 (pc2 := 3) (L2 := [some (vr (some a0)), some (vl y1), none, some (vi (J 0)), none]) (st2 := [vr (some a0)]) rfl ?_
  refine R_zalen rfl t0 ?_
  refine R_ps 1 (pc2 := 6) (L2 := [some (vr (some a0)), some (vl y1), none, some (vi (J 0)), some (vi (J (N a0 : Int)))]) (st2 := []) rfl ?_
  exact k
theorem z253_6 {T N : Nat → Nat} {h : PH} {a0 : Nat} {y1 : Int64} {x3 : Int} {x4 : Int} {K : PH → Prop} (t0 : T a0 = 24) (r3 : In x3) (r4 : In x4) (k : (((x3 < x4 → ((0 ≤ x3 ∧ x3 < (N a0 : Int) ∧ x3 < 2147483648) ∧ ∀ h_4, h_4 = sL h a0 (Int.toNat x3) y1 → WV T N 253 6 [some (vr (some a0)), some (vl y1), none, some (vi (J (x3 + 1))), some (vi (J x4))] [] h_4 K)) ∧ (¬ (x3 < x4) → (K h))))) : WV T N 253 6 [some (vr (some a0)), some (vl y1), none, some (vi (J x3)), some (vi (J x4))] [] h K := by
  show WP T N 253 6 [some (vr (some a0)), some (vl y1), none, some (vi (J x3)), some (vi (J x4))] [] h _
  refine R_ps 2 (pc2 := 9) (L2 := [some (vr (some a0)), some (vl y1), none, some (vi (J x3)), some (vi (J x4))]) (st2 := [vi (J x4), vi (J x3)]) rfl ?_
  refine R_zif (x := x3) (z := x4) rfl r3 r4 (fun c_1 => ?_) (fun c_1 => ?_)
  · have k := k.2 c_1
    exact R_ret rfl rfl ⟨rfl, k⟩
  · have k := k.1 (Classical.not_not.mp c_1)
    refine R_ps 3 (pc2 := 15) (L2 := [some (vr (some a0)), some (vl y1), none, some (vi (J x3)), some (vi (J x4))]) (st2 := [vl y1, vi (J x3), vr (some a0)]) rfl ?_
    obtain ⟨t_6, k⟩ := k
    refine R_zlast (i := x3) rfl t0 t_6  ?_
    show WP T N _ _ _ _ (sL h a0 (Int.toNat x3) y1) _
    generalize e_5 : sL h a0 (Int.toNat x3) y1 = h_4
    replace k := k h_4 e_5.symm
    refine R_ps 2 (pc2 := 6) (L2 := [some (vr (some a0)), some (vl y1), none, some (vi ((J x3) + J 1)), some (vi (J x4))]) (st2 := []) rfl ?_
    rw [show ((J x3) + J 1) = J (x3 + 1) from J_add' rfl rfl]
    exact k
/-- java/util/Arrays.fill -/
theorem z254 {T N : Nat → Nat} {h : PH} {a0 : Nat} {x1 : Int} {K : PH → Prop} (t0 : 21 ≤ T a0) (r1 : In x1) (k : (WV T N 254 5 [some (vr (some a0)), some (vi (J x1)), some (vi (J 0)), some (vi (J (N a0 : Int)))] [] h K)) : CV T N 254 [vr (some a0), vi (J x1)] h K := by
  show WP T N 254 0 [some (vr (some a0)), some (vi (J x1)), none, none] [] h _
  refine R_ps 3 (pc2 := 3) (L2 := [some (vr (some a0)), some (vi (J x1)), some (vi (J 0)), none]) (st2 := [vr (some a0)]) rfl ?_
  refine R_zalen rfl t0 ?_
  refine R_ps 1 (pc2 := 5) (L2 := [some (vr (some a0)), some (vi (J x1)), some (vi (J 0)), some (vi (J (N a0 : Int)))]) (st2 := []) rfl ?_
  exact k
theorem z254_5 {T N : Nat → Nat} {h : PH} {a0 : Nat} {x1 : Int} {x2 : Int} {x3 : Int} {K : PH → Prop} (t0 : T a0 = 22) (r1 : In x1) (r2 : In x2) (r3 : In x3) (k : (((x2 < x3 → ((0 ≤ x2 ∧ x2 < (N a0 : Int) ∧ x2 < 2147483648) ∧ ∀ h_4, h_4 = wi h a0 x2 x1 → WV T N 254 5 [some (vr (some a0)), some (vi (J x1)), some (vi (J (x2 + 1))), some (vi (J x3))] [] h_4 K)) ∧ (¬ (x2 < x3) → (K h))))) : WV T N 254 5 [some (vr (some a0)), some (vi (J x1)), some (vi (J x2)), some (vi (J x3))] [] h K := by
  show WP T N 254 5 [some (vr (some a0)), some (vi (J x1)), some (vi (J x2)), some (vi (J x3))] [] h _
  refine R_ps 2 (pc2 := 7) (L2 := [some (vr (some a0)), some (vi (J x1)), some (vi (J x2)), some (vi (J x3))]) (st2 := [vi (J x3), vi (J x2)]) rfl ?_
  refine R_zif (x := x2) (z := x3) rfl r2 r3 (fun c_1 => ?_) (fun c_1 => ?_)
  · have k := k.2 c_1
    exact R_ret rfl rfl ⟨rfl, k⟩
  · have k := k.1 (Classical.not_not.mp c_1)
    refine R_ps 3 (pc2 := 13) (L2 := [some (vr (some a0)), some (vi (J x1)), some (vi (J x2)), some (vi (J x3))]) (st2 := [vi (J x1), vi (J x2), vr (some a0)]) rfl ?_
    obtain ⟨t_6, k⟩ := k
    refine R_ziast (i := x2) (x := x1) rfl t0 t_6  ?_
    show WP T N _ _ _ _ (wi h a0 x2 x1) _
    generalize e_5 : wi h a0 x2 x1 = h_4
    replace k := k h_4 e_5.symm
    refine R_ps 2 (pc2 := 5) (L2 := [some (vr (some a0)), some (vi (J x1)), some (vi ((J x2) + J 1)), some (vi (J x3))]) (st2 := []) rfl ?_
    rw [show ((J x2) + J 1) = J (x2 + 1) from J_add' rfl rfl]
    exact k
