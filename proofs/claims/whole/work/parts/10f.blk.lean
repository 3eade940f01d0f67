/-! WHAT IS TO BE SHOWN OF EACH METHOD, by program (gen_blk.py): 226 to 255 -/
/-- DroneCorridorsModel.reason -/
theorem m226 {T N : Nat → Nat} {h : PH} {w : Nat} {K : Int32 → PH → Prop} (t0 : T w = 12) (k : ((((gi h w 7) = 0 → (∀ h_9, h_9 = si h w 0 1 → K (gi h_9 w 7) h_9)) ∧ (¬ ((gi h w 7) = 0) → (∀ h_4, h_4 = si h w 0 0 → K (gi h_4 w 7) h_4))))) : CI T N 226 [vr (some w)] h K := by
  show WP T N 226 0 [some (vr (some w))] [] h _
  refine R_ps 2 (pc2 := 2) (L2 := [some (vr (some w))]) (st2 := [vr (some w), vr (some w)]) rfl ?_
  refine R_getI rfl t0 ?_
  refine R_if0 rfl (fun c_2 => ?_) (fun c_2 => ?_)
  · have k := k.2 c_2
    refine R_ps 1 (pc2 := 13) (L2 := [some (vr (some w))]) (st2 := [vi 0, vr (some w)]) rfl ?_
    refine R_putI rfl t0 ?_
    show WP T N _ _ _ _ (si h w 0 0) _
    generalize e_5 : si h w 0 0 = h_4
    replace k := k h_4 e_5.symm
    refine R_ps 1 (pc2 := 17) (L2 := [some (vr (some w))]) (st2 := [vr (some w)]) rfl ?_
    refine R_getI rfl t0 ?_
    exact R_iret rfl rfl ⟨_, rfl, k⟩
  · have k := k.1 (Classical.not_not.mp c_2)
    refine R_ps 2 (pc2 := 13) (L2 := [some (vr (some w))]) (st2 := [vi 1, vr (some w)]) rfl ?_
    refine R_putI rfl t0 ?_
    show WP T N _ _ _ _ (si h w 0 1) _
    generalize e_10 : si h w 0 1 = h_9
    replace k := k h_9 e_10.symm
    refine R_ps 1 (pc2 := 17) (L2 := [some (vr (some w))]) (st2 := [vr (some w)]) rfl ?_
    refine R_getI rfl t0 ?_
    exact R_iret rfl rfl ⟨_, rfl, k⟩
/-- DroneCorridorsModel.starts -/
theorem m227 {T N : Nat → Nat} {h : PH} {w : Nat} {x1 : Int32} {K : PH → Prop} (t0 : T w = 12) (k : (CI T N 186 [vr (some w), vi x1, vi 0] h (fun x_3 h_2 => (CI T N 189 [vi x_3] h_2 (fun x_6 h_5 => (CI T N 168 [vr (some w), vi x1, vi 2] h_5 (fun x_9 h_8 => (CI T N 159 [vi (x_6 - x_9)] h_8 (fun x_12 h_11 => (CI T N 187 [vi x_3] h_11 (fun x_15 h_14 => (CI T N 188 [vi x_3] h_14 (fun x_18 h_17 => (CI T N 167 [vr (some w), vi x_15, vi x_18] h_17 (fun x_21 h_20 => (CI T N 168 [vr (some w), vi x1, vi 1] h_20 (fun x_24 h_23 => (((x_24 < (x_12 + x_21) → (CV T N 169 [vr (some w), vi x1, vi 5, vi 0] h_23 (fun h_73 => (CV T N 169 [vr (some w), vi x1, vi 4, vi (-1)] h_73 (fun h_76 => (K h_76)))))) ∧ (¬ (x_24 < (x_12 + x_21)) → (CI T N 168 [vr (some w), vi x1, vi 1] h_23 (fun x_28 h_27 => (CV T N 169 [vr (some w), vi x1, vi 1, vi ((x_28 - x_12) - x_21)] h_27 (fun h_30 => (CI T N 168 [vr (some w), vi x1, vi 7] h_30 (fun x_34 h_33 => (CV T N 169 [vr (some w), vi x1, vi 7, vi (x_34 + x_21)] h_33 (fun h_36 => (CI T N 168 [vr (some w), vi x1, vi 8] h_36 (fun x_40 h_39 => (CV T N 169 [vr (some w), vi x1, vi 8, vi (x_40 + x_12)] h_39 (fun h_42 => (CI T N 168 [vr (some w), vi x1, vi 11] h_42 (fun x_46 h_45 => (CV T N 169 [vr (some w), vi x1, vi 11, vi (x_46 + 1)] h_45 (fun h_48 => (CV T N 169 [vr (some w), vi x1, vi 0, vi 2] h_48 (fun h_51 => (CI T N 189 [vi x_3] h_51 (fun x_55 h_54 => (CV T N 169 [vr (some w), vi x1, vi 2, vi x_55] h_54 (fun h_57 => (CI T N 187 [vi x_3] h_57 (fun x_61 h_60 => (CI T N 188 [vi x_3] h_60 (fun x_64 h_63 => (CI T N 165 [vr (some w), vi x_61, vi (1 - x_64)] h_63 (fun x_67 h_66 => (CV T N 169 [vr (some w), vi x1, vi 3, vi x_67] h_66 (fun h_69 => (K h_69))))))))))))))))))))))))))))))))))))))))))))))))))) : CV T N 227 [vr (some w), vi x1] h K := by
  show WP T N 227 0 [some (vr (some w)), some (vi x1), none, none, none] [] h _
  refine R_ps 3 (pc2 := 3) (L2 := [some (vr (some w)), some (vi x1), none, none, none]) (st2 := [vi 0, vi x1, vr (some w)]) rfl ?_
  refine R_cI (as := [vr (some w), vi x1, vi 0]) rfl rfl ⟨Nat.le_of_ble_eq_true rfl, Nat.le_of_ble_eq_true rfl, rfl, (Or.inr ⟨_, rfl, t0⟩)⟩ rfl rfl k (fun x_3 h_2 k => ?_)
  refine R_ps 2 (pc2 := 8) (L2 := [some (vr (some w)), some (vi x1), some (vi x_3), none, none]) (st2 := [vi x_3]) rfl ?_
  refine R_cI (as := [vi x_3]) rfl rfl ⟨Nat.le_of_ble_eq_true rfl, Nat.le_of_ble_eq_true rfl, rfl, (Or.inl rfl)⟩ rfl rfl k (fun x_6 h_5 k => ?_)
  refine R_ps 3 (pc2 := 14) (L2 := [some (vr (some w)), some (vi x1), some (vi x_3), none, none]) (st2 := [vi 2, vi x1, vr (some w), vi x_6]) rfl ?_
  refine R_cI (as := [vr (some w), vi x1, vi 2]) rfl rfl ⟨Nat.le_of_ble_eq_true rfl, Nat.le_of_ble_eq_true rfl, rfl, (Or.inr ⟨_, rfl, t0⟩)⟩ rfl rfl k (fun x_9 h_8 k => ?_)
  refine R_ps 1 (pc2 := 18) (L2 := [some (vr (some w)), some (vi x1), some (vi x_3), none, none]) (st2 := [vi (x_6 - x_9)]) rfl ?_
  refine R_cI (as := [vi (x_6 - x_9)]) rfl rfl ⟨Nat.le_of_ble_eq_true rfl, Nat.le_of_ble_eq_true rfl, rfl, (Or.inl rfl)⟩ rfl rfl k (fun x_12 h_11 k => ?_)
  refine R_ps 3 (pc2 := 24) (L2 := [some (vr (some w)), some (vi x1), some (vi x_3), some (vi x_12), none]) (st2 := [vi x_3, vr (some w)]) rfl ?_
  refine R_cI (as := [vi x_3]) rfl rfl ⟨Nat.le_of_ble_eq_true rfl, Nat.le_of_ble_eq_true rfl, rfl, (Or.inl rfl)⟩ rfl rfl k (fun x_15 h_14 k => ?_)
  refine R_ps 1 (pc2 := 28) (L2 := [some (vr (some w)), some (vi x1), some (vi x_3), some (vi x_12), none]) (st2 := [vi x_3, vi x_15, vr (some w)]) rfl ?_
  refine R_cI (as := [vi x_3]) rfl rfl ⟨Nat.le_of_ble_eq_true rfl, Nat.le_of_ble_eq_true rfl, rfl, (Or.inl rfl)⟩ rfl rfl k (fun x_18 h_17 k => ?_)
  refine R_cI (as := [vr (some w), vi x_15, vi x_18]) rfl rfl ⟨Nat.le_of_ble_eq_true rfl, Nat.le_of_ble_eq_true rfl, rfl, (Or.inr ⟨_, rfl, t0⟩)⟩ rfl rfl k (fun x_21 h_20 k => ?_)
  refine R_ps 4 (pc2 := 39) (L2 := [some (vr (some w)), some (vi x1), some (vi x_3), some (vi x_12), some (vi x_21)]) (st2 := [vi 1, vi x1, vr (some w)]) rfl ?_
  refine R_cI (as := [vr (some w), vi x1, vi 1]) rfl rfl ⟨Nat.le_of_ble_eq_true rfl, Nat.le_of_ble_eq_true rfl, rfl, (Or.inr ⟨_, rfl, t0⟩)⟩ rfl rfl k (fun x_24 h_23 k => ?_)
  refine R_ps 3 (pc2 := 46) (L2 := [some (vr (some w)), some (vi x1), some (vi x_3), some (vi x_12), some (vi x_21)]) (st2 := [vi (x_12 + x_21), vi x_24]) rfl ?_
  refine R_if rfl (fun c_25 => ?_) (fun c_25 => ?_)
  · have k := k.2 (i32_nlt c_25)
    refine R_ps 6 (pc2 := 70) (L2 := [some (vr (some w)), some (vi x1), some (vi x_3), some (vi x_12), some (vi x_21)]) (st2 := [vi 1, vi x1, vr (some w), vi 1, vi x1, vr (some w)]) rfl ?_
    refine R_cI (as := [vr (some w), vi x1, vi 1]) rfl rfl ⟨Nat.le_of_ble_eq_true rfl, Nat.le_of_ble_eq_true rfl, rfl, (Or.inr ⟨_, rfl, t0⟩)⟩ rfl rfl k (fun x_28 h_27 k => ?_)
    refine R_ps 4 (pc2 := 78) (L2 := [some (vr (some w)), some (vi x1), some (vi x_3), some (vi x_12), some (vi x_21)]) (st2 := [vi ((x_28 - x_12) - x_21), vi 1, vi x1, vr (some w)]) rfl ?_
    refine R_cV (as := [vr (some w), vi x1, vi 1, vi ((x_28 - x_12) - x_21)]) rfl rfl ⟨Nat.le_of_ble_eq_true rfl, Nat.le_of_ble_eq_true rfl, rfl, (Or.inr ⟨_, rfl, t0⟩)⟩ rfl rfl k (fun h_30 k => ?_)
    refine R_ps 6 (pc2 := 89) (L2 := [some (vr (some w)), some (vi x1), some (vi x_3), some (vi x_12), some (vi x_21)]) (st2 := [vi 7, vi x1, vr (some w), vi 7, vi x1, vr (some w)]) rfl ?_
    refine R_cI (as := [vr (some w), vi x1, vi 7]) rfl rfl ⟨Nat.le_of_ble_eq_true rfl, Nat.le_of_ble_eq_true rfl, rfl, (Or.inr ⟨_, rfl, t0⟩)⟩ rfl rfl k (fun x_34 h_33 k => ?_)
    refine R_ps 2 (pc2 := 95) (L2 := [some (vr (some w)), some (vi x1), some (vi x_3), some (vi x_12), some (vi x_21)]) (st2 := [vi (x_34 + x_21), vi 7, vi x1, vr (some w)]) rfl ?_
    refine R_cV (as := [vr (some w), vi x1, vi 7, vi (x_34 + x_21)]) rfl rfl ⟨Nat.le_of_ble_eq_true rfl, Nat.le_of_ble_eq_true rfl, rfl, (Or.inr ⟨_, rfl, t0⟩)⟩ rfl rfl k (fun h_36 k => ?_)
    refine R_ps 6 (pc2 := 106) (L2 := [some (vr (some w)), some (vi x1), some (vi x_3), some (vi x_12), some (vi x_21)]) (st2 := [vi 8, vi x1, vr (some w), vi 8, vi x1, vr (some w)]) rfl ?_
    refine R_cI (as := [vr (some w), vi x1, vi 8]) rfl rfl ⟨Nat.le_of_ble_eq_true rfl, Nat.le_of_ble_eq_true rfl, rfl, (Or.inr ⟨_, rfl, t0⟩)⟩ rfl rfl k (fun x_40 h_39 k => ?_)
    refine R_ps 2 (pc2 := 111) (L2 := [some (vr (some w)), some (vi x1), some (vi x_3), some (vi x_12), some (vi x_21)]) (st2 := [vi (x_40 + x_12), vi 8, vi x1, vr (some w)]) rfl ?_
    refine R_cV (as := [vr (some w), vi x1, vi 8, vi (x_40 + x_12)]) rfl rfl ⟨Nat.le_of_ble_eq_true rfl, Nat.le_of_ble_eq_true rfl, rfl, (Or.inr ⟨_, rfl, t0⟩)⟩ rfl rfl k (fun h_42 k => ?_)
    refine R_ps 6 (pc2 := 122) (L2 := [some (vr (some w)), some (vi x1), some (vi x_3), some (vi x_12), some (vi x_21)]) (st2 := [vi 11, vi x1, vr (some w), vi 11, vi x1, vr (some w)]) rfl ?_
    refine R_cI (as := [vr (some w), vi x1, vi 11]) rfl rfl ⟨Nat.le_of_ble_eq_true rfl, Nat.le_of_ble_eq_true rfl, rfl, (Or.inr ⟨_, rfl, t0⟩)⟩ rfl rfl k (fun x_46 h_45 k => ?_)
    refine R_ps 2 (pc2 := 127) (L2 := [some (vr (some w)), some (vi x1), some (vi x_3), some (vi x_12), some (vi x_21)]) (st2 := [vi (x_46 + 1), vi 11, vi x1, vr (some w)]) rfl ?_
    refine R_cV (as := [vr (some w), vi x1, vi 11, vi (x_46 + 1)]) rfl rfl ⟨Nat.le_of_ble_eq_true rfl, Nat.le_of_ble_eq_true rfl, rfl, (Or.inr ⟨_, rfl, t0⟩)⟩ rfl rfl k (fun h_48 k => ?_)
    refine R_ps 4 (pc2 := 134) (L2 := [some (vr (some w)), some (vi x1), some (vi x_3), some (vi x_12), some (vi x_21)]) (st2 := [vi 2, vi 0, vi x1, vr (some w)]) rfl ?_
    refine R_cV (as := [vr (some w), vi x1, vi 0, vi 2]) rfl rfl ⟨Nat.le_of_ble_eq_true rfl, Nat.le_of_ble_eq_true rfl, rfl, (Or.inr ⟨_, rfl, t0⟩)⟩ rfl rfl k (fun h_51 k => ?_)
    refine R_ps 4 (pc2 := 141) (L2 := [some (vr (some w)), some (vi x1), some (vi x_3), some (vi x_12), some (vi x_21)]) (st2 := [vi x_3, vi 2, vi x1, vr (some w)]) rfl ?_
    refine R_cI (as := [vi x_3]) rfl rfl ⟨Nat.le_of_ble_eq_true rfl, Nat.le_of_ble_eq_true rfl, rfl, (Or.inl rfl)⟩ rfl rfl k (fun x_55 h_54 k => ?_)
    refine R_cV (as := [vr (some w), vi x1, vi 2, vi x_55]) rfl rfl ⟨Nat.le_of_ble_eq_true rfl, Nat.le_of_ble_eq_true rfl, rfl, (Or.inr ⟨_, rfl, t0⟩)⟩ rfl rfl k (fun h_57 k => ?_)
    refine R_ps 5 (pc2 := 152) (L2 := [some (vr (some w)), some (vi x1), some (vi x_3), some (vi x_12), some (vi x_21)]) (st2 := [vi x_3, vr (some w), vi 3, vi x1, vr (some w)]) rfl ?_
    refine R_cI (as := [vi x_3]) rfl rfl ⟨Nat.le_of_ble_eq_true rfl, Nat.le_of_ble_eq_true rfl, rfl, (Or.inl rfl)⟩ rfl rfl k (fun x_61 h_60 k => ?_)
    refine R_ps 2 (pc2 := 157) (L2 := [some (vr (some w)), some (vi x1), some (vi x_3), some (vi x_12), some (vi x_21)]) (st2 := [vi x_3, vi 1, vi x_61, vr (some w), vi 3, vi x1, vr (some w)]) rfl ?_
    refine R_cI (as := [vi x_3]) rfl rfl ⟨Nat.le_of_ble_eq_true rfl, Nat.le_of_ble_eq_true rfl, rfl, (Or.inl rfl)⟩ rfl rfl k (fun x_64 h_63 k => ?_)
    refine R_ps 1 (pc2 := 161) (L2 := [some (vr (some w)), some (vi x1), some (vi x_3), some (vi x_12), some (vi x_21)]) (st2 := [vi (1 - x_64), vi x_61, vr (some w), vi 3, vi x1, vr (some w)]) rfl ?_
    refine R_cI (as := [vr (some w), vi x_61, vi (1 - x_64)]) rfl rfl ⟨Nat.le_of_ble_eq_true rfl, Nat.le_of_ble_eq_true rfl, rfl, (Or.inr ⟨_, rfl, t0⟩)⟩ rfl rfl k (fun x_67 h_66 k => ?_)
    refine R_cV (as := [vr (some w), vi x1, vi 3, vi x_67]) rfl rfl ⟨Nat.le_of_ble_eq_true rfl, Nat.le_of_ble_eq_true rfl, rfl, (Or.inr ⟨_, rfl, t0⟩)⟩ rfl rfl k (fun h_69 k => ?_)
    exact R_ret rfl rfl ⟨rfl, k⟩
  · have k := k.1 (i32_lt c_25)
    refine R_ps 4 (pc2 := 53) (L2 := [some (vr (some w)), some (vi x1), some (vi x_3), some (vi x_12), some (vi x_21)]) (st2 := [vi 0, vi 5, vi x1, vr (some w)]) rfl ?_
    refine R_cV (as := [vr (some w), vi x1, vi 5, vi 0]) rfl rfl ⟨Nat.le_of_ble_eq_true rfl, Nat.le_of_ble_eq_true rfl, rfl, (Or.inr ⟨_, rfl, t0⟩)⟩ rfl rfl k (fun h_73 k => ?_)
    refine R_ps 4 (pc2 := 60) (L2 := [some (vr (some w)), some (vi x1), some (vi x_3), some (vi x_12), some (vi x_21)]) (st2 := [vi (-1), vi 4, vi x1, vr (some w)]) rfl ?_
    refine R_cV (as := [vr (some w), vi x1, vi 4, vi (-1)]) rfl rfl ⟨Nat.le_of_ble_eq_true rfl, Nat.le_of_ble_eq_true rfl, rfl, (Or.inr ⟨_, rfl, t0⟩)⟩ rfl rfl k (fun h_76 k => ?_)
    exact R_ret rfl rfl ⟨rfl, k⟩
/-- DroneCorridorsModel.ends -/
theorem m228 {T N : Nat → Nat} {h : PH} {w : Nat} {x1 : Int32} {K : PH → Prop} (t0 : T w = 12) (k : (CI T N 186 [vr (some w), vi x1, vi 0] h (fun x_3 h_2 => (CI T N 191 [vr (some w), vi x_3] h_2 (fun x_6 h_5 => (∃ a_9, (gr h_5 w 1) = some a_9 ∧ T a_9 = 22 ∧ inb 448 (N a_9) ∧ ((x_6 = (gi h_5 a_9 448) → (CI T N 168 [vr (some w), vi x1, vi 5] h_5 (fun x_16 h_15 => (CV T N 169 [vr (some w), vi x1, vi 5, vi (x_16 - 1)] h_15 (fun h_18 => (WV T N 228 38 [some (vr (some w)), some (vi x1), some (vi 0)] [] h_18 K)))))) ∧ (¬ (x_6 = (gi h_5 a_9 448)) → (K h_5))))))))) : CV T N 228 [vr (some w), vi x1] h K := by
  show WP T N 228 0 [some (vr (some w)), some (vi x1), none] [] h _
  refine R_ps 4 (pc2 := 4) (L2 := [some (vr (some w)), some (vi x1), none]) (st2 := [vi 0, vi x1, vr (some w), vr (some w)]) rfl ?_
  refine R_cI (as := [vr (some w), vi x1, vi 0]) rfl rfl ⟨Nat.le_of_ble_eq_true rfl, Nat.le_of_ble_eq_true rfl, rfl, (Or.inr ⟨_, rfl, t0⟩)⟩ rfl rfl k (fun x_3 h_2 k => ?_)
  refine R_cI (as := [vr (some w), vi x_3]) rfl rfl ⟨Nat.le_of_ble_eq_true rfl, Nat.le_of_ble_eq_true rfl, rfl, (Or.inr ⟨_, rfl, t0⟩)⟩ rfl rfl k (fun x_6 h_5 k => ?_)
  refine R_ps 1 (pc2 := 11) (L2 := [some (vr (some w)), some (vi x1), none]) (st2 := [vr (some w), vi x_6]) rfl ?_
  refine R_getR rfl t0 ?_
  refine R_ps 1 (pc2 := 17) (L2 := [some (vr (some w)), some (vi x1), none]) (st2 := [vi 448, vr (gr h_5 w 1), vi x_6]) rfl ?_
  obtain ⟨a_9, e_10, k⟩ := k
  rw [e_10]
  obtain ⟨t_11, k⟩ := k
  obtain ⟨t_12, k⟩ := k
  refine R_iald rfl (Or.inl t_11) t_12 ?_
  refine R_if rfl (fun c_13 => ?_) (fun c_13 => ?_)
  · have k := k.1 c_13
    refine R_ps 6 (pc2 := 28) (L2 := [some (vr (some w)), some (vi x1), none]) (st2 := [vi 5, vi x1, vr (some w), vi 5, vi x1, vr (some w)]) rfl ?_
    refine R_cI (as := [vr (some w), vi x1, vi 5]) rfl rfl ⟨Nat.le_of_ble_eq_true rfl, Nat.le_of_ble_eq_true rfl, rfl, (Or.inr ⟨_, rfl, t0⟩)⟩ rfl rfl k (fun x_16 h_15 k => ?_)
    refine R_ps 2 (pc2 := 33) (L2 := [some (vr (some w)), some (vi x1), none]) (st2 := [vi (x_16 - 1), vi 5, vi x1, vr (some w)]) rfl ?_
    refine R_cV (as := [vr (some w), vi x1, vi 5, vi (x_16 - 1)]) rfl rfl ⟨Nat.le_of_ble_eq_true rfl, Nat.le_of_ble_eq_true rfl, rfl, (Or.inr ⟨_, rfl, t0⟩)⟩ rfl rfl k (fun h_18 k => ?_)
    refine R_ps 2 (pc2 := 38) (L2 := [some (vr (some w)), some (vi x1), some (vi 0)]) (st2 := []) rfl ?_
    exact k
  · have k := k.2 c_13
    exact R_ret rfl rfl ⟨rfl, k⟩
theorem m228_38 {T N : Nat → Nat} {h : PH} {w : Nat} {x1 : Int32} {x2 : Int32} {K : PH → Prop} (t0 : T w = 12) (k : (CI T N 168 [vr (some w), vi x1, vi 5] h (fun x_3 h_2 => (((x2 < x_3 → (CI T N 186 [vr (some w), vi x1, vi (x2 + 1)] h_2 (fun x_42 h_41 => (CV T N 169 [vr (some w), vi x1, vi (13 + x2), vi x_42] h_41 (fun h_44 => (WV T N 228 38 [some (vr (some w)), some (vi x1), some (vi (x2 + 1))] [] h_44 K)))))) ∧ (¬ (x2 < x_3) → (CV T N 169 [vr (some w), vi x1, vi 0, vi 1] h_2 (fun h_6 => (CI T N 168 [vr (some w), vi x1, vi 5] h_6 (fun x_10 h_9 => (((0 < x_10 → (K h_9)) ∧ (¬ (0 < x_10) → (CI T N 168 [vr (some w), vi x1, vi 3] h_9 (fun x_15 h_14 => (CI T N 168 [vr (some w), vi x1, vi 4] h_14 (fun x_18 h_17 => (((x_15 = x_18 → (CI T N 168 [vr (some w), vi x1, vi 3] h_17 (fun x_24 h_23 => (∃ a_26, (gr h_17 w 1) = some a_26 ∧ T a_26 = 22 ∧ inb (1 + x_24) (N a_26) ∧ (((gi h_23 a_26 (Int32.toNatClampNeg (1 + x_24))) = 0 → (K h_23)) ∧ (¬ ((gi h_23 a_26 (Int32.toNatClampNeg (1 + x_24))) = 0) → (CV T N 214 [vr (some w), vi x1] h_23 (fun h_32 => (∀ h_36, h_36 = si h_32 w 23 ((gi h_32 w 23) + 1) → K h_36))))))))) ∧ (¬ (x_15 = x_18) → (K h_17))))))))))))))))))))) : WV T N 228 38 [some (vr (some w)), some (vi x1), some (vi x2)] [] h K := by
  show WP T N 228 38 [some (vr (some w)), some (vi x1), some (vi x2)] [] h _
  refine R_ps 4 (pc2 := 42) (L2 := [some (vr (some w)), some (vi x1), some (vi x2)]) (st2 := [vi 5, vi x1, vr (some w), vi x2]) rfl ?_
  refine R_cI (as := [vr (some w), vi x1, vi 5]) rfl rfl ⟨Nat.le_of_ble_eq_true rfl, Nat.le_of_ble_eq_true rfl, rfl, (Or.inr ⟨_, rfl, t0⟩)⟩ rfl rfl k (fun x_3 h_2 k => ?_)
  refine R_if rfl (fun c_4 => ?_) (fun c_4 => ?_)
  · have k := k.2 (i32_nlt c_4)
    refine R_ps 4 (pc2 := 75) (L2 := [some (vr (some w)), some (vi x1), some (vi x2)]) (st2 := [vi 1, vi 0, vi x1, vr (some w)]) rfl ?_
    refine R_cV (as := [vr (some w), vi x1, vi 0, vi 1]) rfl rfl ⟨Nat.le_of_ble_eq_true rfl, Nat.le_of_ble_eq_true rfl, rfl, (Or.inr ⟨_, rfl, t0⟩)⟩ rfl rfl k (fun h_6 k => ?_)
    refine R_ps 3 (pc2 := 81) (L2 := [some (vr (some w)), some (vi x1), some (vi x2)]) (st2 := [vi 5, vi x1, vr (some w)]) rfl ?_
    refine R_cI (as := [vr (some w), vi x1, vi 5]) rfl rfl ⟨Nat.le_of_ble_eq_true rfl, Nat.le_of_ble_eq_true rfl, rfl, (Or.inr ⟨_, rfl, t0⟩)⟩ rfl rfl k (fun x_10 h_9 k => ?_)
    refine R_if0 rfl (fun c_11 => ?_) (fun c_11 => ?_)
    · have k := k.1 c_11
      exact R_ret rfl rfl ⟨rfl, k⟩
    · have k := k.2 c_11
      refine R_ps 3 (pc2 := 90) (L2 := [some (vr (some w)), some (vi x1), some (vi x2)]) (st2 := [vi 3, vi x1, vr (some w)]) rfl ?_
      refine R_cI (as := [vr (some w), vi x1, vi 3]) rfl rfl ⟨Nat.le_of_ble_eq_true rfl, Nat.le_of_ble_eq_true rfl, rfl, (Or.inr ⟨_, rfl, t0⟩)⟩ rfl rfl k (fun x_15 h_14 k => ?_)
      refine R_ps 3 (pc2 := 96) (L2 := [some (vr (some w)), some (vi x1), some (vi x2)]) (st2 := [vi 4, vi x1, vr (some w), vi x_15]) rfl ?_
      refine R_cI (as := [vr (some w), vi x1, vi 4]) rfl rfl ⟨Nat.le_of_ble_eq_true rfl, Nat.le_of_ble_eq_true rfl, rfl, (Or.inr ⟨_, rfl, t0⟩)⟩ rfl rfl k (fun x_18 h_17 k => ?_)
      refine R_if rfl (fun c_19 => ?_) (fun c_19 => ?_)
      · have k := k.2 c_19
        exact R_ret rfl rfl ⟨rfl, k⟩
      · have k := k.1 (Classical.not_not.mp c_19)
        refine R_ps 1 (pc2 := 103) (L2 := [some (vr (some w)), some (vi x1), some (vi x2)]) (st2 := [vr (some w)]) rfl ?_
        refine R_getR rfl t0 ?_
        refine R_ps 4 (pc2 := 110) (L2 := [some (vr (some w)), some (vi x1), some (vi x2)]) (st2 := [vi 3, vi x1, vr (some w), vi 1, vr (gr h_17 w 1)]) rfl ?_
        refine R_cI (as := [vr (some w), vi x1, vi 3]) rfl rfl ⟨Nat.le_of_ble_eq_true rfl, Nat.le_of_ble_eq_true rfl, rfl, (Or.inr ⟨_, rfl, t0⟩)⟩ rfl rfl k (fun x_24 h_23 k => ?_)
        refine R_ps 1 (pc2 := 114) (L2 := [some (vr (some w)), some (vi x1), some (vi x2)]) (st2 := [vi (1 + x_24), vr (gr h_17 w 1)]) rfl ?_
        obtain ⟨a_26, e_27, k⟩ := k
        rw [e_27]
        obtain ⟨t_28, k⟩ := k
        obtain ⟨t_29, k⟩ := k
        refine R_iald rfl (Or.inl t_28) t_29 ?_
        refine R_if0 rfl (fun c_30 => ?_) (fun c_30 => ?_)
        · have k := k.2 c_30
          refine R_ps 2 (pc2 := 121) (L2 := [some (vr (some w)), some (vi x1), some (vi x2)]) (st2 := [vi x1, vr (some w)]) rfl ?_
          refine R_cV (as := [vr (some w), vi x1]) rfl rfl ⟨Nat.le_of_ble_eq_true rfl, Nat.le_of_ble_eq_true rfl, rfl, (Or.inr ⟨_, rfl, t0⟩)⟩ rfl rfl k (fun h_32 k => ?_)
          refine R_ps 2 (pc2 := 126) (L2 := [some (vr (some w)), some (vi x1), some (vi x2)]) (st2 := [vr (some w), vr (some w)]) rfl ?_
          refine R_getI rfl t0 ?_
          refine R_ps 2 (pc2 := 131) (L2 := [some (vr (some w)), some (vi x1), some (vi x2)]) (st2 := [vi ((gi h_32 w 23) + 1), vr (some w)]) rfl ?_
          refine R_putI rfl t0 ?_
          show WP T N _ _ _ _ (si h_32 w 23 ((gi h_32 w 23) + 1)) _
          generalize e_37 : si h_32 w 23 ((gi h_32 w 23) + 1) = h_36
          replace k := k h_36 e_37.symm
          exact R_ret rfl rfl ⟨rfl, k⟩
        · have k := k.1 (Classical.not_not.mp c_30)
          exact R_ret rfl rfl ⟨rfl, k⟩
  · have k := k.1 (i32_lt c_4)
    refine R_ps 10 (pc2 := 59) (L2 := [some (vr (some w)), some (vi x1), some (vi x2)]) (st2 := [vi (x2 + 1), vi x1, vr (some w), vi (13 + x2), vi x1, vr (some w)]) rfl ?_
    refine R_cI (as := [vr (some w), vi x1, vi (x2 + 1)]) rfl rfl ⟨Nat.le_of_ble_eq_true rfl, Nat.le_of_ble_eq_true rfl, rfl, (Or.inr ⟨_, rfl, t0⟩)⟩ rfl rfl k (fun x_42 h_41 k => ?_)
    refine R_cV (as := [vr (some w), vi x1, vi (13 + x2), vi x_42]) rfl rfl ⟨Nat.le_of_ble_eq_true rfl, Nat.le_of_ble_eq_true rfl, rfl, (Or.inr ⟨_, rfl, t0⟩)⟩ rfl rfl k (fun h_44 k => ?_)
    refine R_ps 2 (pc2 := 38) (L2 := [some (vr (some w)), some (vi x1), some (vi (x2 + 1))]) (st2 := []) rfl ?_
    exact k
/-- DroneCorridorsModel.hovers -/
theorem m229 {T N : Nat → Nat} {h : PH} {w : Nat} {x1 : Int32} {K : PH → Prop} (t0 : T w = 12) (k : (CI T N 168 [vr (some w), vi x1, vi 1] h (fun x_3 h_2 => (((0 < x_3 → (CI T N 168 [vr (some w), vi x1, vi 1] h_2 (fun x_16 h_15 => (CV T N 169 [vr (some w), vi x1, vi 1, vi (x_16 - 1)] h_15 (fun h_18 => (CI T N 168 [vr (some w), vi x1, vi 9] h_18 (fun x_22 h_21 => (CV T N 169 [vr (some w), vi x1, vi 9, vi (x_22 + 1)] h_21 (fun h_24 => (CI T N 168 [vr (some w), vi x1, vi 1] h_24 (fun x_28 h_27 => (((x_28 = 0 → (CV T N 220 [vr (some w), vi x1] h_27 (fun h_32 => (K h_32)))) ∧ (¬ (x_28 = 0) → (K h_27))))))))))))))) ∧ (¬ (0 < x_3) → (CI T N 168 [vr (some w), vi x1, vi 1] h_2 (fun x_7 h_6 => (((x_7 = 0 → (CV T N 220 [vr (some w), vi x1] h_6 (fun h_11 => (K h_11)))) ∧ (¬ (x_7 = 0) → (K h_6)))))))))))) : CV T N 229 [vr (some w), vi x1] h K := by
  show WP T N 229 0 [some (vr (some w)), some (vi x1)] [] h _
  refine R_ps 3 (pc2 := 3) (L2 := [some (vr (some w)), some (vi x1)]) (st2 := [vi 1, vi x1, vr (some w)]) rfl ?_
  refine R_cI (as := [vr (some w), vi x1, vi 1]) rfl rfl ⟨Nat.le_of_ble_eq_true rfl, Nat.le_of_ble_eq_true rfl, rfl, (Or.inr ⟨_, rfl, t0⟩)⟩ rfl rfl k (fun x_3 h_2 k => ?_)
  refine R_if0 rfl (fun c_4 => ?_) (fun c_4 => ?_)
  · have k := k.2 (i32_nlt c_4)
    refine R_ps 3 (pc2 := 42) (L2 := [some (vr (some w)), some (vi x1)]) (st2 := [vi 1, vi x1, vr (some w)]) rfl ?_
    refine R_cI (as := [vr (some w), vi x1, vi 1]) rfl rfl ⟨Nat.le_of_ble_eq_true rfl, Nat.le_of_ble_eq_true rfl, rfl, (Or.inr ⟨_, rfl, t0⟩)⟩ rfl rfl k (fun x_7 h_6 k => ?_)
    refine R_if0 rfl (fun c_8 => ?_) (fun c_8 => ?_)
    · have k := k.2 c_8
      exact R_ret rfl rfl ⟨rfl, k⟩
    · have k := k.1 (Classical.not_not.mp c_8)
      refine R_ps 2 (pc2 := 50) (L2 := [some (vr (some w)), some (vi x1)]) (st2 := [vi x1, vr (some w)]) rfl ?_
      refine R_cV (as := [vr (some w), vi x1]) rfl rfl ⟨Nat.le_of_ble_eq_true rfl, Nat.le_of_ble_eq_true rfl, rfl, (Or.inr ⟨_, rfl, t0⟩)⟩ rfl rfl k (fun h_11 k => ?_)
      exact R_ret rfl rfl ⟨rfl, k⟩
  · have k := k.1 (i32_lt c_4)
    refine R_ps 6 (pc2 := 15) (L2 := [some (vr (some w)), some (vi x1)]) (st2 := [vi 1, vi x1, vr (some w), vi 1, vi x1, vr (some w)]) rfl ?_
    refine R_cI (as := [vr (some w), vi x1, vi 1]) rfl rfl ⟨Nat.le_of_ble_eq_true rfl, Nat.le_of_ble_eq_true rfl, rfl, (Or.inr ⟨_, rfl, t0⟩)⟩ rfl rfl k (fun x_16 h_15 k => ?_)
    refine R_ps 2 (pc2 := 20) (L2 := [some (vr (some w)), some (vi x1)]) (st2 := [vi (x_16 - 1), vi 1, vi x1, vr (some w)]) rfl ?_
    refine R_cV (as := [vr (some w), vi x1, vi 1, vi (x_16 - 1)]) rfl rfl ⟨Nat.le_of_ble_eq_true rfl, Nat.le_of_ble_eq_true rfl, rfl, (Or.inr ⟨_, rfl, t0⟩)⟩ rfl rfl k (fun h_18 k => ?_)
    refine R_ps 6 (pc2 := 31) (L2 := [some (vr (some w)), some (vi x1)]) (st2 := [vi 9, vi x1, vr (some w), vi 9, vi x1, vr (some w)]) rfl ?_
    refine R_cI (as := [vr (some w), vi x1, vi 9]) rfl rfl ⟨Nat.le_of_ble_eq_true rfl, Nat.le_of_ble_eq_true rfl, rfl, (Or.inr ⟨_, rfl, t0⟩)⟩ rfl rfl k (fun x_22 h_21 k => ?_)
    refine R_ps 2 (pc2 := 36) (L2 := [some (vr (some w)), some (vi x1)]) (st2 := [vi (x_22 + 1), vi 9, vi x1, vr (some w)]) rfl ?_
    refine R_cV (as := [vr (some w), vi x1, vi 9, vi (x_22 + 1)]) rfl rfl ⟨Nat.le_of_ble_eq_true rfl, Nat.le_of_ble_eq_true rfl, rfl, (Or.inr ⟨_, rfl, t0⟩)⟩ rfl rfl k (fun h_24 k => ?_)
    refine R_ps 3 (pc2 := 42) (L2 := [some (vr (some w)), some (vi x1)]) (st2 := [vi 1, vi x1, vr (some w)]) rfl ?_
    refine R_cI (as := [vr (some w), vi x1, vi 1]) rfl rfl ⟨Nat.le_of_ble_eq_true rfl, Nat.le_of_ble_eq_true rfl, rfl, (Or.inr ⟨_, rfl, t0⟩)⟩ rfl rfl k (fun x_28 h_27 k => ?_)
    refine R_if0 rfl (fun c_29 => ?_) (fun c_29 => ?_)
    · have k := k.2 c_29
      exact R_ret rfl rfl ⟨rfl, k⟩
    · have k := k.1 (Classical.not_not.mp c_29)
      refine R_ps 2 (pc2 := 50) (L2 := [some (vr (some w)), some (vi x1)]) (st2 := [vi x1, vr (some w)]) rfl ?_
      refine R_cV (as := [vr (some w), vi x1]) rfl rfl ⟨Nat.le_of_ble_eq_true rfl, Nat.le_of_ble_eq_true rfl, rfl, (Or.inr ⟨_, rfl, t0⟩)⟩ rfl rfl k (fun h_32 k => ?_)
      exact R_ret rfl rfl ⟨rfl, k⟩
/-- DroneCorridorsModel.charges -/
theorem m230 {T N : Nat → Nat} {h : PH} {w : Nat} {x1 : Int32} {K : PH → Prop} (t0 : T w = 12) (k : (CI T N 168 [vr (some w), vi x1, vi 1] h (fun x_3 h_2 => ((((200 - x_3) < 3 → (CI T N 168 [vr (some w), vi x1, vi 1] h_2 (fun x_20 h_19 => (CV T N 169 [vr (some w), vi x1, vi 1, vi (x_20 + (200 - x_3))] h_19 (fun h_22 => (CI T N 168 [vr (some w), vi x1, vi 10] h_22 (fun x_26 h_25 => (CV T N 169 [vr (some w), vi x1, vi 10, vi (x_26 + (200 - x_3))] h_25 (fun h_28 => (K h_28)))))))))) ∧ (¬ ((200 - x_3) < 3) → (CI T N 168 [vr (some w), vi x1, vi 1] h_2 (fun x_7 h_6 => (CV T N 169 [vr (some w), vi x1, vi 1, vi (x_7 + 3)] h_6 (fun h_9 => (CI T N 168 [vr (some w), vi x1, vi 10] h_9 (fun x_13 h_12 => (CV T N 169 [vr (some w), vi x1, vi 10, vi (x_13 + 3)] h_12 (fun h_15 => (K h_15))))))))))))))) : CV T N 230 [vr (some w), vi x1] h K := by
  show WP T N 230 0 [some (vr (some w)), some (vi x1), none, none] [] h _
  refine R_ps 4 (pc2 := 6) (L2 := [some (vr (some w)), some (vi x1), none, none]) (st2 := [vi 1, vi x1, vr (some w), vi 200]) rfl ?_
  refine R_cI (as := [vr (some w), vi x1, vi 1]) rfl rfl ⟨Nat.le_of_ble_eq_true rfl, Nat.le_of_ble_eq_true rfl, rfl, (Or.inr ⟨_, rfl, t0⟩)⟩ rfl rfl k (fun x_3 h_2 k => ?_)
  refine R_ps 4 (pc2 := 13) (L2 := [some (vr (some w)), some (vi x1), some (vi (200 - x_3)), none]) (st2 := [vi 3, vi (200 - x_3)]) rfl ?_
  refine R_if rfl (fun c_4 => ?_) (fun c_4 => ?_)
  · have k := k.2 (i32_nlt c_4)
    refine R_ps 8 (pc2 := 28) (L2 := [some (vr (some w)), some (vi x1), some (vi (200 - x_3)), some (vi 3)]) (st2 := [vi 1, vi x1, vr (some w), vi 1, vi x1, vr (some w)]) rfl ?_
    refine R_cI (as := [vr (some w), vi x1, vi 1]) rfl rfl ⟨Nat.le_of_ble_eq_true rfl, Nat.le_of_ble_eq_true rfl, rfl, (Or.inr ⟨_, rfl, t0⟩)⟩ rfl rfl k (fun x_7 h_6 k => ?_)
    refine R_ps 2 (pc2 := 33) (L2 := [some (vr (some w)), some (vi x1), some (vi (200 - x_3)), some (vi 3)]) (st2 := [vi (x_7 + 3), vi 1, vi x1, vr (some w)]) rfl ?_
    refine R_cV (as := [vr (some w), vi x1, vi 1, vi (x_7 + 3)]) rfl rfl ⟨Nat.le_of_ble_eq_true rfl, Nat.le_of_ble_eq_true rfl, rfl, (Or.inr ⟨_, rfl, t0⟩)⟩ rfl rfl k (fun h_9 k => ?_)
    refine R_ps 6 (pc2 := 44) (L2 := [some (vr (some w)), some (vi x1), some (vi (200 - x_3)), some (vi 3)]) (st2 := [vi 10, vi x1, vr (some w), vi 10, vi x1, vr (some w)]) rfl ?_
    refine R_cI (as := [vr (some w), vi x1, vi 10]) rfl rfl ⟨Nat.le_of_ble_eq_true rfl, Nat.le_of_ble_eq_true rfl, rfl, (Or.inr ⟨_, rfl, t0⟩)⟩ rfl rfl k (fun x_13 h_12 k => ?_)
    refine R_ps 2 (pc2 := 49) (L2 := [some (vr (some w)), some (vi x1), some (vi (200 - x_3)), some (vi 3)]) (st2 := [vi (x_13 + 3), vi 10, vi x1, vr (some w)]) rfl ?_
    refine R_cV (as := [vr (some w), vi x1, vi 10, vi (x_13 + 3)]) rfl rfl ⟨Nat.le_of_ble_eq_true rfl, Nat.le_of_ble_eq_true rfl, rfl, (Or.inr ⟨_, rfl, t0⟩)⟩ rfl rfl k (fun h_15 k => ?_)
    exact R_ret rfl rfl ⟨rfl, k⟩
  · have k := k.1 (i32_lt c_4)
    refine R_ps 9 (pc2 := 28) (L2 := [some (vr (some w)), some (vi x1), some (vi (200 - x_3)), some (vi (200 - x_3))]) (st2 := [vi 1, vi x1, vr (some w), vi 1, vi x1, vr (some w)]) rfl ?_
    refine R_cI (as := [vr (some w), vi x1, vi 1]) rfl rfl ⟨Nat.le_of_ble_eq_true rfl, Nat.le_of_ble_eq_true rfl, rfl, (Or.inr ⟨_, rfl, t0⟩)⟩ rfl rfl k (fun x_20 h_19 k => ?_)
    refine R_ps 2 (pc2 := 33) (L2 := [some (vr (some w)), some (vi x1), some (vi (200 - x_3)), some (vi (200 - x_3))]) (st2 := [vi (x_20 + (200 - x_3)), vi 1, vi x1, vr (some w)]) rfl ?_
    refine R_cV (as := [vr (some w), vi x1, vi 1, vi (x_20 + (200 - x_3))]) rfl rfl ⟨Nat.le_of_ble_eq_true rfl, Nat.le_of_ble_eq_true rfl, rfl, (Or.inr ⟨_, rfl, t0⟩)⟩ rfl rfl k (fun h_22 k => ?_)
    refine R_ps 6 (pc2 := 44) (L2 := [some (vr (some w)), some (vi x1), some (vi (200 - x_3)), some (vi (200 - x_3))]) (st2 := [vi 10, vi x1, vr (some w), vi 10, vi x1, vr (some w)]) rfl ?_
    refine R_cI (as := [vr (some w), vi x1, vi 10]) rfl rfl ⟨Nat.le_of_ble_eq_true rfl, Nat.le_of_ble_eq_true rfl, rfl, (Or.inr ⟨_, rfl, t0⟩)⟩ rfl rfl k (fun x_26 h_25 k => ?_)
    refine R_ps 2 (pc2 := 49) (L2 := [some (vr (some w)), some (vi x1), some (vi (200 - x_3)), some (vi (200 - x_3))]) (st2 := [vi (x_26 + (200 - x_3)), vi 10, vi x1, vr (some w)]) rfl ?_
    refine R_cV (as := [vr (some w), vi x1, vi 10, vi (x_26 + (200 - x_3))]) rfl rfl ⟨Nat.le_of_ble_eq_true rfl, Nat.le_of_ble_eq_true rfl, rfl, (Or.inr ⟨_, rfl, t0⟩)⟩ rfl rfl k (fun h_28 k => ?_)
    exact R_ret rfl rfl ⟨rfl, k⟩
/-- DroneCorridorsModel.ticks -/
theorem m231 {T N : Nat → Nat} {h : PH} {w : Nat} {x1 : Int32} {K : PH → Prop} (t0 : T w = 12) (k : (∀ h_2, h_2 = si h w 23 0 → WV T N 231 7 [some (vr (some w)), some (vi x1), some (vi 0), none] [] h_2 K)) : CV T N 231 [vr (some w), vi x1] h K := by
  show WP T N 231 0 [some (vr (some w)), some (vi x1), none, none] [] h _
  refine R_ps 2 (pc2 := 2) (L2 := [some (vr (some w)), some (vi x1), none, none]) (st2 := [vi 0, vr (some w)]) rfl ?_
  refine R_putI rfl t0 ?_
  show WP T N _ _ _ _ (si h w 23 0) _
  generalize e_3 : si h w 23 0 = h_2
  replace k := k h_2 e_3.symm
  refine R_ps 2 (pc2 := 7) (L2 := [some (vr (some w)), some (vi x1), some (vi 0), none]) (st2 := []) rfl ?_
  exact k
theorem m231_7 {T N : Nat → Nat} {h : PH} {w : Nat} {x1 : Int32} {x2 : Int32} {K : PH → Prop} (k : (((x2 < x1 → (WV T N 231 14 [some (vr (some w)), some (vi x1), some (vi x2), some (vi 0)] [] h K)) ∧ (¬ (x2 < x1) → (K h))))) : WV T N 231 7 [some (vr (some w)), some (vi x1), some (vi x2), none] [] h K := by
  show WP T N 231 7 [some (vr (some w)), some (vi x1), some (vi x2), none] [] h _
  refine R_ps 2 (pc2 := 9) (L2 := [some (vr (some w)), some (vi x1), some (vi x2), none]) (st2 := [vi x1, vi x2]) rfl ?_
  refine R_if rfl (fun c_1 => ?_) (fun c_1 => ?_)
  · have k := k.2 (i32_nlt c_1)
    exact R_ret rfl rfl ⟨rfl, k⟩
  · have k := k.1 (i32_lt c_1)
    refine R_ps 2 (pc2 := 14) (L2 := [some (vr (some w)), some (vi x1), some (vi x2), some (vi 0)]) (st2 := []) rfl ?_
    exact k
theorem m231_14 {T N : Nat → Nat} {h : PH} {w : Nat} {x1 : Int32} {x2 : Int32} {x3 : Int32} {K : PH → Prop} (t0 : T w = 12) (k : (∃ a_3, (gr h w 1) = some a_3 ∧ T a_3 = 22 ∧ inb 117 (N a_3) ∧ ((x3 < (gi h a_3 117) → (CI T N 168 [vr (some w), vi x3, vi 0] h (fun x_19 h_18 => (((x_19 < 2 → (CI T N 168 [vr (some w), vi x3, vi 5] h_18 (fun x_23 h_22 => (((0 < x_23 → (CI T N 186 [vr (some w), vi x3, vi 0] h_22 (fun x_27 h_26 => (CI T N 190 [vi x_27] h_26 (fun x_30 h_29 => (∃ a_33, (gr h_29 w 1) = some a_33 ∧ T a_33 = 22 ∧ inb 448 (N a_33) ∧ ((x_30 = (gi h_29 a_33 448) → (CV T N 227 [vr (some w), vi x3] h_29 (fun h_39 => (WV T N 231 14 [some (vr (some w)), some (vi x1), some (vi x2), some (vi (x3 + 1))] [] h_39 K)))) ∧ (¬ (x_30 = (gi h_29 a_33 448)) → (WV T N 231 14 [some (vr (some w)), some (vi x1), some (vi x2), some (vi (x3 + 1))] [] h_29 K))))))))) ∧ (¬ (0 < x_23) → (WV T N 231 14 [some (vr (some w)), some (vi x1), some (vi x2), some (vi (x3 + 1))] [] h_22 K))))))) ∧ (¬ (x_19 < 2) → (WV T N 231 14 [some (vr (some w)), some (vi x1), some (vi x2), some (vi (x3 + 1))] [] h_18 K))))))) ∧ (¬ (x3 < (gi h a_3 117)) → (∃ a_10, (gr h w 1) = some a_10 ∧ T a_10 = 22 ∧ inb 448 (N a_10) ∧ ∀ h_15, h_15 = si h a_10 448 ((gi h a_10 448) + 1) → WV T N 231 89 [some (vr (some w)), some (vi x1), some (vi x2), some (vi 0)] [] h_15 K))))) : WV T N 231 14 [some (vr (some w)), some (vi x1), some (vi x2), some (vi x3)] [] h K := by
  show WP T N 231 14 [some (vr (some w)), some (vi x1), some (vi x2), some (vi x3)] [] h _
  refine R_ps 2 (pc2 := 16) (L2 := [some (vr (some w)), some (vi x1), some (vi x2), some (vi x3)]) (st2 := [vr (some w), vi x3]) rfl ?_
  refine R_getR rfl t0 ?_
  refine R_ps 1 (pc2 := 21) (L2 := [some (vr (some w)), some (vi x1), some (vi x2), some (vi x3)]) (st2 := [vi 117, vr (gr h w 1), vi x3]) rfl ?_
  obtain ⟨a_3, e_4, k⟩ := k
  rw [e_4]
  obtain ⟨t_5, k⟩ := k
  obtain ⟨t_6, k⟩ := k
  refine R_iald rfl (Or.inl t_5) t_6 ?_
  refine R_if rfl (fun c_7 => ?_) (fun c_7 => ?_)
  · have k := k.2 (i32_nlt c_7)
    refine R_ps 1 (pc2 := 76) (L2 := [some (vr (some w)), some (vi x1), some (vi x2), some (vi x3)]) (st2 := [vr (some w)]) rfl ?_
    refine R_getR rfl t0 ?_
    refine R_ps 2 (pc2 := 83) (L2 := [some (vr (some w)), some (vi x1), some (vi x2), some (vi x3)]) (st2 := [vi 448, vr (gr h w 1), vi 448, vr (gr h w 1)]) rfl ?_
    obtain ⟨a_10, e_11, k⟩ := k
    rw [e_11]
    obtain ⟨t_12, k⟩ := k
    obtain ⟨t_13, k⟩ := k
    refine R_iald rfl (Or.inl t_12) t_13 ?_
    refine R_ps 2 (pc2 := 86) (L2 := [some (vr (some w)), some (vi x1), some (vi x2), some (vi x3)]) (st2 := [vi ((gi h a_10 448) + 1), vi 448, vr (some a_10)]) rfl ?_
    refine R_iast rfl t_12 t_13  ?_
    show WP T N _ _ _ _ (si h a_10 448 ((gi h a_10 448) + 1)) _
    generalize e_16 : si h a_10 448 ((gi h a_10 448) + 1) = h_15
    replace k := k h_15 e_16.symm
    refine R_ps 2 (pc2 := 89) (L2 := [some (vr (some w)), some (vi x1), some (vi x2), some (vi 0)]) (st2 := []) rfl ?_
    exact k
  · have k := k.1 (i32_lt c_7)
    refine R_ps 3 (pc2 := 28) (L2 := [some (vr (some w)), some (vi x1), some (vi x2), some (vi x3)]) (st2 := [vi 0, vi x3, vr (some w)]) rfl ?_
    refine R_cI (as := [vr (some w), vi x3, vi 0]) rfl rfl ⟨Nat.le_of_ble_eq_true rfl, Nat.le_of_ble_eq_true rfl, rfl, (Or.inr ⟨_, rfl, t0⟩)⟩ rfl rfl k (fun x_19 h_18 k => ?_)
    refine R_ps 1 (pc2 := 32) (L2 := [some (vr (some w)), some (vi x1), some (vi x2), some (vi x3)]) (st2 := [vi 2, vi x_19]) rfl ?_
    refine R_if rfl (fun c_20 => ?_) (fun c_20 => ?_)
    · have k := k.2 (i32_nlt c_20)
      refine R_ps 2 (pc2 := 14) (L2 := [some (vr (some w)), some (vi x1), some (vi x2), some (vi (x3 + 1))]) (st2 := []) rfl ?_
      exact k
    · have k := k.1 (i32_lt c_20)
      refine R_ps 3 (pc2 := 38) (L2 := [some (vr (some w)), some (vi x1), some (vi x2), some (vi x3)]) (st2 := [vi 5, vi x3, vr (some w)]) rfl ?_
      refine R_cI (as := [vr (some w), vi x3, vi 5]) rfl rfl ⟨Nat.le_of_ble_eq_true rfl, Nat.le_of_ble_eq_true rfl, rfl, (Or.inr ⟨_, rfl, t0⟩)⟩ rfl rfl k (fun x_23 h_22 k => ?_)
      refine R_if0 rfl (fun c_24 => ?_) (fun c_24 => ?_)
      · have k := k.2 (i32_nlt c_24)
        refine R_ps 2 (pc2 := 14) (L2 := [some (vr (some w)), some (vi x1), some (vi x2), some (vi (x3 + 1))]) (st2 := []) rfl ?_
        exact k
      · have k := k.1 (i32_lt c_24)
        refine R_ps 3 (pc2 := 47) (L2 := [some (vr (some w)), some (vi x1), some (vi x2), some (vi x3)]) (st2 := [vi 0, vi x3, vr (some w)]) rfl ?_
        refine R_cI (as := [vr (some w), vi x3, vi 0]) rfl rfl ⟨Nat.le_of_ble_eq_true rfl, Nat.le_of_ble_eq_true rfl, rfl, (Or.inr ⟨_, rfl, t0⟩)⟩ rfl rfl k (fun x_27 h_26 k => ?_)
        refine R_cI (as := [vi x_27]) rfl rfl ⟨Nat.le_of_ble_eq_true rfl, Nat.le_of_ble_eq_true rfl, rfl, (Or.inl rfl)⟩ rfl rfl k (fun x_30 h_29 k => ?_)
        refine R_ps 1 (pc2 := 54) (L2 := [some (vr (some w)), some (vi x1), some (vi x2), some (vi x3)]) (st2 := [vr (some w), vi x_30]) rfl ?_
        refine R_getR rfl t0 ?_
        refine R_ps 1 (pc2 := 60) (L2 := [some (vr (some w)), some (vi x1), some (vi x2), some (vi x3)]) (st2 := [vi 448, vr (gr h_29 w 1), vi x_30]) rfl ?_
        obtain ⟨a_33, e_34, k⟩ := k
        rw [e_34]
        obtain ⟨t_35, k⟩ := k
        obtain ⟨t_36, k⟩ := k
        refine R_iald rfl (Or.inl t_35) t_36 ?_
        refine R_if rfl (fun c_37 => ?_) (fun c_37 => ?_)
        · have k := k.2 c_37
          refine R_ps 2 (pc2 := 14) (L2 := [some (vr (some w)), some (vi x1), some (vi x2), some (vi (x3 + 1))]) (st2 := []) rfl ?_
          exact k
        · have k := k.1 (Classical.not_not.mp c_37)
          refine R_ps 2 (pc2 := 66) (L2 := [some (vr (some w)), some (vi x1), some (vi x2), some (vi x3)]) (st2 := [vi x3, vr (some w)]) rfl ?_
          refine R_cV (as := [vr (some w), vi x3]) rfl rfl ⟨Nat.le_of_ble_eq_true rfl, Nat.le_of_ble_eq_true rfl, rfl, (Or.inr ⟨_, rfl, t0⟩)⟩ rfl rfl k (fun h_39 k => ?_)
          refine R_ps 2 (pc2 := 14) (L2 := [some (vr (some w)), some (vi x1), some (vi x2), some (vi (x3 + 1))]) (st2 := []) rfl ?_
          exact k
theorem m231_89 {T N : Nat → Nat} {h : PH} {w : Nat} {x1 : Int32} {x2 : Int32} {x3 : Int32} {K : PH → Prop} (t0 : T w = 12) (k : (∃ a_3, (gr h w 1) = some a_3 ∧ T a_3 = 22 ∧ inb 117 (N a_3) ∧ ((x3 < (gi h a_3 117) → (CI T N 168 [vr (some w), vi x3, vi 0] h (fun x_10 h_9 => (((x_10 = 0 → (CV T N 230 [vr (some w), vi x3] h_9 (fun h_13 => (WV T N 231 89 [some (vr (some w)), some (vi x1), some (vi x2), some (vi (x3 + 1))] [] h_13 K)))) ∧ (¬ (x_10 = 0) → ((x_10 = 1 → (CV T N 229 [vr (some w), vi x3] h_9 (fun h_16 => (WV T N 231 89 [some (vr (some w)), some (vi x1), some (vi x2), some (vi (x3 + 1))] [] h_16 K)))) ∧ (¬ (x_10 = 1) → ((x_10 = 2 → (CV T N 228 [vr (some w), vi x3] h_9 (fun h_19 => (WV T N 231 89 [some (vr (some w)), some (vi x1), some (vi x2), some (vi (x3 + 1))] [] h_19 K)))) ∧ (¬ (x_10 = 2) → (WV T N 231 89 [some (vr (some w)), some (vi x1), some (vi x2), some (vi (x3 + 1))] [] h_9 K))))))))))) ∧ (¬ (x3 < (gi h a_3 117)) → (WV T N 231 7 [some (vr (some w)), some (vi x1), some (vi (x2 + 1)), none] [] h K))))) : WV T N 231 89 [some (vr (some w)), some (vi x1), some (vi x2), some (vi x3)] [] h K := by
  show WP T N 231 89 [some (vr (some w)), some (vi x1), some (vi x2), some (vi x3)] [] h _
  refine R_ps 2 (pc2 := 91) (L2 := [some (vr (some w)), some (vi x1), some (vi x2), some (vi x3)]) (st2 := [vr (some w), vi x3]) rfl ?_
  refine R_getR rfl t0 ?_
  refine R_ps 1 (pc2 := 96) (L2 := [some (vr (some w)), some (vi x1), some (vi x2), some (vi x3)]) (st2 := [vi 117, vr (gr h w 1), vi x3]) rfl ?_
  obtain ⟨a_3, e_4, k⟩ := k
  rw [e_4]
  obtain ⟨t_5, k⟩ := k
  obtain ⟨t_6, k⟩ := k
  refine R_iald rfl (Or.inl t_5) t_6 ?_
  refine R_if rfl (fun c_7 => ?_) (fun c_7 => ?_)
  · have k := k.2 (i32_nlt c_7)
    refine R_ps 2 (pc2 := 7) (L2 := [some (vr (some w)), some (vi x1), some (vi (x2 + 1)), some (vi x3)]) (st2 := []) rfl ?_
    exact R_drop k (LE_of (L := [some (vr (some w)), some (vi x1), some (vi (x2 + 1)), none]) (L2 := [some (vr (some w)), some (vi x1), some (vi (x2 + 1)), some (vi x3)]) ⟨rfl, rfl, rfl, trivial⟩)
  · have k := k.1 (i32_lt c_7)
    refine R_ps 3 (pc2 := 103) (L2 := [some (vr (some w)), some (vi x1), some (vi x2), some (vi x3)]) (st2 := [vi 0, vi x3, vr (some w)]) rfl ?_
    refine R_cI (as := [vr (some w), vi x3, vi 0]) rfl rfl ⟨Nat.le_of_ble_eq_true rfl, Nat.le_of_ble_eq_true rfl, rfl, (Or.inr ⟨_, rfl, t0⟩)⟩ rfl rfl k (fun x_10 h_9 k => ?_)
    refine R_tsw rfl rfl ?_
    refine ⟨fun c_11 => ?_, fun c_11 => ?_⟩
    · have k := k.1 c_11
      show WP T N _ 132 _ _ _ _
      refine R_ps 2 (pc2 := 134) (L2 := [some (vr (some w)), some (vi x1), some (vi x2), some (vi x3)]) (st2 := [vi x3, vr (some w)]) rfl ?_
      refine R_cV (as := [vr (some w), vi x3]) rfl rfl ⟨Nat.le_of_ble_eq_true rfl, Nat.le_of_ble_eq_true rfl, rfl, (Or.inr ⟨_, rfl, t0⟩)⟩ rfl rfl k (fun h_13 k => ?_)
      refine R_ps 3 (pc2 := 89) (L2 := [some (vr (some w)), some (vi x1), some (vi x2), some (vi (x3 + 1))]) (st2 := []) rfl ?_
      exact k
    replace k := k.2 c_11
    refine ⟨fun c_11 => ?_, fun c_11 => ?_⟩
    · have k := k.1 c_11
      show WP T N _ 140 _ _ _ _
      refine R_ps 2 (pc2 := 142) (L2 := [some (vr (some w)), some (vi x1), some (vi x2), some (vi x3)]) (st2 := [vi x3, vr (some w)]) rfl ?_
      refine R_cV (as := [vr (some w), vi x3]) rfl rfl ⟨Nat.le_of_ble_eq_true rfl, Nat.le_of_ble_eq_true rfl, rfl, (Or.inr ⟨_, rfl, t0⟩)⟩ rfl rfl k (fun h_16 k => ?_)
      refine R_ps 3 (pc2 := 89) (L2 := [some (vr (some w)), some (vi x1), some (vi x2), some (vi (x3 + 1))]) (st2 := []) rfl ?_
      exact k
    replace k := k.2 c_11
    refine ⟨fun c_11 => ?_, fun c_11 => ?_⟩
    · have k := k.1 c_11
      show WP T N _ 148 _ _ _ _
      refine R_ps 2 (pc2 := 150) (L2 := [some (vr (some w)), some (vi x1), some (vi x2), some (vi x3)]) (st2 := [vi x3, vr (some w)]) rfl ?_
      refine R_cV (as := [vr (some w), vi x3]) rfl rfl ⟨Nat.le_of_ble_eq_true rfl, Nat.le_of_ble_eq_true rfl, rfl, (Or.inr ⟨_, rfl, t0⟩)⟩ rfl rfl k (fun h_19 k => ?_)
      refine R_ps 3 (pc2 := 89) (L2 := [some (vr (some w)), some (vi x1), some (vi x2), some (vi (x3 + 1))]) (st2 := []) rfl ?_
      exact k
    replace k := k.2 c_11
    show WP T N _ 156 _ _ _ _
    refine R_ps 2 (pc2 := 89) (L2 := [some (vr (some w)), some (vi x1), some (vi x2), some (vi (x3 + 1))]) (st2 := []) rfl ?_
    exact k
/-- DroneCorridorsModel.advance -/
theorem m232 {T N : Nat → Nat} {h : PH} {w : Nat} {x1 : Int32} {K : Int32 → PH → Prop} (t0 : T w = 12) (k : (CI T N 158 [vi x1, vi 1, vi 40] h (fun x_3 h_2 => (((x_3 = 0 → (∀ h_41, h_41 = si h_2 w 0 1 → ((0 < (gi h_41 w 0) → (K 0 h_41)) ∧ (¬ (0 < (gi h_41 w 0)) → (CV T N 160 [vr (some w)] h_41 (fun h_46 => (CV T N 231 [vr (some w), vi x1] h_46 (fun h_49 => (K (gi h_49 w 23) h_49))))))))) ∧ (¬ (x_3 = 0) → (∃ a_7, (gr h_2 w 1) = some a_7 ∧ T a_7 = 22 ∧ inb 448 (N a_7) ∧ ((10000 < ((gi h_2 a_7 448) + x1) → (∀ h_27, h_27 = si h_2 w 0 2 → ((0 < (gi h_27 w 0) → (K 0 h_27)) ∧ (¬ (0 < (gi h_27 w 0)) → (CV T N 160 [vr (some w)] h_27 (fun h_32 => (CV T N 231 [vr (some w), vi x1] h_32 (fun h_35 => (K (gi h_35 w 23) h_35))))))))) ∧ (¬ (10000 < ((gi h_2 a_7 448) + x1)) → (∀ h_13, h_13 = si h_2 w 0 0 → ((0 < (gi h_13 w 0) → (K 0 h_13)) ∧ (¬ (0 < (gi h_13 w 0)) → (CV T N 160 [vr (some w)] h_13 (fun h_18 => (CV T N 231 [vr (some w), vi x1] h_18 (fun h_21 => (K (gi h_21 w 23) h_21))))))))))))))))) : CI T N 232 [vr (some w), vi x1] h K := by
  show WP T N 232 0 [some (vr (some w)), some (vi x1)] [] h _
  refine R_ps 4 (pc2 := 5) (L2 := [some (vr (some w)), some (vi x1)]) (st2 := [vi 40, vi 1, vi x1, vr (some w)]) rfl ?_
  refine R_cI (as := [vi x1, vi 1, vi 40]) rfl rfl ⟨Nat.le_of_ble_eq_true rfl, Nat.le_of_ble_eq_true rfl, rfl, (Or.inl rfl)⟩ rfl rfl k (fun x_3 h_2 k => ?_)
  refine R_if0 rfl (fun c_4 => ?_) (fun c_4 => ?_)
  · have k := k.2 c_4
    refine R_ps 1 (pc2 := 16) (L2 := [some (vr (some w)), some (vi x1)]) (st2 := [vr (some w), vr (some w)]) rfl ?_
    refine R_getR rfl t0 ?_
    refine R_ps 1 (pc2 := 22) (L2 := [some (vr (some w)), some (vi x1)]) (st2 := [vi 448, vr (gr h_2 w 1), vr (some w)]) rfl ?_
    obtain ⟨a_7, e_8, k⟩ := k
    rw [e_8]
    obtain ⟨t_9, k⟩ := k
    obtain ⟨t_10, k⟩ := k
    refine R_iald rfl (Or.inl t_9) t_10 ?_
    refine R_ps 3 (pc2 := 28) (L2 := [some (vr (some w)), some (vi x1)]) (st2 := [vi 10000, vi ((gi h_2 a_7 448) + x1), vr (some w)]) rfl ?_
    refine R_if rfl (fun c_11 => ?_) (fun c_11 => ?_)
    · have k := k.2 (i32_nlt c_11)
      refine R_ps 1 (pc2 := 36) (L2 := [some (vr (some w)), some (vi x1)]) (st2 := [vi 0, vr (some w)]) rfl ?_
      refine R_putI rfl t0 ?_
      show WP T N _ _ _ _ (si h_2 w 0 0) _
      generalize e_14 : si h_2 w 0 0 = h_13
      replace k := k h_13 e_14.symm
      refine R_ps 1 (pc2 := 40) (L2 := [some (vr (some w)), some (vi x1)]) (st2 := [vr (some w)]) rfl ?_
      refine R_getI rfl t0 ?_
      refine R_if0 rfl (fun c_16 => ?_) (fun c_16 => ?_)
      · have k := k.2 (i32_nlt c_16)
        refine R_ps 1 (pc2 := 49) (L2 := [some (vr (some w)), some (vi x1)]) (st2 := [vr (some w)]) rfl ?_
        refine R_cV (as := [vr (some w)]) rfl rfl ⟨Nat.le_of_ble_eq_true rfl, Nat.le_of_ble_eq_true rfl, rfl, (Or.inr ⟨_, rfl, t0⟩)⟩ rfl rfl k (fun h_18 k => ?_)
        refine R_ps 2 (pc2 := 54) (L2 := [some (vr (some w)), some (vi x1)]) (st2 := [vi x1, vr (some w)]) rfl ?_
        refine R_cV (as := [vr (some w), vi x1]) rfl rfl ⟨Nat.le_of_ble_eq_true rfl, Nat.le_of_ble_eq_true rfl, rfl, (Or.inr ⟨_, rfl, t0⟩)⟩ rfl rfl k (fun h_21 k => ?_)
        refine R_ps 1 (pc2 := 58) (L2 := [some (vr (some w)), some (vi x1)]) (st2 := [vr (some w)]) rfl ?_
        refine R_getI rfl t0 ?_
        exact R_iret rfl rfl ⟨_, rfl, k⟩
      · have k := k.1 (i32_lt c_16)
        refine R_ps 1 (pc2 := 47) (L2 := [some (vr (some w)), some (vi x1)]) (st2 := [vi 0]) rfl ?_
        exact R_iret rfl rfl ⟨_, rfl, k⟩
    · have k := k.1 (i32_lt c_11)
      refine R_ps 2 (pc2 := 36) (L2 := [some (vr (some w)), some (vi x1)]) (st2 := [vi 2, vr (some w)]) rfl ?_
      refine R_putI rfl t0 ?_
      show WP T N _ _ _ _ (si h_2 w 0 2) _
      generalize e_28 : si h_2 w 0 2 = h_27
      replace k := k h_27 e_28.symm
      refine R_ps 1 (pc2 := 40) (L2 := [some (vr (some w)), some (vi x1)]) (st2 := [vr (some w)]) rfl ?_
      refine R_getI rfl t0 ?_
      refine R_if0 rfl (fun c_30 => ?_) (fun c_30 => ?_)
      · have k := k.2 (i32_nlt c_30)
        refine R_ps 1 (pc2 := 49) (L2 := [some (vr (some w)), some (vi x1)]) (st2 := [vr (some w)]) rfl ?_
        refine R_cV (as := [vr (some w)]) rfl rfl ⟨Nat.le_of_ble_eq_true rfl, Nat.le_of_ble_eq_true rfl, rfl, (Or.inr ⟨_, rfl, t0⟩)⟩ rfl rfl k (fun h_32 k => ?_)
        refine R_ps 2 (pc2 := 54) (L2 := [some (vr (some w)), some (vi x1)]) (st2 := [vi x1, vr (some w)]) rfl ?_
        refine R_cV (as := [vr (some w), vi x1]) rfl rfl ⟨Nat.le_of_ble_eq_true rfl, Nat.le_of_ble_eq_true rfl, rfl, (Or.inr ⟨_, rfl, t0⟩)⟩ rfl rfl k (fun h_35 k => ?_)
        refine R_ps 1 (pc2 := 58) (L2 := [some (vr (some w)), some (vi x1)]) (st2 := [vr (some w)]) rfl ?_
        refine R_getI rfl t0 ?_
        exact R_iret rfl rfl ⟨_, rfl, k⟩
      · have k := k.1 (i32_lt c_30)
        refine R_ps 1 (pc2 := 47) (L2 := [some (vr (some w)), some (vi x1)]) (st2 := [vi 0]) rfl ?_
        exact R_iret rfl rfl ⟨_, rfl, k⟩
  · have k := k.1 (Classical.not_not.mp c_4)
    refine R_ps 2 (pc2 := 36) (L2 := [some (vr (some w)), some (vi x1)]) (st2 := [vi 1, vr (some w)]) rfl ?_
    refine R_putI rfl t0 ?_
    show WP T N _ _ _ _ (si h_2 w 0 1) _
    generalize e_42 : si h_2 w 0 1 = h_41
    replace k := k h_41 e_42.symm
    refine R_ps 1 (pc2 := 40) (L2 := [some (vr (some w)), some (vi x1)]) (st2 := [vr (some w)]) rfl ?_
    refine R_getI rfl t0 ?_
    refine R_if0 rfl (fun c_44 => ?_) (fun c_44 => ?_)
    · have k := k.2 (i32_nlt c_44)
      refine R_ps 1 (pc2 := 49) (L2 := [some (vr (some w)), some (vi x1)]) (st2 := [vr (some w)]) rfl ?_
      refine R_cV (as := [vr (some w)]) rfl rfl ⟨Nat.le_of_ble_eq_true rfl, Nat.le_of_ble_eq_true rfl, rfl, (Or.inr ⟨_, rfl, t0⟩)⟩ rfl rfl k (fun h_46 k => ?_)
      refine R_ps 2 (pc2 := 54) (L2 := [some (vr (some w)), some (vi x1)]) (st2 := [vi x1, vr (some w)]) rfl ?_
      refine R_cV (as := [vr (some w), vi x1]) rfl rfl ⟨Nat.le_of_ble_eq_true rfl, Nat.le_of_ble_eq_true rfl, rfl, (Or.inr ⟨_, rfl, t0⟩)⟩ rfl rfl k (fun h_49 k => ?_)
      refine R_ps 1 (pc2 := 58) (L2 := [some (vr (some w)), some (vi x1)]) (st2 := [vr (some w)]) rfl ?_
      refine R_getI rfl t0 ?_
      exact R_iret rfl rfl ⟨_, rfl, k⟩
    · have k := k.1 (i32_lt c_44)
      refine R_ps 1 (pc2 := 47) (L2 := [some (vr (some w)), some (vi x1)]) (st2 := [vi 0]) rfl ?_
      exact R_iret rfl rfl ⟨_, rfl, k⟩
/-- DroneCorridorsModel.placeAfter -/
theorem m233 {T N : Nat → Nat} {h : PH} {w : Nat} {x1 : Int32} {x2 : Int32} {K : Int32 → PH → Prop} (t0 : T w = 12) (k : (CI T N 164 [vr (some w), vi x1] h (fun x_3 h_2 => (((x_3 = 0 → (∀ h_88, h_88 = si h_2 w 0 1 → ((0 < (gi h_88 w 0) → (K 0 h_88)) ∧ (¬ (0 < (gi h_88 w 0)) → (CV T N 161 [vr (gr h_88 w 1), vr (gr h_88 w 3)] h_88 (fun h_95 => (CV T N 231 [vr (some w), vi x2] h_95 (fun h_98 => (CI T N 168 [vr (some w), vi x1, vi 0] h_98 (fun x_102 h_101 => (((x_102 = 2 → (CI T N 186 [vr (some w), vi x1, vi 0] h_101 (fun x_115 h_114 => (CI T N 187 [vi x_115] h_114 (fun x_118 h_117 => (CV T N 161 [vr (gr h_117 w 3), vr (gr h_117 w 1)] h_117 (fun h_122 => (K (100 + x_118) h_122)))))))) ∧ (¬ (x_102 = 2) → (CI T N 168 [vr (some w), vi x1, vi 3] h_101 (fun x_106 h_105 => (CV T N 161 [vr (gr h_105 w 3), vr (gr h_105 w 1)] h_105 (fun h_110 => (K x_106 h_110)))))))))))))))))) ∧ (¬ (x_3 = 0) → (CI T N 158 [vi x2, vi 0, vi 40] h_2 (fun x_7 h_6 => (((x_7 = 0 → (∀ h_49, h_49 = si h_6 w 0 2 → ((0 < (gi h_49 w 0) → (K 0 h_49)) ∧ (¬ (0 < (gi h_49 w 0)) → (CV T N 161 [vr (gr h_49 w 1), vr (gr h_49 w 3)] h_49 (fun h_56 => (CV T N 231 [vr (some w), vi x2] h_56 (fun h_59 => (CI T N 168 [vr (some w), vi x1, vi 0] h_59 (fun x_63 h_62 => (((x_63 = 2 → (CI T N 186 [vr (some w), vi x1, vi 0] h_62 (fun x_76 h_75 => (CI T N 187 [vi x_76] h_75 (fun x_79 h_78 => (CV T N 161 [vr (gr h_78 w 3), vr (gr h_78 w 1)] h_78 (fun h_83 => (K (100 + x_79) h_83)))))))) ∧ (¬ (x_63 = 2) → (CI T N 168 [vr (some w), vi x1, vi 3] h_62 (fun x_67 h_66 => (CV T N 161 [vr (gr h_66 w 3), vr (gr h_66 w 1)] h_66 (fun h_71 => (K x_67 h_71)))))))))))))))))) ∧ (¬ (x_7 = 0) → (∀ h_10, h_10 = si h_6 w 0 0 → ((0 < (gi h_10 w 0) → (K 0 h_10)) ∧ (¬ (0 < (gi h_10 w 0)) → (CV T N 161 [vr (gr h_10 w 1), vr (gr h_10 w 3)] h_10 (fun h_17 => (CV T N 231 [vr (some w), vi x2] h_17 (fun h_20 => (CI T N 168 [vr (some w), vi x1, vi 0] h_20 (fun x_24 h_23 => (((x_24 = 2 → (CI T N 186 [vr (some w), vi x1, vi 0] h_23 (fun x_37 h_36 => (CI T N 187 [vi x_37] h_36 (fun x_40 h_39 => (CV T N 161 [vr (gr h_39 w 3), vr (gr h_39 w 1)] h_39 (fun h_44 => (K (100 + x_40) h_44)))))))) ∧ (¬ (x_24 = 2) → (CI T N 168 [vr (some w), vi x1, vi 3] h_23 (fun x_28 h_27 => (CV T N 161 [vr (gr h_27 w 3), vr (gr h_27 w 1)] h_27 (fun h_32 => (K x_28 h_32)))))))))))))))))))))))))))) : CI T N 233 [vr (some w), vi x1, vi x2] h K := by
  show WP T N 233 0 [some (vr (some w)), some (vi x1), some (vi x2), none] [] h _
  refine R_ps 3 (pc2 := 3) (L2 := [some (vr (some w)), some (vi x1), some (vi x2), none]) (st2 := [vi x1, vr (some w), vr (some w)]) rfl ?_
  refine R_cI (as := [vr (some w), vi x1]) rfl rfl ⟨Nat.le_of_ble_eq_true rfl, Nat.le_of_ble_eq_true rfl, rfl, (Or.inr ⟨_, rfl, t0⟩)⟩ rfl rfl k (fun x_3 h_2 k => ?_)
  refine R_if0 rfl (fun c_4 => ?_) (fun c_4 => ?_)
  · have k := k.2 c_4
    refine R_ps 3 (pc2 := 17) (L2 := [some (vr (some w)), some (vi x1), some (vi x2), none]) (st2 := [vi 40, vi 0, vi x2, vr (some w)]) rfl ?_
    refine R_cI (as := [vi x2, vi 0, vi 40]) rfl rfl ⟨Nat.le_of_ble_eq_true rfl, Nat.le_of_ble_eq_true rfl, rfl, (Or.inl rfl)⟩ rfl rfl k (fun x_7 h_6 k => ?_)
    refine R_if0 rfl (fun c_8 => ?_) (fun c_8 => ?_)
    · have k := k.2 c_8
      refine R_ps 1 (pc2 := 28) (L2 := [some (vr (some w)), some (vi x1), some (vi x2), none]) (st2 := [vi 0, vr (some w)]) rfl ?_
      refine R_putI rfl t0 ?_
      show WP T N _ _ _ _ (si h_6 w 0 0) _
      generalize e_11 : si h_6 w 0 0 = h_10
      replace k := k h_10 e_11.symm
      refine R_ps 1 (pc2 := 32) (L2 := [some (vr (some w)), some (vi x1), some (vi x2), none]) (st2 := [vr (some w)]) rfl ?_
      refine R_getI rfl t0 ?_
      refine R_if0 rfl (fun c_13 => ?_) (fun c_13 => ?_)
      · have k := k.2 (i32_nlt c_13)
        refine R_ps 1 (pc2 := 41) (L2 := [some (vr (some w)), some (vi x1), some (vi x2), none]) (st2 := [vr (some w)]) rfl ?_
        refine R_getR rfl t0 ?_
        refine R_ps 1 (pc2 := 45) (L2 := [some (vr (some w)), some (vi x1), some (vi x2), none]) (st2 := [vr (some w), vr (gr h_10 w 1)]) rfl ?_
        refine R_getR rfl t0 ?_
        refine R_cV (as := [vr (gr h_10 w 1), vr (gr h_10 w 3)]) rfl rfl ⟨Nat.le_of_ble_eq_true rfl, Nat.le_of_ble_eq_true rfl, rfl, (Or.inl rfl)⟩ rfl rfl k (fun h_17 k => ?_)
        refine R_ps 2 (pc2 := 53) (L2 := [some (vr (some w)), some (vi x1), some (vi x2), none]) (st2 := [vi x2, vr (some w)]) rfl ?_
        refine R_cV (as := [vr (some w), vi x2]) rfl rfl ⟨Nat.le_of_ble_eq_true rfl, Nat.le_of_ble_eq_true rfl, rfl, (Or.inr ⟨_, rfl, t0⟩)⟩ rfl rfl k (fun h_20 k => ?_)
        refine R_ps 3 (pc2 := 59) (L2 := [some (vr (some w)), some (vi x1), some (vi x2), none]) (st2 := [vi 0, vi x1, vr (some w)]) rfl ?_
        refine R_cI (as := [vr (some w), vi x1, vi 0]) rfl rfl ⟨Nat.le_of_ble_eq_true rfl, Nat.le_of_ble_eq_true rfl, rfl, (Or.inr ⟨_, rfl, t0⟩)⟩ rfl rfl k (fun x_24 h_23 k => ?_)
        refine R_ps 1 (pc2 := 63) (L2 := [some (vr (some w)), some (vi x1), some (vi x2), none]) (st2 := [vi 2, vi x_24]) rfl ?_
        refine R_if rfl (fun c_25 => ?_) (fun c_25 => ?_)
        · have k := k.2 c_25
          refine R_ps 3 (pc2 := 84) (L2 := [some (vr (some w)), some (vi x1), some (vi x2), none]) (st2 := [vi 3, vi x1, vr (some w)]) rfl ?_
          refine R_cI (as := [vr (some w), vi x1, vi 3]) rfl rfl ⟨Nat.le_of_ble_eq_true rfl, Nat.le_of_ble_eq_true rfl, rfl, (Or.inr ⟨_, rfl, t0⟩)⟩ rfl rfl k (fun x_28 h_27 k => ?_)
          refine R_ps 2 (pc2 := 89) (L2 := [some (vr (some w)), some (vi x1), some (vi x2), some (vi x_28)]) (st2 := [vr (some w)]) rfl ?_
          refine R_getR rfl t0 ?_
          refine R_ps 1 (pc2 := 93) (L2 := [some (vr (some w)), some (vi x1), some (vi x2), some (vi x_28)]) (st2 := [vr (some w), vr (gr h_27 w 3)]) rfl ?_
          refine R_getR rfl t0 ?_
          refine R_cV (as := [vr (gr h_27 w 3), vr (gr h_27 w 1)]) rfl rfl ⟨Nat.le_of_ble_eq_true rfl, Nat.le_of_ble_eq_true rfl, rfl, (Or.inl rfl)⟩ rfl rfl k (fun h_32 k => ?_)
          refine R_ps 1 (pc2 := 100) (L2 := [some (vr (some w)), some (vi x1), some (vi x2), some (vi x_28)]) (st2 := [vi x_28]) rfl ?_
          exact R_iret rfl rfl ⟨_, rfl, k⟩
        · have k := k.1 (Classical.not_not.mp c_25)
          refine R_ps 4 (pc2 := 71) (L2 := [some (vr (some w)), some (vi x1), some (vi x2), none]) (st2 := [vi 0, vi x1, vr (some w), vi 100]) rfl ?_
          refine R_cI (as := [vr (some w), vi x1, vi 0]) rfl rfl ⟨Nat.le_of_ble_eq_true rfl, Nat.le_of_ble_eq_true rfl, rfl, (Or.inr ⟨_, rfl, t0⟩)⟩ rfl rfl k (fun x_37 h_36 k => ?_)
          refine R_cI (as := [vi x_37]) rfl rfl ⟨Nat.le_of_ble_eq_true rfl, Nat.le_of_ble_eq_true rfl, rfl, (Or.inl rfl)⟩ rfl rfl k (fun x_40 h_39 k => ?_)
          refine R_ps 4 (pc2 := 89) (L2 := [some (vr (some w)), some (vi x1), some (vi x2), some (vi (100 + x_40))]) (st2 := [vr (some w)]) rfl ?_
          refine R_getR rfl t0 ?_
          refine R_ps 1 (pc2 := 93) (L2 := [some (vr (some w)), some (vi x1), some (vi x2), some (vi (100 + x_40))]) (st2 := [vr (some w), vr (gr h_39 w 3)]) rfl ?_
          refine R_getR rfl t0 ?_
          refine R_cV (as := [vr (gr h_39 w 3), vr (gr h_39 w 1)]) rfl rfl ⟨Nat.le_of_ble_eq_true rfl, Nat.le_of_ble_eq_true rfl, rfl, (Or.inl rfl)⟩ rfl rfl k (fun h_44 k => ?_)
          refine R_ps 1 (pc2 := 100) (L2 := [some (vr (some w)), some (vi x1), some (vi x2), some (vi (100 + x_40))]) (st2 := [vi (100 + x_40)]) rfl ?_
          exact R_iret rfl rfl ⟨_, rfl, k⟩
      · have k := k.1 (i32_lt c_13)
        refine R_ps 1 (pc2 := 39) (L2 := [some (vr (some w)), some (vi x1), some (vi x2), none]) (st2 := [vi 0]) rfl ?_
        exact R_iret rfl rfl ⟨_, rfl, k⟩
    · have k := k.1 (Classical.not_not.mp c_8)
      refine R_ps 2 (pc2 := 28) (L2 := [some (vr (some w)), some (vi x1), some (vi x2), none]) (st2 := [vi 2, vr (some w)]) rfl ?_
      refine R_putI rfl t0 ?_
      show WP T N _ _ _ _ (si h_6 w 0 2) _
      generalize e_50 : si h_6 w 0 2 = h_49
      replace k := k h_49 e_50.symm
      refine R_ps 1 (pc2 := 32) (L2 := [some (vr (some w)), some (vi x1), some (vi x2), none]) (st2 := [vr (some w)]) rfl ?_
      refine R_getI rfl t0 ?_
      refine R_if0 rfl (fun c_52 => ?_) (fun c_52 => ?_)
      · have k := k.2 (i32_nlt c_52)
        refine R_ps 1 (pc2 := 41) (L2 := [some (vr (some w)), some (vi x1), some (vi x2), none]) (st2 := [vr (some w)]) rfl ?_
        refine R_getR rfl t0 ?_
        refine R_ps 1 (pc2 := 45) (L2 := [some (vr (some w)), some (vi x1), some (vi x2), none]) (st2 := [vr (some w), vr (gr h_49 w 1)]) rfl ?_
        refine R_getR rfl t0 ?_
        refine R_cV (as := [vr (gr h_49 w 1), vr (gr h_49 w 3)]) rfl rfl ⟨Nat.le_of_ble_eq_true rfl, Nat.le_of_ble_eq_true rfl, rfl, (Or.inl rfl)⟩ rfl rfl k (fun h_56 k => ?_)
        refine R_ps 2 (pc2 := 53) (L2 := [some (vr (some w)), some (vi x1), some (vi x2), none]) (st2 := [vi x2, vr (some w)]) rfl ?_
        refine R_cV (as := [vr (some w), vi x2]) rfl rfl ⟨Nat.le_of_ble_eq_true rfl, Nat.le_of_ble_eq_true rfl, rfl, (Or.inr ⟨_, rfl, t0⟩)⟩ rfl rfl k (fun h_59 k => ?_)
        refine R_ps 3 (pc2 := 59) (L2 := [some (vr (some w)), some (vi x1), some (vi x2), none]) (st2 := [vi 0, vi x1, vr (some w)]) rfl ?_
        refine R_cI (as := [vr (some w), vi x1, vi 0]) rfl rfl ⟨Nat.le_of_ble_eq_true rfl, Nat.le_of_ble_eq_true rfl, rfl, (Or.inr ⟨_, rfl, t0⟩)⟩ rfl rfl k (fun x_63 h_62 k => ?_)
        refine R_ps 1 (pc2 := 63) (L2 := [some (vr (some w)), some (vi x1), some (vi x2), none]) (st2 := [vi 2, vi x_63]) rfl ?_
        refine R_if rfl (fun c_64 => ?_) (fun c_64 => ?_)
        · have k := k.2 c_64
          refine R_ps 3 (pc2 := 84) (L2 := [some (vr (some w)), some (vi x1), some (vi x2), none]) (st2 := [vi 3, vi x1, vr (some w)]) rfl ?_
          refine R_cI (as := [vr (some w), vi x1, vi 3]) rfl rfl ⟨Nat.le_of_ble_eq_true rfl, Nat.le_of_ble_eq_true rfl, rfl, (Or.inr ⟨_, rfl, t0⟩)⟩ rfl rfl k (fun x_67 h_66 k => ?_)
          refine R_ps 2 (pc2 := 89) (L2 := [some (vr (some w)), some (vi x1), some (vi x2), some (vi x_67)]) (st2 := [vr (some w)]) rfl ?_
          refine R_getR rfl t0 ?_
          refine R_ps 1 (pc2 := 93) (L2 := [some (vr (some w)), some (vi x1), some (vi x2), some (vi x_67)]) (st2 := [vr (some w), vr (gr h_66 w 3)]) rfl ?_
          refine R_getR rfl t0 ?_
          refine R_cV (as := [vr (gr h_66 w 3), vr (gr h_66 w 1)]) rfl rfl ⟨Nat.le_of_ble_eq_true rfl, Nat.le_of_ble_eq_true rfl, rfl, (Or.inl rfl)⟩ rfl rfl k (fun h_71 k => ?_)
          refine R_ps 1 (pc2 := 100) (L2 := [some (vr (some w)), some (vi x1), some (vi x2), some (vi x_67)]) (st2 := [vi x_67]) rfl ?_
          exact R_iret rfl rfl ⟨_, rfl, k⟩
        · have k := k.1 (Classical.not_not.mp c_64)
          refine R_ps 4 (pc2 := 71) (L2 := [some (vr (some w)), some (vi x1), some (vi x2), none]) (st2 := [vi 0, vi x1, vr (some w), vi 100]) rfl ?_
          refine R_cI (as := [vr (some w), vi x1, vi 0]) rfl rfl ⟨Nat.le_of_ble_eq_true rfl, Nat.le_of_ble_eq_true rfl, rfl, (Or.inr ⟨_, rfl, t0⟩)⟩ rfl rfl k (fun x_76 h_75 k => ?_)
          refine R_cI (as := [vi x_76]) rfl rfl ⟨Nat.le_of_ble_eq_true rfl, Nat.le_of_ble_eq_true rfl, rfl, (Or.inl rfl)⟩ rfl rfl k (fun x_79 h_78 k => ?_)
          refine R_ps 4 (pc2 := 89) (L2 := [some (vr (some w)), some (vi x1), some (vi x2), some (vi (100 + x_79))]) (st2 := [vr (some w)]) rfl ?_
          refine R_getR rfl t0 ?_
          refine R_ps 1 (pc2 := 93) (L2 := [some (vr (some w)), some (vi x1), some (vi x2), some (vi (100 + x_79))]) (st2 := [vr (some w), vr (gr h_78 w 3)]) rfl ?_
          refine R_getR rfl t0 ?_
          refine R_cV (as := [vr (gr h_78 w 3), vr (gr h_78 w 1)]) rfl rfl ⟨Nat.le_of_ble_eq_true rfl, Nat.le_of_ble_eq_true rfl, rfl, (Or.inl rfl)⟩ rfl rfl k (fun h_83 k => ?_)
          refine R_ps 1 (pc2 := 100) (L2 := [some (vr (some w)), some (vi x1), some (vi x2), some (vi (100 + x_79))]) (st2 := [vi (100 + x_79)]) rfl ?_
          exact R_iret rfl rfl ⟨_, rfl, k⟩
      · have k := k.1 (i32_lt c_52)
        refine R_ps 1 (pc2 := 39) (L2 := [some (vr (some w)), some (vi x1), some (vi x2), none]) (st2 := [vi 0]) rfl ?_
        exact R_iret rfl rfl ⟨_, rfl, k⟩
  · have k := k.1 (Classical.not_not.mp c_4)
    refine R_ps 2 (pc2 := 28) (L2 := [some (vr (some w)), some (vi x1), some (vi x2), none]) (st2 := [vi 1, vr (some w)]) rfl ?_
    refine R_putI rfl t0 ?_
    show WP T N _ _ _ _ (si h_2 w 0 1) _
    generalize e_89 : si h_2 w 0 1 = h_88
    replace k := k h_88 e_89.symm
    refine R_ps 1 (pc2 := 32) (L2 := [some (vr (some w)), some (vi x1), some (vi x2), none]) (st2 := [vr (some w)]) rfl ?_
    refine R_getI rfl t0 ?_
    refine R_if0 rfl (fun c_91 => ?_) (fun c_91 => ?_)
    · have k := k.2 (i32_nlt c_91)
      refine R_ps 1 (pc2 := 41) (L2 := [some (vr (some w)), some (vi x1), some (vi x2), none]) (st2 := [vr (some w)]) rfl ?_
      refine R_getR rfl t0 ?_
      refine R_ps 1 (pc2 := 45) (L2 := [some (vr (some w)), some (vi x1), some (vi x2), none]) (st2 := [vr (some w), vr (gr h_88 w 1)]) rfl ?_
      refine R_getR rfl t0 ?_
      refine R_cV (as := [vr (gr h_88 w 1), vr (gr h_88 w 3)]) rfl rfl ⟨Nat.le_of_ble_eq_true rfl, Nat.le_of_ble_eq_true rfl, rfl, (Or.inl rfl)⟩ rfl rfl k (fun h_95 k => ?_)
      refine R_ps 2 (pc2 := 53) (L2 := [some (vr (some w)), some (vi x1), some (vi x2), none]) (st2 := [vi x2, vr (some w)]) rfl ?_
      refine R_cV (as := [vr (some w), vi x2]) rfl rfl ⟨Nat.le_of_ble_eq_true rfl, Nat.le_of_ble_eq_true rfl, rfl, (Or.inr ⟨_, rfl, t0⟩)⟩ rfl rfl k (fun h_98 k => ?_)
      refine R_ps 3 (pc2 := 59) (L2 := [some (vr (some w)), some (vi x1), some (vi x2), none]) (st2 := [vi 0, vi x1, vr (some w)]) rfl ?_
      refine R_cI (as := [vr (some w), vi x1, vi 0]) rfl rfl ⟨Nat.le_of_ble_eq_true rfl, Nat.le_of_ble_eq_true rfl, rfl, (Or.inr ⟨_, rfl, t0⟩)⟩ rfl rfl k (fun x_102 h_101 k => ?_)
      refine R_ps 1 (pc2 := 63) (L2 := [some (vr (some w)), some (vi x1), some (vi x2), none]) (st2 := [vi 2, vi x_102]) rfl ?_
      refine R_if rfl (fun c_103 => ?_) (fun c_103 => ?_)
      · have k := k.2 c_103
        refine R_ps 3 (pc2 := 84) (L2 := [some (vr (some w)), some (vi x1), some (vi x2), none]) (st2 := [vi 3, vi x1, vr (some w)]) rfl ?_
        refine R_cI (as := [vr (some w), vi x1, vi 3]) rfl rfl ⟨Nat.le_of_ble_eq_true rfl, Nat.le_of_ble_eq_true rfl, rfl, (Or.inr ⟨_, rfl, t0⟩)⟩ rfl rfl k (fun x_106 h_105 k => ?_)
        refine R_ps 2 (pc2 := 89) (L2 := [some (vr (some w)), some (vi x1), some (vi x2), some (vi x_106)]) (st2 := [vr (some w)]) rfl ?_
        refine R_getR rfl t0 ?_
        refine R_ps 1 (pc2 := 93) (L2 := [some (vr (some w)), some (vi x1), some (vi x2), some (vi x_106)]) (st2 := [vr (some w), vr (gr h_105 w 3)]) rfl ?_
        refine R_getR rfl t0 ?_
        refine R_cV (as := [vr (gr h_105 w 3), vr (gr h_105 w 1)]) rfl rfl ⟨Nat.le_of_ble_eq_true rfl, Nat.le_of_ble_eq_true rfl, rfl, (Or.inl rfl)⟩ rfl rfl k (fun h_110 k => ?_)
        refine R_ps 1 (pc2 := 100) (L2 := [some (vr (some w)), some (vi x1), some (vi x2), some (vi x_106)]) (st2 := [vi x_106]) rfl ?_
        exact R_iret rfl rfl ⟨_, rfl, k⟩
      · have k := k.1 (Classical.not_not.mp c_103)
        refine R_ps 4 (pc2 := 71) (L2 := [some (vr (some w)), some (vi x1), some (vi x2), none]) (st2 := [vi 0, vi x1, vr (some w), vi 100]) rfl ?_
        refine R_cI (as := [vr (some w), vi x1, vi 0]) rfl rfl ⟨Nat.le_of_ble_eq_true rfl, Nat.le_of_ble_eq_true rfl, rfl, (Or.inr ⟨_, rfl, t0⟩)⟩ rfl rfl k (fun x_115 h_114 k => ?_)
        refine R_cI (as := [vi x_115]) rfl rfl ⟨Nat.le_of_ble_eq_true rfl, Nat.le_of_ble_eq_true rfl, rfl, (Or.inl rfl)⟩ rfl rfl k (fun x_118 h_117 k => ?_)
        refine R_ps 4 (pc2 := 89) (L2 := [some (vr (some w)), some (vi x1), some (vi x2), some (vi (100 + x_118))]) (st2 := [vr (some w)]) rfl ?_
        refine R_getR rfl t0 ?_
        refine R_ps 1 (pc2 := 93) (L2 := [some (vr (some w)), some (vi x1), some (vi x2), some (vi (100 + x_118))]) (st2 := [vr (some w), vr (gr h_117 w 3)]) rfl ?_
        refine R_getR rfl t0 ?_
        refine R_cV (as := [vr (gr h_117 w 3), vr (gr h_117 w 1)]) rfl rfl ⟨Nat.le_of_ble_eq_true rfl, Nat.le_of_ble_eq_true rfl, rfl, (Or.inl rfl)⟩ rfl rfl k (fun h_122 k => ?_)
        refine R_ps 1 (pc2 := 100) (L2 := [some (vr (some w)), some (vi x1), some (vi x2), some (vi (100 + x_118))]) (st2 := [vi (100 + x_118)]) rfl ?_
        exact R_iret rfl rfl ⟨_, rfl, k⟩
    · have k := k.1 (i32_lt c_91)
      refine R_ps 1 (pc2 := 39) (L2 := [some (vr (some w)), some (vi x1), some (vi x2), none]) (st2 := [vi 0]) rfl ?_
      exact R_iret rfl rfl ⟨_, rfl, k⟩
/-- DroneCorridorsModel.pairs -/
theorem m234 {T N : Nat → Nat} {h : PH} {w : Nat} {x1 : Int32} {K : Int32 → PH → Prop} (t0 : T w = 12) (k : (∀ h_2, h_2 = si h w 0 0 → WI T N 234 9 [some (vr (some w)), some (vi x1), some (vi 0), some (vi 0), none, none, none] [] h_2 K)) : CI T N 234 [vr (some w), vi x1] h K := by
  show WP T N 234 0 [some (vr (some w)), some (vi x1), none, none, none, none, none] [] h _
  refine R_ps 2 (pc2 := 2) (L2 := [some (vr (some w)), some (vi x1), none, none, none, none, none]) (st2 := [vi 0, vr (some w)]) rfl ?_
  refine R_putI rfl t0 ?_
  show WP T N _ _ _ _ (si h w 0 0) _
  generalize e_3 : si h w 0 0 = h_2
  replace k := k h_2 e_3.symm
  refine R_ps 4 (pc2 := 9) (L2 := [some (vr (some w)), some (vi x1), some (vi 0), some (vi 0), none, none, none]) (st2 := []) rfl ?_
  exact k
theorem m234_9 {T N : Nat → Nat} {h : PH} {w : Nat} {x1 : Int32} {x2 : Int32} {x3 : Int32} {K : Int32 → PH → Prop} (t0 : T w = 12) (k : (∃ a_3, (gr h w 1) = some a_3 ∧ T a_3 = 22 ∧ inb 117 (N a_3) ∧ ((x3 < (gi h a_3 117) → (WI T N 234 23 [some (vr (some w)), some (vi x1), some (vi x2), some (vi x3), some (vi 0), none, none] [] h K)) ∧ (¬ (x3 < (gi h a_3 117)) → (K x2 h))))) : WI T N 234 9 [some (vr (some w)), some (vi x1), some (vi x2), some (vi x3), none, none, none] [] h K := by
  show WP T N 234 9 [some (vr (some w)), some (vi x1), some (vi x2), some (vi x3), none, none, none] [] h _
  refine R_ps 2 (pc2 := 11) (L2 := [some (vr (some w)), some (vi x1), some (vi x2), some (vi x3), none, none, none]) (st2 := [vr (some w), vi x3]) rfl ?_
  refine R_getR rfl t0 ?_
  refine R_ps 1 (pc2 := 16) (L2 := [some (vr (some w)), some (vi x1), some (vi x2), some (vi x3), none, none, none]) (st2 := [vi 117, vr (gr h w 1), vi x3]) rfl ?_
  obtain ⟨a_3, e_4, k⟩ := k
  rw [e_4]
  obtain ⟨t_5, k⟩ := k
  obtain ⟨t_6, k⟩ := k
  refine R_iald rfl (Or.inl t_5) t_6 ?_
  refine R_if rfl (fun c_7 => ?_) (fun c_7 => ?_)
  · have k := k.2 (i32_nlt c_7)
    refine R_ps 1 (pc2 := 135) (L2 := [some (vr (some w)), some (vi x1), some (vi x2), some (vi x3), none, none, none]) (st2 := [vi x2]) rfl ?_
    exact R_iret rfl rfl ⟨_, rfl, k⟩
  · have k := k.1 (i32_lt c_7)
    refine R_ps 2 (pc2 := 23) (L2 := [some (vr (some w)), some (vi x1), some (vi x2), some (vi x3), some (vi 0), none, none]) (st2 := []) rfl ?_
    exact k
theorem m234_23 {T N : Nat → Nat} {h : PH} {w : Nat} {x1 : Int32} {x2 : Int32} {x3 : Int32} {x4 : Int32} {K : Int32 → PH → Prop} (k : (((x4 < x3 → (WI T N 234 32 [some (vr (some w)), some (vi x1), some (vi x2), some (vi x3), some (vi x4), some (vi 0), none] [] h K)) ∧ (¬ (x4 < x3) → (WI T N 234 9 [some (vr (some w)), some (vi x1), some (vi x2), some (vi (x3 + 1)), none, none, none] [] h K))))) : WI T N 234 23 [some (vr (some w)), some (vi x1), some (vi x2), some (vi x3), some (vi x4), none, none] [] h K := by
  show WP T N 234 23 [some (vr (some w)), some (vi x1), some (vi x2), some (vi x3), some (vi x4), none, none] [] h _
  refine R_ps 2 (pc2 := 26) (L2 := [some (vr (some w)), some (vi x1), some (vi x2), some (vi x3), some (vi x4), none, none]) (st2 := [vi x3, vi x4]) rfl ?_
  refine R_if rfl (fun c_1 => ?_) (fun c_1 => ?_)
  · have k := k.2 (i32_nlt c_1)
    refine R_ps 2 (pc2 := 9) (L2 := [some (vr (some w)), some (vi x1), some (vi x2), some (vi (x3 + 1)), some (vi x4), none, none]) (st2 := []) rfl ?_
    exact R_drop k (LE_of (L := [some (vr (some w)), some (vi x1), some (vi x2), some (vi (x3 + 1)), none, none, none]) (L2 := [some (vr (some w)), some (vi x1), some (vi x2), some (vi (x3 + 1)), some (vi x4), none, none]) ⟨rfl, rfl, rfl, rfl, trivial⟩)
  · have k := k.1 (i32_lt c_1)
    refine R_ps 2 (pc2 := 32) (L2 := [some (vr (some w)), some (vi x1), some (vi x2), some (vi x3), some (vi x4), some (vi 0), none]) (st2 := []) rfl ?_
    exact k
theorem m234_32 {T N : Nat → Nat} {h : PH} {w : Nat} {x1 : Int32} {x2 : Int32} {x3 : Int32} {x4 : Int32} {x5 : Int32} {K : Int32 → PH → Prop} (t0 : T w = 12) (k : (CI T N 168 [vr (some w), vi x3, vi 5] h (fun x_3 h_2 => (((x5 < x_3 → (WI T N 234 46 [some (vr (some w)), some (vi x1), some (vi x2), some (vi x3), some (vi x4), some (vi x5), some (vi 0)] [] h_2 K)) ∧ (¬ (x5 < x_3) → (WI T N 234 23 [some (vr (some w)), some (vi x1), some (vi x2), some (vi x3), some (vi (x4 + 1)), none, none] [] h_2 K))))))) : WI T N 234 32 [some (vr (some w)), some (vi x1), some (vi x2), some (vi x3), some (vi x4), some (vi x5), none] [] h K := by
  show WP T N 234 32 [some (vr (some w)), some (vi x1), some (vi x2), some (vi x3), some (vi x4), some (vi x5), none] [] h _
  refine R_ps 4 (pc2 := 37) (L2 := [some (vr (some w)), some (vi x1), some (vi x2), some (vi x3), some (vi x4), some (vi x5), none]) (st2 := [vi 5, vi x3, vr (some w), vi x5]) rfl ?_
  refine R_cI (as := [vr (some w), vi x3, vi 5]) rfl rfl ⟨Nat.le_of_ble_eq_true rfl, Nat.le_of_ble_eq_true rfl, rfl, (Or.inr ⟨_, rfl, t0⟩)⟩ rfl rfl k (fun x_3 h_2 k => ?_)
  refine R_if rfl (fun c_4 => ?_) (fun c_4 => ?_)
  · have k := k.2 (i32_nlt c_4)
    refine R_ps 2 (pc2 := 23) (L2 := [some (vr (some w)), some (vi x1), some (vi x2), some (vi x3), some (vi (x4 + 1)), some (vi x5), none]) (st2 := []) rfl ?_
    exact R_drop k (LE_of (L := [some (vr (some w)), some (vi x1), some (vi x2), some (vi x3), some (vi (x4 + 1)), none, none]) (L2 := [some (vr (some w)), some (vi x1), some (vi x2), some (vi x3), some (vi (x4 + 1)), some (vi x5), none]) ⟨rfl, rfl, rfl, rfl, rfl, trivial⟩)
  · have k := k.1 (i32_lt c_4)
    refine R_ps 2 (pc2 := 46) (L2 := [some (vr (some w)), some (vi x1), some (vi x2), some (vi x3), some (vi x4), some (vi x5), some (vi 0)]) (st2 := []) rfl ?_
    exact k
theorem m234_46 {T N : Nat → Nat} {h : PH} {w : Nat} {x1 : Int32} {x2 : Int32} {x3 : Int32} {x4 : Int32} {x5 : Int32} {x6 : Int32} {K : Int32 → PH → Prop} (t0 : T w = 12) (k : (CI T N 168 [vr (some w), vi x4, vi 5] h (fun x_3 h_2 => (((x6 < x_3 → (CI T N 186 [vr (some w), vi x3, vi x5] h_2 (fun x_7 h_6 => (CI T N 186 [vr (some w), vi x4, vi x6] h_6 (fun x_10 h_9 => (CI T N 202 [vi x_7, vi x_10] h_9 (fun x_13 h_12 => (((x_13 = 0 → (WI T N 234 46 [some (vr (some w)), some (vi x1), some (vi (x2 + 0)), some (vi x3), some (vi x4), some (vi x5), some (vi (x6 + 1))] [] h_12 K)) ∧ (¬ (x_13 = 0) → (CI T N 186 [vr (some w), vi x3, vi x5] h_12 (fun x_17 h_16 => (CI T N 186 [vr (some w), vi x4, vi x6] h_16 (fun x_20 h_19 => (CI T N 203 [vr (some w), vi x_17, vi x_20] h_19 (fun x_23 h_22 => (((x_23 = x1 → (WI T N 234 46 [some (vr (some w)), some (vi x1), some (vi (x2 + 1)), some (vi x3), some (vi x4), some (vi x5), some (vi (x6 + 1))] [] h_22 K)) ∧ (¬ (x_23 = x1) → (WI T N 234 46 [some (vr (some w)), some (vi x1), some (vi (x2 + 0)), some (vi x3), some (vi x4), some (vi x5), some (vi (x6 + 1))] [] h_22 K)))))))))))))))))))) ∧ (¬ (x6 < x_3) → (WI T N 234 32 [some (vr (some w)), some (vi x1), some (vi x2), some (vi x3), some (vi x4), some (vi (x5 + 1)), none] [] h_2 K))))))) : WI T N 234 46 [some (vr (some w)), some (vi x1), some (vi x2), some (vi x3), some (vi x4), some (vi x5), some (vi x6)] [] h K := by
  show WP T N 234 46 [some (vr (some w)), some (vi x1), some (vi x2), some (vi x3), some (vi x4), some (vi x5), some (vi x6)] [] h _
  refine R_ps 4 (pc2 := 52) (L2 := [some (vr (some w)), some (vi x1), some (vi x2), some (vi x3), some (vi x4), some (vi x5), some (vi x6)]) (st2 := [vi 5, vi x4, vr (some w), vi x6]) rfl ?_
  refine R_cI (as := [vr (some w), vi x4, vi 5]) rfl rfl ⟨Nat.le_of_ble_eq_true rfl, Nat.le_of_ble_eq_true rfl, rfl, (Or.inr ⟨_, rfl, t0⟩)⟩ rfl rfl k (fun x_3 h_2 k => ?_)
  refine R_if rfl (fun c_4 => ?_) (fun c_4 => ?_)
  · have k := k.2 (i32_nlt c_4)
    refine R_ps 2 (pc2 := 32) (L2 := [some (vr (some w)), some (vi x1), some (vi x2), some (vi x3), some (vi x4), some (vi (x5 + 1)), some (vi x6)]) (st2 := []) rfl ?_
    exact R_drop k (LE_of (L := [some (vr (some w)), some (vi x1), some (vi x2), some (vi x3), some (vi x4), some (vi (x5 + 1)), none]) (L2 := [some (vr (some w)), some (vi x1), some (vi x2), some (vi x3), some (vi x4), some (vi (x5 + 1)), some (vi x6)]) ⟨rfl, rfl, rfl, rfl, rfl, rfl, trivial⟩)
  · have k := k.1 (i32_lt c_4)
    refine R_ps 4 (pc2 := 63) (L2 := [some (vr (some w)), some (vi x1), some (vi x2), some (vi x3), some (vi x4), some (vi x5), some (vi x6)]) (st2 := [vi x5, vi x3, vr (some w), vi x2]) rfl ?_
    refine R_cI (as := [vr (some w), vi x3, vi x5]) rfl rfl ⟨Nat.le_of_ble_eq_true rfl, Nat.le_of_ble_eq_true rfl, rfl, (Or.inr ⟨_, rfl, t0⟩)⟩ rfl rfl k (fun x_7 h_6 k => ?_)
    refine R_ps 3 (pc2 := 71) (L2 := [some (vr (some w)), some (vi x1), some (vi x2), some (vi x3), some (vi x4), some (vi x5), some (vi x6)]) (st2 := [vi x6, vi x4, vr (some w), vi x_7, vi x2]) rfl ?_
    refine R_cI (as := [vr (some w), vi x4, vi x6]) rfl rfl ⟨Nat.le_of_ble_eq_true rfl, Nat.le_of_ble_eq_true rfl, rfl, (Or.inr ⟨_, rfl, t0⟩)⟩ rfl rfl k (fun x_10 h_9 k => ?_)
    refine R_cI (as := [vi x_7, vi x_10]) rfl rfl ⟨Nat.le_of_ble_eq_true rfl, Nat.le_of_ble_eq_true rfl, rfl, (Or.inl rfl)⟩ rfl rfl k (fun x_13 h_12 k => ?_)
    refine R_if0 rfl (fun c_14 => ?_) (fun c_14 => ?_)
    · have k := k.1 c_14
      refine R_ps 5 (pc2 := 46) (L2 := [some (vr (some w)), some (vi x1), some (vi (x2 + 0)), some (vi x3), some (vi x4), some (vi x5), some (vi (x6 + 1))]) (st2 := []) rfl ?_
      exact k
    · have k := k.2 c_14
      refine R_ps 4 (pc2 := 85) (L2 := [some (vr (some w)), some (vi x1), some (vi x2), some (vi x3), some (vi x4), some (vi x5), some (vi x6)]) (st2 := [vi x5, vi x3, vr (some w), vr (some w), vi x2]) rfl ?_
      refine R_cI (as := [vr (some w), vi x3, vi x5]) rfl rfl ⟨Nat.le_of_ble_eq_true rfl, Nat.le_of_ble_eq_true rfl, rfl, (Or.inr ⟨_, rfl, t0⟩)⟩ rfl rfl k (fun x_17 h_16 k => ?_)
      refine R_ps 3 (pc2 := 93) (L2 := [some (vr (some w)), some (vi x1), some (vi x2), some (vi x3), some (vi x4), some (vi x5), some (vi x6)]) (st2 := [vi x6, vi x4, vr (some w), vi x_17, vr (some w), vi x2]) rfl ?_
      refine R_cI (as := [vr (some w), vi x4, vi x6]) rfl rfl ⟨Nat.le_of_ble_eq_true rfl, Nat.le_of_ble_eq_true rfl, rfl, (Or.inr ⟨_, rfl, t0⟩)⟩ rfl rfl k (fun x_20 h_19 k => ?_)
      refine R_cI (as := [vr (some w), vi x_17, vi x_20]) rfl rfl ⟨Nat.le_of_ble_eq_true rfl, Nat.le_of_ble_eq_true rfl, rfl, (Or.inr ⟨_, rfl, t0⟩)⟩ rfl rfl k (fun x_23 h_22 k => ?_)
      refine R_ps 1 (pc2 := 100) (L2 := [some (vr (some w)), some (vi x1), some (vi x2), some (vi x3), some (vi x4), some (vi x5), some (vi x6)]) (st2 := [vi x1, vi x_23, vi x2]) rfl ?_
      refine R_if rfl (fun c_24 => ?_) (fun c_24 => ?_)
      · have k := k.2 c_24
        refine R_ps 5 (pc2 := 46) (L2 := [some (vr (some w)), some (vi x1), some (vi (x2 + 0)), some (vi x3), some (vi x4), some (vi x5), some (vi (x6 + 1))]) (st2 := []) rfl ?_
        exact k
      · have k := k.1 (Classical.not_not.mp c_24)
        refine R_ps 6 (pc2 := 46) (L2 := [some (vr (some w)), some (vi x1), some (vi (x2 + 1)), some (vi x3), some (vi x4), some (vi x5), some (vi (x6 + 1))]) (st2 := []) rfl ?_
        exact k
/-- DroneCorridorsModel.uses -/
theorem m235 {T N : Nat → Nat} {h : PH} {w : Nat} {x1 : Int32} {x2 : Int32} {K : Int32 → PH → Prop} (t0 : T w = 12) (k : (CI T N 163 [vr (some w), vi x1] h (fun x_3 h_2 => (((x_3 = 0 → (∀ h_22, h_22 = si h_2 w 0 1 → ((0 < (gi h_22 w 0) → (K 0 h_22)) ∧ (¬ (0 < (gi h_22 w 0)) → (WI T N 235 44 [some (vr (some w)), some (vi x1), some (vi x2), some (vi 0), some (vi 0), none] [] h_22 K))))) ∧ (¬ (x_3 = 0) → (CI T N 158 [vi x2, vi (-1), vi 2] h_2 (fun x_7 h_6 => (((x_7 = 0 → (∀ h_16, h_16 = si h_6 w 0 2 → ((0 < (gi h_16 w 0) → (K 0 h_16)) ∧ (¬ (0 < (gi h_16 w 0)) → (WI T N 235 44 [some (vr (some w)), some (vi x1), some (vi x2), some (vi 0), some (vi 0), none] [] h_16 K))))) ∧ (¬ (x_7 = 0) → (∀ h_10, h_10 = si h_6 w 0 0 → ((0 < (gi h_10 w 0) → (K 0 h_10)) ∧ (¬ (0 < (gi h_10 w 0)) → (WI T N 235 44 [some (vr (some w)), some (vi x1), some (vi x2), some (vi 0), some (vi 0), none] [] h_10 K))))))))))))))) : CI T N 235 [vr (some w), vi x1, vi x2] h K := by
  show WP T N 235 0 [some (vr (some w)), some (vi x1), some (vi x2), none, none, none] [] h _
  refine R_ps 3 (pc2 := 3) (L2 := [some (vr (some w)), some (vi x1), some (vi x2), none, none, none]) (st2 := [vi x1, vr (some w), vr (some w)]) rfl ?_
  refine R_cI (as := [vr (some w), vi x1]) rfl rfl ⟨Nat.le_of_ble_eq_true rfl, Nat.le_of_ble_eq_true rfl, rfl, (Or.inr ⟨_, rfl, t0⟩)⟩ rfl rfl k (fun x_3 h_2 k => ?_)
  refine R_if0 rfl (fun c_4 => ?_) (fun c_4 => ?_)
  · have k := k.2 c_4
    refine R_ps 3 (pc2 := 16) (L2 := [some (vr (some w)), some (vi x1), some (vi x2), none, none, none]) (st2 := [vi 2, vi (-1), vi x2, vr (some w)]) rfl ?_
    refine R_cI (as := [vi x2, vi (-1), vi 2]) rfl rfl ⟨Nat.le_of_ble_eq_true rfl, Nat.le_of_ble_eq_true rfl, rfl, (Or.inl rfl)⟩ rfl rfl k (fun x_7 h_6 k => ?_)
    refine R_if0 rfl (fun c_8 => ?_) (fun c_8 => ?_)
    · have k := k.2 c_8
      refine R_ps 1 (pc2 := 27) (L2 := [some (vr (some w)), some (vi x1), some (vi x2), none, none, none]) (st2 := [vi 0, vr (some w)]) rfl ?_
      refine R_putI rfl t0 ?_
      show WP T N _ _ _ _ (si h_6 w 0 0) _
      generalize e_11 : si h_6 w 0 0 = h_10
      replace k := k h_10 e_11.symm
      refine R_ps 1 (pc2 := 31) (L2 := [some (vr (some w)), some (vi x1), some (vi x2), none, none, none]) (st2 := [vr (some w)]) rfl ?_
      refine R_getI rfl t0 ?_
      refine R_if0 rfl (fun c_13 => ?_) (fun c_13 => ?_)
      · have k := k.2 (i32_nlt c_13)
        refine R_ps 4 (pc2 := 44) (L2 := [some (vr (some w)), some (vi x1), some (vi x2), some (vi 0), some (vi 0), none]) (st2 := []) rfl ?_
        exact k
      · have k := k.1 (i32_lt c_13)
        refine R_ps 1 (pc2 := 38) (L2 := [some (vr (some w)), some (vi x1), some (vi x2), none, none, none]) (st2 := [vi 0]) rfl ?_
        exact R_iret rfl rfl ⟨_, rfl, k⟩
    · have k := k.1 (Classical.not_not.mp c_8)
      refine R_ps 2 (pc2 := 27) (L2 := [some (vr (some w)), some (vi x1), some (vi x2), none, none, none]) (st2 := [vi 2, vr (some w)]) rfl ?_
      refine R_putI rfl t0 ?_
      show WP T N _ _ _ _ (si h_6 w 0 2) _
      generalize e_17 : si h_6 w 0 2 = h_16
      replace k := k h_16 e_17.symm
      refine R_ps 1 (pc2 := 31) (L2 := [some (vr (some w)), some (vi x1), some (vi x2), none, none, none]) (st2 := [vr (some w)]) rfl ?_
      refine R_getI rfl t0 ?_
      refine R_if0 rfl (fun c_19 => ?_) (fun c_19 => ?_)
      · have k := k.2 (i32_nlt c_19)
        refine R_ps 4 (pc2 := 44) (L2 := [some (vr (some w)), some (vi x1), some (vi x2), some (vi 0), some (vi 0), none]) (st2 := []) rfl ?_
        exact k
      · have k := k.1 (i32_lt c_19)
        refine R_ps 1 (pc2 := 38) (L2 := [some (vr (some w)), some (vi x1), some (vi x2), none, none, none]) (st2 := [vi 0]) rfl ?_
        exact R_iret rfl rfl ⟨_, rfl, k⟩
  · have k := k.1 (Classical.not_not.mp c_4)
    refine R_ps 2 (pc2 := 27) (L2 := [some (vr (some w)), some (vi x1), some (vi x2), none, none, none]) (st2 := [vi 1, vr (some w)]) rfl ?_
    refine R_putI rfl t0 ?_
    show WP T N _ _ _ _ (si h_2 w 0 1) _
    generalize e_23 : si h_2 w 0 1 = h_22
    replace k := k h_22 e_23.symm
    refine R_ps 1 (pc2 := 31) (L2 := [some (vr (some w)), some (vi x1), some (vi x2), none, none, none]) (st2 := [vr (some w)]) rfl ?_
    refine R_getI rfl t0 ?_
    refine R_if0 rfl (fun c_25 => ?_) (fun c_25 => ?_)
    · have k := k.2 (i32_nlt c_25)
      refine R_ps 4 (pc2 := 44) (L2 := [some (vr (some w)), some (vi x1), some (vi x2), some (vi 0), some (vi 0), none]) (st2 := []) rfl ?_
      exact k
    · have k := k.1 (i32_lt c_25)
      refine R_ps 1 (pc2 := 38) (L2 := [some (vr (some w)), some (vi x1), some (vi x2), none, none, none]) (st2 := [vi 0]) rfl ?_
      exact R_iret rfl rfl ⟨_, rfl, k⟩
theorem m235_44 {T N : Nat → Nat} {h : PH} {w : Nat} {x1 : Int32} {x2 : Int32} {x3 : Int32} {x4 : Int32} {K : Int32 → PH → Prop} (t0 : T w = 12) (k : (∃ a_3, (gr h w 1) = some a_3 ∧ T a_3 = 22 ∧ inb 117 (N a_3) ∧ ((x4 < (gi h a_3 117) → (WI T N 235 59 [some (vr (some w)), some (vi x1), some (vi x2), some (vi x3), some (vi x4), some (vi 0)] [] h K)) ∧ (¬ (x4 < (gi h a_3 117)) → (K x3 h))))) : WI T N 235 44 [some (vr (some w)), some (vi x1), some (vi x2), some (vi x3), some (vi x4), none] [] h K := by
  show WP T N 235 44 [some (vr (some w)), some (vi x1), some (vi x2), some (vi x3), some (vi x4), none] [] h _
  refine R_ps 2 (pc2 := 47) (L2 := [some (vr (some w)), some (vi x1), some (vi x2), some (vi x3), some (vi x4), none]) (st2 := [vr (some w), vi x4]) rfl ?_
  refine R_getR rfl t0 ?_
  refine R_ps 1 (pc2 := 52) (L2 := [some (vr (some w)), some (vi x1), some (vi x2), some (vi x3), some (vi x4), none]) (st2 := [vi 117, vr (gr h w 1), vi x4]) rfl ?_
  obtain ⟨a_3, e_4, k⟩ := k
  rw [e_4]
  obtain ⟨t_5, k⟩ := k
  obtain ⟨t_6, k⟩ := k
  refine R_iald rfl (Or.inl t_5) t_6 ?_
  refine R_if rfl (fun c_7 => ?_) (fun c_7 => ?_)
  · have k := k.2 (i32_nlt c_7)
    refine R_ps 1 (pc2 := 126) (L2 := [some (vr (some w)), some (vi x1), some (vi x2), some (vi x3), some (vi x4), none]) (st2 := [vi x3]) rfl ?_
    exact R_iret rfl rfl ⟨_, rfl, k⟩
  · have k := k.1 (i32_lt c_7)
    refine R_ps 2 (pc2 := 59) (L2 := [some (vr (some w)), some (vi x1), some (vi x2), some (vi x3), some (vi x4), some (vi 0)]) (st2 := []) rfl ?_
    exact k
theorem m235_59 {T N : Nat → Nat} {h : PH} {w : Nat} {x1 : Int32} {x2 : Int32} {x3 : Int32} {x4 : Int32} {x5 : Int32} {K : Int32 → PH → Prop} (t0 : T w = 12) (k : (CI T N 168 [vr (some w), vi x4, vi 5] h (fun x_3 h_2 => (((x5 < x_3 → (CI T N 186 [vr (some w), vi x4, vi x5] h_2 (fun x_7 h_6 => (CI T N 187 [vi x_7] h_6 (fun x_10 h_9 => (((x_10 = x1 → (((x2 < 0 → (WI T N 235 59 [some (vr (some w)), some (vi x1), some (vi x2), some (vi (x3 + 1)), some (vi x4), some (vi (x5 + 1))] [] h_9 K)) ∧ (¬ (x2 < 0) → (CI T N 186 [vr (some w), vi x4, vi x5] h_9 (fun x_15 h_14 => (CI T N 189 [vi x_15] h_14 (fun x_18 h_17 => (((x_18 = x2 → (WI T N 235 59 [some (vr (some w)), some (vi x1), some (vi x2), some (vi (x3 + 1)), some (vi x4), some (vi (x5 + 1))] [] h_17 K)) ∧ (¬ (x_18 = x2) → (WI T N 235 59 [some (vr (some w)), some (vi x1), some (vi x2), some (vi (x3 + 0)), some (vi x4), some (vi (x5 + 1))] [] h_17 K)))))))))))) ∧ (¬ (x_10 = x1) → (WI T N 235 59 [some (vr (some w)), some (vi x1), some (vi x2), some (vi (x3 + 0)), some (vi x4), some (vi (x5 + 1))] [] h_9 K))))))))) ∧ (¬ (x5 < x_3) → (WI T N 235 44 [some (vr (some w)), some (vi x1), some (vi x2), some (vi x3), some (vi (x4 + 1)), none] [] h_2 K))))))) : WI T N 235 59 [some (vr (some w)), some (vi x1), some (vi x2), some (vi x3), some (vi x4), some (vi x5)] [] h K := by
  show WP T N 235 59 [some (vr (some w)), some (vi x1), some (vi x2), some (vi x3), some (vi x4), some (vi x5)] [] h _
  refine R_ps 4 (pc2 := 65) (L2 := [some (vr (some w)), some (vi x1), some (vi x2), some (vi x3), some (vi x4), some (vi x5)]) (st2 := [vi 5, vi x4, vr (some w), vi x5]) rfl ?_
  refine R_cI (as := [vr (some w), vi x4, vi 5]) rfl rfl ⟨Nat.le_of_ble_eq_true rfl, Nat.le_of_ble_eq_true rfl, rfl, (Or.inr ⟨_, rfl, t0⟩)⟩ rfl rfl k (fun x_3 h_2 k => ?_)
  refine R_if rfl (fun c_4 => ?_) (fun c_4 => ?_)
  · have k := k.2 (i32_nlt c_4)
    refine R_ps 2 (pc2 := 44) (L2 := [some (vr (some w)), some (vi x1), some (vi x2), some (vi x3), some (vi (x4 + 1)), some (vi x5)]) (st2 := []) rfl ?_
    exact R_drop k (LE_of (L := [some (vr (some w)), some (vi x1), some (vi x2), some (vi x3), some (vi (x4 + 1)), none]) (L2 := [some (vr (some w)), some (vi x1), some (vi x2), some (vi x3), some (vi (x4 + 1)), some (vi x5)]) ⟨rfl, rfl, rfl, rfl, rfl, trivial⟩)
  · have k := k.1 (i32_lt c_4)
    refine R_ps 4 (pc2 := 77) (L2 := [some (vr (some w)), some (vi x1), some (vi x2), some (vi x3), some (vi x4), some (vi x5)]) (st2 := [vi x5, vi x4, vr (some w), vi x3]) rfl ?_
    refine R_cI (as := [vr (some w), vi x4, vi x5]) rfl rfl ⟨Nat.le_of_ble_eq_true rfl, Nat.le_of_ble_eq_true rfl, rfl, (Or.inr ⟨_, rfl, t0⟩)⟩ rfl rfl k (fun x_7 h_6 k => ?_)
    refine R_cI (as := [vi x_7]) rfl rfl ⟨Nat.le_of_ble_eq_true rfl, Nat.le_of_ble_eq_true rfl, rfl, (Or.inl rfl)⟩ rfl rfl k (fun x_10 h_9 k => ?_)
    refine R_ps 1 (pc2 := 84) (L2 := [some (vr (some w)), some (vi x1), some (vi x2), some (vi x3), some (vi x4), some (vi x5)]) (st2 := [vi x1, vi x_10, vi x3]) rfl ?_
    refine R_if rfl (fun c_11 => ?_) (fun c_11 => ?_)
    · have k := k.2 c_11
      refine R_ps 5 (pc2 := 59) (L2 := [some (vr (some w)), some (vi x1), some (vi x2), some (vi (x3 + 0)), some (vi x4), some (vi (x5 + 1))]) (st2 := []) rfl ?_
      exact k
    · have k := k.1 (Classical.not_not.mp c_11)
      refine R_ps 1 (pc2 := 88) (L2 := [some (vr (some w)), some (vi x1), some (vi x2), some (vi x3), some (vi x4), some (vi x5)]) (st2 := [vi x2, vi x3]) rfl ?_
      refine R_if0 rfl (fun c_12 => ?_) (fun c_12 => ?_)
      · have k := k.1 c_12
        refine R_ps 6 (pc2 := 59) (L2 := [some (vr (some w)), some (vi x1), some (vi x2), some (vi (x3 + 1)), some (vi x4), some (vi (x5 + 1))]) (st2 := []) rfl ?_
        exact k
      · have k := k.2 c_12
        refine R_ps 3 (pc2 := 96) (L2 := [some (vr (some w)), some (vi x1), some (vi x2), some (vi x3), some (vi x4), some (vi x5)]) (st2 := [vi x5, vi x4, vr (some w), vi x3]) rfl ?_
        refine R_cI (as := [vr (some w), vi x4, vi x5]) rfl rfl ⟨Nat.le_of_ble_eq_true rfl, Nat.le_of_ble_eq_true rfl, rfl, (Or.inr ⟨_, rfl, t0⟩)⟩ rfl rfl k (fun x_15 h_14 k => ?_)
        refine R_cI (as := [vi x_15]) rfl rfl ⟨Nat.le_of_ble_eq_true rfl, Nat.le_of_ble_eq_true rfl, rfl, (Or.inl rfl)⟩ rfl rfl k (fun x_18 h_17 k => ?_)
        refine R_ps 1 (pc2 := 103) (L2 := [some (vr (some w)), some (vi x1), some (vi x2), some (vi x3), some (vi x4), some (vi x5)]) (st2 := [vi x2, vi x_18, vi x3]) rfl ?_
        refine R_if rfl (fun c_19 => ?_) (fun c_19 => ?_)
        · have k := k.2 c_19
          refine R_ps 5 (pc2 := 59) (L2 := [some (vr (some w)), some (vi x1), some (vi x2), some (vi (x3 + 0)), some (vi x4), some (vi (x5 + 1))]) (st2 := []) rfl ?_
          exact k
        · have k := k.1 (Classical.not_not.mp c_19)
          refine R_ps 6 (pc2 := 59) (L2 := [some (vr (some w)), some (vi x1), some (vi x2), some (vi (x3 + 1)), some (vi x4), some (vi (x5 + 1))]) (st2 := []) rfl ?_
          exact k
/-- DroneCorridorsModel.account -/
theorem m236 {T N : Nat → Nat} {h : PH} {w : Nat} {x1 : Int32} {x2 : Int32} {K : Int32 → PH → Prop} (t0 : T w = 12) (k : (CI T N 164 [vr (some w), vi x1] h (fun x_3 h_2 => (((x_3 = 0 → (∀ h_30, h_30 = si h_2 w 0 1 → (((gi h_30 w 0) = 0 → (CI T N 168 [vr (some w), vi x1, vi (7 + x2)] h_30 (fun x_37 h_36 => (K x_37 h_36)))) ∧ (¬ ((gi h_30 w 0) = 0) → (K 0 h_30))))) ∧ (¬ (x_3 = 0) → (CI T N 158 [vi x2, vi 0, vi 4] h_2 (fun x_7 h_6 => (((x_7 = 0 → (∀ h_20, h_20 = si h_6 w 0 2 → (((gi h_20 w 0) = 0 → (CI T N 168 [vr (some w), vi x1, vi (7 + x2)] h_20 (fun x_27 h_26 => (K x_27 h_26)))) ∧ (¬ ((gi h_20 w 0) = 0) → (K 0 h_20))))) ∧ (¬ (x_7 = 0) → (∀ h_10, h_10 = si h_6 w 0 0 → (((gi h_10 w 0) = 0 → (CI T N 168 [vr (some w), vi x1, vi (7 + x2)] h_10 (fun x_17 h_16 => (K x_17 h_16)))) ∧ (¬ ((gi h_10 w 0) = 0) → (K 0 h_10))))))))))))))) : CI T N 236 [vr (some w), vi x1, vi x2] h K := by
  show WP T N 236 0 [some (vr (some w)), some (vi x1), some (vi x2)] [] h _
  refine R_ps 3 (pc2 := 3) (L2 := [some (vr (some w)), some (vi x1), some (vi x2)]) (st2 := [vi x1, vr (some w), vr (some w)]) rfl ?_
  refine R_cI (as := [vr (some w), vi x1]) rfl rfl ⟨Nat.le_of_ble_eq_true rfl, Nat.le_of_ble_eq_true rfl, rfl, (Or.inr ⟨_, rfl, t0⟩)⟩ rfl rfl k (fun x_3 h_2 k => ?_)
  refine R_if0 rfl (fun c_4 => ?_) (fun c_4 => ?_)
  · have k := k.2 c_4
    refine R_ps 3 (pc2 := 16) (L2 := [some (vr (some w)), some (vi x1), some (vi x2)]) (st2 := [vi 4, vi 0, vi x2, vr (some w)]) rfl ?_
    refine R_cI (as := [vi x2, vi 0, vi 4]) rfl rfl ⟨Nat.le_of_ble_eq_true rfl, Nat.le_of_ble_eq_true rfl, rfl, (Or.inl rfl)⟩ rfl rfl k (fun x_7 h_6 k => ?_)
    refine R_if0 rfl (fun c_8 => ?_) (fun c_8 => ?_)
    · have k := k.2 c_8
      refine R_ps 1 (pc2 := 27) (L2 := [some (vr (some w)), some (vi x1), some (vi x2)]) (st2 := [vi 0, vr (some w)]) rfl ?_
      refine R_putI rfl t0 ?_
      show WP T N _ _ _ _ (si h_6 w 0 0) _
      generalize e_11 : si h_6 w 0 0 = h_10
      replace k := k h_10 e_11.symm
      refine R_ps 1 (pc2 := 31) (L2 := [some (vr (some w)), some (vi x1), some (vi x2)]) (st2 := [vr (some w)]) rfl ?_
      refine R_getI rfl t0 ?_
      refine R_if0 rfl (fun c_13 => ?_) (fun c_13 => ?_)
      · have k := k.2 c_13
        refine R_ps 1 (pc2 := 50) (L2 := [some (vr (some w)), some (vi x1), some (vi x2)]) (st2 := [vi 0]) rfl ?_
        exact R_iret rfl rfl ⟨_, rfl, k⟩
      · have k := k.1 (Classical.not_not.mp c_13)
        refine R_ps 5 (pc2 := 43) (L2 := [some (vr (some w)), some (vi x1), some (vi x2)]) (st2 := [vi (7 + x2), vi x1, vr (some w)]) rfl ?_
        refine R_cI (as := [vr (some w), vi x1, vi (7 + x2)]) rfl rfl ⟨Nat.le_of_ble_eq_true rfl, Nat.le_of_ble_eq_true rfl, rfl, (Or.inr ⟨_, rfl, t0⟩)⟩ rfl rfl k (fun x_17 h_16 k => ?_)
        refine R_ps 1 (pc2 := 50) (L2 := [some (vr (some w)), some (vi x1), some (vi x2)]) (st2 := [vi x_17]) rfl ?_
        exact R_iret rfl rfl ⟨_, rfl, k⟩
    · have k := k.1 (Classical.not_not.mp c_8)
      refine R_ps 2 (pc2 := 27) (L2 := [some (vr (some w)), some (vi x1), some (vi x2)]) (st2 := [vi 2, vr (some w)]) rfl ?_
      refine R_putI rfl t0 ?_
      show WP T N _ _ _ _ (si h_6 w 0 2) _
      generalize e_21 : si h_6 w 0 2 = h_20
      replace k := k h_20 e_21.symm
      refine R_ps 1 (pc2 := 31) (L2 := [some (vr (some w)), some (vi x1), some (vi x2)]) (st2 := [vr (some w)]) rfl ?_
      refine R_getI rfl t0 ?_
      refine R_if0 rfl (fun c_23 => ?_) (fun c_23 => ?_)
      · have k := k.2 c_23
        refine R_ps 1 (pc2 := 50) (L2 := [some (vr (some w)), some (vi x1), some (vi x2)]) (st2 := [vi 0]) rfl ?_
        exact R_iret rfl rfl ⟨_, rfl, k⟩
      · have k := k.1 (Classical.not_not.mp c_23)
        refine R_ps 5 (pc2 := 43) (L2 := [some (vr (some w)), some (vi x1), some (vi x2)]) (st2 := [vi (7 + x2), vi x1, vr (some w)]) rfl ?_
        refine R_cI (as := [vr (some w), vi x1, vi (7 + x2)]) rfl rfl ⟨Nat.le_of_ble_eq_true rfl, Nat.le_of_ble_eq_true rfl, rfl, (Or.inr ⟨_, rfl, t0⟩)⟩ rfl rfl k (fun x_27 h_26 k => ?_)
        refine R_ps 1 (pc2 := 50) (L2 := [some (vr (some w)), some (vi x1), some (vi x2)]) (st2 := [vi x_27]) rfl ?_
        exact R_iret rfl rfl ⟨_, rfl, k⟩
  · have k := k.1 (Classical.not_not.mp c_4)
    refine R_ps 2 (pc2 := 27) (L2 := [some (vr (some w)), some (vi x1), some (vi x2)]) (st2 := [vi 1, vr (some w)]) rfl ?_
    refine R_putI rfl t0 ?_
    show WP T N _ _ _ _ (si h_2 w 0 1) _
    generalize e_31 : si h_2 w 0 1 = h_30
    replace k := k h_30 e_31.symm
    refine R_ps 1 (pc2 := 31) (L2 := [some (vr (some w)), some (vi x1), some (vi x2)]) (st2 := [vr (some w)]) rfl ?_
    refine R_getI rfl t0 ?_
    refine R_if0 rfl (fun c_33 => ?_) (fun c_33 => ?_)
    · have k := k.2 c_33
      refine R_ps 1 (pc2 := 50) (L2 := [some (vr (some w)), some (vi x1), some (vi x2)]) (st2 := [vi 0]) rfl ?_
      exact R_iret rfl rfl ⟨_, rfl, k⟩
    · have k := k.1 (Classical.not_not.mp c_33)
      refine R_ps 5 (pc2 := 43) (L2 := [some (vr (some w)), some (vi x1), some (vi x2)]) (st2 := [vi (7 + x2), vi x1, vr (some w)]) rfl ?_
      refine R_cI (as := [vr (some w), vi x1, vi (7 + x2)]) rfl rfl ⟨Nat.le_of_ble_eq_true rfl, Nat.le_of_ble_eq_true rfl, rfl, (Or.inr ⟨_, rfl, t0⟩)⟩ rfl rfl k (fun x_37 h_36 k => ?_)
      refine R_ps 1 (pc2 := 50) (L2 := [some (vr (some w)), some (vi x1), some (vi x2)]) (st2 := [vi x_37]) rfl ?_
      exact R_iret rfl rfl ⟨_, rfl, k⟩
/-- DroneCorridorsModel.audit -/
theorem m237 {T N : Nat → Nat} {h : PH} {w : Nat} {K : Int32 → PH → Prop} (t0 : T w = 12) (k : (∀ h_2, h_2 = si h w 0 0 → WI T N 237 9 [some (vr (some w)), some (vi 0), some (vi 0), none] [] h_2 K)) : CI T N 237 [vr (some w)] h K := by
  show WP T N 237 0 [some (vr (some w)), none, none, none] [] h _
  refine R_ps 2 (pc2 := 2) (L2 := [some (vr (some w)), none, none, none]) (st2 := [vi 0, vr (some w)]) rfl ?_
  refine R_putI rfl t0 ?_
  show WP T N _ _ _ _ (si h w 0 0) _
  generalize e_3 : si h w 0 0 = h_2
  replace k := k h_2 e_3.symm
  refine R_ps 4 (pc2 := 9) (L2 := [some (vr (some w)), some (vi 0), some (vi 0), none]) (st2 := []) rfl ?_
  exact k
theorem m237_9 {T N : Nat → Nat} {h : PH} {w : Nat} {x1 : Int32} {x2 : Int32} {K : Int32 → PH → Prop} (t0 : T w = 12) (k : (∃ a_3, (gr h w 1) = some a_3 ∧ T a_3 = 22 ∧ inb 117 (N a_3) ∧ ((x2 < (gi h a_3 117) → (CI T N 168 [vr (some w), vi x2, vi 6] h (fun x_11 h_10 => (CI T N 168 [vr (some w), vi x2, vi 10] h_10 (fun x_14 h_13 => (CI T N 168 [vr (some w), vi x2, vi 7] h_13 (fun x_17 h_16 => (CI T N 168 [vr (some w), vi x2, vi 8] h_16 (fun x_20 h_19 => (CI T N 168 [vr (some w), vi x2, vi 9] h_19 (fun x_23 h_22 => (CI T N 168 [vr (some w), vi x2, vi 12] h_22 (fun x_26 h_25 => (CI T N 168 [vr (some w), vi x2, vi 1] h_25 (fun x_29 h_28 => ((((((((x_11 + x_14) - x_17) - x_20) - x_23) - x_26) = x_29 → (WI T N 237 9 [some (vr (some w)), some (vi (x1 + 0)), some (vi (x2 + 1)), none] [] h_28 K)) ∧ (¬ ((((((x_11 + x_14) - x_17) - x_20) - x_23) - x_26) = x_29) → (WI T N 237 9 [some (vr (some w)), some (vi (x1 + 1)), some (vi (x2 + 1)), none] [] h_28 K))))))))))))))))))) ∧ (¬ (x2 < (gi h a_3 117)) → (K x1 h))))) : WI T N 237 9 [some (vr (some w)), some (vi x1), some (vi x2), none] [] h K := by
  show WP T N 237 9 [some (vr (some w)), some (vi x1), some (vi x2), none] [] h _
  refine R_ps 2 (pc2 := 11) (L2 := [some (vr (some w)), some (vi x1), some (vi x2), none]) (st2 := [vr (some w), vi x2]) rfl ?_
  refine R_getR rfl t0 ?_
  refine R_ps 1 (pc2 := 16) (L2 := [some (vr (some w)), some (vi x1), some (vi x2), none]) (st2 := [vi 117, vr (gr h w 1), vi x2]) rfl ?_
  obtain ⟨a_3, e_4, k⟩ := k
  rw [e_4]
  obtain ⟨t_5, k⟩ := k
  obtain ⟨t_6, k⟩ := k
  refine R_iald rfl (Or.inl t_5) t_6 ?_
  refine R_if rfl (fun c_7 => ?_) (fun c_7 => ?_)
  · have k := k.2 (i32_nlt c_7)
    refine R_ps 1 (pc2 := 93) (L2 := [some (vr (some w)), some (vi x1), some (vi x2), none]) (st2 := [vi x1]) rfl ?_
    exact R_iret rfl rfl ⟨_, rfl, k⟩
  · have k := k.1 (i32_lt c_7)
    refine R_ps 3 (pc2 := 24) (L2 := [some (vr (some w)), some (vi x1), some (vi x2), none]) (st2 := [vi 6, vi x2, vr (some w)]) rfl ?_
    refine R_cI (as := [vr (some w), vi x2, vi 6]) rfl rfl ⟨Nat.le_of_ble_eq_true rfl, Nat.le_of_ble_eq_true rfl, rfl, (Or.inr ⟨_, rfl, t0⟩)⟩ rfl rfl k (fun x_11 h_10 k => ?_)
    refine R_ps 3 (pc2 := 31) (L2 := [some (vr (some w)), some (vi x1), some (vi x2), none]) (st2 := [vi 10, vi x2, vr (some w), vi x_11]) rfl ?_
    refine R_cI (as := [vr (some w), vi x2, vi 10]) rfl rfl ⟨Nat.le_of_ble_eq_true rfl, Nat.le_of_ble_eq_true rfl, rfl, (Or.inr ⟨_, rfl, t0⟩)⟩ rfl rfl k (fun x_14 h_13 k => ?_)
    refine R_ps 4 (pc2 := 39) (L2 := [some (vr (some w)), some (vi x1), some (vi x2), none]) (st2 := [vi 7, vi x2, vr (some w), vi (x_11 + x_14)]) rfl ?_
    refine R_cI (as := [vr (some w), vi x2, vi 7]) rfl rfl ⟨Nat.le_of_ble_eq_true rfl, Nat.le_of_ble_eq_true rfl, rfl, (Or.inr ⟨_, rfl, t0⟩)⟩ rfl rfl k (fun x_17 h_16 k => ?_)
    refine R_ps 4 (pc2 := 47) (L2 := [some (vr (some w)), some (vi x1), some (vi x2), none]) (st2 := [vi 8, vi x2, vr (some w), vi ((x_11 + x_14) - x_17)]) rfl ?_
    refine R_cI (as := [vr (some w), vi x2, vi 8]) rfl rfl ⟨Nat.le_of_ble_eq_true rfl, Nat.le_of_ble_eq_true rfl, rfl, (Or.inr ⟨_, rfl, t0⟩)⟩ rfl rfl k (fun x_20 h_19 k => ?_)
    refine R_ps 4 (pc2 := 55) (L2 := [some (vr (some w)), some (vi x1), some (vi x2), none]) (st2 := [vi 9, vi x2, vr (some w), vi (((x_11 + x_14) - x_17) - x_20)]) rfl ?_
    refine R_cI (as := [vr (some w), vi x2, vi 9]) rfl rfl ⟨Nat.le_of_ble_eq_true rfl, Nat.le_of_ble_eq_true rfl, rfl, (Or.inr ⟨_, rfl, t0⟩)⟩ rfl rfl k (fun x_23 h_22 k => ?_)
    refine R_ps 4 (pc2 := 63) (L2 := [some (vr (some w)), some (vi x1), some (vi x2), none]) (st2 := [vi 12, vi x2, vr (some w), vi ((((x_11 + x_14) - x_17) - x_20) - x_23)]) rfl ?_
    refine R_cI (as := [vr (some w), vi x2, vi 12]) rfl rfl ⟨Nat.le_of_ble_eq_true rfl, Nat.le_of_ble_eq_true rfl, rfl, (Or.inr ⟨_, rfl, t0⟩)⟩ rfl rfl k (fun x_26 h_25 k => ?_)
    refine R_ps 7 (pc2 := 73) (L2 := [some (vr (some w)), some (vi x1), some (vi x2), some (vi (((((x_11 + x_14) - x_17) - x_20) - x_23) - x_26))]) (st2 := [vi 1, vi x2, vr (some w), vi (((((x_11 + x_14) - x_17) - x_20) - x_23) - x_26), vi x1]) rfl ?_
    refine R_cI (as := [vr (some w), vi x2, vi 1]) rfl rfl ⟨Nat.le_of_ble_eq_true rfl, Nat.le_of_ble_eq_true rfl, rfl, (Or.inr ⟨_, rfl, t0⟩)⟩ rfl rfl k (fun x_29 h_28 k => ?_)
    refine R_if rfl (fun c_30 => ?_) (fun c_30 => ?_)
    · have k := k.1 c_30
      refine R_ps 5 (pc2 := 9) (L2 := [some (vr (some w)), some (vi (x1 + 0)), some (vi (x2 + 1)), some (vi (((((x_11 + x_14) - x_17) - x_20) - x_23) - x_26))]) (st2 := []) rfl ?_
      exact R_drop k (LE_of (L := [some (vr (some w)), some (vi (x1 + 0)), some (vi (x2 + 1)), none]) (L2 := [some (vr (some w)), some (vi (x1 + 0)), some (vi (x2 + 1)), some (vi (((((x_11 + x_14) - x_17) - x_20) - x_23) - x_26))]) ⟨rfl, rfl, rfl, trivial⟩)
    · have k := k.2 c_30
      refine R_ps 6 (pc2 := 9) (L2 := [some (vr (some w)), some (vi (x1 + 1)), some (vi (x2 + 1)), some (vi (((((x_11 + x_14) - x_17) - x_20) - x_23) - x_26))]) (st2 := []) rfl ?_
      exact R_drop k (LE_of (L := [some (vr (some w)), some (vi (x1 + 1)), some (vi (x2 + 1)), none]) (L2 := [some (vr (some w)), some (vi (x1 + 1)), some (vi (x2 + 1)), some (vi (((((x_11 + x_14) - x_17) - x_20) - x_23) - x_26))]) ⟨rfl, rfl, rfl, trivial⟩)
/-- DroneCorridorsModel.sum -/
theorem m238 {T N : Nat → Nat} {h : PH} {w : Nat} {x1 : Int32} {K : Int32 → PH → Prop} (k : (WI T N 238 4 [some (vr (some w)), some (vi x1), some (vi 0), some (vi 0)] [] h K)) : CI T N 238 [vr (some w), vi x1] h K := by
  show WP T N 238 0 [some (vr (some w)), some (vi x1), none, none] [] h _
  refine R_ps 4 (pc2 := 4) (L2 := [some (vr (some w)), some (vi x1), some (vi 0), some (vi 0)]) (st2 := []) rfl ?_
  exact k
theorem m238_4 {T N : Nat → Nat} {h : PH} {w : Nat} {x1 : Int32} {x2 : Int32} {x3 : Int32} {K : Int32 → PH → Prop} (t0 : T w = 12) (k : (∃ a_3, (gr h w 1) = some a_3 ∧ T a_3 = 22 ∧ inb 117 (N a_3) ∧ ((x3 < (gi h a_3 117) → (CI T N 168 [vr (some w), vi x3, vi (7 + x1)] h (fun x_11 h_10 => (WI T N 238 4 [some (vr (some w)), some (vi x1), some (vi (x2 + x_11)), some (vi (x3 + 1))] [] h_10 K)))) ∧ (¬ (x3 < (gi h a_3 117)) → (K x2 h))))) : WI T N 238 4 [some (vr (some w)), some (vi x1), some (vi x2), some (vi x3)] [] h K := by
  show WP T N 238 4 [some (vr (some w)), some (vi x1), some (vi x2), some (vi x3)] [] h _
  refine R_ps 2 (pc2 := 6) (L2 := [some (vr (some w)), some (vi x1), some (vi x2), some (vi x3)]) (st2 := [vr (some w), vi x3]) rfl ?_
  refine R_getR rfl t0 ?_
  refine R_ps 1 (pc2 := 11) (L2 := [some (vr (some w)), some (vi x1), some (vi x2), some (vi x3)]) (st2 := [vi 117, vr (gr h w 1), vi x3]) rfl ?_
  obtain ⟨a_3, e_4, k⟩ := k
  rw [e_4]
  obtain ⟨t_5, k⟩ := k
  obtain ⟨t_6, k⟩ := k
  refine R_iald rfl (Or.inl t_5) t_6 ?_
  refine R_if rfl (fun c_7 => ?_) (fun c_7 => ?_)
  · have k := k.2 (i32_nlt c_7)
    refine R_ps 1 (pc2 := 34) (L2 := [some (vr (some w)), some (vi x1), some (vi x2), some (vi x3)]) (st2 := [vi x2]) rfl ?_
    exact R_iret rfl rfl ⟨_, rfl, k⟩
  · have k := k.1 (i32_lt c_7)
    refine R_ps 6 (pc2 := 22) (L2 := [some (vr (some w)), some (vi x1), some (vi x2), some (vi x3)]) (st2 := [vi (7 + x1), vi x3, vr (some w), vi x2]) rfl ?_
    refine R_cI (as := [vr (some w), vi x3, vi (7 + x1)]) rfl rfl ⟨Nat.le_of_ble_eq_true rfl, Nat.le_of_ble_eq_true rfl, rfl, (Or.inr ⟨_, rfl, t0⟩)⟩ rfl rfl k (fun x_11 h_10 k => ?_)
    refine R_ps 4 (pc2 := 4) (L2 := [some (vr (some w)), some (vi x1), some (vi (x2 + x_11)), some (vi (x3 + 1))]) (st2 := []) rfl ?_
    exact k
/-- DroneCorridorsModel.flyingShare -/
theorem m239 {T N : Nat → Nat} {h : PH} {w : Nat} {K : UInt64 → PH → Prop} (t0 : T w = 12) (k : (CI T N 238 [vr (some w), vi 0] h (fun x_3 h_2 => (CI T N 238 [vr (some w), vi 1] h_2 (fun x_6 h_5 => (CI T N 238 [vr (some w), vi 2] h_5 (fun x_9 h_8 => (((((x_3 + x_6) + x_9) = 0 → (∀ h_23, h_23 = si h_8 w 0 1 → ((((x_3 + x_6) + x_9) = 0 → (K FP.dconst0 h_23)) ∧ (¬ (((x_3 + x_6) + x_9) = 0) → (CI T N 238 [vr (some w), vi 0] h_23 (fun x_28 h_27 => (vf_n64 (FP.ddiv (FP.i2d x_28) (FP.i2d ((x_3 + x_6) + x_9))) ∧ K (FP.ddiv (FP.i2d x_28) (FP.i2d ((x_3 + x_6) + x_9))) h_27))))))) ∧ (¬ (((x_3 + x_6) + x_9) = 0) → (∀ h_12, h_12 = si h_8 w 0 0 → ((((x_3 + x_6) + x_9) = 0 → (K FP.dconst0 h_12)) ∧ (¬ (((x_3 + x_6) + x_9) = 0) → (CI T N 238 [vr (some w), vi 0] h_12 (fun x_17 h_16 => (vf_n64 (FP.ddiv (FP.i2d x_17) (FP.i2d ((x_3 + x_6) + x_9))) ∧ K (FP.ddiv (FP.i2d x_17) (FP.i2d ((x_3 + x_6) + x_9))) h_16)))))))))))))))) : CD T N 239 [vr (some w)] h K := by
  show WP T N 239 0 [some (vr (some w)), none] [] h _
  refine R_ps 2 (pc2 := 2) (L2 := [some (vr (some w)), none]) (st2 := [vi 0, vr (some w)]) rfl ?_
  refine R_cI (as := [vr (some w), vi 0]) rfl rfl ⟨Nat.le_of_ble_eq_true rfl, Nat.le_of_ble_eq_true rfl, rfl, (Or.inr ⟨_, rfl, t0⟩)⟩ rfl rfl k (fun x_3 h_2 k => ?_)
  refine R_ps 2 (pc2 := 7) (L2 := [some (vr (some w)), none]) (st2 := [vi 1, vr (some w), vi x_3]) rfl ?_
  refine R_cI (as := [vr (some w), vi 1]) rfl rfl ⟨Nat.le_of_ble_eq_true rfl, Nat.le_of_ble_eq_true rfl, rfl, (Or.inr ⟨_, rfl, t0⟩)⟩ rfl rfl k (fun x_6 h_5 k => ?_)
  refine R_ps 3 (pc2 := 13) (L2 := [some (vr (some w)), none]) (st2 := [vi 2, vr (some w), vi (x_3 + x_6)]) rfl ?_
  refine R_cI (as := [vr (some w), vi 2]) rfl rfl ⟨Nat.le_of_ble_eq_true rfl, Nat.le_of_ble_eq_true rfl, rfl, (Or.inr ⟨_, rfl, t0⟩)⟩ rfl rfl k (fun x_9 h_8 k => ?_)
  refine R_ps 4 (pc2 := 20) (L2 := [some (vr (some w)), some (vi ((x_3 + x_6) + x_9))]) (st2 := [vi ((x_3 + x_6) + x_9), vr (some w)]) rfl ?_
  refine R_if0 rfl (fun c_10 => ?_) (fun c_10 => ?_)
  · have k := k.2 c_10
    refine R_ps 1 (pc2 := 28) (L2 := [some (vr (some w)), some (vi ((x_3 + x_6) + x_9))]) (st2 := [vi 0, vr (some w)]) rfl ?_
    refine R_putI rfl t0 ?_
    show WP T N _ _ _ _ (si h_8 w 0 0) _
    generalize e_13 : si h_8 w 0 0 = h_12
    replace k := k h_12 e_13.symm
    refine R_ps 1 (pc2 := 32) (L2 := [some (vr (some w)), some (vi ((x_3 + x_6) + x_9))]) (st2 := [vi ((x_3 + x_6) + x_9)]) rfl ?_
    refine R_if0 rfl (fun c_14 => ?_) (fun c_14 => ?_)
    · have k := k.2 c_14
      refine R_ps 2 (pc2 := 41) (L2 := [some (vr (some w)), some (vi ((x_3 + x_6) + x_9))]) (st2 := [vi 0, vr (some w)]) rfl ?_
      refine R_cI (as := [vr (some w), vi 0]) rfl rfl ⟨Nat.le_of_ble_eq_true rfl, Nat.le_of_ble_eq_true rfl, rfl, (Or.inr ⟨_, rfl, t0⟩)⟩ rfl rfl k (fun x_17 h_16 k => ?_)
      refine R_ps 3 (pc2 := 47) (L2 := [some (vr (some w)), some (vi ((x_3 + x_6) + x_9))]) (st2 := [vd (FP.i2d ((x_3 + x_6) + x_9)), vd (FP.i2d x_17)]) rfl ?_
      obtain ⟨t_19, k⟩ := k
      refine R_ddiv rfl t_19 ?_
      exact R_dret rfl rfl ⟨_, rfl, k⟩
    · have k := k.1 (Classical.not_not.mp c_14)
      refine R_ps 2 (pc2 := 48) (L2 := [some (vr (some w)), some (vi ((x_3 + x_6) + x_9))]) (st2 := [vd FP.dconst0]) rfl ?_
      exact R_dret rfl rfl ⟨_, rfl, k⟩
  · have k := k.1 (Classical.not_not.mp c_10)
    refine R_ps 2 (pc2 := 28) (L2 := [some (vr (some w)), some (vi ((x_3 + x_6) + x_9))]) (st2 := [vi 1, vr (some w)]) rfl ?_
    refine R_putI rfl t0 ?_
    show WP T N _ _ _ _ (si h_8 w 0 1) _
    generalize e_24 : si h_8 w 0 1 = h_23
    replace k := k h_23 e_24.symm
    refine R_ps 1 (pc2 := 32) (L2 := [some (vr (some w)), some (vi ((x_3 + x_6) + x_9))]) (st2 := [vi ((x_3 + x_6) + x_9)]) rfl ?_
    refine R_if0 rfl (fun c_25 => ?_) (fun c_25 => ?_)
    · have k := k.2 c_25
      refine R_ps 2 (pc2 := 41) (L2 := [some (vr (some w)), some (vi ((x_3 + x_6) + x_9))]) (st2 := [vi 0, vr (some w)]) rfl ?_
      refine R_cI (as := [vr (some w), vi 0]) rfl rfl ⟨Nat.le_of_ble_eq_true rfl, Nat.le_of_ble_eq_true rfl, rfl, (Or.inr ⟨_, rfl, t0⟩)⟩ rfl rfl k (fun x_28 h_27 k => ?_)
      refine R_ps 3 (pc2 := 47) (L2 := [some (vr (some w)), some (vi ((x_3 + x_6) + x_9))]) (st2 := [vd (FP.i2d ((x_3 + x_6) + x_9)), vd (FP.i2d x_28)]) rfl ?_
      obtain ⟨t_30, k⟩ := k
      refine R_ddiv rfl t_30 ?_
      exact R_dret rfl rfl ⟨_, rfl, k⟩
    · have k := k.1 (Classical.not_not.mp c_25)
      refine R_ps 2 (pc2 := 48) (L2 := [some (vr (some w)), some (vi ((x_3 + x_6) + x_9))]) (st2 := [vd FP.dconst0]) rfl ?_
      exact R_dret rfl rfl ⟨_, rfl, k⟩
/-- DroneCorridorsModel.busiest -/
theorem m240 {T N : Nat → Nat} {h : PH} {w : Nat} {K : Int32 → PH → Prop} (t0 : T w = 12) (k : (CI T N 238 [vr (some w), vi 4] h (fun x_3 h_2 => (((x_3 = 0 → (∀ h_9, h_9 = si h_2 w 0 1 → WI T N 240 21 [some (vr (some w)), some (vi 0), some (vi 1)] [] h_9 K)) ∧ (¬ (x_3 = 0) → (∀ h_6, h_6 = si h_2 w 0 0 → WI T N 240 21 [some (vr (some w)), some (vi 0), some (vi 1)] [] h_6 K))))))) : CI T N 240 [vr (some w)] h K := by
  show WP T N 240 0 [some (vr (some w)), none, none] [] h _
  refine R_ps 3 (pc2 := 3) (L2 := [some (vr (some w)), none, none]) (st2 := [vi 4, vr (some w), vr (some w)]) rfl ?_
  refine R_cI (as := [vr (some w), vi 4]) rfl rfl ⟨Nat.le_of_ble_eq_true rfl, Nat.le_of_ble_eq_true rfl, rfl, (Or.inr ⟨_, rfl, t0⟩)⟩ rfl rfl k (fun x_3 h_2 k => ?_)
  refine R_if0 rfl (fun c_4 => ?_) (fun c_4 => ?_)
  · have k := k.2 c_4
    refine R_ps 1 (pc2 := 14) (L2 := [some (vr (some w)), none, none]) (st2 := [vi 0, vr (some w)]) rfl ?_
    refine R_putI rfl t0 ?_
    show WP T N _ _ _ _ (si h_2 w 0 0) _
    generalize e_7 : si h_2 w 0 0 = h_6
    replace k := k h_6 e_7.symm
    refine R_ps 4 (pc2 := 21) (L2 := [some (vr (some w)), some (vi 0), some (vi 1)]) (st2 := []) rfl ?_
    exact k
  · have k := k.1 (Classical.not_not.mp c_4)
    refine R_ps 2 (pc2 := 14) (L2 := [some (vr (some w)), none, none]) (st2 := [vi 1, vr (some w)]) rfl ?_
    refine R_putI rfl t0 ?_
    show WP T N _ _ _ _ (si h_2 w 0 1) _
    generalize e_10 : si h_2 w 0 1 = h_9
    replace k := k h_9 e_10.symm
    refine R_ps 4 (pc2 := 21) (L2 := [some (vr (some w)), some (vi 0), some (vi 1)]) (st2 := []) rfl ?_
    exact k
theorem m240_21 {T N : Nat → Nat} {h : PH} {w : Nat} {x1 : Int32} {x2 : Int32} {K : Int32 → PH → Prop} (t0 : T w = 12) (k : (∃ a_3, (gr h w 1) = some a_3 ∧ T a_3 = 22 ∧ inb 117 (N a_3) ∧ ((x2 < (gi h a_3 117) → (CI T N 168 [vr (some w), vi x2, vi 11] h (fun x_14 h_13 => (CI T N 168 [vr (some w), vi x1, vi 11] h_13 (fun x_17 h_16 => (((x_17 < x_14 → (WI T N 240 21 [some (vr (some w)), some (vi x2), some (vi (x2 + 1))] [] h_16 K)) ∧ (¬ (x_17 < x_14) → (WI T N 240 21 [some (vr (some w)), some (vi x1), some (vi (x2 + 1))] [] h_16 K))))))))) ∧ (¬ (x2 < (gi h a_3 117)) → ((((gi h w 0) = 0 → (K x1 h)) ∧ (¬ ((gi h w 0) = 0) → (K 0 h)))))))) : WI T N 240 21 [some (vr (some w)), some (vi x1), some (vi x2)] [] h K := by
  show WP T N 240 21 [some (vr (some w)), some (vi x1), some (vi x2)] [] h _
  refine R_ps 2 (pc2 := 23) (L2 := [some (vr (some w)), some (vi x1), some (vi x2)]) (st2 := [vr (some w), vi x2]) rfl ?_
  refine R_getR rfl t0 ?_
  refine R_ps 1 (pc2 := 28) (L2 := [some (vr (some w)), some (vi x1), some (vi x2)]) (st2 := [vi 117, vr (gr h w 1), vi x2]) rfl ?_
  obtain ⟨a_3, e_4, k⟩ := k
  rw [e_4]
  obtain ⟨t_5, k⟩ := k
  obtain ⟨t_6, k⟩ := k
  refine R_iald rfl (Or.inl t_5) t_6 ?_
  refine R_if rfl (fun c_7 => ?_) (fun c_7 => ?_)
  · have k := k.2 (i32_nlt c_7)
    refine R_ps 1 (pc2 := 62) (L2 := [some (vr (some w)), some (vi x1), some (vi x2)]) (st2 := [vr (some w)]) rfl ?_
    refine R_getI rfl t0 ?_
    refine R_if0 rfl (fun c_9 => ?_) (fun c_9 => ?_)
    · have k := k.2 c_9
      refine R_ps 1 (pc2 := 73) (L2 := [some (vr (some w)), some (vi x1), some (vi x2)]) (st2 := [vi 0]) rfl ?_
      exact R_iret rfl rfl ⟨_, rfl, k⟩
    · have k := k.1 (Classical.not_not.mp c_9)
      refine R_ps 2 (pc2 := 73) (L2 := [some (vr (some w)), some (vi x1), some (vi x2)]) (st2 := [vi x1]) rfl ?_
      exact R_iret rfl rfl ⟨_, rfl, k⟩
  · have k := k.1 (i32_lt c_7)
    refine R_ps 3 (pc2 := 36) (L2 := [some (vr (some w)), some (vi x1), some (vi x2)]) (st2 := [vi 11, vi x2, vr (some w)]) rfl ?_
    refine R_cI (as := [vr (some w), vi x2, vi 11]) rfl rfl ⟨Nat.le_of_ble_eq_true rfl, Nat.le_of_ble_eq_true rfl, rfl, (Or.inr ⟨_, rfl, t0⟩)⟩ rfl rfl k (fun x_14 h_13 k => ?_)
    refine R_ps 3 (pc2 := 43) (L2 := [some (vr (some w)), some (vi x1), some (vi x2)]) (st2 := [vi 11, vi x1, vr (some w), vi x_14]) rfl ?_
    refine R_cI (as := [vr (some w), vi x1, vi 11]) rfl rfl ⟨Nat.le_of_ble_eq_true rfl, Nat.le_of_ble_eq_true rfl, rfl, (Or.inr ⟨_, rfl, t0⟩)⟩ rfl rfl k (fun x_17 h_16 k => ?_)
    refine R_if rfl (fun c_18 => ?_) (fun c_18 => ?_)
    · have k := k.2 (i32_nlt c_18)
      refine R_ps 4 (pc2 := 21) (L2 := [some (vr (some w)), some (vi x1), some (vi (x2 + 1))]) (st2 := []) rfl ?_
      exact k
    · have k := k.1 (i32_lt c_18)
      refine R_ps 5 (pc2 := 21) (L2 := [some (vr (some w)), some (vi x2), some (vi (x2 + 1))]) (st2 := []) rfl ?_
      exact k
/-- DroneCorridorsModel.append -/
theorem m241 {T N : Nat → Nat} {h : PH} {w : Nat} {x1 : Int32} {K : Int32 → PH → Prop} (t0 : T w = 12) (k : (CI T N 158 [vi x1, vi 32, vi 126] h (fun x_3 h_2 => (((x_3 = 0 → (∀ h_52, h_52 = si h_2 w 0 1 → ((0 < (gi h_52 w 0) → (K 0 h_52)) ∧ (¬ (0 < (gi h_52 w 0)) → (∃ a_59, (gr h_52 w 10) = some a_59 ∧ T a_59 = 23 ∧ inb (gi h_52 w 11) (N a_59) ∧ (0 ≤ Int32.toInt x1 ∧ Int32.toInt x1 < 65536) ∧ ∀ h_61, h_61 = si h_52 a_59 (Int32.toNatClampNeg (gi h_52 w 11)) x1 → ∀ h_68, h_68 = si h_61 w 11 ((gi h_61 w 11) + 1) → K (gi h_68 w 11) h_68))))) ∧ (¬ (x_3 = 0) → ((((gi h_2 w 11) = 60 → (∀ h_30, h_30 = si h_2 w 0 2 → ((0 < (gi h_30 w 0) → (K 0 h_30)) ∧ (¬ (0 < (gi h_30 w 0)) → (∃ a_37, (gr h_30 w 10) = some a_37 ∧ T a_37 = 23 ∧ inb (gi h_30 w 11) (N a_37) ∧ (0 ≤ Int32.toInt x1 ∧ Int32.toInt x1 < 65536) ∧ ∀ h_39, h_39 = si h_30 a_37 (Int32.toNatClampNeg (gi h_30 w 11)) x1 → ∀ h_46, h_46 = si h_39 w 11 ((gi h_39 w 11) + 1) → K (gi h_46 w 11) h_46))))) ∧ (¬ ((gi h_2 w 11) = 60) → (∀ h_8, h_8 = si h_2 w 0 0 → ((0 < (gi h_8 w 0) → (K 0 h_8)) ∧ (¬ (0 < (gi h_8 w 0)) → (∃ a_15, (gr h_8 w 10) = some a_15 ∧ T a_15 = 23 ∧ inb (gi h_8 w 11) (N a_15) ∧ (0 ≤ Int32.toInt x1 ∧ Int32.toInt x1 < 65536) ∧ ∀ h_17, h_17 = si h_8 a_15 (Int32.toNatClampNeg (gi h_8 w 11)) x1 → ∀ h_24, h_24 = si h_17 w 11 ((gi h_17 w 11) + 1) → K (gi h_24 w 11) h_24))))))))))))) : CI T N 241 [vr (some w), vi x1] h K := by
  show WP T N 241 0 [some (vr (some w)), some (vi x1)] [] h _
  refine R_ps 4 (pc2 := 6) (L2 := [some (vr (some w)), some (vi x1)]) (st2 := [vi 126, vi 32, vi x1, vr (some w)]) rfl ?_
  refine R_cI (as := [vi x1, vi 32, vi 126]) rfl rfl ⟨Nat.le_of_ble_eq_true rfl, Nat.le_of_ble_eq_true rfl, rfl, (Or.inl rfl)⟩ rfl rfl k (fun x_3 h_2 k => ?_)
  refine R_if0 rfl (fun c_4 => ?_) (fun c_4 => ?_)
  · have k := k.2 c_4
    refine R_ps 1 (pc2 := 17) (L2 := [some (vr (some w)), some (vi x1)]) (st2 := [vr (some w), vr (some w)]) rfl ?_
    refine R_getI rfl t0 ?_
    refine R_ps 1 (pc2 := 22) (L2 := [some (vr (some w)), some (vi x1)]) (st2 := [vi 60, vi (gi h_2 w 11), vr (some w)]) rfl ?_
    refine R_if rfl (fun c_6 => ?_) (fun c_6 => ?_)
    · have k := k.2 c_6
      refine R_ps 1 (pc2 := 30) (L2 := [some (vr (some w)), some (vi x1)]) (st2 := [vi 0, vr (some w)]) rfl ?_
      refine R_putI rfl t0 ?_
      show WP T N _ _ _ _ (si h_2 w 0 0) _
      generalize e_9 : si h_2 w 0 0 = h_8
      replace k := k h_8 e_9.symm
      refine R_ps 1 (pc2 := 34) (L2 := [some (vr (some w)), some (vi x1)]) (st2 := [vr (some w)]) rfl ?_
      refine R_getI rfl t0 ?_
      refine R_if0 rfl (fun c_11 => ?_) (fun c_11 => ?_)
      · have k := k.2 (i32_nlt c_11)
        refine R_ps 1 (pc2 := 43) (L2 := [some (vr (some w)), some (vi x1)]) (st2 := [vr (some w)]) rfl ?_
        refine R_getR rfl t0 ?_
        refine R_ps 1 (pc2 := 47) (L2 := [some (vr (some w)), some (vi x1)]) (st2 := [vr (some w), vr (gr h_8 w 10)]) rfl ?_
        refine R_getI rfl t0 ?_
        refine R_ps 1 (pc2 := 51) (L2 := [some (vr (some w)), some (vi x1)]) (st2 := [vi x1, vi (gi h_8 w 11), vr (gr h_8 w 10)]) rfl ?_
        obtain ⟨a_15, e_16, k⟩ := k
        rw [e_16]
        obtain ⟨t_19, k⟩ := k
        obtain ⟨t_20, k⟩ := k
        obtain ⟨t_21, k⟩ := k
        refine R_cast rfl t_19 t_20 t_21 ?_
        show WP T N _ _ _ _ (si h_8 a_15 (Int32.toNatClampNeg (gi h_8 w 11)) x1) _
        generalize e_18 : si h_8 a_15 (Int32.toNatClampNeg (gi h_8 w 11)) x1 = h_17
        replace k := k h_17 e_18.symm
        refine R_ps 2 (pc2 := 54) (L2 := [some (vr (some w)), some (vi x1)]) (st2 := [vr (some w), vr (some w)]) rfl ?_
        refine R_getI rfl t0 ?_
        refine R_ps 2 (pc2 := 59) (L2 := [some (vr (some w)), some (vi x1)]) (st2 := [vi ((gi h_17 w 11) + 1), vr (some w)]) rfl ?_
        refine R_putI rfl t0 ?_
        show WP T N _ _ _ _ (si h_17 w 11 ((gi h_17 w 11) + 1)) _
        generalize e_25 : si h_17 w 11 ((gi h_17 w 11) + 1) = h_24
        replace k := k h_24 e_25.symm
        refine R_ps 1 (pc2 := 63) (L2 := [some (vr (some w)), some (vi x1)]) (st2 := [vr (some w)]) rfl ?_
        refine R_getI rfl t0 ?_
        exact R_iret rfl rfl ⟨_, rfl, k⟩
      · have k := k.1 (i32_lt c_11)
        refine R_ps 1 (pc2 := 41) (L2 := [some (vr (some w)), some (vi x1)]) (st2 := [vi 0]) rfl ?_
        exact R_iret rfl rfl ⟨_, rfl, k⟩
    · have k := k.1 (Classical.not_not.mp c_6)
      refine R_ps 2 (pc2 := 30) (L2 := [some (vr (some w)), some (vi x1)]) (st2 := [vi 2, vr (some w)]) rfl ?_
      refine R_putI rfl t0 ?_
      show WP T N _ _ _ _ (si h_2 w 0 2) _
      generalize e_31 : si h_2 w 0 2 = h_30
      replace k := k h_30 e_31.symm
      refine R_ps 1 (pc2 := 34) (L2 := [some (vr (some w)), some (vi x1)]) (st2 := [vr (some w)]) rfl ?_
      refine R_getI rfl t0 ?_
      refine R_if0 rfl (fun c_33 => ?_) (fun c_33 => ?_)
      · have k := k.2 (i32_nlt c_33)
        refine R_ps 1 (pc2 := 43) (L2 := [some (vr (some w)), some (vi x1)]) (st2 := [vr (some w)]) rfl ?_
        refine R_getR rfl t0 ?_
        refine R_ps 1 (pc2 := 47) (L2 := [some (vr (some w)), some (vi x1)]) (st2 := [vr (some w), vr (gr h_30 w 10)]) rfl ?_
        refine R_getI rfl t0 ?_
        refine R_ps 1 (pc2 := 51) (L2 := [some (vr (some w)), some (vi x1)]) (st2 := [vi x1, vi (gi h_30 w 11), vr (gr h_30 w 10)]) rfl ?_
        obtain ⟨a_37, e_38, k⟩ := k
        rw [e_38]
        obtain ⟨t_41, k⟩ := k
        obtain ⟨t_42, k⟩ := k
        obtain ⟨t_43, k⟩ := k
        refine R_cast rfl t_41 t_42 t_43 ?_
        show WP T N _ _ _ _ (si h_30 a_37 (Int32.toNatClampNeg (gi h_30 w 11)) x1) _
        generalize e_40 : si h_30 a_37 (Int32.toNatClampNeg (gi h_30 w 11)) x1 = h_39
        replace k := k h_39 e_40.symm
        refine R_ps 2 (pc2 := 54) (L2 := [some (vr (some w)), some (vi x1)]) (st2 := [vr (some w), vr (some w)]) rfl ?_
        refine R_getI rfl t0 ?_
        refine R_ps 2 (pc2 := 59) (L2 := [some (vr (some w)), some (vi x1)]) (st2 := [vi ((gi h_39 w 11) + 1), vr (some w)]) rfl ?_
        refine R_putI rfl t0 ?_
        show WP T N _ _ _ _ (si h_39 w 11 ((gi h_39 w 11) + 1)) _
        generalize e_47 : si h_39 w 11 ((gi h_39 w 11) + 1) = h_46
        replace k := k h_46 e_47.symm
        refine R_ps 1 (pc2 := 63) (L2 := [some (vr (some w)), some (vi x1)]) (st2 := [vr (some w)]) rfl ?_
        refine R_getI rfl t0 ?_
        exact R_iret rfl rfl ⟨_, rfl, k⟩
      · have k := k.1 (i32_lt c_33)
        refine R_ps 1 (pc2 := 41) (L2 := [some (vr (some w)), some (vi x1)]) (st2 := [vi 0]) rfl ?_
        exact R_iret rfl rfl ⟨_, rfl, k⟩
  · have k := k.1 (Classical.not_not.mp c_4)
    refine R_ps 2 (pc2 := 30) (L2 := [some (vr (some w)), some (vi x1)]) (st2 := [vi 1, vr (some w)]) rfl ?_
    refine R_putI rfl t0 ?_
    show WP T N _ _ _ _ (si h_2 w 0 1) _
    generalize e_53 : si h_2 w 0 1 = h_52
    replace k := k h_52 e_53.symm
    refine R_ps 1 (pc2 := 34) (L2 := [some (vr (some w)), some (vi x1)]) (st2 := [vr (some w)]) rfl ?_
    refine R_getI rfl t0 ?_
    refine R_if0 rfl (fun c_55 => ?_) (fun c_55 => ?_)
    · have k := k.2 (i32_nlt c_55)
      refine R_ps 1 (pc2 := 43) (L2 := [some (vr (some w)), some (vi x1)]) (st2 := [vr (some w)]) rfl ?_
      refine R_getR rfl t0 ?_
      refine R_ps 1 (pc2 := 47) (L2 := [some (vr (some w)), some (vi x1)]) (st2 := [vr (some w), vr (gr h_52 w 10)]) rfl ?_
      refine R_getI rfl t0 ?_
      refine R_ps 1 (pc2 := 51) (L2 := [some (vr (some w)), some (vi x1)]) (st2 := [vi x1, vi (gi h_52 w 11), vr (gr h_52 w 10)]) rfl ?_
      obtain ⟨a_59, e_60, k⟩ := k
      rw [e_60]
      obtain ⟨t_63, k⟩ := k
      obtain ⟨t_64, k⟩ := k
      obtain ⟨t_65, k⟩ := k
      refine R_cast rfl t_63 t_64 t_65 ?_
      show WP T N _ _ _ _ (si h_52 a_59 (Int32.toNatClampNeg (gi h_52 w 11)) x1) _
      generalize e_62 : si h_52 a_59 (Int32.toNatClampNeg (gi h_52 w 11)) x1 = h_61
      replace k := k h_61 e_62.symm
      refine R_ps 2 (pc2 := 54) (L2 := [some (vr (some w)), some (vi x1)]) (st2 := [vr (some w), vr (some w)]) rfl ?_
      refine R_getI rfl t0 ?_
      refine R_ps 2 (pc2 := 59) (L2 := [some (vr (some w)), some (vi x1)]) (st2 := [vi ((gi h_61 w 11) + 1), vr (some w)]) rfl ?_
      refine R_putI rfl t0 ?_
      show WP T N _ _ _ _ (si h_61 w 11 ((gi h_61 w 11) + 1)) _
      generalize e_69 : si h_61 w 11 ((gi h_61 w 11) + 1) = h_68
      replace k := k h_68 e_69.symm
      refine R_ps 1 (pc2 := 63) (L2 := [some (vr (some w)), some (vi x1)]) (st2 := [vr (some w)]) rfl ?_
      refine R_getI rfl t0 ?_
      exact R_iret rfl rfl ⟨_, rfl, k⟩
    · have k := k.1 (i32_lt c_55)
      refine R_ps 1 (pc2 := 41) (L2 := [some (vr (some w)), some (vi x1)]) (st2 := [vi 0]) rfl ?_
      exact R_iret rfl rfl ⟨_, rfl, k⟩
/-- DroneCorridorsModel.here -/
theorem m242 {T N : Nat → Nat} {h : PH} {w : Nat} {K : Int32 → PH → Prop} (t0 : T w = 12) (k : ((((gi h w 24) < (gi h w 11) → (∃ a_8, (gr h w 10) = some a_8 ∧ T a_8 = 23 ∧ inb (gi h w 24) (N a_8) ∧ K (gi h a_8 (Int32.toNatClampNeg (gi h w 24))) h)) ∧ (¬ ((gi h w 24) < (gi h w 11)) → (K (-1) h))))) : CI T N 242 [vr (some w)] h K := by
  show WP T N 242 0 [some (vr (some w))] [] h _
  refine R_ps 1 (pc2 := 1) (L2 := [some (vr (some w))]) (st2 := [vr (some w)]) rfl ?_
  refine R_getI rfl t0 ?_
  refine R_ps 1 (pc2 := 5) (L2 := [some (vr (some w))]) (st2 := [vr (some w), vi (gi h w 24)]) rfl ?_
  refine R_getI rfl t0 ?_
  refine R_if rfl (fun c_3 => ?_) (fun c_3 => ?_)
  · have k := k.2 (i32_nlt c_3)
    refine R_ps 1 (pc2 := 24) (L2 := [some (vr (some w))]) (st2 := [vi (-1)]) rfl ?_
    exact R_iret rfl rfl ⟨_, rfl, k⟩
  · have k := k.1 (i32_lt c_3)
    refine R_ps 1 (pc2 := 12) (L2 := [some (vr (some w))]) (st2 := [vr (some w)]) rfl ?_
    refine R_getR rfl t0 ?_
    refine R_ps 1 (pc2 := 16) (L2 := [some (vr (some w))]) (st2 := [vr (some w), vr (gr h w 10)]) rfl ?_
    refine R_getI rfl t0 ?_
    obtain ⟨a_8, e_9, k⟩ := k
    rw [e_9]
    obtain ⟨t_10, k⟩ := k
    obtain ⟨t_11, k⟩ := k
    refine R_cald rfl t_10 t_11 ?_
    refine R_ps 1 (pc2 := 24) (L2 := [some (vr (some w))]) (st2 := [vi (gi h a_8 (Int32.toNatClampNeg (gi h w 24)))]) rfl ?_
    exact R_iret rfl rfl ⟨_, rfl, k⟩
/-- DroneCorridorsModel.takes -/
theorem m243 {T N : Nat → Nat} {h : PH} {w : Nat} {x1 : Int32} {K : PH → Prop} (t0 : T w = 12) (k : (CI T N 242 [vr (some w)] h (fun x_4 h_3 => (((x_4 = x1 → ((((gi h w 25) ||| 0) = 0 ∨ ((gi h w 25) ||| 0) = 1) ∧ ∀ h_7, h_7 = si h_3 w 25 ((gi h w 25) ||| 0) → (((gi h_7 w 25) = 0 → (∀ h_14, h_14 = si h_7 w 24 ((gi h_7 w 24) + 1) → K h_14)) ∧ (¬ ((gi h_7 w 25) = 0) → (∀ h_18, h_18 = si h_7 w 24 ((gi h_7 w 24) + 0) → K h_18))))) ∧ (¬ (x_4 = x1) → ((((gi h w 25) ||| 1) = 0 ∨ ((gi h w 25) ||| 1) = 1) ∧ ∀ h_22, h_22 = si h_3 w 25 ((gi h w 25) ||| 1) → (((gi h_22 w 25) = 0 → (∀ h_29, h_29 = si h_22 w 24 ((gi h_22 w 24) + 1) → K h_29)) ∧ (¬ ((gi h_22 w 25) = 0) → (∀ h_33, h_33 = si h_22 w 24 ((gi h_22 w 24) + 0) → K h_33)))))))))) : CV T N 243 [vr (some w), vi x1] h K := by
  show WP T N 243 0 [some (vr (some w)), some (vi x1)] [] h _
  refine R_ps 2 (pc2 := 2) (L2 := [some (vr (some w)), some (vi x1)]) (st2 := [vr (some w), vr (some w)]) rfl ?_
  refine R_getZ rfl t0 ?_
  refine R_ps 1 (pc2 := 6) (L2 := [some (vr (some w)), some (vi x1)]) (st2 := [vr (some w), vi (gi h w 25), vr (some w)]) rfl ?_
  refine R_cI (as := [vr (some w)]) rfl rfl ⟨Nat.le_of_ble_eq_true rfl, Nat.le_of_ble_eq_true rfl, rfl, (Or.inr ⟨_, rfl, t0⟩)⟩ rfl rfl k (fun x_4 h_3 k => ?_)
  refine R_ps 1 (pc2 := 10) (L2 := [some (vr (some w)), some (vi x1)]) (st2 := [vi x1, vi x_4, vi (gi h w 25), vr (some w)]) rfl ?_
  refine R_if rfl (fun c_5 => ?_) (fun c_5 => ?_)
  · have k := k.1 c_5
    refine R_ps 2 (pc2 := 19) (L2 := [some (vr (some w)), some (vi x1)]) (st2 := [vi ((gi h w 25) ||| 0), vr (some w)]) rfl ?_
    obtain ⟨t_9, k⟩ := k
    refine R_putZ rfl t0 t_9 ?_
    show WP T N _ _ _ _ (si h_3 w 25 ((gi h w 25) ||| 0)) _
    generalize e_8 : si h_3 w 25 ((gi h w 25) ||| 0) = h_7
    replace k := k h_7 e_8.symm
    refine R_ps 2 (pc2 := 24) (L2 := [some (vr (some w)), some (vi x1)]) (st2 := [vr (some w), vr (some w)]) rfl ?_
    refine R_getI rfl t0 ?_
    refine R_ps 1 (pc2 := 28) (L2 := [some (vr (some w)), some (vi x1)]) (st2 := [vr (some w), vi (gi h_7 w 24), vr (some w)]) rfl ?_
    refine R_getZ rfl t0 ?_
    refine R_if0 rfl (fun c_12 => ?_) (fun c_12 => ?_)
    · have k := k.1 c_12
      refine R_ps 2 (pc2 := 40) (L2 := [some (vr (some w)), some (vi x1)]) (st2 := [vi ((gi h_7 w 24) + 1), vr (some w)]) rfl ?_
      refine R_putI rfl t0 ?_
      show WP T N _ _ _ _ (si h_7 w 24 ((gi h_7 w 24) + 1)) _
      generalize e_15 : si h_7 w 24 ((gi h_7 w 24) + 1) = h_14
      replace k := k h_14 e_15.symm
      exact R_ret rfl rfl ⟨rfl, k⟩
    · have k := k.2 c_12
      refine R_ps 3 (pc2 := 40) (L2 := [some (vr (some w)), some (vi x1)]) (st2 := [vi ((gi h_7 w 24) + 0), vr (some w)]) rfl ?_
      refine R_putI rfl t0 ?_
      show WP T N _ _ _ _ (si h_7 w 24 ((gi h_7 w 24) + 0)) _
      generalize e_19 : si h_7 w 24 ((gi h_7 w 24) + 0) = h_18
      replace k := k h_18 e_19.symm
      exact R_ret rfl rfl ⟨rfl, k⟩
  · have k := k.2 c_5
    refine R_ps 3 (pc2 := 19) (L2 := [some (vr (some w)), some (vi x1)]) (st2 := [vi ((gi h w 25) ||| 1), vr (some w)]) rfl ?_
    obtain ⟨t_24, k⟩ := k
    refine R_putZ rfl t0 t_24 ?_
    show WP T N _ _ _ _ (si h_3 w 25 ((gi h w 25) ||| 1)) _
    generalize e_23 : si h_3 w 25 ((gi h w 25) ||| 1) = h_22
    replace k := k h_22 e_23.symm
    refine R_ps 2 (pc2 := 24) (L2 := [some (vr (some w)), some (vi x1)]) (st2 := [vr (some w), vr (some w)]) rfl ?_
    refine R_getI rfl t0 ?_
    refine R_ps 1 (pc2 := 28) (L2 := [some (vr (some w)), some (vi x1)]) (st2 := [vr (some w), vi (gi h_22 w 24), vr (some w)]) rfl ?_
    refine R_getZ rfl t0 ?_
    refine R_if0 rfl (fun c_27 => ?_) (fun c_27 => ?_)
    · have k := k.1 c_27
      refine R_ps 2 (pc2 := 40) (L2 := [some (vr (some w)), some (vi x1)]) (st2 := [vi ((gi h_22 w 24) + 1), vr (some w)]) rfl ?_
      refine R_putI rfl t0 ?_
      show WP T N _ _ _ _ (si h_22 w 24 ((gi h_22 w 24) + 1)) _
      generalize e_30 : si h_22 w 24 ((gi h_22 w 24) + 1) = h_29
      replace k := k h_29 e_30.symm
      exact R_ret rfl rfl ⟨rfl, k⟩
    · have k := k.2 c_27
      refine R_ps 3 (pc2 := 40) (L2 := [some (vr (some w)), some (vi x1)]) (st2 := [vi ((gi h_22 w 24) + 0), vr (some w)]) rfl ?_
      refine R_putI rfl t0 ?_
      show WP T N _ _ _ _ (si h_22 w 24 ((gi h_22 w 24) + 0)) _
      generalize e_34 : si h_22 w 24 ((gi h_22 w 24) + 0) = h_33
      replace k := k h_33 e_34.symm
      exact R_ret rfl rfl ⟨rfl, k⟩
/-- DroneCorridorsModel.digit -/
theorem m244 {T N : Nat → Nat} {h : PH} {w : Nat} {x1 : Int32} {K : Int32 → PH → Prop} (t0 : T w = 12) (k : (CI T N 242 [vr (some w)] h (fun x_3 h_2 => (CI T N 158 [vi (x_3 - 48), vi x1, vi 9] h_2 (fun x_7 h_6 => (((x_7 = 0 → ((((gi h_2 w 25) ||| 1) = 0 ∨ ((gi h_2 w 25) ||| 1) = 1) ∧ ∀ h_31, h_31 = si h_6 w 25 ((gi h_2 w 25) ||| 1) → (((gi h_31 w 25) = 0 → (∀ h_38, h_38 = si h_31 w 24 ((gi h_31 w 24) + 1) → (((gi h_38 w 25) = 0 → (K (x_3 - 48) h_38)) ∧ (¬ ((gi h_38 w 25) = 0) → (K 0 h_38))))) ∧ (¬ ((gi h_31 w 25) = 0) → (∀ h_45, h_45 = si h_31 w 24 ((gi h_31 w 24) + 0) → (((gi h_45 w 25) = 0 → (K (x_3 - 48) h_45)) ∧ (¬ ((gi h_45 w 25) = 0) → (K 0 h_45)))))))) ∧ (¬ (x_7 = 0) → ((((gi h_2 w 25) ||| 0) = 0 ∨ ((gi h_2 w 25) ||| 0) = 1) ∧ ∀ h_10, h_10 = si h_6 w 25 ((gi h_2 w 25) ||| 0) → (((gi h_10 w 25) = 0 → (∀ h_17, h_17 = si h_10 w 24 ((gi h_10 w 24) + 1) → (((gi h_17 w 25) = 0 → (K (x_3 - 48) h_17)) ∧ (¬ ((gi h_17 w 25) = 0) → (K 0 h_17))))) ∧ (¬ ((gi h_10 w 25) = 0) → (∀ h_24, h_24 = si h_10 w 24 ((gi h_10 w 24) + 0) → (((gi h_24 w 25) = 0 → (K (x_3 - 48) h_24)) ∧ (¬ ((gi h_24 w 25) = 0) → (K 0 h_24))))))))))))))) : CI T N 244 [vr (some w), vi x1] h K := by
  show WP T N 244 0 [some (vr (some w)), some (vi x1), none] [] h _
  refine R_ps 1 (pc2 := 1) (L2 := [some (vr (some w)), some (vi x1), none]) (st2 := [vr (some w)]) rfl ?_
  refine R_cI (as := [vr (some w)]) rfl rfl ⟨Nat.le_of_ble_eq_true rfl, Nat.le_of_ble_eq_true rfl, rfl, (Or.inr ⟨_, rfl, t0⟩)⟩ rfl rfl k (fun x_3 h_2 k => ?_)
  refine R_ps 5 (pc2 := 10) (L2 := [some (vr (some w)), some (vi x1), some (vi (x_3 - 48))]) (st2 := [vr (some w), vr (some w)]) rfl ?_
  refine R_getZ rfl t0 ?_
  refine R_ps 3 (pc2 := 17) (L2 := [some (vr (some w)), some (vi x1), some (vi (x_3 - 48))]) (st2 := [vi 9, vi x1, vi (x_3 - 48), vi (gi h_2 w 25), vr (some w)]) rfl ?_
  refine R_cI (as := [vi (x_3 - 48), vi x1, vi 9]) rfl rfl ⟨Nat.le_of_ble_eq_true rfl, Nat.le_of_ble_eq_true rfl, rfl, (Or.inl rfl)⟩ rfl rfl k (fun x_7 h_6 k => ?_)
  refine R_if0 rfl (fun c_8 => ?_) (fun c_8 => ?_)
  · have k := k.2 c_8
    refine R_ps 2 (pc2 := 29) (L2 := [some (vr (some w)), some (vi x1), some (vi (x_3 - 48))]) (st2 := [vi ((gi h_2 w 25) ||| 0), vr (some w)]) rfl ?_
    obtain ⟨t_12, k⟩ := k
    refine R_putZ rfl t0 t_12 ?_
    show WP T N _ _ _ _ (si h_6 w 25 ((gi h_2 w 25) ||| 0)) _
    generalize e_11 : si h_6 w 25 ((gi h_2 w 25) ||| 0) = h_10
    replace k := k h_10 e_11.symm
    refine R_ps 2 (pc2 := 34) (L2 := [some (vr (some w)), some (vi x1), some (vi (x_3 - 48))]) (st2 := [vr (some w), vr (some w)]) rfl ?_
    refine R_getI rfl t0 ?_
    refine R_ps 1 (pc2 := 38) (L2 := [some (vr (some w)), some (vi x1), some (vi (x_3 - 48))]) (st2 := [vr (some w), vi (gi h_10 w 24), vr (some w)]) rfl ?_
    refine R_getZ rfl t0 ?_
    refine R_if0 rfl (fun c_15 => ?_) (fun c_15 => ?_)
    · have k := k.1 c_15
      refine R_ps 2 (pc2 := 50) (L2 := [some (vr (some w)), some (vi x1), some (vi (x_3 - 48))]) (st2 := [vi ((gi h_10 w 24) + 1), vr (some w)]) rfl ?_
      refine R_putI rfl t0 ?_
      show WP T N _ _ _ _ (si h_10 w 24 ((gi h_10 w 24) + 1)) _
      generalize e_18 : si h_10 w 24 ((gi h_10 w 24) + 1) = h_17
      replace k := k h_17 e_18.symm
      refine R_ps 1 (pc2 := 54) (L2 := [some (vr (some w)), some (vi x1), some (vi (x_3 - 48))]) (st2 := [vr (some w)]) rfl ?_
      refine R_getZ rfl t0 ?_
      refine R_if0 rfl (fun c_20 => ?_) (fun c_20 => ?_)
      · have k := k.1 c_20
        refine R_ps 1 (pc2 := 65) (L2 := [some (vr (some w)), some (vi x1), some (vi (x_3 - 48))]) (st2 := [vi (x_3 - 48)]) rfl ?_
        exact R_iret rfl rfl ⟨_, rfl, k⟩
      · have k := k.2 c_20
        refine R_ps 2 (pc2 := 65) (L2 := [some (vr (some w)), some (vi x1), some (vi (x_3 - 48))]) (st2 := [vi 0]) rfl ?_
        exact R_iret rfl rfl ⟨_, rfl, k⟩
    · have k := k.2 c_15
      refine R_ps 3 (pc2 := 50) (L2 := [some (vr (some w)), some (vi x1), some (vi (x_3 - 48))]) (st2 := [vi ((gi h_10 w 24) + 0), vr (some w)]) rfl ?_
      refine R_putI rfl t0 ?_
      show WP T N _ _ _ _ (si h_10 w 24 ((gi h_10 w 24) + 0)) _
      generalize e_25 : si h_10 w 24 ((gi h_10 w 24) + 0) = h_24
      replace k := k h_24 e_25.symm
      refine R_ps 1 (pc2 := 54) (L2 := [some (vr (some w)), some (vi x1), some (vi (x_3 - 48))]) (st2 := [vr (some w)]) rfl ?_
      refine R_getZ rfl t0 ?_
      refine R_if0 rfl (fun c_27 => ?_) (fun c_27 => ?_)
      · have k := k.1 c_27
        refine R_ps 1 (pc2 := 65) (L2 := [some (vr (some w)), some (vi x1), some (vi (x_3 - 48))]) (st2 := [vi (x_3 - 48)]) rfl ?_
        exact R_iret rfl rfl ⟨_, rfl, k⟩
      · have k := k.2 c_27
        refine R_ps 2 (pc2 := 65) (L2 := [some (vr (some w)), some (vi x1), some (vi (x_3 - 48))]) (st2 := [vi 0]) rfl ?_
        exact R_iret rfl rfl ⟨_, rfl, k⟩
  · have k := k.1 (Classical.not_not.mp c_8)
    refine R_ps 3 (pc2 := 29) (L2 := [some (vr (some w)), some (vi x1), some (vi (x_3 - 48))]) (st2 := [vi ((gi h_2 w 25) ||| 1), vr (some w)]) rfl ?_
    obtain ⟨t_33, k⟩ := k
    refine R_putZ rfl t0 t_33 ?_
    show WP T N _ _ _ _ (si h_6 w 25 ((gi h_2 w 25) ||| 1)) _
    generalize e_32 : si h_6 w 25 ((gi h_2 w 25) ||| 1) = h_31
    replace k := k h_31 e_32.symm
    refine R_ps 2 (pc2 := 34) (L2 := [some (vr (some w)), some (vi x1), some (vi (x_3 - 48))]) (st2 := [vr (some w), vr (some w)]) rfl ?_
    refine R_getI rfl t0 ?_
    refine R_ps 1 (pc2 := 38) (L2 := [some (vr (some w)), some (vi x1), some (vi (x_3 - 48))]) (st2 := [vr (some w), vi (gi h_31 w 24), vr (some w)]) rfl ?_
    refine R_getZ rfl t0 ?_
    refine R_if0 rfl (fun c_36 => ?_) (fun c_36 => ?_)
    · have k := k.1 c_36
      refine R_ps 2 (pc2 := 50) (L2 := [some (vr (some w)), some (vi x1), some (vi (x_3 - 48))]) (st2 := [vi ((gi h_31 w 24) + 1), vr (some w)]) rfl ?_
      refine R_putI rfl t0 ?_
      show WP T N _ _ _ _ (si h_31 w 24 ((gi h_31 w 24) + 1)) _
      generalize e_39 : si h_31 w 24 ((gi h_31 w 24) + 1) = h_38
      replace k := k h_38 e_39.symm
      refine R_ps 1 (pc2 := 54) (L2 := [some (vr (some w)), some (vi x1), some (vi (x_3 - 48))]) (st2 := [vr (some w)]) rfl ?_
      refine R_getZ rfl t0 ?_
      refine R_if0 rfl (fun c_41 => ?_) (fun c_41 => ?_)
      · have k := k.1 c_41
        refine R_ps 1 (pc2 := 65) (L2 := [some (vr (some w)), some (vi x1), some (vi (x_3 - 48))]) (st2 := [vi (x_3 - 48)]) rfl ?_
        exact R_iret rfl rfl ⟨_, rfl, k⟩
      · have k := k.2 c_41
        refine R_ps 2 (pc2 := 65) (L2 := [some (vr (some w)), some (vi x1), some (vi (x_3 - 48))]) (st2 := [vi 0]) rfl ?_
        exact R_iret rfl rfl ⟨_, rfl, k⟩
    · have k := k.2 c_36
      refine R_ps 3 (pc2 := 50) (L2 := [some (vr (some w)), some (vi x1), some (vi (x_3 - 48))]) (st2 := [vi ((gi h_31 w 24) + 0), vr (some w)]) rfl ?_
      refine R_putI rfl t0 ?_
      show WP T N _ _ _ _ (si h_31 w 24 ((gi h_31 w 24) + 0)) _
      generalize e_46 : si h_31 w 24 ((gi h_31 w 24) + 0) = h_45
      replace k := k h_45 e_46.symm
      refine R_ps 1 (pc2 := 54) (L2 := [some (vr (some w)), some (vi x1), some (vi (x_3 - 48))]) (st2 := [vr (some w)]) rfl ?_
      refine R_getZ rfl t0 ?_
      refine R_if0 rfl (fun c_48 => ?_) (fun c_48 => ?_)
      · have k := k.1 c_48
        refine R_ps 1 (pc2 := 65) (L2 := [some (vr (some w)), some (vi x1), some (vi (x_3 - 48))]) (st2 := [vi (x_3 - 48)]) rfl ?_
        exact R_iret rfl rfl ⟨_, rfl, k⟩
      · have k := k.2 c_48
        refine R_ps 2 (pc2 := 65) (L2 := [some (vr (some w)), some (vi x1), some (vi (x_3 - 48))]) (st2 := [vi 0]) rfl ?_
        exact R_iret rfl rfl ⟨_, rfl, k⟩
/-- DroneCorridorsModel.entry -/
theorem m245 {T N : Nat → Nat} {h : PH} {w : Nat} {K : PH → Prop} (t0 : T w = 12) (k : (CI T N 242 [vr (some w)] h (fun x_3 h_2 => (∀ h_5, h_5 = si h_2 w 26 x_3 → (((gi h_5 w 26) = 110 → ((((gi h_5 w 25) ||| 0) = 0 ∨ ((gi h_5 w 25) ||| 0) = 1) ∧ ∀ h_11, h_11 = si h_5 w 25 ((gi h_5 w 25) ||| 0) → (((gi h_11 w 25) = 0 → (∀ h_18, h_18 = si h_11 w 24 ((gi h_11 w 24) + 1) → (((gi h_18 w 25) = 0 → ((((gi h_18 w 26) = 110 → (∀ h_25, h_25 = si h_18 w 27 0 → (((gi h_25 w 26) = 99 → ((((gi h_25 w 25) = 0 → (CV T N 243 [vr (some w), vi 45] h_25 (fun h_32 => (WV T N 245 162 [some (vr (some w))] [] h_32 K)))) ∧ (¬ ((gi h_25 w 25) = 0) → (WV T N 245 162 [some (vr (some w))] [] h_25 K))))) ∧ (¬ ((gi h_25 w 26) = 99) → (WV T N 245 207 [some (vr (some w))] [] h_25 K))))) ∧ (¬ ((gi h_18 w 26) = 110) → ((((gi h_18 w 26) = 112 → (∀ h_65, h_65 = si h_18 w 27 0 → (((gi h_65 w 26) = 99 → ((((gi h_65 w 25) = 0 → (CV T N 243 [vr (some w), vi 45] h_65 (fun h_72 => (WV T N 245 162 [some (vr (some w))] [] h_72 K)))) ∧ (¬ ((gi h_65 w 25) = 0) → (WV T N 245 162 [some (vr (some w))] [] h_65 K))))) ∧ (¬ ((gi h_65 w 26) = 99) → (WV T N 245 207 [some (vr (some w))] [] h_65 K))))) ∧ (¬ ((gi h_18 w 26) = 112) → ((((gi h_18 w 26) = 116 → (CI T N 244 [vr (some w), vi 1] h_18 (fun x_53 h_52 => (∀ h_55, h_55 = si h_52 w 27 x_53 → (((gi h_55 w 26) = 99 → ((((gi h_55 w 25) = 0 → (CV T N 243 [vr (some w), vi 45] h_55 (fun h_62 => (WV T N 245 162 [some (vr (some w))] [] h_62 K)))) ∧ (¬ ((gi h_55 w 25) = 0) → (WV T N 245 162 [some (vr (some w))] [] h_55 K))))) ∧ (¬ ((gi h_55 w 26) = 99) → (WV T N 245 207 [some (vr (some w))] [] h_55 K))))))) ∧ (¬ ((gi h_18 w 26) = 116) → (CI T N 244 [vr (some w), vi 0] h_18 (fun x_40 h_39 => (∀ h_42, h_42 = si h_39 w 27 x_40 → (((gi h_42 w 26) = 99 → ((((gi h_42 w 25) = 0 → (CV T N 243 [vr (some w), vi 45] h_42 (fun h_49 => (WV T N 245 162 [some (vr (some w))] [] h_49 K)))) ∧ (¬ ((gi h_42 w 25) = 0) → (WV T N 245 162 [some (vr (some w))] [] h_42 K))))) ∧ (¬ ((gi h_42 w 26) = 99) → (WV T N 245 207 [some (vr (some w))] [] h_42 K)))))))))))))))) ∧ (¬ ((gi h_18 w 25) = 0) → (K h_18))))) ∧ (¬ ((gi h_11 w 25) = 0) → (∀ h_76, h_76 = si h_11 w 24 ((gi h_11 w 24) + 0) → (((gi h_76 w 25) = 0 → ((((gi h_76 w 26) = 110 → (∀ h_83, h_83 = si h_76 w 27 0 → (((gi h_83 w 26) = 99 → ((((gi h_83 w 25) = 0 → (CV T N 243 [vr (some w), vi 45] h_83 (fun h_90 => (WV T N 245 162 [some (vr (some w))] [] h_90 K)))) ∧ (¬ ((gi h_83 w 25) = 0) → (WV T N 245 162 [some (vr (some w))] [] h_83 K))))) ∧ (¬ ((gi h_83 w 26) = 99) → (WV T N 245 207 [some (vr (some w))] [] h_83 K))))) ∧ (¬ ((gi h_76 w 26) = 110) → ((((gi h_76 w 26) = 112 → (∀ h_123, h_123 = si h_76 w 27 0 → (((gi h_123 w 26) = 99 → ((((gi h_123 w 25) = 0 → (CV T N 243 [vr (some w), vi 45] h_123 (fun h_130 => (WV T N 245 162 [some (vr (some w))] [] h_130 K)))) ∧ (¬ ((gi h_123 w 25) = 0) → (WV T N 245 162 [some (vr (some w))] [] h_123 K))))) ∧ (¬ ((gi h_123 w 26) = 99) → (WV T N 245 207 [some (vr (some w))] [] h_123 K))))) ∧ (¬ ((gi h_76 w 26) = 112) → ((((gi h_76 w 26) = 116 → (CI T N 244 [vr (some w), vi 1] h_76 (fun x_111 h_110 => (∀ h_113, h_113 = si h_110 w 27 x_111 → (((gi h_113 w 26) = 99 → ((((gi h_113 w 25) = 0 → (CV T N 243 [vr (some w), vi 45] h_113 (fun h_120 => (WV T N 245 162 [some (vr (some w))] [] h_120 K)))) ∧ (¬ ((gi h_113 w 25) = 0) → (WV T N 245 162 [some (vr (some w))] [] h_113 K))))) ∧ (¬ ((gi h_113 w 26) = 99) → (WV T N 245 207 [some (vr (some w))] [] h_113 K))))))) ∧ (¬ ((gi h_76 w 26) = 116) → (CI T N 244 [vr (some w), vi 0] h_76 (fun x_98 h_97 => (∀ h_100, h_100 = si h_97 w 27 x_98 → (((gi h_100 w 26) = 99 → ((((gi h_100 w 25) = 0 → (CV T N 243 [vr (some w), vi 45] h_100 (fun h_107 => (WV T N 245 162 [some (vr (some w))] [] h_107 K)))) ∧ (¬ ((gi h_100 w 25) = 0) → (WV T N 245 162 [some (vr (some w))] [] h_100 K))))) ∧ (¬ ((gi h_100 w 26) = 99) → (WV T N 245 207 [some (vr (some w))] [] h_100 K)))))))))))))))) ∧ (¬ ((gi h_76 w 25) = 0) → (K h_76)))))))) ∧ (¬ ((gi h_5 w 26) = 110) → ((((gi h_5 w 26) = 112 → ((((gi h_5 w 25) ||| 0) = 0 ∨ ((gi h_5 w 25) ||| 0) = 1) ∧ ∀ h_136, h_136 = si h_5 w 25 ((gi h_5 w 25) ||| 0) → (((gi h_136 w 25) = 0 → (∀ h_143, h_143 = si h_136 w 24 ((gi h_136 w 24) + 1) → (((gi h_143 w 25) = 0 → ((((gi h_143 w 26) = 110 → (∀ h_150, h_150 = si h_143 w 27 0 → (((gi h_150 w 26) = 99 → ((((gi h_150 w 25) = 0 → (CV T N 243 [vr (some w), vi 45] h_150 (fun h_157 => (WV T N 245 162 [some (vr (some w))] [] h_157 K)))) ∧ (¬ ((gi h_150 w 25) = 0) → (WV T N 245 162 [some (vr (some w))] [] h_150 K))))) ∧ (¬ ((gi h_150 w 26) = 99) → (WV T N 245 207 [some (vr (some w))] [] h_150 K))))) ∧ (¬ ((gi h_143 w 26) = 110) → ((((gi h_143 w 26) = 112 → (∀ h_190, h_190 = si h_143 w 27 0 → (((gi h_190 w 26) = 99 → ((((gi h_190 w 25) = 0 → (CV T N 243 [vr (some w), vi 45] h_190 (fun h_197 => (WV T N 245 162 [some (vr (some w))] [] h_197 K)))) ∧ (¬ ((gi h_190 w 25) = 0) → (WV T N 245 162 [some (vr (some w))] [] h_190 K))))) ∧ (¬ ((gi h_190 w 26) = 99) → (WV T N 245 207 [some (vr (some w))] [] h_190 K))))) ∧ (¬ ((gi h_143 w 26) = 112) → ((((gi h_143 w 26) = 116 → (CI T N 244 [vr (some w), vi 1] h_143 (fun x_178 h_177 => (∀ h_180, h_180 = si h_177 w 27 x_178 → (((gi h_180 w 26) = 99 → ((((gi h_180 w 25) = 0 → (CV T N 243 [vr (some w), vi 45] h_180 (fun h_187 => (WV T N 245 162 [some (vr (some w))] [] h_187 K)))) ∧ (¬ ((gi h_180 w 25) = 0) → (WV T N 245 162 [some (vr (some w))] [] h_180 K))))) ∧ (¬ ((gi h_180 w 26) = 99) → (WV T N 245 207 [some (vr (some w))] [] h_180 K))))))) ∧ (¬ ((gi h_143 w 26) = 116) → (CI T N 244 [vr (some w), vi 0] h_143 (fun x_165 h_164 => (∀ h_167, h_167 = si h_164 w 27 x_165 → (((gi h_167 w 26) = 99 → ((((gi h_167 w 25) = 0 → (CV T N 243 [vr (some w), vi 45] h_167 (fun h_174 => (WV T N 245 162 [some (vr (some w))] [] h_174 K)))) ∧ (¬ ((gi h_167 w 25) = 0) → (WV T N 245 162 [some (vr (some w))] [] h_167 K))))) ∧ (¬ ((gi h_167 w 26) = 99) → (WV T N 245 207 [some (vr (some w))] [] h_167 K)))))))))))))))) ∧ (¬ ((gi h_143 w 25) = 0) → (K h_143))))) ∧ (¬ ((gi h_136 w 25) = 0) → (∀ h_201, h_201 = si h_136 w 24 ((gi h_136 w 24) + 0) → (((gi h_201 w 25) = 0 → ((((gi h_201 w 26) = 110 → (∀ h_208, h_208 = si h_201 w 27 0 → (((gi h_208 w 26) = 99 → ((((gi h_208 w 25) = 0 → (CV T N 243 [vr (some w), vi 45] h_208 (fun h_215 => (WV T N 245 162 [some (vr (some w))] [] h_215 K)))) ∧ (¬ ((gi h_208 w 25) = 0) → (WV T N 245 162 [some (vr (some w))] [] h_208 K))))) ∧ (¬ ((gi h_208 w 26) = 99) → (WV T N 245 207 [some (vr (some w))] [] h_208 K))))) ∧ (¬ ((gi h_201 w 26) = 110) → ((((gi h_201 w 26) = 112 → (∀ h_248, h_248 = si h_201 w 27 0 → (((gi h_248 w 26) = 99 → ((((gi h_248 w 25) = 0 → (CV T N 243 [vr (some w), vi 45] h_248 (fun h_255 => (WV T N 245 162 [some (vr (some w))] [] h_255 K)))) ∧ (¬ ((gi h_248 w 25) = 0) → (WV T N 245 162 [some (vr (some w))] [] h_248 K))))) ∧ (¬ ((gi h_248 w 26) = 99) → (WV T N 245 207 [some (vr (some w))] [] h_248 K))))) ∧ (¬ ((gi h_201 w 26) = 112) → ((((gi h_201 w 26) = 116 → (CI T N 244 [vr (some w), vi 1] h_201 (fun x_236 h_235 => (∀ h_238, h_238 = si h_235 w 27 x_236 → (((gi h_238 w 26) = 99 → ((((gi h_238 w 25) = 0 → (CV T N 243 [vr (some w), vi 45] h_238 (fun h_245 => (WV T N 245 162 [some (vr (some w))] [] h_245 K)))) ∧ (¬ ((gi h_238 w 25) = 0) → (WV T N 245 162 [some (vr (some w))] [] h_238 K))))) ∧ (¬ ((gi h_238 w 26) = 99) → (WV T N 245 207 [some (vr (some w))] [] h_238 K))))))) ∧ (¬ ((gi h_201 w 26) = 116) → (CI T N 244 [vr (some w), vi 0] h_201 (fun x_223 h_222 => (∀ h_225, h_225 = si h_222 w 27 x_223 → (((gi h_225 w 26) = 99 → ((((gi h_225 w 25) = 0 → (CV T N 243 [vr (some w), vi 45] h_225 (fun h_232 => (WV T N 245 162 [some (vr (some w))] [] h_232 K)))) ∧ (¬ ((gi h_225 w 25) = 0) → (WV T N 245 162 [some (vr (some w))] [] h_225 K))))) ∧ (¬ ((gi h_225 w 26) = 99) → (WV T N 245 207 [some (vr (some w))] [] h_225 K)))))))))))))))) ∧ (¬ ((gi h_201 w 25) = 0) → (K h_201)))))))) ∧ (¬ ((gi h_5 w 26) = 112) → ((((gi h_5 w 26) = 99 → ((((gi h_5 w 25) ||| 0) = 0 ∨ ((gi h_5 w 25) ||| 0) = 1) ∧ ∀ h_261, h_261 = si h_5 w 25 ((gi h_5 w 25) ||| 0) → (((gi h_261 w 25) = 0 → (∀ h_268, h_268 = si h_261 w 24 ((gi h_261 w 24) + 1) → (((gi h_268 w 25) = 0 → ((((gi h_268 w 26) = 110 → (∀ h_275, h_275 = si h_268 w 27 0 → (((gi h_275 w 26) = 99 → ((((gi h_275 w 25) = 0 → (CV T N 243 [vr (some w), vi 45] h_275 (fun h_282 => (WV T N 245 162 [some (vr (some w))] [] h_282 K)))) ∧ (¬ ((gi h_275 w 25) = 0) → (WV T N 245 162 [some (vr (some w))] [] h_275 K))))) ∧ (¬ ((gi h_275 w 26) = 99) → (WV T N 245 207 [some (vr (some w))] [] h_275 K))))) ∧ (¬ ((gi h_268 w 26) = 110) → ((((gi h_268 w 26) = 112 → (∀ h_315, h_315 = si h_268 w 27 0 → (((gi h_315 w 26) = 99 → ((((gi h_315 w 25) = 0 → (CV T N 243 [vr (some w), vi 45] h_315 (fun h_322 => (WV T N 245 162 [some (vr (some w))] [] h_322 K)))) ∧ (¬ ((gi h_315 w 25) = 0) → (WV T N 245 162 [some (vr (some w))] [] h_315 K))))) ∧ (¬ ((gi h_315 w 26) = 99) → (WV T N 245 207 [some (vr (some w))] [] h_315 K))))) ∧ (¬ ((gi h_268 w 26) = 112) → ((((gi h_268 w 26) = 116 → (CI T N 244 [vr (some w), vi 1] h_268 (fun x_303 h_302 => (∀ h_305, h_305 = si h_302 w 27 x_303 → (((gi h_305 w 26) = 99 → ((((gi h_305 w 25) = 0 → (CV T N 243 [vr (some w), vi 45] h_305 (fun h_312 => (WV T N 245 162 [some (vr (some w))] [] h_312 K)))) ∧ (¬ ((gi h_305 w 25) = 0) → (WV T N 245 162 [some (vr (some w))] [] h_305 K))))) ∧ (¬ ((gi h_305 w 26) = 99) → (WV T N 245 207 [some (vr (some w))] [] h_305 K))))))) ∧ (¬ ((gi h_268 w 26) = 116) → (CI T N 244 [vr (some w), vi 0] h_268 (fun x_290 h_289 => (∀ h_292, h_292 = si h_289 w 27 x_290 → (((gi h_292 w 26) = 99 → ((((gi h_292 w 25) = 0 → (CV T N 243 [vr (some w), vi 45] h_292 (fun h_299 => (WV T N 245 162 [some (vr (some w))] [] h_299 K)))) ∧ (¬ ((gi h_292 w 25) = 0) → (WV T N 245 162 [some (vr (some w))] [] h_292 K))))) ∧ (¬ ((gi h_292 w 26) = 99) → (WV T N 245 207 [some (vr (some w))] [] h_292 K)))))))))))))))) ∧ (¬ ((gi h_268 w 25) = 0) → (K h_268))))) ∧ (¬ ((gi h_261 w 25) = 0) → (∀ h_326, h_326 = si h_261 w 24 ((gi h_261 w 24) + 0) → (((gi h_326 w 25) = 0 → ((((gi h_326 w 26) = 110 → (∀ h_333, h_333 = si h_326 w 27 0 → (((gi h_333 w 26) = 99 → ((((gi h_333 w 25) = 0 → (CV T N 243 [vr (some w), vi 45] h_333 (fun h_340 => (WV T N 245 162 [some (vr (some w))] [] h_340 K)))) ∧ (¬ ((gi h_333 w 25) = 0) → (WV T N 245 162 [some (vr (some w))] [] h_333 K))))) ∧ (¬ ((gi h_333 w 26) = 99) → (WV T N 245 207 [some (vr (some w))] [] h_333 K))))) ∧ (¬ ((gi h_326 w 26) = 110) → ((((gi h_326 w 26) = 112 → (∀ h_373, h_373 = si h_326 w 27 0 → (((gi h_373 w 26) = 99 → ((((gi h_373 w 25) = 0 → (CV T N 243 [vr (some w), vi 45] h_373 (fun h_380 => (WV T N 245 162 [some (vr (some w))] [] h_380 K)))) ∧ (¬ ((gi h_373 w 25) = 0) → (WV T N 245 162 [some (vr (some w))] [] h_373 K))))) ∧ (¬ ((gi h_373 w 26) = 99) → (WV T N 245 207 [some (vr (some w))] [] h_373 K))))) ∧ (¬ ((gi h_326 w 26) = 112) → ((((gi h_326 w 26) = 116 → (CI T N 244 [vr (some w), vi 1] h_326 (fun x_361 h_360 => (∀ h_363, h_363 = si h_360 w 27 x_361 → (((gi h_363 w 26) = 99 → ((((gi h_363 w 25) = 0 → (CV T N 243 [vr (some w), vi 45] h_363 (fun h_370 => (WV T N 245 162 [some (vr (some w))] [] h_370 K)))) ∧ (¬ ((gi h_363 w 25) = 0) → (WV T N 245 162 [some (vr (some w))] [] h_363 K))))) ∧ (¬ ((gi h_363 w 26) = 99) → (WV T N 245 207 [some (vr (some w))] [] h_363 K))))))) ∧ (¬ ((gi h_326 w 26) = 116) → (CI T N 244 [vr (some w), vi 0] h_326 (fun x_348 h_347 => (∀ h_350, h_350 = si h_347 w 27 x_348 → (((gi h_350 w 26) = 99 → ((((gi h_350 w 25) = 0 → (CV T N 243 [vr (some w), vi 45] h_350 (fun h_357 => (WV T N 245 162 [some (vr (some w))] [] h_357 K)))) ∧ (¬ ((gi h_350 w 25) = 0) → (WV T N 245 162 [some (vr (some w))] [] h_350 K))))) ∧ (¬ ((gi h_350 w 26) = 99) → (WV T N 245 207 [some (vr (some w))] [] h_350 K)))))))))))))))) ∧ (¬ ((gi h_326 w 25) = 0) → (K h_326)))))))) ∧ (¬ ((gi h_5 w 26) = 99) → ((((gi h_5 w 26) = 100 → ((((gi h_5 w 25) ||| 0) = 0 ∨ ((gi h_5 w 25) ||| 0) = 1) ∧ ∀ h_386, h_386 = si h_5 w 25 ((gi h_5 w 25) ||| 0) → (((gi h_386 w 25) = 0 → (∀ h_393, h_393 = si h_386 w 24 ((gi h_386 w 24) + 1) → (((gi h_393 w 25) = 0 → ((((gi h_393 w 26) = 110 → (∀ h_400, h_400 = si h_393 w 27 0 → (((gi h_400 w 26) = 99 → ((((gi h_400 w 25) = 0 → (CV T N 243 [vr (some w), vi 45] h_400 (fun h_407 => (WV T N 245 162 [some (vr (some w))] [] h_407 K)))) ∧ (¬ ((gi h_400 w 25) = 0) → (WV T N 245 162 [some (vr (some w))] [] h_400 K))))) ∧ (¬ ((gi h_400 w 26) = 99) → (WV T N 245 207 [some (vr (some w))] [] h_400 K))))) ∧ (¬ ((gi h_393 w 26) = 110) → ((((gi h_393 w 26) = 112 → (∀ h_440, h_440 = si h_393 w 27 0 → (((gi h_440 w 26) = 99 → ((((gi h_440 w 25) = 0 → (CV T N 243 [vr (some w), vi 45] h_440 (fun h_447 => (WV T N 245 162 [some (vr (some w))] [] h_447 K)))) ∧ (¬ ((gi h_440 w 25) = 0) → (WV T N 245 162 [some (vr (some w))] [] h_440 K))))) ∧ (¬ ((gi h_440 w 26) = 99) → (WV T N 245 207 [some (vr (some w))] [] h_440 K))))) ∧ (¬ ((gi h_393 w 26) = 112) → ((((gi h_393 w 26) = 116 → (CI T N 244 [vr (some w), vi 1] h_393 (fun x_428 h_427 => (∀ h_430, h_430 = si h_427 w 27 x_428 → (((gi h_430 w 26) = 99 → ((((gi h_430 w 25) = 0 → (CV T N 243 [vr (some w), vi 45] h_430 (fun h_437 => (WV T N 245 162 [some (vr (some w))] [] h_437 K)))) ∧ (¬ ((gi h_430 w 25) = 0) → (WV T N 245 162 [some (vr (some w))] [] h_430 K))))) ∧ (¬ ((gi h_430 w 26) = 99) → (WV T N 245 207 [some (vr (some w))] [] h_430 K))))))) ∧ (¬ ((gi h_393 w 26) = 116) → (CI T N 244 [vr (some w), vi 0] h_393 (fun x_415 h_414 => (∀ h_417, h_417 = si h_414 w 27 x_415 → (((gi h_417 w 26) = 99 → ((((gi h_417 w 25) = 0 → (CV T N 243 [vr (some w), vi 45] h_417 (fun h_424 => (WV T N 245 162 [some (vr (some w))] [] h_424 K)))) ∧ (¬ ((gi h_417 w 25) = 0) → (WV T N 245 162 [some (vr (some w))] [] h_417 K))))) ∧ (¬ ((gi h_417 w 26) = 99) → (WV T N 245 207 [some (vr (some w))] [] h_417 K)))))))))))))))) ∧ (¬ ((gi h_393 w 25) = 0) → (K h_393))))) ∧ (¬ ((gi h_386 w 25) = 0) → (∀ h_451, h_451 = si h_386 w 24 ((gi h_386 w 24) + 0) → (((gi h_451 w 25) = 0 → ((((gi h_451 w 26) = 110 → (∀ h_458, h_458 = si h_451 w 27 0 → (((gi h_458 w 26) = 99 → ((((gi h_458 w 25) = 0 → (CV T N 243 [vr (some w), vi 45] h_458 (fun h_465 => (WV T N 245 162 [some (vr (some w))] [] h_465 K)))) ∧ (¬ ((gi h_458 w 25) = 0) → (WV T N 245 162 [some (vr (some w))] [] h_458 K))))) ∧ (¬ ((gi h_458 w 26) = 99) → (WV T N 245 207 [some (vr (some w))] [] h_458 K))))) ∧ (¬ ((gi h_451 w 26) = 110) → ((((gi h_451 w 26) = 112 → (∀ h_498, h_498 = si h_451 w 27 0 → (((gi h_498 w 26) = 99 → ((((gi h_498 w 25) = 0 → (CV T N 243 [vr (some w), vi 45] h_498 (fun h_505 => (WV T N 245 162 [some (vr (some w))] [] h_505 K)))) ∧ (¬ ((gi h_498 w 25) = 0) → (WV T N 245 162 [some (vr (some w))] [] h_498 K))))) ∧ (¬ ((gi h_498 w 26) = 99) → (WV T N 245 207 [some (vr (some w))] [] h_498 K))))) ∧ (¬ ((gi h_451 w 26) = 112) → ((((gi h_451 w 26) = 116 → (CI T N 244 [vr (some w), vi 1] h_451 (fun x_486 h_485 => (∀ h_488, h_488 = si h_485 w 27 x_486 → (((gi h_488 w 26) = 99 → ((((gi h_488 w 25) = 0 → (CV T N 243 [vr (some w), vi 45] h_488 (fun h_495 => (WV T N 245 162 [some (vr (some w))] [] h_495 K)))) ∧ (¬ ((gi h_488 w 25) = 0) → (WV T N 245 162 [some (vr (some w))] [] h_488 K))))) ∧ (¬ ((gi h_488 w 26) = 99) → (WV T N 245 207 [some (vr (some w))] [] h_488 K))))))) ∧ (¬ ((gi h_451 w 26) = 116) → (CI T N 244 [vr (some w), vi 0] h_451 (fun x_473 h_472 => (∀ h_475, h_475 = si h_472 w 27 x_473 → (((gi h_475 w 26) = 99 → ((((gi h_475 w 25) = 0 → (CV T N 243 [vr (some w), vi 45] h_475 (fun h_482 => (WV T N 245 162 [some (vr (some w))] [] h_482 K)))) ∧ (¬ ((gi h_475 w 25) = 0) → (WV T N 245 162 [some (vr (some w))] [] h_475 K))))) ∧ (¬ ((gi h_475 w 26) = 99) → (WV T N 245 207 [some (vr (some w))] [] h_475 K)))))))))))))))) ∧ (¬ ((gi h_451 w 25) = 0) → (K h_451)))))))) ∧ (¬ ((gi h_5 w 26) = 100) → ((((gi h_5 w 26) = 116 → ((((gi h_5 w 25) ||| 0) = 0 ∨ ((gi h_5 w 25) ||| 0) = 1) ∧ ∀ h_511, h_511 = si h_5 w 25 ((gi h_5 w 25) ||| 0) → (((gi h_511 w 25) = 0 → (∀ h_518, h_518 = si h_511 w 24 ((gi h_511 w 24) + 1) → (((gi h_518 w 25) = 0 → ((((gi h_518 w 26) = 110 → (∀ h_525, h_525 = si h_518 w 27 0 → (((gi h_525 w 26) = 99 → ((((gi h_525 w 25) = 0 → (CV T N 243 [vr (some w), vi 45] h_525 (fun h_532 => (WV T N 245 162 [some (vr (some w))] [] h_532 K)))) ∧ (¬ ((gi h_525 w 25) = 0) → (WV T N 245 162 [some (vr (some w))] [] h_525 K))))) ∧ (¬ ((gi h_525 w 26) = 99) → (WV T N 245 207 [some (vr (some w))] [] h_525 K))))) ∧ (¬ ((gi h_518 w 26) = 110) → ((((gi h_518 w 26) = 112 → (∀ h_565, h_565 = si h_518 w 27 0 → (((gi h_565 w 26) = 99 → ((((gi h_565 w 25) = 0 → (CV T N 243 [vr (some w), vi 45] h_565 (fun h_572 => (WV T N 245 162 [some (vr (some w))] [] h_572 K)))) ∧ (¬ ((gi h_565 w 25) = 0) → (WV T N 245 162 [some (vr (some w))] [] h_565 K))))) ∧ (¬ ((gi h_565 w 26) = 99) → (WV T N 245 207 [some (vr (some w))] [] h_565 K))))) ∧ (¬ ((gi h_518 w 26) = 112) → ((((gi h_518 w 26) = 116 → (CI T N 244 [vr (some w), vi 1] h_518 (fun x_553 h_552 => (∀ h_555, h_555 = si h_552 w 27 x_553 → (((gi h_555 w 26) = 99 → ((((gi h_555 w 25) = 0 → (CV T N 243 [vr (some w), vi 45] h_555 (fun h_562 => (WV T N 245 162 [some (vr (some w))] [] h_562 K)))) ∧ (¬ ((gi h_555 w 25) = 0) → (WV T N 245 162 [some (vr (some w))] [] h_555 K))))) ∧ (¬ ((gi h_555 w 26) = 99) → (WV T N 245 207 [some (vr (some w))] [] h_555 K))))))) ∧ (¬ ((gi h_518 w 26) = 116) → (CI T N 244 [vr (some w), vi 0] h_518 (fun x_540 h_539 => (∀ h_542, h_542 = si h_539 w 27 x_540 → (((gi h_542 w 26) = 99 → ((((gi h_542 w 25) = 0 → (CV T N 243 [vr (some w), vi 45] h_542 (fun h_549 => (WV T N 245 162 [some (vr (some w))] [] h_549 K)))) ∧ (¬ ((gi h_542 w 25) = 0) → (WV T N 245 162 [some (vr (some w))] [] h_542 K))))) ∧ (¬ ((gi h_542 w 26) = 99) → (WV T N 245 207 [some (vr (some w))] [] h_542 K)))))))))))))))) ∧ (¬ ((gi h_518 w 25) = 0) → (K h_518))))) ∧ (¬ ((gi h_511 w 25) = 0) → (∀ h_576, h_576 = si h_511 w 24 ((gi h_511 w 24) + 0) → (((gi h_576 w 25) = 0 → ((((gi h_576 w 26) = 110 → (∀ h_583, h_583 = si h_576 w 27 0 → (((gi h_583 w 26) = 99 → ((((gi h_583 w 25) = 0 → (CV T N 243 [vr (some w), vi 45] h_583 (fun h_590 => (WV T N 245 162 [some (vr (some w))] [] h_590 K)))) ∧ (¬ ((gi h_583 w 25) = 0) → (WV T N 245 162 [some (vr (some w))] [] h_583 K))))) ∧ (¬ ((gi h_583 w 26) = 99) → (WV T N 245 207 [some (vr (some w))] [] h_583 K))))) ∧ (¬ ((gi h_576 w 26) = 110) → ((((gi h_576 w 26) = 112 → (∀ h_623, h_623 = si h_576 w 27 0 → (((gi h_623 w 26) = 99 → ((((gi h_623 w 25) = 0 → (CV T N 243 [vr (some w), vi 45] h_623 (fun h_630 => (WV T N 245 162 [some (vr (some w))] [] h_630 K)))) ∧ (¬ ((gi h_623 w 25) = 0) → (WV T N 245 162 [some (vr (some w))] [] h_623 K))))) ∧ (¬ ((gi h_623 w 26) = 99) → (WV T N 245 207 [some (vr (some w))] [] h_623 K))))) ∧ (¬ ((gi h_576 w 26) = 112) → ((((gi h_576 w 26) = 116 → (CI T N 244 [vr (some w), vi 1] h_576 (fun x_611 h_610 => (∀ h_613, h_613 = si h_610 w 27 x_611 → (((gi h_613 w 26) = 99 → ((((gi h_613 w 25) = 0 → (CV T N 243 [vr (some w), vi 45] h_613 (fun h_620 => (WV T N 245 162 [some (vr (some w))] [] h_620 K)))) ∧ (¬ ((gi h_613 w 25) = 0) → (WV T N 245 162 [some (vr (some w))] [] h_613 K))))) ∧ (¬ ((gi h_613 w 26) = 99) → (WV T N 245 207 [some (vr (some w))] [] h_613 K))))))) ∧ (¬ ((gi h_576 w 26) = 116) → (CI T N 244 [vr (some w), vi 0] h_576 (fun x_598 h_597 => (∀ h_600, h_600 = si h_597 w 27 x_598 → (((gi h_600 w 26) = 99 → ((((gi h_600 w 25) = 0 → (CV T N 243 [vr (some w), vi 45] h_600 (fun h_607 => (WV T N 245 162 [some (vr (some w))] [] h_607 K)))) ∧ (¬ ((gi h_600 w 25) = 0) → (WV T N 245 162 [some (vr (some w))] [] h_600 K))))) ∧ (¬ ((gi h_600 w 26) = 99) → (WV T N 245 207 [some (vr (some w))] [] h_600 K)))))))))))))))) ∧ (¬ ((gi h_576 w 25) = 0) → (K h_576)))))))) ∧ (¬ ((gi h_5 w 26) = 116) → ((((gi h_5 w 25) ||| 1) = 0 ∨ ((gi h_5 w 25) ||| 1) = 1) ∧ ∀ h_634, h_634 = si h_5 w 25 ((gi h_5 w 25) ||| 1) → (((gi h_634 w 25) = 0 → (∀ h_641, h_641 = si h_634 w 24 ((gi h_634 w 24) + 1) → (((gi h_641 w 25) = 0 → ((((gi h_641 w 26) = 110 → (∀ h_648, h_648 = si h_641 w 27 0 → (((gi h_648 w 26) = 99 → ((((gi h_648 w 25) = 0 → (CV T N 243 [vr (some w), vi 45] h_648 (fun h_655 => (WV T N 245 162 [some (vr (some w))] [] h_655 K)))) ∧ (¬ ((gi h_648 w 25) = 0) → (WV T N 245 162 [some (vr (some w))] [] h_648 K))))) ∧ (¬ ((gi h_648 w 26) = 99) → (WV T N 245 207 [some (vr (some w))] [] h_648 K))))) ∧ (¬ ((gi h_641 w 26) = 110) → ((((gi h_641 w 26) = 112 → (∀ h_688, h_688 = si h_641 w 27 0 → (((gi h_688 w 26) = 99 → ((((gi h_688 w 25) = 0 → (CV T N 243 [vr (some w), vi 45] h_688 (fun h_695 => (WV T N 245 162 [some (vr (some w))] [] h_695 K)))) ∧ (¬ ((gi h_688 w 25) = 0) → (WV T N 245 162 [some (vr (some w))] [] h_688 K))))) ∧ (¬ ((gi h_688 w 26) = 99) → (WV T N 245 207 [some (vr (some w))] [] h_688 K))))) ∧ (¬ ((gi h_641 w 26) = 112) → ((((gi h_641 w 26) = 116 → (CI T N 244 [vr (some w), vi 1] h_641 (fun x_676 h_675 => (∀ h_678, h_678 = si h_675 w 27 x_676 → (((gi h_678 w 26) = 99 → ((((gi h_678 w 25) = 0 → (CV T N 243 [vr (some w), vi 45] h_678 (fun h_685 => (WV T N 245 162 [some (vr (some w))] [] h_685 K)))) ∧ (¬ ((gi h_678 w 25) = 0) → (WV T N 245 162 [some (vr (some w))] [] h_678 K))))) ∧ (¬ ((gi h_678 w 26) = 99) → (WV T N 245 207 [some (vr (some w))] [] h_678 K))))))) ∧ (¬ ((gi h_641 w 26) = 116) → (CI T N 244 [vr (some w), vi 0] h_641 (fun x_663 h_662 => (∀ h_665, h_665 = si h_662 w 27 x_663 → (((gi h_665 w 26) = 99 → ((((gi h_665 w 25) = 0 → (CV T N 243 [vr (some w), vi 45] h_665 (fun h_672 => (WV T N 245 162 [some (vr (some w))] [] h_672 K)))) ∧ (¬ ((gi h_665 w 25) = 0) → (WV T N 245 162 [some (vr (some w))] [] h_665 K))))) ∧ (¬ ((gi h_665 w 26) = 99) → (WV T N 245 207 [some (vr (some w))] [] h_665 K)))))))))))))))) ∧ (¬ ((gi h_641 w 25) = 0) → (K h_641))))) ∧ (¬ ((gi h_634 w 25) = 0) → (∀ h_699, h_699 = si h_634 w 24 ((gi h_634 w 24) + 0) → (((gi h_699 w 25) = 0 → ((((gi h_699 w 26) = 110 → (∀ h_706, h_706 = si h_699 w 27 0 → (((gi h_706 w 26) = 99 → ((((gi h_706 w 25) = 0 → (CV T N 243 [vr (some w), vi 45] h_706 (fun h_713 => (WV T N 245 162 [some (vr (some w))] [] h_713 K)))) ∧ (¬ ((gi h_706 w 25) = 0) → (WV T N 245 162 [some (vr (some w))] [] h_706 K))))) ∧ (¬ ((gi h_706 w 26) = 99) → (WV T N 245 207 [some (vr (some w))] [] h_706 K))))) ∧ (¬ ((gi h_699 w 26) = 110) → ((((gi h_699 w 26) = 112 → (∀ h_746, h_746 = si h_699 w 27 0 → (((gi h_746 w 26) = 99 → ((((gi h_746 w 25) = 0 → (CV T N 243 [vr (some w), vi 45] h_746 (fun h_753 => (WV T N 245 162 [some (vr (some w))] [] h_753 K)))) ∧ (¬ ((gi h_746 w 25) = 0) → (WV T N 245 162 [some (vr (some w))] [] h_746 K))))) ∧ (¬ ((gi h_746 w 26) = 99) → (WV T N 245 207 [some (vr (some w))] [] h_746 K))))) ∧ (¬ ((gi h_699 w 26) = 112) → ((((gi h_699 w 26) = 116 → (CI T N 244 [vr (some w), vi 1] h_699 (fun x_734 h_733 => (∀ h_736, h_736 = si h_733 w 27 x_734 → (((gi h_736 w 26) = 99 → ((((gi h_736 w 25) = 0 → (CV T N 243 [vr (some w), vi 45] h_736 (fun h_743 => (WV T N 245 162 [some (vr (some w))] [] h_743 K)))) ∧ (¬ ((gi h_736 w 25) = 0) → (WV T N 245 162 [some (vr (some w))] [] h_736 K))))) ∧ (¬ ((gi h_736 w 26) = 99) → (WV T N 245 207 [some (vr (some w))] [] h_736 K))))))) ∧ (¬ ((gi h_699 w 26) = 116) → (CI T N 244 [vr (some w), vi 0] h_699 (fun x_721 h_720 => (∀ h_723, h_723 = si h_720 w 27 x_721 → (((gi h_723 w 26) = 99 → ((((gi h_723 w 25) = 0 → (CV T N 243 [vr (some w), vi 45] h_723 (fun h_730 => (WV T N 245 162 [some (vr (some w))] [] h_730 K)))) ∧ (¬ ((gi h_723 w 25) = 0) → (WV T N 245 162 [some (vr (some w))] [] h_723 K))))) ∧ (¬ ((gi h_723 w 26) = 99) → (WV T N 245 207 [some (vr (some w))] [] h_723 K)))))))))))))))) ∧ (¬ ((gi h_699 w 25) = 0) → (K h_699))))))))))))))))))))))))) : CV T N 245 [vr (some w)] h K := by
  show WP T N 245 0 [some (vr (some w))] [] h _
  refine R_ps 2 (pc2 := 2) (L2 := [some (vr (some w))]) (st2 := [vr (some w), vr (some w)]) rfl ?_
  refine R_cI (as := [vr (some w)]) rfl rfl ⟨Nat.le_of_ble_eq_true rfl, Nat.le_of_ble_eq_true rfl, rfl, (Or.inr ⟨_, rfl, t0⟩)⟩ rfl rfl k (fun x_3 h_2 k => ?_)
  refine R_putI rfl t0 ?_
  show WP T N _ _ _ _ (si h_2 w 26 x_3) _
  generalize e_6 : si h_2 w 26 x_3 = h_5
  replace k := k h_5 e_6.symm
  refine R_ps 2 (pc2 := 10) (L2 := [some (vr (some w))]) (st2 := [vr (some w), vr (some w)]) rfl ?_
  refine R_getZ rfl t0 ?_
  refine R_ps 1 (pc2 := 14) (L2 := [some (vr (some w))]) (st2 := [vr (some w), vi (gi h_5 w 25), vr (some w)]) rfl ?_
  refine R_getI rfl t0 ?_
  refine R_ps 1 (pc2 := 19) (L2 := [some (vr (some w))]) (st2 := [vi 110, vi (gi h_5 w 26), vi (gi h_5 w 25), vr (some w)]) rfl ?_
  refine R_if rfl (fun c_9 => ?_) (fun c_9 => ?_)
  · have k := k.1 c_9
    refine R_ps 2 (pc2 := 64) (L2 := [some (vr (some w))]) (st2 := [vi ((gi h_5 w 25) ||| 0), vr (some w)]) rfl ?_
    obtain ⟨t_13, k⟩ := k
    refine R_putZ rfl t0 t_13 ?_
    show WP T N _ _ _ _ (si h_5 w 25 ((gi h_5 w 25) ||| 0)) _
    generalize e_12 : si h_5 w 25 ((gi h_5 w 25) ||| 0) = h_11
    replace k := k h_11 e_12.symm
    refine R_ps 2 (pc2 := 69) (L2 := [some (vr (some w))]) (st2 := [vr (some w), vr (some w)]) rfl ?_
    refine R_getI rfl t0 ?_
    refine R_ps 1 (pc2 := 73) (L2 := [some (vr (some w))]) (st2 := [vr (some w), vi (gi h_11 w 24), vr (some w)]) rfl ?_
    refine R_getZ rfl t0 ?_
    refine R_if0 rfl (fun c_16 => ?_) (fun c_16 => ?_)
    · have k := k.1 c_16
      refine R_ps 2 (pc2 := 85) (L2 := [some (vr (some w))]) (st2 := [vi ((gi h_11 w 24) + 1), vr (some w)]) rfl ?_
      refine R_putI rfl t0 ?_
      show WP T N _ _ _ _ (si h_11 w 24 ((gi h_11 w 24) + 1)) _
      generalize e_19 : si h_11 w 24 ((gi h_11 w 24) + 1) = h_18
      replace k := k h_18 e_19.symm
      refine R_ps 1 (pc2 := 89) (L2 := [some (vr (some w))]) (st2 := [vr (some w)]) rfl ?_
      refine R_getZ rfl t0 ?_
      refine R_if0 rfl (fun c_21 => ?_) (fun c_21 => ?_)
      · have k := k.1 c_21
        refine R_ps 2 (pc2 := 98) (L2 := [some (vr (some w))]) (st2 := [vr (some w), vr (some w)]) rfl ?_
        refine R_getI rfl t0 ?_
        refine R_ps 1 (pc2 := 103) (L2 := [some (vr (some w))]) (st2 := [vi 110, vi (gi h_18 w 26), vr (some w)]) rfl ?_
        refine R_if rfl (fun c_23 => ?_) (fun c_23 => ?_)
        · have k := k.1 c_23
          refine R_ps 2 (pc2 := 137) (L2 := [some (vr (some w))]) (st2 := [vi 0, vr (some w)]) rfl ?_
          refine R_putI rfl t0 ?_
          show WP T N _ _ _ _ (si h_18 w 27 0) _
          generalize e_26 : si h_18 w 27 0 = h_25
          replace k := k h_25 e_26.symm
          refine R_ps 1 (pc2 := 141) (L2 := [some (vr (some w))]) (st2 := [vr (some w)]) rfl ?_
          refine R_getI rfl t0 ?_
          refine R_ps 1 (pc2 := 146) (L2 := [some (vr (some w))]) (st2 := [vi 99, vi (gi h_25 w 26)]) rfl ?_
          refine R_if rfl (fun c_28 => ?_) (fun c_28 => ?_)
          · have k := k.2 c_28
            exact k
          · have k := k.1 (Classical.not_not.mp c_28)
            refine R_ps 1 (pc2 := 150) (L2 := [some (vr (some w))]) (st2 := [vr (some w)]) rfl ?_
            refine R_getZ rfl t0 ?_
            refine R_if0 rfl (fun c_30 => ?_) (fun c_30 => ?_)
            · have k := k.2 c_30
              exact k
            · have k := k.1 (Classical.not_not.mp c_30)
              refine R_ps 2 (pc2 := 159) (L2 := [some (vr (some w))]) (st2 := [vi 45, vr (some w)]) rfl ?_
              refine R_cV (as := [vr (some w), vi 45]) rfl rfl ⟨Nat.le_of_ble_eq_true rfl, Nat.le_of_ble_eq_true rfl, rfl, (Or.inr ⟨_, rfl, t0⟩)⟩ rfl rfl k (fun h_32 k => ?_)
              exact k
        · have k := k.2 c_23
          refine R_ps 1 (pc2 := 107) (L2 := [some (vr (some w))]) (st2 := [vr (some w), vr (some w)]) rfl ?_
          refine R_getI rfl t0 ?_
          refine R_ps 1 (pc2 := 112) (L2 := [some (vr (some w))]) (st2 := [vi 112, vi (gi h_18 w 26), vr (some w)]) rfl ?_
          refine R_if rfl (fun c_35 => ?_) (fun c_35 => ?_)
          · have k := k.2 c_35
            refine R_ps 2 (pc2 := 121) (L2 := [some (vr (some w))]) (st2 := [vr (some w), vr (some w), vr (some w)]) rfl ?_
            refine R_getI rfl t0 ?_
            refine R_ps 1 (pc2 := 126) (L2 := [some (vr (some w))]) (st2 := [vi 116, vi (gi h_18 w 26), vr (some w), vr (some w)]) rfl ?_
            refine R_if rfl (fun c_37 => ?_) (fun c_37 => ?_)
            · have k := k.2 c_37
              refine R_ps 1 (pc2 := 134) (L2 := [some (vr (some w))]) (st2 := [vi 0, vr (some w), vr (some w)]) rfl ?_
              refine R_cI (as := [vr (some w), vi 0]) rfl rfl ⟨Nat.le_of_ble_eq_true rfl, Nat.le_of_ble_eq_true rfl, rfl, (Or.inr ⟨_, rfl, t0⟩)⟩ rfl rfl k (fun x_40 h_39 k => ?_)
              refine R_putI rfl t0 ?_
              show WP T N _ _ _ _ (si h_39 w 27 x_40) _
              generalize e_43 : si h_39 w 27 x_40 = h_42
              replace k := k h_42 e_43.symm
              refine R_ps 1 (pc2 := 141) (L2 := [some (vr (some w))]) (st2 := [vr (some w)]) rfl ?_
              refine R_getI rfl t0 ?_
              refine R_ps 1 (pc2 := 146) (L2 := [some (vr (some w))]) (st2 := [vi 99, vi (gi h_42 w 26)]) rfl ?_
              refine R_if rfl (fun c_45 => ?_) (fun c_45 => ?_)
              · have k := k.2 c_45
                exact k
              · have k := k.1 (Classical.not_not.mp c_45)
                refine R_ps 1 (pc2 := 150) (L2 := [some (vr (some w))]) (st2 := [vr (some w)]) rfl ?_
                refine R_getZ rfl t0 ?_
                refine R_if0 rfl (fun c_47 => ?_) (fun c_47 => ?_)
                · have k := k.2 c_47
                  exact k
                · have k := k.1 (Classical.not_not.mp c_47)
                  refine R_ps 2 (pc2 := 159) (L2 := [some (vr (some w))]) (st2 := [vi 45, vr (some w)]) rfl ?_
                  refine R_cV (as := [vr (some w), vi 45]) rfl rfl ⟨Nat.le_of_ble_eq_true rfl, Nat.le_of_ble_eq_true rfl, rfl, (Or.inr ⟨_, rfl, t0⟩)⟩ rfl rfl k (fun h_49 k => ?_)
                  exact k
            · have k := k.1 (Classical.not_not.mp c_37)
              refine R_ps 2 (pc2 := 134) (L2 := [some (vr (some w))]) (st2 := [vi 1, vr (some w), vr (some w)]) rfl ?_
              refine R_cI (as := [vr (some w), vi 1]) rfl rfl ⟨Nat.le_of_ble_eq_true rfl, Nat.le_of_ble_eq_true rfl, rfl, (Or.inr ⟨_, rfl, t0⟩)⟩ rfl rfl k (fun x_53 h_52 k => ?_)
              refine R_putI rfl t0 ?_
              show WP T N _ _ _ _ (si h_52 w 27 x_53) _
              generalize e_56 : si h_52 w 27 x_53 = h_55
              replace k := k h_55 e_56.symm
              refine R_ps 1 (pc2 := 141) (L2 := [some (vr (some w))]) (st2 := [vr (some w)]) rfl ?_
              refine R_getI rfl t0 ?_
              refine R_ps 1 (pc2 := 146) (L2 := [some (vr (some w))]) (st2 := [vi 99, vi (gi h_55 w 26)]) rfl ?_
              refine R_if rfl (fun c_58 => ?_) (fun c_58 => ?_)
              · have k := k.2 c_58
                exact k
              · have k := k.1 (Classical.not_not.mp c_58)
                refine R_ps 1 (pc2 := 150) (L2 := [some (vr (some w))]) (st2 := [vr (some w)]) rfl ?_
                refine R_getZ rfl t0 ?_
                refine R_if0 rfl (fun c_60 => ?_) (fun c_60 => ?_)
                · have k := k.2 c_60
                  exact k
                · have k := k.1 (Classical.not_not.mp c_60)
                  refine R_ps 2 (pc2 := 159) (L2 := [some (vr (some w))]) (st2 := [vi 45, vr (some w)]) rfl ?_
                  refine R_cV (as := [vr (some w), vi 45]) rfl rfl ⟨Nat.le_of_ble_eq_true rfl, Nat.le_of_ble_eq_true rfl, rfl, (Or.inr ⟨_, rfl, t0⟩)⟩ rfl rfl k (fun h_62 k => ?_)
                  exact k
          · have k := k.1 (Classical.not_not.mp c_35)
            refine R_ps 2 (pc2 := 137) (L2 := [some (vr (some w))]) (st2 := [vi 0, vr (some w)]) rfl ?_
            refine R_putI rfl t0 ?_
            show WP T N _ _ _ _ (si h_18 w 27 0) _
            generalize e_66 : si h_18 w 27 0 = h_65
            replace k := k h_65 e_66.symm
            refine R_ps 1 (pc2 := 141) (L2 := [some (vr (some w))]) (st2 := [vr (some w)]) rfl ?_
            refine R_getI rfl t0 ?_
            refine R_ps 1 (pc2 := 146) (L2 := [some (vr (some w))]) (st2 := [vi 99, vi (gi h_65 w 26)]) rfl ?_
            refine R_if rfl (fun c_68 => ?_) (fun c_68 => ?_)
            · have k := k.2 c_68
              exact k
            · have k := k.1 (Classical.not_not.mp c_68)
              refine R_ps 1 (pc2 := 150) (L2 := [some (vr (some w))]) (st2 := [vr (some w)]) rfl ?_
              refine R_getZ rfl t0 ?_
              refine R_if0 rfl (fun c_70 => ?_) (fun c_70 => ?_)
              · have k := k.2 c_70
                exact k
              · have k := k.1 (Classical.not_not.mp c_70)
                refine R_ps 2 (pc2 := 159) (L2 := [some (vr (some w))]) (st2 := [vi 45, vr (some w)]) rfl ?_
                refine R_cV (as := [vr (some w), vi 45]) rfl rfl ⟨Nat.le_of_ble_eq_true rfl, Nat.le_of_ble_eq_true rfl, rfl, (Or.inr ⟨_, rfl, t0⟩)⟩ rfl rfl k (fun h_72 k => ?_)
                exact k
      · have k := k.2 c_21
        exact R_ret rfl rfl ⟨rfl, k⟩
    · have k := k.2 c_16
      refine R_ps 3 (pc2 := 85) (L2 := [some (vr (some w))]) (st2 := [vi ((gi h_11 w 24) + 0), vr (some w)]) rfl ?_
      refine R_putI rfl t0 ?_
      show WP T N _ _ _ _ (si h_11 w 24 ((gi h_11 w 24) + 0)) _
      generalize e_77 : si h_11 w 24 ((gi h_11 w 24) + 0) = h_76
      replace k := k h_76 e_77.symm
      refine R_ps 1 (pc2 := 89) (L2 := [some (vr (some w))]) (st2 := [vr (some w)]) rfl ?_
      refine R_getZ rfl t0 ?_
      refine R_if0 rfl (fun c_79 => ?_) (fun c_79 => ?_)
      · have k := k.1 c_79
        refine R_ps 2 (pc2 := 98) (L2 := [some (vr (some w))]) (st2 := [vr (some w), vr (some w)]) rfl ?_
        refine R_getI rfl t0 ?_
        refine R_ps 1 (pc2 := 103) (L2 := [some (vr (some w))]) (st2 := [vi 110, vi (gi h_76 w 26), vr (some w)]) rfl ?_
        refine R_if rfl (fun c_81 => ?_) (fun c_81 => ?_)
        · have k := k.1 c_81
          refine R_ps 2 (pc2 := 137) (L2 := [some (vr (some w))]) (st2 := [vi 0, vr (some w)]) rfl ?_
          refine R_putI rfl t0 ?_
          show WP T N _ _ _ _ (si h_76 w 27 0) _
          generalize e_84 : si h_76 w 27 0 = h_83
          replace k := k h_83 e_84.symm
          refine R_ps 1 (pc2 := 141) (L2 := [some (vr (some w))]) (st2 := [vr (some w)]) rfl ?_
          refine R_getI rfl t0 ?_
          refine R_ps 1 (pc2 := 146) (L2 := [some (vr (some w))]) (st2 := [vi 99, vi (gi h_83 w 26)]) rfl ?_
          refine R_if rfl (fun c_86 => ?_) (fun c_86 => ?_)
          · have k := k.2 c_86
            exact k
          · have k := k.1 (Classical.not_not.mp c_86)
            refine R_ps 1 (pc2 := 150) (L2 := [some (vr (some w))]) (st2 := [vr (some w)]) rfl ?_
            refine R_getZ rfl t0 ?_
            refine R_if0 rfl (fun c_88 => ?_) (fun c_88 => ?_)
            · have k := k.2 c_88
              exact k
            · have k := k.1 (Classical.not_not.mp c_88)
              refine R_ps 2 (pc2 := 159) (L2 := [some (vr (some w))]) (st2 := [vi 45, vr (some w)]) rfl ?_
              refine R_cV (as := [vr (some w), vi 45]) rfl rfl ⟨Nat.le_of_ble_eq_true rfl, Nat.le_of_ble_eq_true rfl, rfl, (Or.inr ⟨_, rfl, t0⟩)⟩ rfl rfl k (fun h_90 k => ?_)
              exact k
        · have k := k.2 c_81
          refine R_ps 1 (pc2 := 107) (L2 := [some (vr (some w))]) (st2 := [vr (some w), vr (some w)]) rfl ?_
          refine R_getI rfl t0 ?_
          refine R_ps 1 (pc2 := 112) (L2 := [some (vr (some w))]) (st2 := [vi 112, vi (gi h_76 w 26), vr (some w)]) rfl ?_
          refine R_if rfl (fun c_93 => ?_) (fun c_93 => ?_)
          · have k := k.2 c_93
            refine R_ps 2 (pc2 := 121) (L2 := [some (vr (some w))]) (st2 := [vr (some w), vr (some w), vr (some w)]) rfl ?_
            refine R_getI rfl t0 ?_
            refine R_ps 1 (pc2 := 126) (L2 := [some (vr (some w))]) (st2 := [vi 116, vi (gi h_76 w 26), vr (some w), vr (some w)]) rfl ?_
            refine R_if rfl (fun c_95 => ?_) (fun c_95 => ?_)
            · have k := k.2 c_95
              refine R_ps 1 (pc2 := 134) (L2 := [some (vr (some w))]) (st2 := [vi 0, vr (some w), vr (some w)]) rfl ?_
              refine R_cI (as := [vr (some w), vi 0]) rfl rfl ⟨Nat.le_of_ble_eq_true rfl, Nat.le_of_ble_eq_true rfl, rfl, (Or.inr ⟨_, rfl, t0⟩)⟩ rfl rfl k (fun x_98 h_97 k => ?_)
              refine R_putI rfl t0 ?_
              show WP T N _ _ _ _ (si h_97 w 27 x_98) _
              generalize e_101 : si h_97 w 27 x_98 = h_100
              replace k := k h_100 e_101.symm
              refine R_ps 1 (pc2 := 141) (L2 := [some (vr (some w))]) (st2 := [vr (some w)]) rfl ?_
              refine R_getI rfl t0 ?_
              refine R_ps 1 (pc2 := 146) (L2 := [some (vr (some w))]) (st2 := [vi 99, vi (gi h_100 w 26)]) rfl ?_
              refine R_if rfl (fun c_103 => ?_) (fun c_103 => ?_)
              · have k := k.2 c_103
                exact k
              · have k := k.1 (Classical.not_not.mp c_103)
                refine R_ps 1 (pc2 := 150) (L2 := [some (vr (some w))]) (st2 := [vr (some w)]) rfl ?_
                refine R_getZ rfl t0 ?_
                refine R_if0 rfl (fun c_105 => ?_) (fun c_105 => ?_)
                · have k := k.2 c_105
                  exact k
                · have k := k.1 (Classical.not_not.mp c_105)
                  refine R_ps 2 (pc2 := 159) (L2 := [some (vr (some w))]) (st2 := [vi 45, vr (some w)]) rfl ?_
                  refine R_cV (as := [vr (some w), vi 45]) rfl rfl ⟨Nat.le_of_ble_eq_true rfl, Nat.le_of_ble_eq_true rfl, rfl, (Or.inr ⟨_, rfl, t0⟩)⟩ rfl rfl k (fun h_107 k => ?_)
                  exact k
            · have k := k.1 (Classical.not_not.mp c_95)
              refine R_ps 2 (pc2 := 134) (L2 := [some (vr (some w))]) (st2 := [vi 1, vr (some w), vr (some w)]) rfl ?_
              refine R_cI (as := [vr (some w), vi 1]) rfl rfl ⟨Nat.le_of_ble_eq_true rfl, Nat.le_of_ble_eq_true rfl, rfl, (Or.inr ⟨_, rfl, t0⟩)⟩ rfl rfl k (fun x_111 h_110 k => ?_)
              refine R_putI rfl t0 ?_
              show WP T N _ _ _ _ (si h_110 w 27 x_111) _
              generalize e_114 : si h_110 w 27 x_111 = h_113
              replace k := k h_113 e_114.symm
              refine R_ps 1 (pc2 := 141) (L2 := [some (vr (some w))]) (st2 := [vr (some w)]) rfl ?_
              refine R_getI rfl t0 ?_
              refine R_ps 1 (pc2 := 146) (L2 := [some (vr (some w))]) (st2 := [vi 99, vi (gi h_113 w 26)]) rfl ?_
              refine R_if rfl (fun c_116 => ?_) (fun c_116 => ?_)
              · have k := k.2 c_116
                exact k
              · have k := k.1 (Classical.not_not.mp c_116)
                refine R_ps 1 (pc2 := 150) (L2 := [some (vr (some w))]) (st2 := [vr (some w)]) rfl ?_
                refine R_getZ rfl t0 ?_
                refine R_if0 rfl (fun c_118 => ?_) (fun c_118 => ?_)
                · have k := k.2 c_118
                  exact k
                · have k := k.1 (Classical.not_not.mp c_118)
                  refine R_ps 2 (pc2 := 159) (L2 := [some (vr (some w))]) (st2 := [vi 45, vr (some w)]) rfl ?_
                  refine R_cV (as := [vr (some w), vi 45]) rfl rfl ⟨Nat.le_of_ble_eq_true rfl, Nat.le_of_ble_eq_true rfl, rfl, (Or.inr ⟨_, rfl, t0⟩)⟩ rfl rfl k (fun h_120 k => ?_)
                  exact k
          · have k := k.1 (Classical.not_not.mp c_93)
            refine R_ps 2 (pc2 := 137) (L2 := [some (vr (some w))]) (st2 := [vi 0, vr (some w)]) rfl ?_
            refine R_putI rfl t0 ?_
            show WP T N _ _ _ _ (si h_76 w 27 0) _
            generalize e_124 : si h_76 w 27 0 = h_123
            replace k := k h_123 e_124.symm
            refine R_ps 1 (pc2 := 141) (L2 := [some (vr (some w))]) (st2 := [vr (some w)]) rfl ?_
            refine R_getI rfl t0 ?_
            refine R_ps 1 (pc2 := 146) (L2 := [some (vr (some w))]) (st2 := [vi 99, vi (gi h_123 w 26)]) rfl ?_
            refine R_if rfl (fun c_126 => ?_) (fun c_126 => ?_)
            · have k := k.2 c_126
              exact k
            · have k := k.1 (Classical.not_not.mp c_126)
              refine R_ps 1 (pc2 := 150) (L2 := [some (vr (some w))]) (st2 := [vr (some w)]) rfl ?_
              refine R_getZ rfl t0 ?_
              refine R_if0 rfl (fun c_128 => ?_) (fun c_128 => ?_)
              · have k := k.2 c_128
                exact k
              · have k := k.1 (Classical.not_not.mp c_128)
                refine R_ps 2 (pc2 := 159) (L2 := [some (vr (some w))]) (st2 := [vi 45, vr (some w)]) rfl ?_
                refine R_cV (as := [vr (some w), vi 45]) rfl rfl ⟨Nat.le_of_ble_eq_true rfl, Nat.le_of_ble_eq_true rfl, rfl, (Or.inr ⟨_, rfl, t0⟩)⟩ rfl rfl k (fun h_130 k => ?_)
                exact k
      · have k := k.2 c_79
        exact R_ret rfl rfl ⟨rfl, k⟩
  · have k := k.2 c_9
    refine R_ps 1 (pc2 := 23) (L2 := [some (vr (some w))]) (st2 := [vr (some w), vi (gi h_5 w 25), vr (some w)]) rfl ?_
    refine R_getI rfl t0 ?_
    refine R_ps 1 (pc2 := 28) (L2 := [some (vr (some w))]) (st2 := [vi 112, vi (gi h_5 w 26), vi (gi h_5 w 25), vr (some w)]) rfl ?_
    refine R_if rfl (fun c_134 => ?_) (fun c_134 => ?_)
    · have k := k.1 c_134
      refine R_ps 2 (pc2 := 64) (L2 := [some (vr (some w))]) (st2 := [vi ((gi h_5 w 25) ||| 0), vr (some w)]) rfl ?_
      obtain ⟨t_138, k⟩ := k
      refine R_putZ rfl t0 t_138 ?_
      show WP T N _ _ _ _ (si h_5 w 25 ((gi h_5 w 25) ||| 0)) _
      generalize e_137 : si h_5 w 25 ((gi h_5 w 25) ||| 0) = h_136
      replace k := k h_136 e_137.symm
      refine R_ps 2 (pc2 := 69) (L2 := [some (vr (some w))]) (st2 := [vr (some w), vr (some w)]) rfl ?_
      refine R_getI rfl t0 ?_
      refine R_ps 1 (pc2 := 73) (L2 := [some (vr (some w))]) (st2 := [vr (some w), vi (gi h_136 w 24), vr (some w)]) rfl ?_
      refine R_getZ rfl t0 ?_
      refine R_if0 rfl (fun c_141 => ?_) (fun c_141 => ?_)
      · have k := k.1 c_141
        refine R_ps 2 (pc2 := 85) (L2 := [some (vr (some w))]) (st2 := [vi ((gi h_136 w 24) + 1), vr (some w)]) rfl ?_
        refine R_putI rfl t0 ?_
        show WP T N _ _ _ _ (si h_136 w 24 ((gi h_136 w 24) + 1)) _
        generalize e_144 : si h_136 w 24 ((gi h_136 w 24) + 1) = h_143
        replace k := k h_143 e_144.symm
        refine R_ps 1 (pc2 := 89) (L2 := [some (vr (some w))]) (st2 := [vr (some w)]) rfl ?_
        refine R_getZ rfl t0 ?_
        refine R_if0 rfl (fun c_146 => ?_) (fun c_146 => ?_)
        · have k := k.1 c_146
          refine R_ps 2 (pc2 := 98) (L2 := [some (vr (some w))]) (st2 := [vr (some w), vr (some w)]) rfl ?_
          refine R_getI rfl t0 ?_
          refine R_ps 1 (pc2 := 103) (L2 := [some (vr (some w))]) (st2 := [vi 110, vi (gi h_143 w 26), vr (some w)]) rfl ?_
          refine R_if rfl (fun c_148 => ?_) (fun c_148 => ?_)
          · have k := k.1 c_148
            refine R_ps 2 (pc2 := 137) (L2 := [some (vr (some w))]) (st2 := [vi 0, vr (some w)]) rfl ?_
            refine R_putI rfl t0 ?_
            show WP T N _ _ _ _ (si h_143 w 27 0) _
            generalize e_151 : si h_143 w 27 0 = h_150
            replace k := k h_150 e_151.symm
            refine R_ps 1 (pc2 := 141) (L2 := [some (vr (some w))]) (st2 := [vr (some w)]) rfl ?_
            refine R_getI rfl t0 ?_
            refine R_ps 1 (pc2 := 146) (L2 := [some (vr (some w))]) (st2 := [vi 99, vi (gi h_150 w 26)]) rfl ?_
            refine R_if rfl (fun c_153 => ?_) (fun c_153 => ?_)
            · have k := k.2 c_153
              exact k
            · have k := k.1 (Classical.not_not.mp c_153)
              refine R_ps 1 (pc2 := 150) (L2 := [some (vr (some w))]) (st2 := [vr (some w)]) rfl ?_
              refine R_getZ rfl t0 ?_
              refine R_if0 rfl (fun c_155 => ?_) (fun c_155 => ?_)
              · have k := k.2 c_155
                exact k
              · have k := k.1 (Classical.not_not.mp c_155)
                refine R_ps 2 (pc2 := 159) (L2 := [some (vr (some w))]) (st2 := [vi 45, vr (some w)]) rfl ?_
                refine R_cV (as := [vr (some w), vi 45]) rfl rfl ⟨Nat.le_of_ble_eq_true rfl, Nat.le_of_ble_eq_true rfl, rfl, (Or.inr ⟨_, rfl, t0⟩)⟩ rfl rfl k (fun h_157 k => ?_)
                exact k
          · have k := k.2 c_148
            refine R_ps 1 (pc2 := 107) (L2 := [some (vr (some w))]) (st2 := [vr (some w), vr (some w)]) rfl ?_
            refine R_getI rfl t0 ?_
            refine R_ps 1 (pc2 := 112) (L2 := [some (vr (some w))]) (st2 := [vi 112, vi (gi h_143 w 26), vr (some w)]) rfl ?_
            refine R_if rfl (fun c_160 => ?_) (fun c_160 => ?_)
            · have k := k.2 c_160
              refine R_ps 2 (pc2 := 121) (L2 := [some (vr (some w))]) (st2 := [vr (some w), vr (some w), vr (some w)]) rfl ?_
              refine R_getI rfl t0 ?_
              refine R_ps 1 (pc2 := 126) (L2 := [some (vr (some w))]) (st2 := [vi 116, vi (gi h_143 w 26), vr (some w), vr (some w)]) rfl ?_
              refine R_if rfl (fun c_162 => ?_) (fun c_162 => ?_)
              · have k := k.2 c_162
                refine R_ps 1 (pc2 := 134) (L2 := [some (vr (some w))]) (st2 := [vi 0, vr (some w), vr (some w)]) rfl ?_
                refine R_cI (as := [vr (some w), vi 0]) rfl rfl ⟨Nat.le_of_ble_eq_true rfl, Nat.le_of_ble_eq_true rfl, rfl, (Or.inr ⟨_, rfl, t0⟩)⟩ rfl rfl k (fun x_165 h_164 k => ?_)
                refine R_putI rfl t0 ?_
                show WP T N _ _ _ _ (si h_164 w 27 x_165) _
                generalize e_168 : si h_164 w 27 x_165 = h_167
                replace k := k h_167 e_168.symm
                refine R_ps 1 (pc2 := 141) (L2 := [some (vr (some w))]) (st2 := [vr (some w)]) rfl ?_
                refine R_getI rfl t0 ?_
                refine R_ps 1 (pc2 := 146) (L2 := [some (vr (some w))]) (st2 := [vi 99, vi (gi h_167 w 26)]) rfl ?_
                refine R_if rfl (fun c_170 => ?_) (fun c_170 => ?_)
                · have k := k.2 c_170
                  exact k
                · have k := k.1 (Classical.not_not.mp c_170)
                  refine R_ps 1 (pc2 := 150) (L2 := [some (vr (some w))]) (st2 := [vr (some w)]) rfl ?_
                  refine R_getZ rfl t0 ?_
                  refine R_if0 rfl (fun c_172 => ?_) (fun c_172 => ?_)
                  · have k := k.2 c_172
                    exact k
                  · have k := k.1 (Classical.not_not.mp c_172)
                    refine R_ps 2 (pc2 := 159) (L2 := [some (vr (some w))]) (st2 := [vi 45, vr (some w)]) rfl ?_
                    refine R_cV (as := [vr (some w), vi 45]) rfl rfl ⟨Nat.le_of_ble_eq_true rfl, Nat.le_of_ble_eq_true rfl, rfl, (Or.inr ⟨_, rfl, t0⟩)⟩ rfl rfl k (fun h_174 k => ?_)
                    exact k
              · have k := k.1 (Classical.not_not.mp c_162)
                refine R_ps 2 (pc2 := 134) (L2 := [some (vr (some w))]) (st2 := [vi 1, vr (some w), vr (some w)]) rfl ?_
                refine R_cI (as := [vr (some w), vi 1]) rfl rfl ⟨Nat.le_of_ble_eq_true rfl, Nat.le_of_ble_eq_true rfl, rfl, (Or.inr ⟨_, rfl, t0⟩)⟩ rfl rfl k (fun x_178 h_177 k => ?_)
                refine R_putI rfl t0 ?_
                show WP T N _ _ _ _ (si h_177 w 27 x_178) _
                generalize e_181 : si h_177 w 27 x_178 = h_180
                replace k := k h_180 e_181.symm
                refine R_ps 1 (pc2 := 141) (L2 := [some (vr (some w))]) (st2 := [vr (some w)]) rfl ?_
                refine R_getI rfl t0 ?_
                refine R_ps 1 (pc2 := 146) (L2 := [some (vr (some w))]) (st2 := [vi 99, vi (gi h_180 w 26)]) rfl ?_
                refine R_if rfl (fun c_183 => ?_) (fun c_183 => ?_)
                · have k := k.2 c_183
                  exact k
                · have k := k.1 (Classical.not_not.mp c_183)
                  refine R_ps 1 (pc2 := 150) (L2 := [some (vr (some w))]) (st2 := [vr (some w)]) rfl ?_
                  refine R_getZ rfl t0 ?_
                  refine R_if0 rfl (fun c_185 => ?_) (fun c_185 => ?_)
                  · have k := k.2 c_185
                    exact k
                  · have k := k.1 (Classical.not_not.mp c_185)
                    refine R_ps 2 (pc2 := 159) (L2 := [some (vr (some w))]) (st2 := [vi 45, vr (some w)]) rfl ?_
                    refine R_cV (as := [vr (some w), vi 45]) rfl rfl ⟨Nat.le_of_ble_eq_true rfl, Nat.le_of_ble_eq_true rfl, rfl, (Or.inr ⟨_, rfl, t0⟩)⟩ rfl rfl k (fun h_187 k => ?_)
                    exact k
            · have k := k.1 (Classical.not_not.mp c_160)
              refine R_ps 2 (pc2 := 137) (L2 := [some (vr (some w))]) (st2 := [vi 0, vr (some w)]) rfl ?_
              refine R_putI rfl t0 ?_
              show WP T N _ _ _ _ (si h_143 w 27 0) _
              generalize e_191 : si h_143 w 27 0 = h_190
              replace k := k h_190 e_191.symm
              refine R_ps 1 (pc2 := 141) (L2 := [some (vr (some w))]) (st2 := [vr (some w)]) rfl ?_
              refine R_getI rfl t0 ?_
              refine R_ps 1 (pc2 := 146) (L2 := [some (vr (some w))]) (st2 := [vi 99, vi (gi h_190 w 26)]) rfl ?_
              refine R_if rfl (fun c_193 => ?_) (fun c_193 => ?_)
              · have k := k.2 c_193
                exact k
              · have k := k.1 (Classical.not_not.mp c_193)
                refine R_ps 1 (pc2 := 150) (L2 := [some (vr (some w))]) (st2 := [vr (some w)]) rfl ?_
                refine R_getZ rfl t0 ?_
                refine R_if0 rfl (fun c_195 => ?_) (fun c_195 => ?_)
                · have k := k.2 c_195
                  exact k
                · have k := k.1 (Classical.not_not.mp c_195)
                  refine R_ps 2 (pc2 := 159) (L2 := [some (vr (some w))]) (st2 := [vi 45, vr (some w)]) rfl ?_
                  refine R_cV (as := [vr (some w), vi 45]) rfl rfl ⟨Nat.le_of_ble_eq_true rfl, Nat.le_of_ble_eq_true rfl, rfl, (Or.inr ⟨_, rfl, t0⟩)⟩ rfl rfl k (fun h_197 k => ?_)
                  exact k
        · have k := k.2 c_146
          exact R_ret rfl rfl ⟨rfl, k⟩
      · have k := k.2 c_141
        refine R_ps 3 (pc2 := 85) (L2 := [some (vr (some w))]) (st2 := [vi ((gi h_136 w 24) + 0), vr (some w)]) rfl ?_
        refine R_putI rfl t0 ?_
        show WP T N _ _ _ _ (si h_136 w 24 ((gi h_136 w 24) + 0)) _
        generalize e_202 : si h_136 w 24 ((gi h_136 w 24) + 0) = h_201
        replace k := k h_201 e_202.symm
        refine R_ps 1 (pc2 := 89) (L2 := [some (vr (some w))]) (st2 := [vr (some w)]) rfl ?_
        refine R_getZ rfl t0 ?_
        refine R_if0 rfl (fun c_204 => ?_) (fun c_204 => ?_)
        · have k := k.1 c_204
          refine R_ps 2 (pc2 := 98) (L2 := [some (vr (some w))]) (st2 := [vr (some w), vr (some w)]) rfl ?_
          refine R_getI rfl t0 ?_
          refine R_ps 1 (pc2 := 103) (L2 := [some (vr (some w))]) (st2 := [vi 110, vi (gi h_201 w 26), vr (some w)]) rfl ?_
          refine R_if rfl (fun c_206 => ?_) (fun c_206 => ?_)
          · have k := k.1 c_206
            refine R_ps 2 (pc2 := 137) (L2 := [some (vr (some w))]) (st2 := [vi 0, vr (some w)]) rfl ?_
            refine R_putI rfl t0 ?_
            show WP T N _ _ _ _ (si h_201 w 27 0) _
            generalize e_209 : si h_201 w 27 0 = h_208
            replace k := k h_208 e_209.symm
            refine R_ps 1 (pc2 := 141) (L2 := [some (vr (some w))]) (st2 := [vr (some w)]) rfl ?_
            refine R_getI rfl t0 ?_
            refine R_ps 1 (pc2 := 146) (L2 := [some (vr (some w))]) (st2 := [vi 99, vi (gi h_208 w 26)]) rfl ?_
            refine R_if rfl (fun c_211 => ?_) (fun c_211 => ?_)
            · have k := k.2 c_211
              exact k
            · have k := k.1 (Classical.not_not.mp c_211)
              refine R_ps 1 (pc2 := 150) (L2 := [some (vr (some w))]) (st2 := [vr (some w)]) rfl ?_
              refine R_getZ rfl t0 ?_
              refine R_if0 rfl (fun c_213 => ?_) (fun c_213 => ?_)
              · have k := k.2 c_213
                exact k
              · have k := k.1 (Classical.not_not.mp c_213)
                refine R_ps 2 (pc2 := 159) (L2 := [some (vr (some w))]) (st2 := [vi 45, vr (some w)]) rfl ?_
                refine R_cV (as := [vr (some w), vi 45]) rfl rfl ⟨Nat.le_of_ble_eq_true rfl, Nat.le_of_ble_eq_true rfl, rfl, (Or.inr ⟨_, rfl, t0⟩)⟩ rfl rfl k (fun h_215 k => ?_)
                exact k
          · have k := k.2 c_206
            refine R_ps 1 (pc2 := 107) (L2 := [some (vr (some w))]) (st2 := [vr (some w), vr (some w)]) rfl ?_
            refine R_getI rfl t0 ?_
            refine R_ps 1 (pc2 := 112) (L2 := [some (vr (some w))]) (st2 := [vi 112, vi (gi h_201 w 26), vr (some w)]) rfl ?_
            refine R_if rfl (fun c_218 => ?_) (fun c_218 => ?_)
            · have k := k.2 c_218
              refine R_ps 2 (pc2 := 121) (L2 := [some (vr (some w))]) (st2 := [vr (some w), vr (some w), vr (some w)]) rfl ?_
              refine R_getI rfl t0 ?_
              refine R_ps 1 (pc2 := 126) (L2 := [some (vr (some w))]) (st2 := [vi 116, vi (gi h_201 w 26), vr (some w), vr (some w)]) rfl ?_
              refine R_if rfl (fun c_220 => ?_) (fun c_220 => ?_)
              · have k := k.2 c_220
                refine R_ps 1 (pc2 := 134) (L2 := [some (vr (some w))]) (st2 := [vi 0, vr (some w), vr (some w)]) rfl ?_
                refine R_cI (as := [vr (some w), vi 0]) rfl rfl ⟨Nat.le_of_ble_eq_true rfl, Nat.le_of_ble_eq_true rfl, rfl, (Or.inr ⟨_, rfl, t0⟩)⟩ rfl rfl k (fun x_223 h_222 k => ?_)
                refine R_putI rfl t0 ?_
                show WP T N _ _ _ _ (si h_222 w 27 x_223) _
                generalize e_226 : si h_222 w 27 x_223 = h_225
                replace k := k h_225 e_226.symm
                refine R_ps 1 (pc2 := 141) (L2 := [some (vr (some w))]) (st2 := [vr (some w)]) rfl ?_
                refine R_getI rfl t0 ?_
                refine R_ps 1 (pc2 := 146) (L2 := [some (vr (some w))]) (st2 := [vi 99, vi (gi h_225 w 26)]) rfl ?_
                refine R_if rfl (fun c_228 => ?_) (fun c_228 => ?_)
                · have k := k.2 c_228
                  exact k
                · have k := k.1 (Classical.not_not.mp c_228)
                  refine R_ps 1 (pc2 := 150) (L2 := [some (vr (some w))]) (st2 := [vr (some w)]) rfl ?_
                  refine R_getZ rfl t0 ?_
                  refine R_if0 rfl (fun c_230 => ?_) (fun c_230 => ?_)
                  · have k := k.2 c_230
                    exact k
                  · have k := k.1 (Classical.not_not.mp c_230)
                    refine R_ps 2 (pc2 := 159) (L2 := [some (vr (some w))]) (st2 := [vi 45, vr (some w)]) rfl ?_
                    refine R_cV (as := [vr (some w), vi 45]) rfl rfl ⟨Nat.le_of_ble_eq_true rfl, Nat.le_of_ble_eq_true rfl, rfl, (Or.inr ⟨_, rfl, t0⟩)⟩ rfl rfl k (fun h_232 k => ?_)
                    exact k
              · have k := k.1 (Classical.not_not.mp c_220)
                refine R_ps 2 (pc2 := 134) (L2 := [some (vr (some w))]) (st2 := [vi 1, vr (some w), vr (some w)]) rfl ?_
                refine R_cI (as := [vr (some w), vi 1]) rfl rfl ⟨Nat.le_of_ble_eq_true rfl, Nat.le_of_ble_eq_true rfl, rfl, (Or.inr ⟨_, rfl, t0⟩)⟩ rfl rfl k (fun x_236 h_235 k => ?_)
                refine R_putI rfl t0 ?_
                show WP T N _ _ _ _ (si h_235 w 27 x_236) _
                generalize e_239 : si h_235 w 27 x_236 = h_238
                replace k := k h_238 e_239.symm
                refine R_ps 1 (pc2 := 141) (L2 := [some (vr (some w))]) (st2 := [vr (some w)]) rfl ?_
                refine R_getI rfl t0 ?_
                refine R_ps 1 (pc2 := 146) (L2 := [some (vr (some w))]) (st2 := [vi 99, vi (gi h_238 w 26)]) rfl ?_
                refine R_if rfl (fun c_241 => ?_) (fun c_241 => ?_)
                · have k := k.2 c_241
                  exact k
                · have k := k.1 (Classical.not_not.mp c_241)
                  refine R_ps 1 (pc2 := 150) (L2 := [some (vr (some w))]) (st2 := [vr (some w)]) rfl ?_
                  refine R_getZ rfl t0 ?_
                  refine R_if0 rfl (fun c_243 => ?_) (fun c_243 => ?_)
                  · have k := k.2 c_243
                    exact k
                  · have k := k.1 (Classical.not_not.mp c_243)
                    refine R_ps 2 (pc2 := 159) (L2 := [some (vr (some w))]) (st2 := [vi 45, vr (some w)]) rfl ?_
                    refine R_cV (as := [vr (some w), vi 45]) rfl rfl ⟨Nat.le_of_ble_eq_true rfl, Nat.le_of_ble_eq_true rfl, rfl, (Or.inr ⟨_, rfl, t0⟩)⟩ rfl rfl k (fun h_245 k => ?_)
                    exact k
            · have k := k.1 (Classical.not_not.mp c_218)
              refine R_ps 2 (pc2 := 137) (L2 := [some (vr (some w))]) (st2 := [vi 0, vr (some w)]) rfl ?_
              refine R_putI rfl t0 ?_
              show WP T N _ _ _ _ (si h_201 w 27 0) _
              generalize e_249 : si h_201 w 27 0 = h_248
              replace k := k h_248 e_249.symm
              refine R_ps 1 (pc2 := 141) (L2 := [some (vr (some w))]) (st2 := [vr (some w)]) rfl ?_
              refine R_getI rfl t0 ?_
              refine R_ps 1 (pc2 := 146) (L2 := [some (vr (some w))]) (st2 := [vi 99, vi (gi h_248 w 26)]) rfl ?_
              refine R_if rfl (fun c_251 => ?_) (fun c_251 => ?_)
              · have k := k.2 c_251
                exact k
              · have k := k.1 (Classical.not_not.mp c_251)
                refine R_ps 1 (pc2 := 150) (L2 := [some (vr (some w))]) (st2 := [vr (some w)]) rfl ?_
                refine R_getZ rfl t0 ?_
                refine R_if0 rfl (fun c_253 => ?_) (fun c_253 => ?_)
                · have k := k.2 c_253
                  exact k
                · have k := k.1 (Classical.not_not.mp c_253)
                  refine R_ps 2 (pc2 := 159) (L2 := [some (vr (some w))]) (st2 := [vi 45, vr (some w)]) rfl ?_
                  refine R_cV (as := [vr (some w), vi 45]) rfl rfl ⟨Nat.le_of_ble_eq_true rfl, Nat.le_of_ble_eq_true rfl, rfl, (Or.inr ⟨_, rfl, t0⟩)⟩ rfl rfl k (fun h_255 k => ?_)
                  exact k
        · have k := k.2 c_204
          exact R_ret rfl rfl ⟨rfl, k⟩
    · have k := k.2 c_134
      refine R_ps 1 (pc2 := 32) (L2 := [some (vr (some w))]) (st2 := [vr (some w), vi (gi h_5 w 25), vr (some w)]) rfl ?_
      refine R_getI rfl t0 ?_
      refine R_ps 1 (pc2 := 37) (L2 := [some (vr (some w))]) (st2 := [vi 99, vi (gi h_5 w 26), vi (gi h_5 w 25), vr (some w)]) rfl ?_
      refine R_if rfl (fun c_259 => ?_) (fun c_259 => ?_)
      · have k := k.1 c_259
        refine R_ps 2 (pc2 := 64) (L2 := [some (vr (some w))]) (st2 := [vi ((gi h_5 w 25) ||| 0), vr (some w)]) rfl ?_
        obtain ⟨t_263, k⟩ := k
        refine R_putZ rfl t0 t_263 ?_
        show WP T N _ _ _ _ (si h_5 w 25 ((gi h_5 w 25) ||| 0)) _
        generalize e_262 : si h_5 w 25 ((gi h_5 w 25) ||| 0) = h_261
        replace k := k h_261 e_262.symm
        refine R_ps 2 (pc2 := 69) (L2 := [some (vr (some w))]) (st2 := [vr (some w), vr (some w)]) rfl ?_
        refine R_getI rfl t0 ?_
        refine R_ps 1 (pc2 := 73) (L2 := [some (vr (some w))]) (st2 := [vr (some w), vi (gi h_261 w 24), vr (some w)]) rfl ?_
        refine R_getZ rfl t0 ?_
        refine R_if0 rfl (fun c_266 => ?_) (fun c_266 => ?_)
        · have k := k.1 c_266
          refine R_ps 2 (pc2 := 85) (L2 := [some (vr (some w))]) (st2 := [vi ((gi h_261 w 24) + 1), vr (some w)]) rfl ?_
          refine R_putI rfl t0 ?_
          show WP T N _ _ _ _ (si h_261 w 24 ((gi h_261 w 24) + 1)) _
          generalize e_269 : si h_261 w 24 ((gi h_261 w 24) + 1) = h_268
          replace k := k h_268 e_269.symm
          refine R_ps 1 (pc2 := 89) (L2 := [some (vr (some w))]) (st2 := [vr (some w)]) rfl ?_
          refine R_getZ rfl t0 ?_
          refine R_if0 rfl (fun c_271 => ?_) (fun c_271 => ?_)
          · have k := k.1 c_271
            refine R_ps 2 (pc2 := 98) (L2 := [some (vr (some w))]) (st2 := [vr (some w), vr (some w)]) rfl ?_
            refine R_getI rfl t0 ?_
            refine R_ps 1 (pc2 := 103) (L2 := [some (vr (some w))]) (st2 := [vi 110, vi (gi h_268 w 26), vr (some w)]) rfl ?_
            refine R_if rfl (fun c_273 => ?_) (fun c_273 => ?_)
            · have k := k.1 c_273
              refine R_ps 2 (pc2 := 137) (L2 := [some (vr (some w))]) (st2 := [vi 0, vr (some w)]) rfl ?_
              refine R_putI rfl t0 ?_
              show WP T N _ _ _ _ (si h_268 w 27 0) _
              generalize e_276 : si h_268 w 27 0 = h_275
              replace k := k h_275 e_276.symm
              refine R_ps 1 (pc2 := 141) (L2 := [some (vr (some w))]) (st2 := [vr (some w)]) rfl ?_
              refine R_getI rfl t0 ?_
              refine R_ps 1 (pc2 := 146) (L2 := [some (vr (some w))]) (st2 := [vi 99, vi (gi h_275 w 26)]) rfl ?_
              refine R_if rfl (fun c_278 => ?_) (fun c_278 => ?_)
              · have k := k.2 c_278
                exact k
              · have k := k.1 (Classical.not_not.mp c_278)
                refine R_ps 1 (pc2 := 150) (L2 := [some (vr (some w))]) (st2 := [vr (some w)]) rfl ?_
                refine R_getZ rfl t0 ?_
                refine R_if0 rfl (fun c_280 => ?_) (fun c_280 => ?_)
                · have k := k.2 c_280
                  exact k
                · have k := k.1 (Classical.not_not.mp c_280)
                  refine R_ps 2 (pc2 := 159) (L2 := [some (vr (some w))]) (st2 := [vi 45, vr (some w)]) rfl ?_
                  refine R_cV (as := [vr (some w), vi 45]) rfl rfl ⟨Nat.le_of_ble_eq_true rfl, Nat.le_of_ble_eq_true rfl, rfl, (Or.inr ⟨_, rfl, t0⟩)⟩ rfl rfl k (fun h_282 k => ?_)
                  exact k
            · have k := k.2 c_273
              refine R_ps 1 (pc2 := 107) (L2 := [some (vr (some w))]) (st2 := [vr (some w), vr (some w)]) rfl ?_
              refine R_getI rfl t0 ?_
              refine R_ps 1 (pc2 := 112) (L2 := [some (vr (some w))]) (st2 := [vi 112, vi (gi h_268 w 26), vr (some w)]) rfl ?_
              refine R_if rfl (fun c_285 => ?_) (fun c_285 => ?_)
              · have k := k.2 c_285
                refine R_ps 2 (pc2 := 121) (L2 := [some (vr (some w))]) (st2 := [vr (some w), vr (some w), vr (some w)]) rfl ?_
                refine R_getI rfl t0 ?_
                refine R_ps 1 (pc2 := 126) (L2 := [some (vr (some w))]) (st2 := [vi 116, vi (gi h_268 w 26), vr (some w), vr (some w)]) rfl ?_
                refine R_if rfl (fun c_287 => ?_) (fun c_287 => ?_)
                · have k := k.2 c_287
                  refine R_ps 1 (pc2 := 134) (L2 := [some (vr (some w))]) (st2 := [vi 0, vr (some w), vr (some w)]) rfl ?_
                  refine R_cI (as := [vr (some w), vi 0]) rfl rfl ⟨Nat.le_of_ble_eq_true rfl, Nat.le_of_ble_eq_true rfl, rfl, (Or.inr ⟨_, rfl, t0⟩)⟩ rfl rfl k (fun x_290 h_289 k => ?_)
                  refine R_putI rfl t0 ?_
                  show WP T N _ _ _ _ (si h_289 w 27 x_290) _
                  generalize e_293 : si h_289 w 27 x_290 = h_292
                  replace k := k h_292 e_293.symm
                  refine R_ps 1 (pc2 := 141) (L2 := [some (vr (some w))]) (st2 := [vr (some w)]) rfl ?_
                  refine R_getI rfl t0 ?_
                  refine R_ps 1 (pc2 := 146) (L2 := [some (vr (some w))]) (st2 := [vi 99, vi (gi h_292 w 26)]) rfl ?_
                  refine R_if rfl (fun c_295 => ?_) (fun c_295 => ?_)
                  · have k := k.2 c_295
                    exact k
                  · have k := k.1 (Classical.not_not.mp c_295)
                    refine R_ps 1 (pc2 := 150) (L2 := [some (vr (some w))]) (st2 := [vr (some w)]) rfl ?_
                    refine R_getZ rfl t0 ?_
                    refine R_if0 rfl (fun c_297 => ?_) (fun c_297 => ?_)
                    · have k := k.2 c_297
                      exact k
                    · have k := k.1 (Classical.not_not.mp c_297)
                      refine R_ps 2 (pc2 := 159) (L2 := [some (vr (some w))]) (st2 := [vi 45, vr (some w)]) rfl ?_
                      refine R_cV (as := [vr (some w), vi 45]) rfl rfl ⟨Nat.le_of_ble_eq_true rfl, Nat.le_of_ble_eq_true rfl, rfl, (Or.inr ⟨_, rfl, t0⟩)⟩ rfl rfl k (fun h_299 k => ?_)
                      exact k
                · have k := k.1 (Classical.not_not.mp c_287)
                  refine R_ps 2 (pc2 := 134) (L2 := [some (vr (some w))]) (st2 := [vi 1, vr (some w), vr (some w)]) rfl ?_
                  refine R_cI (as := [vr (some w), vi 1]) rfl rfl ⟨Nat.le_of_ble_eq_true rfl, Nat.le_of_ble_eq_true rfl, rfl, (Or.inr ⟨_, rfl, t0⟩)⟩ rfl rfl k (fun x_303 h_302 k => ?_)
                  refine R_putI rfl t0 ?_
                  show WP T N _ _ _ _ (si h_302 w 27 x_303) _
                  generalize e_306 : si h_302 w 27 x_303 = h_305
                  replace k := k h_305 e_306.symm
                  refine R_ps 1 (pc2 := 141) (L2 := [some (vr (some w))]) (st2 := [vr (some w)]) rfl ?_
                  refine R_getI rfl t0 ?_
                  refine R_ps 1 (pc2 := 146) (L2 := [some (vr (some w))]) (st2 := [vi 99, vi (gi h_305 w 26)]) rfl ?_
                  refine R_if rfl (fun c_308 => ?_) (fun c_308 => ?_)
                  · have k := k.2 c_308
                    exact k
                  · have k := k.1 (Classical.not_not.mp c_308)
                    refine R_ps 1 (pc2 := 150) (L2 := [some (vr (some w))]) (st2 := [vr (some w)]) rfl ?_
                    refine R_getZ rfl t0 ?_
                    refine R_if0 rfl (fun c_310 => ?_) (fun c_310 => ?_)
                    · have k := k.2 c_310
                      exact k
                    · have k := k.1 (Classical.not_not.mp c_310)
                      refine R_ps 2 (pc2 := 159) (L2 := [some (vr (some w))]) (st2 := [vi 45, vr (some w)]) rfl ?_
                      refine R_cV (as := [vr (some w), vi 45]) rfl rfl ⟨Nat.le_of_ble_eq_true rfl, Nat.le_of_ble_eq_true rfl, rfl, (Or.inr ⟨_, rfl, t0⟩)⟩ rfl rfl k (fun h_312 k => ?_)
                      exact k
              · have k := k.1 (Classical.not_not.mp c_285)
                refine R_ps 2 (pc2 := 137) (L2 := [some (vr (some w))]) (st2 := [vi 0, vr (some w)]) rfl ?_
                refine R_putI rfl t0 ?_
                show WP T N _ _ _ _ (si h_268 w 27 0) _
                generalize e_316 : si h_268 w 27 0 = h_315
                replace k := k h_315 e_316.symm
                refine R_ps 1 (pc2 := 141) (L2 := [some (vr (some w))]) (st2 := [vr (some w)]) rfl ?_
                refine R_getI rfl t0 ?_
                refine R_ps 1 (pc2 := 146) (L2 := [some (vr (some w))]) (st2 := [vi 99, vi (gi h_315 w 26)]) rfl ?_
                refine R_if rfl (fun c_318 => ?_) (fun c_318 => ?_)
                · have k := k.2 c_318
                  exact k
                · have k := k.1 (Classical.not_not.mp c_318)
                  refine R_ps 1 (pc2 := 150) (L2 := [some (vr (some w))]) (st2 := [vr (some w)]) rfl ?_
                  refine R_getZ rfl t0 ?_
                  refine R_if0 rfl (fun c_320 => ?_) (fun c_320 => ?_)
                  · have k := k.2 c_320
                    exact k
                  · have k := k.1 (Classical.not_not.mp c_320)
                    refine R_ps 2 (pc2 := 159) (L2 := [some (vr (some w))]) (st2 := [vi 45, vr (some w)]) rfl ?_
                    refine R_cV (as := [vr (some w), vi 45]) rfl rfl ⟨Nat.le_of_ble_eq_true rfl, Nat.le_of_ble_eq_true rfl, rfl, (Or.inr ⟨_, rfl, t0⟩)⟩ rfl rfl k (fun h_322 k => ?_)
                    exact k
          · have k := k.2 c_271
            exact R_ret rfl rfl ⟨rfl, k⟩
        · have k := k.2 c_266
          refine R_ps 3 (pc2 := 85) (L2 := [some (vr (some w))]) (st2 := [vi ((gi h_261 w 24) + 0), vr (some w)]) rfl ?_
          refine R_putI rfl t0 ?_
          show WP T N _ _ _ _ (si h_261 w 24 ((gi h_261 w 24) + 0)) _
          generalize e_327 : si h_261 w 24 ((gi h_261 w 24) + 0) = h_326
          replace k := k h_326 e_327.symm
          refine R_ps 1 (pc2 := 89) (L2 := [some (vr (some w))]) (st2 := [vr (some w)]) rfl ?_
          refine R_getZ rfl t0 ?_
          refine R_if0 rfl (fun c_329 => ?_) (fun c_329 => ?_)
          · have k := k.1 c_329
            refine R_ps 2 (pc2 := 98) (L2 := [some (vr (some w))]) (st2 := [vr (some w), vr (some w)]) rfl ?_
            refine R_getI rfl t0 ?_
            refine R_ps 1 (pc2 := 103) (L2 := [some (vr (some w))]) (st2 := [vi 110, vi (gi h_326 w 26), vr (some w)]) rfl ?_
            refine R_if rfl (fun c_331 => ?_) (fun c_331 => ?_)
            · have k := k.1 c_331
              refine R_ps 2 (pc2 := 137) (L2 := [some (vr (some w))]) (st2 := [vi 0, vr (some w)]) rfl ?_
              refine R_putI rfl t0 ?_
              show WP T N _ _ _ _ (si h_326 w 27 0) _
              generalize e_334 : si h_326 w 27 0 = h_333
              replace k := k h_333 e_334.symm
              refine R_ps 1 (pc2 := 141) (L2 := [some (vr (some w))]) (st2 := [vr (some w)]) rfl ?_
              refine R_getI rfl t0 ?_
              refine R_ps 1 (pc2 := 146) (L2 := [some (vr (some w))]) (st2 := [vi 99, vi (gi h_333 w 26)]) rfl ?_
              refine R_if rfl (fun c_336 => ?_) (fun c_336 => ?_)
              · have k := k.2 c_336
                exact k
              · have k := k.1 (Classical.not_not.mp c_336)
                refine R_ps 1 (pc2 := 150) (L2 := [some (vr (some w))]) (st2 := [vr (some w)]) rfl ?_
                refine R_getZ rfl t0 ?_
                refine R_if0 rfl (fun c_338 => ?_) (fun c_338 => ?_)
                · have k := k.2 c_338
                  exact k
                · have k := k.1 (Classical.not_not.mp c_338)
                  refine R_ps 2 (pc2 := 159) (L2 := [some (vr (some w))]) (st2 := [vi 45, vr (some w)]) rfl ?_
                  refine R_cV (as := [vr (some w), vi 45]) rfl rfl ⟨Nat.le_of_ble_eq_true rfl, Nat.le_of_ble_eq_true rfl, rfl, (Or.inr ⟨_, rfl, t0⟩)⟩ rfl rfl k (fun h_340 k => ?_)
                  exact k
            · have k := k.2 c_331
              refine R_ps 1 (pc2 := 107) (L2 := [some (vr (some w))]) (st2 := [vr (some w), vr (some w)]) rfl ?_
              refine R_getI rfl t0 ?_
              refine R_ps 1 (pc2 := 112) (L2 := [some (vr (some w))]) (st2 := [vi 112, vi (gi h_326 w 26), vr (some w)]) rfl ?_
              refine R_if rfl (fun c_343 => ?_) (fun c_343 => ?_)
              · have k := k.2 c_343
                refine R_ps 2 (pc2 := 121) (L2 := [some (vr (some w))]) (st2 := [vr (some w), vr (some w), vr (some w)]) rfl ?_
                refine R_getI rfl t0 ?_
                refine R_ps 1 (pc2 := 126) (L2 := [some (vr (some w))]) (st2 := [vi 116, vi (gi h_326 w 26), vr (some w), vr (some w)]) rfl ?_
                refine R_if rfl (fun c_345 => ?_) (fun c_345 => ?_)
                · have k := k.2 c_345
                  refine R_ps 1 (pc2 := 134) (L2 := [some (vr (some w))]) (st2 := [vi 0, vr (some w), vr (some w)]) rfl ?_
                  refine R_cI (as := [vr (some w), vi 0]) rfl rfl ⟨Nat.le_of_ble_eq_true rfl, Nat.le_of_ble_eq_true rfl, rfl, (Or.inr ⟨_, rfl, t0⟩)⟩ rfl rfl k (fun x_348 h_347 k => ?_)
                  refine R_putI rfl t0 ?_
                  show WP T N _ _ _ _ (si h_347 w 27 x_348) _
                  generalize e_351 : si h_347 w 27 x_348 = h_350
                  replace k := k h_350 e_351.symm
                  refine R_ps 1 (pc2 := 141) (L2 := [some (vr (some w))]) (st2 := [vr (some w)]) rfl ?_
                  refine R_getI rfl t0 ?_
                  refine R_ps 1 (pc2 := 146) (L2 := [some (vr (some w))]) (st2 := [vi 99, vi (gi h_350 w 26)]) rfl ?_
                  refine R_if rfl (fun c_353 => ?_) (fun c_353 => ?_)
                  · have k := k.2 c_353
                    exact k
                  · have k := k.1 (Classical.not_not.mp c_353)
                    refine R_ps 1 (pc2 := 150) (L2 := [some (vr (some w))]) (st2 := [vr (some w)]) rfl ?_
                    refine R_getZ rfl t0 ?_
                    refine R_if0 rfl (fun c_355 => ?_) (fun c_355 => ?_)
                    · have k := k.2 c_355
                      exact k
                    · have k := k.1 (Classical.not_not.mp c_355)
                      refine R_ps 2 (pc2 := 159) (L2 := [some (vr (some w))]) (st2 := [vi 45, vr (some w)]) rfl ?_
                      refine R_cV (as := [vr (some w), vi 45]) rfl rfl ⟨Nat.le_of_ble_eq_true rfl, Nat.le_of_ble_eq_true rfl, rfl, (Or.inr ⟨_, rfl, t0⟩)⟩ rfl rfl k (fun h_357 k => ?_)
                      exact k
                · have k := k.1 (Classical.not_not.mp c_345)
                  refine R_ps 2 (pc2 := 134) (L2 := [some (vr (some w))]) (st2 := [vi 1, vr (some w), vr (some w)]) rfl ?_
                  refine R_cI (as := [vr (some w), vi 1]) rfl rfl ⟨Nat.le_of_ble_eq_true rfl, Nat.le_of_ble_eq_true rfl, rfl, (Or.inr ⟨_, rfl, t0⟩)⟩ rfl rfl k (fun x_361 h_360 k => ?_)
                  refine R_putI rfl t0 ?_
                  show WP T N _ _ _ _ (si h_360 w 27 x_361) _
                  generalize e_364 : si h_360 w 27 x_361 = h_363
                  replace k := k h_363 e_364.symm
                  refine R_ps 1 (pc2 := 141) (L2 := [some (vr (some w))]) (st2 := [vr (some w)]) rfl ?_
                  refine R_getI rfl t0 ?_
                  refine R_ps 1 (pc2 := 146) (L2 := [some (vr (some w))]) (st2 := [vi 99, vi (gi h_363 w 26)]) rfl ?_
                  refine R_if rfl (fun c_366 => ?_) (fun c_366 => ?_)
                  · have k := k.2 c_366
                    exact k
                  · have k := k.1 (Classical.not_not.mp c_366)
                    refine R_ps 1 (pc2 := 150) (L2 := [some (vr (some w))]) (st2 := [vr (some w)]) rfl ?_
                    refine R_getZ rfl t0 ?_
                    refine R_if0 rfl (fun c_368 => ?_) (fun c_368 => ?_)
                    · have k := k.2 c_368
                      exact k
                    · have k := k.1 (Classical.not_not.mp c_368)
                      refine R_ps 2 (pc2 := 159) (L2 := [some (vr (some w))]) (st2 := [vi 45, vr (some w)]) rfl ?_
                      refine R_cV (as := [vr (some w), vi 45]) rfl rfl ⟨Nat.le_of_ble_eq_true rfl, Nat.le_of_ble_eq_true rfl, rfl, (Or.inr ⟨_, rfl, t0⟩)⟩ rfl rfl k (fun h_370 k => ?_)
                      exact k
              · have k := k.1 (Classical.not_not.mp c_343)
                refine R_ps 2 (pc2 := 137) (L2 := [some (vr (some w))]) (st2 := [vi 0, vr (some w)]) rfl ?_
                refine R_putI rfl t0 ?_
                show WP T N _ _ _ _ (si h_326 w 27 0) _
                generalize e_374 : si h_326 w 27 0 = h_373
                replace k := k h_373 e_374.symm
                refine R_ps 1 (pc2 := 141) (L2 := [some (vr (some w))]) (st2 := [vr (some w)]) rfl ?_
                refine R_getI rfl t0 ?_
                refine R_ps 1 (pc2 := 146) (L2 := [some (vr (some w))]) (st2 := [vi 99, vi (gi h_373 w 26)]) rfl ?_
                refine R_if rfl (fun c_376 => ?_) (fun c_376 => ?_)
                · have k := k.2 c_376
                  exact k
                · have k := k.1 (Classical.not_not.mp c_376)
                  refine R_ps 1 (pc2 := 150) (L2 := [some (vr (some w))]) (st2 := [vr (some w)]) rfl ?_
                  refine R_getZ rfl t0 ?_
                  refine R_if0 rfl (fun c_378 => ?_) (fun c_378 => ?_)
                  · have k := k.2 c_378
                    exact k
                  · have k := k.1 (Classical.not_not.mp c_378)
                    refine R_ps 2 (pc2 := 159) (L2 := [some (vr (some w))]) (st2 := [vi 45, vr (some w)]) rfl ?_
                    refine R_cV (as := [vr (some w), vi 45]) rfl rfl ⟨Nat.le_of_ble_eq_true rfl, Nat.le_of_ble_eq_true rfl, rfl, (Or.inr ⟨_, rfl, t0⟩)⟩ rfl rfl k (fun h_380 k => ?_)
                    exact k
          · have k := k.2 c_329
            exact R_ret rfl rfl ⟨rfl, k⟩
      · have k := k.2 c_259
        refine R_ps 1 (pc2 := 41) (L2 := [some (vr (some w))]) (st2 := [vr (some w), vi (gi h_5 w 25), vr (some w)]) rfl ?_
        refine R_getI rfl t0 ?_
        refine R_ps 1 (pc2 := 46) (L2 := [some (vr (some w))]) (st2 := [vi 100, vi (gi h_5 w 26), vi (gi h_5 w 25), vr (some w)]) rfl ?_
        refine R_if rfl (fun c_384 => ?_) (fun c_384 => ?_)
        · have k := k.1 c_384
          refine R_ps 2 (pc2 := 64) (L2 := [some (vr (some w))]) (st2 := [vi ((gi h_5 w 25) ||| 0), vr (some w)]) rfl ?_
          obtain ⟨t_388, k⟩ := k
          refine R_putZ rfl t0 t_388 ?_
          show WP T N _ _ _ _ (si h_5 w 25 ((gi h_5 w 25) ||| 0)) _
          generalize e_387 : si h_5 w 25 ((gi h_5 w 25) ||| 0) = h_386
          replace k := k h_386 e_387.symm
          refine R_ps 2 (pc2 := 69) (L2 := [some (vr (some w))]) (st2 := [vr (some w), vr (some w)]) rfl ?_
          refine R_getI rfl t0 ?_
          refine R_ps 1 (pc2 := 73) (L2 := [some (vr (some w))]) (st2 := [vr (some w), vi (gi h_386 w 24), vr (some w)]) rfl ?_
          refine R_getZ rfl t0 ?_
          refine R_if0 rfl (fun c_391 => ?_) (fun c_391 => ?_)
          · have k := k.1 c_391
            refine R_ps 2 (pc2 := 85) (L2 := [some (vr (some w))]) (st2 := [vi ((gi h_386 w 24) + 1), vr (some w)]) rfl ?_
            refine R_putI rfl t0 ?_
            show WP T N _ _ _ _ (si h_386 w 24 ((gi h_386 w 24) + 1)) _
            generalize e_394 : si h_386 w 24 ((gi h_386 w 24) + 1) = h_393
            replace k := k h_393 e_394.symm
            refine R_ps 1 (pc2 := 89) (L2 := [some (vr (some w))]) (st2 := [vr (some w)]) rfl ?_
            refine R_getZ rfl t0 ?_
            refine R_if0 rfl (fun c_396 => ?_) (fun c_396 => ?_)
            · have k := k.1 c_396
              refine R_ps 2 (pc2 := 98) (L2 := [some (vr (some w))]) (st2 := [vr (some w), vr (some w)]) rfl ?_
              refine R_getI rfl t0 ?_
              refine R_ps 1 (pc2 := 103) (L2 := [some (vr (some w))]) (st2 := [vi 110, vi (gi h_393 w 26), vr (some w)]) rfl ?_
              refine R_if rfl (fun c_398 => ?_) (fun c_398 => ?_)
              · have k := k.1 c_398
                refine R_ps 2 (pc2 := 137) (L2 := [some (vr (some w))]) (st2 := [vi 0, vr (some w)]) rfl ?_
                refine R_putI rfl t0 ?_
                show WP T N _ _ _ _ (si h_393 w 27 0) _
                generalize e_401 : si h_393 w 27 0 = h_400
                replace k := k h_400 e_401.symm
                refine R_ps 1 (pc2 := 141) (L2 := [some (vr (some w))]) (st2 := [vr (some w)]) rfl ?_
                refine R_getI rfl t0 ?_
                refine R_ps 1 (pc2 := 146) (L2 := [some (vr (some w))]) (st2 := [vi 99, vi (gi h_400 w 26)]) rfl ?_
                refine R_if rfl (fun c_403 => ?_) (fun c_403 => ?_)
                · have k := k.2 c_403
                  exact k
                · have k := k.1 (Classical.not_not.mp c_403)
                  refine R_ps 1 (pc2 := 150) (L2 := [some (vr (some w))]) (st2 := [vr (some w)]) rfl ?_
                  refine R_getZ rfl t0 ?_
                  refine R_if0 rfl (fun c_405 => ?_) (fun c_405 => ?_)
                  · have k := k.2 c_405
                    exact k
                  · have k := k.1 (Classical.not_not.mp c_405)
                    refine R_ps 2 (pc2 := 159) (L2 := [some (vr (some w))]) (st2 := [vi 45, vr (some w)]) rfl ?_
                    refine R_cV (as := [vr (some w), vi 45]) rfl rfl ⟨Nat.le_of_ble_eq_true rfl, Nat.le_of_ble_eq_true rfl, rfl, (Or.inr ⟨_, rfl, t0⟩)⟩ rfl rfl k (fun h_407 k => ?_)
                    exact k
              · have k := k.2 c_398
                refine R_ps 1 (pc2 := 107) (L2 := [some (vr (some w))]) (st2 := [vr (some w), vr (some w)]) rfl ?_
                refine R_getI rfl t0 ?_
                refine R_ps 1 (pc2 := 112) (L2 := [some (vr (some w))]) (st2 := [vi 112, vi (gi h_393 w 26), vr (some w)]) rfl ?_
                refine R_if rfl (fun c_410 => ?_) (fun c_410 => ?_)
                · have k := k.2 c_410
                  refine R_ps 2 (pc2 := 121) (L2 := [some (vr (some w))]) (st2 := [vr (some w), vr (some w), vr (some w)]) rfl ?_
                  refine R_getI rfl t0 ?_
                  refine R_ps 1 (pc2 := 126) (L2 := [some (vr (some w))]) (st2 := [vi 116, vi (gi h_393 w 26), vr (some w), vr (some w)]) rfl ?_
                  refine R_if rfl (fun c_412 => ?_) (fun c_412 => ?_)
                  · have k := k.2 c_412
                    refine R_ps 1 (pc2 := 134) (L2 := [some (vr (some w))]) (st2 := [vi 0, vr (some w), vr (some w)]) rfl ?_
                    refine R_cI (as := [vr (some w), vi 0]) rfl rfl ⟨Nat.le_of_ble_eq_true rfl, Nat.le_of_ble_eq_true rfl, rfl, (Or.inr ⟨_, rfl, t0⟩)⟩ rfl rfl k (fun x_415 h_414 k => ?_)
                    refine R_putI rfl t0 ?_
                    show WP T N _ _ _ _ (si h_414 w 27 x_415) _
                    generalize e_418 : si h_414 w 27 x_415 = h_417
                    replace k := k h_417 e_418.symm
                    refine R_ps 1 (pc2 := 141) (L2 := [some (vr (some w))]) (st2 := [vr (some w)]) rfl ?_
                    refine R_getI rfl t0 ?_
                    refine R_ps 1 (pc2 := 146) (L2 := [some (vr (some w))]) (st2 := [vi 99, vi (gi h_417 w 26)]) rfl ?_
                    refine R_if rfl (fun c_420 => ?_) (fun c_420 => ?_)
                    · have k := k.2 c_420
                      exact k
                    · have k := k.1 (Classical.not_not.mp c_420)
                      refine R_ps 1 (pc2 := 150) (L2 := [some (vr (some w))]) (st2 := [vr (some w)]) rfl ?_
                      refine R_getZ rfl t0 ?_
                      refine R_if0 rfl (fun c_422 => ?_) (fun c_422 => ?_)
                      · have k := k.2 c_422
                        exact k
                      · have k := k.1 (Classical.not_not.mp c_422)
                        refine R_ps 2 (pc2 := 159) (L2 := [some (vr (some w))]) (st2 := [vi 45, vr (some w)]) rfl ?_
                        refine R_cV (as := [vr (some w), vi 45]) rfl rfl ⟨Nat.le_of_ble_eq_true rfl, Nat.le_of_ble_eq_true rfl, rfl, (Or.inr ⟨_, rfl, t0⟩)⟩ rfl rfl k (fun h_424 k => ?_)
                        exact k
                  · have k := k.1 (Classical.not_not.mp c_412)
                    refine R_ps 2 (pc2 := 134) (L2 := [some (vr (some w))]) (st2 := [vi 1, vr (some w), vr (some w)]) rfl ?_
                    refine R_cI (as := [vr (some w), vi 1]) rfl rfl ⟨Nat.le_of_ble_eq_true rfl, Nat.le_of_ble_eq_true rfl, rfl, (Or.inr ⟨_, rfl, t0⟩)⟩ rfl rfl k (fun x_428 h_427 k => ?_)
                    refine R_putI rfl t0 ?_
                    show WP T N _ _ _ _ (si h_427 w 27 x_428) _
                    generalize e_431 : si h_427 w 27 x_428 = h_430
                    replace k := k h_430 e_431.symm
                    refine R_ps 1 (pc2 := 141) (L2 := [some (vr (some w))]) (st2 := [vr (some w)]) rfl ?_
                    refine R_getI rfl t0 ?_
                    refine R_ps 1 (pc2 := 146) (L2 := [some (vr (some w))]) (st2 := [vi 99, vi (gi h_430 w 26)]) rfl ?_
                    refine R_if rfl (fun c_433 => ?_) (fun c_433 => ?_)
                    · have k := k.2 c_433
                      exact k
                    · have k := k.1 (Classical.not_not.mp c_433)
                      refine R_ps 1 (pc2 := 150) (L2 := [some (vr (some w))]) (st2 := [vr (some w)]) rfl ?_
                      refine R_getZ rfl t0 ?_
                      refine R_if0 rfl (fun c_435 => ?_) (fun c_435 => ?_)
                      · have k := k.2 c_435
                        exact k
                      · have k := k.1 (Classical.not_not.mp c_435)
                        refine R_ps 2 (pc2 := 159) (L2 := [some (vr (some w))]) (st2 := [vi 45, vr (some w)]) rfl ?_
                        refine R_cV (as := [vr (some w), vi 45]) rfl rfl ⟨Nat.le_of_ble_eq_true rfl, Nat.le_of_ble_eq_true rfl, rfl, (Or.inr ⟨_, rfl, t0⟩)⟩ rfl rfl k (fun h_437 k => ?_)
                        exact k
                · have k := k.1 (Classical.not_not.mp c_410)
                  refine R_ps 2 (pc2 := 137) (L2 := [some (vr (some w))]) (st2 := [vi 0, vr (some w)]) rfl ?_
                  refine R_putI rfl t0 ?_
                  show WP T N _ _ _ _ (si h_393 w 27 0) _
                  generalize e_441 : si h_393 w 27 0 = h_440
                  replace k := k h_440 e_441.symm
                  refine R_ps 1 (pc2 := 141) (L2 := [some (vr (some w))]) (st2 := [vr (some w)]) rfl ?_
                  refine R_getI rfl t0 ?_
                  refine R_ps 1 (pc2 := 146) (L2 := [some (vr (some w))]) (st2 := [vi 99, vi (gi h_440 w 26)]) rfl ?_
                  refine R_if rfl (fun c_443 => ?_) (fun c_443 => ?_)
                  · have k := k.2 c_443
                    exact k
                  · have k := k.1 (Classical.not_not.mp c_443)
                    refine R_ps 1 (pc2 := 150) (L2 := [some (vr (some w))]) (st2 := [vr (some w)]) rfl ?_
                    refine R_getZ rfl t0 ?_
                    refine R_if0 rfl (fun c_445 => ?_) (fun c_445 => ?_)
                    · have k := k.2 c_445
                      exact k
                    · have k := k.1 (Classical.not_not.mp c_445)
                      refine R_ps 2 (pc2 := 159) (L2 := [some (vr (some w))]) (st2 := [vi 45, vr (some w)]) rfl ?_
                      refine R_cV (as := [vr (some w), vi 45]) rfl rfl ⟨Nat.le_of_ble_eq_true rfl, Nat.le_of_ble_eq_true rfl, rfl, (Or.inr ⟨_, rfl, t0⟩)⟩ rfl rfl k (fun h_447 k => ?_)
                      exact k
            · have k := k.2 c_396
              exact R_ret rfl rfl ⟨rfl, k⟩
          · have k := k.2 c_391
            refine R_ps 3 (pc2 := 85) (L2 := [some (vr (some w))]) (st2 := [vi ((gi h_386 w 24) + 0), vr (some w)]) rfl ?_
            refine R_putI rfl t0 ?_
            show WP T N _ _ _ _ (si h_386 w 24 ((gi h_386 w 24) + 0)) _
            generalize e_452 : si h_386 w 24 ((gi h_386 w 24) + 0) = h_451
            replace k := k h_451 e_452.symm
            refine R_ps 1 (pc2 := 89) (L2 := [some (vr (some w))]) (st2 := [vr (some w)]) rfl ?_
            refine R_getZ rfl t0 ?_
            refine R_if0 rfl (fun c_454 => ?_) (fun c_454 => ?_)
            · have k := k.1 c_454
              refine R_ps 2 (pc2 := 98) (L2 := [some (vr (some w))]) (st2 := [vr (some w), vr (some w)]) rfl ?_
              refine R_getI rfl t0 ?_
              refine R_ps 1 (pc2 := 103) (L2 := [some (vr (some w))]) (st2 := [vi 110, vi (gi h_451 w 26), vr (some w)]) rfl ?_
              refine R_if rfl (fun c_456 => ?_) (fun c_456 => ?_)
              · have k := k.1 c_456
                refine R_ps 2 (pc2 := 137) (L2 := [some (vr (some w))]) (st2 := [vi 0, vr (some w)]) rfl ?_
                refine R_putI rfl t0 ?_
                show WP T N _ _ _ _ (si h_451 w 27 0) _
                generalize e_459 : si h_451 w 27 0 = h_458
                replace k := k h_458 e_459.symm
                refine R_ps 1 (pc2 := 141) (L2 := [some (vr (some w))]) (st2 := [vr (some w)]) rfl ?_
                refine R_getI rfl t0 ?_
                refine R_ps 1 (pc2 := 146) (L2 := [some (vr (some w))]) (st2 := [vi 99, vi (gi h_458 w 26)]) rfl ?_
                refine R_if rfl (fun c_461 => ?_) (fun c_461 => ?_)
                · have k := k.2 c_461
                  exact k
                · have k := k.1 (Classical.not_not.mp c_461)
                  refine R_ps 1 (pc2 := 150) (L2 := [some (vr (some w))]) (st2 := [vr (some w)]) rfl ?_
                  refine R_getZ rfl t0 ?_
                  refine R_if0 rfl (fun c_463 => ?_) (fun c_463 => ?_)
                  · have k := k.2 c_463
                    exact k
                  · have k := k.1 (Classical.not_not.mp c_463)
                    refine R_ps 2 (pc2 := 159) (L2 := [some (vr (some w))]) (st2 := [vi 45, vr (some w)]) rfl ?_
                    refine R_cV (as := [vr (some w), vi 45]) rfl rfl ⟨Nat.le_of_ble_eq_true rfl, Nat.le_of_ble_eq_true rfl, rfl, (Or.inr ⟨_, rfl, t0⟩)⟩ rfl rfl k (fun h_465 k => ?_)
                    exact k
              · have k := k.2 c_456
                refine R_ps 1 (pc2 := 107) (L2 := [some (vr (some w))]) (st2 := [vr (some w), vr (some w)]) rfl ?_
                refine R_getI rfl t0 ?_
                refine R_ps 1 (pc2 := 112) (L2 := [some (vr (some w))]) (st2 := [vi 112, vi (gi h_451 w 26), vr (some w)]) rfl ?_
                refine R_if rfl (fun c_468 => ?_) (fun c_468 => ?_)
                · have k := k.2 c_468
                  refine R_ps 2 (pc2 := 121) (L2 := [some (vr (some w))]) (st2 := [vr (some w), vr (some w), vr (some w)]) rfl ?_
                  refine R_getI rfl t0 ?_
                  refine R_ps 1 (pc2 := 126) (L2 := [some (vr (some w))]) (st2 := [vi 116, vi (gi h_451 w 26), vr (some w), vr (some w)]) rfl ?_
                  refine R_if rfl (fun c_470 => ?_) (fun c_470 => ?_)
                  · have k := k.2 c_470
                    refine R_ps 1 (pc2 := 134) (L2 := [some (vr (some w))]) (st2 := [vi 0, vr (some w), vr (some w)]) rfl ?_
                    refine R_cI (as := [vr (some w), vi 0]) rfl rfl ⟨Nat.le_of_ble_eq_true rfl, Nat.le_of_ble_eq_true rfl, rfl, (Or.inr ⟨_, rfl, t0⟩)⟩ rfl rfl k (fun x_473 h_472 k => ?_)
                    refine R_putI rfl t0 ?_
                    show WP T N _ _ _ _ (si h_472 w 27 x_473) _
                    generalize e_476 : si h_472 w 27 x_473 = h_475
                    replace k := k h_475 e_476.symm
                    refine R_ps 1 (pc2 := 141) (L2 := [some (vr (some w))]) (st2 := [vr (some w)]) rfl ?_
                    refine R_getI rfl t0 ?_
                    refine R_ps 1 (pc2 := 146) (L2 := [some (vr (some w))]) (st2 := [vi 99, vi (gi h_475 w 26)]) rfl ?_
                    refine R_if rfl (fun c_478 => ?_) (fun c_478 => ?_)
                    · have k := k.2 c_478
                      exact k
                    · have k := k.1 (Classical.not_not.mp c_478)
                      refine R_ps 1 (pc2 := 150) (L2 := [some (vr (some w))]) (st2 := [vr (some w)]) rfl ?_
                      refine R_getZ rfl t0 ?_
                      refine R_if0 rfl (fun c_480 => ?_) (fun c_480 => ?_)
                      · have k := k.2 c_480
                        exact k
                      · have k := k.1 (Classical.not_not.mp c_480)
                        refine R_ps 2 (pc2 := 159) (L2 := [some (vr (some w))]) (st2 := [vi 45, vr (some w)]) rfl ?_
                        refine R_cV (as := [vr (some w), vi 45]) rfl rfl ⟨Nat.le_of_ble_eq_true rfl, Nat.le_of_ble_eq_true rfl, rfl, (Or.inr ⟨_, rfl, t0⟩)⟩ rfl rfl k (fun h_482 k => ?_)
                        exact k
                  · have k := k.1 (Classical.not_not.mp c_470)
                    refine R_ps 2 (pc2 := 134) (L2 := [some (vr (some w))]) (st2 := [vi 1, vr (some w), vr (some w)]) rfl ?_
                    refine R_cI (as := [vr (some w), vi 1]) rfl rfl ⟨Nat.le_of_ble_eq_true rfl, Nat.le_of_ble_eq_true rfl, rfl, (Or.inr ⟨_, rfl, t0⟩)⟩ rfl rfl k (fun x_486 h_485 k => ?_)
                    refine R_putI rfl t0 ?_
                    show WP T N _ _ _ _ (si h_485 w 27 x_486) _
                    generalize e_489 : si h_485 w 27 x_486 = h_488
                    replace k := k h_488 e_489.symm
                    refine R_ps 1 (pc2 := 141) (L2 := [some (vr (some w))]) (st2 := [vr (some w)]) rfl ?_
                    refine R_getI rfl t0 ?_
                    refine R_ps 1 (pc2 := 146) (L2 := [some (vr (some w))]) (st2 := [vi 99, vi (gi h_488 w 26)]) rfl ?_
                    refine R_if rfl (fun c_491 => ?_) (fun c_491 => ?_)
                    · have k := k.2 c_491
                      exact k
                    · have k := k.1 (Classical.not_not.mp c_491)
                      refine R_ps 1 (pc2 := 150) (L2 := [some (vr (some w))]) (st2 := [vr (some w)]) rfl ?_
                      refine R_getZ rfl t0 ?_
                      refine R_if0 rfl (fun c_493 => ?_) (fun c_493 => ?_)
                      · have k := k.2 c_493
                        exact k
                      · have k := k.1 (Classical.not_not.mp c_493)
                        refine R_ps 2 (pc2 := 159) (L2 := [some (vr (some w))]) (st2 := [vi 45, vr (some w)]) rfl ?_
                        refine R_cV (as := [vr (some w), vi 45]) rfl rfl ⟨Nat.le_of_ble_eq_true rfl, Nat.le_of_ble_eq_true rfl, rfl, (Or.inr ⟨_, rfl, t0⟩)⟩ rfl rfl k (fun h_495 k => ?_)
                        exact k
                · have k := k.1 (Classical.not_not.mp c_468)
                  refine R_ps 2 (pc2 := 137) (L2 := [some (vr (some w))]) (st2 := [vi 0, vr (some w)]) rfl ?_
                  refine R_putI rfl t0 ?_
                  show WP T N _ _ _ _ (si h_451 w 27 0) _
                  generalize e_499 : si h_451 w 27 0 = h_498
                  replace k := k h_498 e_499.symm
                  refine R_ps 1 (pc2 := 141) (L2 := [some (vr (some w))]) (st2 := [vr (some w)]) rfl ?_
                  refine R_getI rfl t0 ?_
                  refine R_ps 1 (pc2 := 146) (L2 := [some (vr (some w))]) (st2 := [vi 99, vi (gi h_498 w 26)]) rfl ?_
                  refine R_if rfl (fun c_501 => ?_) (fun c_501 => ?_)
                  · have k := k.2 c_501
                    exact k
                  · have k := k.1 (Classical.not_not.mp c_501)
                    refine R_ps 1 (pc2 := 150) (L2 := [some (vr (some w))]) (st2 := [vr (some w)]) rfl ?_
                    refine R_getZ rfl t0 ?_
                    refine R_if0 rfl (fun c_503 => ?_) (fun c_503 => ?_)
                    · have k := k.2 c_503
                      exact k
                    · have k := k.1 (Classical.not_not.mp c_503)
                      refine R_ps 2 (pc2 := 159) (L2 := [some (vr (some w))]) (st2 := [vi 45, vr (some w)]) rfl ?_
                      refine R_cV (as := [vr (some w), vi 45]) rfl rfl ⟨Nat.le_of_ble_eq_true rfl, Nat.le_of_ble_eq_true rfl, rfl, (Or.inr ⟨_, rfl, t0⟩)⟩ rfl rfl k (fun h_505 k => ?_)
                      exact k
            · have k := k.2 c_454
              exact R_ret rfl rfl ⟨rfl, k⟩
        · have k := k.2 c_384
          refine R_ps 1 (pc2 := 50) (L2 := [some (vr (some w))]) (st2 := [vr (some w), vi (gi h_5 w 25), vr (some w)]) rfl ?_
          refine R_getI rfl t0 ?_
          refine R_ps 1 (pc2 := 55) (L2 := [some (vr (some w))]) (st2 := [vi 116, vi (gi h_5 w 26), vi (gi h_5 w 25), vr (some w)]) rfl ?_
          refine R_if rfl (fun c_509 => ?_) (fun c_509 => ?_)
          · have k := k.1 c_509
            refine R_ps 2 (pc2 := 64) (L2 := [some (vr (some w))]) (st2 := [vi ((gi h_5 w 25) ||| 0), vr (some w)]) rfl ?_
            obtain ⟨t_513, k⟩ := k
            refine R_putZ rfl t0 t_513 ?_
            show WP T N _ _ _ _ (si h_5 w 25 ((gi h_5 w 25) ||| 0)) _
            generalize e_512 : si h_5 w 25 ((gi h_5 w 25) ||| 0) = h_511
            replace k := k h_511 e_512.symm
            refine R_ps 2 (pc2 := 69) (L2 := [some (vr (some w))]) (st2 := [vr (some w), vr (some w)]) rfl ?_
            refine R_getI rfl t0 ?_
            refine R_ps 1 (pc2 := 73) (L2 := [some (vr (some w))]) (st2 := [vr (some w), vi (gi h_511 w 24), vr (some w)]) rfl ?_
            refine R_getZ rfl t0 ?_
            refine R_if0 rfl (fun c_516 => ?_) (fun c_516 => ?_)
            · have k := k.1 c_516
              refine R_ps 2 (pc2 := 85) (L2 := [some (vr (some w))]) (st2 := [vi ((gi h_511 w 24) + 1), vr (some w)]) rfl ?_
              refine R_putI rfl t0 ?_
              show WP T N _ _ _ _ (si h_511 w 24 ((gi h_511 w 24) + 1)) _
              generalize e_519 : si h_511 w 24 ((gi h_511 w 24) + 1) = h_518
              replace k := k h_518 e_519.symm
              refine R_ps 1 (pc2 := 89) (L2 := [some (vr (some w))]) (st2 := [vr (some w)]) rfl ?_
              refine R_getZ rfl t0 ?_
              refine R_if0 rfl (fun c_521 => ?_) (fun c_521 => ?_)
              · have k := k.1 c_521
                refine R_ps 2 (pc2 := 98) (L2 := [some (vr (some w))]) (st2 := [vr (some w), vr (some w)]) rfl ?_
                refine R_getI rfl t0 ?_
                refine R_ps 1 (pc2 := 103) (L2 := [some (vr (some w))]) (st2 := [vi 110, vi (gi h_518 w 26), vr (some w)]) rfl ?_
                refine R_if rfl (fun c_523 => ?_) (fun c_523 => ?_)
                · have k := k.1 c_523
                  refine R_ps 2 (pc2 := 137) (L2 := [some (vr (some w))]) (st2 := [vi 0, vr (some w)]) rfl ?_
                  refine R_putI rfl t0 ?_
                  show WP T N _ _ _ _ (si h_518 w 27 0) _
                  generalize e_526 : si h_518 w 27 0 = h_525
                  replace k := k h_525 e_526.symm
                  refine R_ps 1 (pc2 := 141) (L2 := [some (vr (some w))]) (st2 := [vr (some w)]) rfl ?_
                  refine R_getI rfl t0 ?_
                  refine R_ps 1 (pc2 := 146) (L2 := [some (vr (some w))]) (st2 := [vi 99, vi (gi h_525 w 26)]) rfl ?_
                  refine R_if rfl (fun c_528 => ?_) (fun c_528 => ?_)
                  · have k := k.2 c_528
                    exact k
                  · have k := k.1 (Classical.not_not.mp c_528)
                    refine R_ps 1 (pc2 := 150) (L2 := [some (vr (some w))]) (st2 := [vr (some w)]) rfl ?_
                    refine R_getZ rfl t0 ?_
                    refine R_if0 rfl (fun c_530 => ?_) (fun c_530 => ?_)
                    · have k := k.2 c_530
                      exact k
                    · have k := k.1 (Classical.not_not.mp c_530)
                      refine R_ps 2 (pc2 := 159) (L2 := [some (vr (some w))]) (st2 := [vi 45, vr (some w)]) rfl ?_
                      refine R_cV (as := [vr (some w), vi 45]) rfl rfl ⟨Nat.le_of_ble_eq_true rfl, Nat.le_of_ble_eq_true rfl, rfl, (Or.inr ⟨_, rfl, t0⟩)⟩ rfl rfl k (fun h_532 k => ?_)
                      exact k
                · have k := k.2 c_523
                  refine R_ps 1 (pc2 := 107) (L2 := [some (vr (some w))]) (st2 := [vr (some w), vr (some w)]) rfl ?_
                  refine R_getI rfl t0 ?_
                  refine R_ps 1 (pc2 := 112) (L2 := [some (vr (some w))]) (st2 := [vi 112, vi (gi h_518 w 26), vr (some w)]) rfl ?_
                  refine R_if rfl (fun c_535 => ?_) (fun c_535 => ?_)
                  · have k := k.2 c_535
                    refine R_ps 2 (pc2 := 121) (L2 := [some (vr (some w))]) (st2 := [vr (some w), vr (some w), vr (some w)]) rfl ?_
                    refine R_getI rfl t0 ?_
                    refine R_ps 1 (pc2 := 126) (L2 := [some (vr (some w))]) (st2 := [vi 116, vi (gi h_518 w 26), vr (some w), vr (some w)]) rfl ?_
                    refine R_if rfl (fun c_537 => ?_) (fun c_537 => ?_)
                    · have k := k.2 c_537
                      refine R_ps 1 (pc2 := 134) (L2 := [some (vr (some w))]) (st2 := [vi 0, vr (some w), vr (some w)]) rfl ?_
                      refine R_cI (as := [vr (some w), vi 0]) rfl rfl ⟨Nat.le_of_ble_eq_true rfl, Nat.le_of_ble_eq_true rfl, rfl, (Or.inr ⟨_, rfl, t0⟩)⟩ rfl rfl k (fun x_540 h_539 k => ?_)
                      refine R_putI rfl t0 ?_
                      show WP T N _ _ _ _ (si h_539 w 27 x_540) _
                      generalize e_543 : si h_539 w 27 x_540 = h_542
                      replace k := k h_542 e_543.symm
                      refine R_ps 1 (pc2 := 141) (L2 := [some (vr (some w))]) (st2 := [vr (some w)]) rfl ?_
                      refine R_getI rfl t0 ?_
                      refine R_ps 1 (pc2 := 146) (L2 := [some (vr (some w))]) (st2 := [vi 99, vi (gi h_542 w 26)]) rfl ?_
                      refine R_if rfl (fun c_545 => ?_) (fun c_545 => ?_)
                      · have k := k.2 c_545
                        exact k
                      · have k := k.1 (Classical.not_not.mp c_545)
                        refine R_ps 1 (pc2 := 150) (L2 := [some (vr (some w))]) (st2 := [vr (some w)]) rfl ?_
                        refine R_getZ rfl t0 ?_
                        refine R_if0 rfl (fun c_547 => ?_) (fun c_547 => ?_)
                        · have k := k.2 c_547
                          exact k
                        · have k := k.1 (Classical.not_not.mp c_547)
                          refine R_ps 2 (pc2 := 159) (L2 := [some (vr (some w))]) (st2 := [vi 45, vr (some w)]) rfl ?_
                          refine R_cV (as := [vr (some w), vi 45]) rfl rfl ⟨Nat.le_of_ble_eq_true rfl, Nat.le_of_ble_eq_true rfl, rfl, (Or.inr ⟨_, rfl, t0⟩)⟩ rfl rfl k (fun h_549 k => ?_)
                          exact k
                    · have k := k.1 (Classical.not_not.mp c_537)
                      refine R_ps 2 (pc2 := 134) (L2 := [some (vr (some w))]) (st2 := [vi 1, vr (some w), vr (some w)]) rfl ?_
                      refine R_cI (as := [vr (some w), vi 1]) rfl rfl ⟨Nat.le_of_ble_eq_true rfl, Nat.le_of_ble_eq_true rfl, rfl, (Or.inr ⟨_, rfl, t0⟩)⟩ rfl rfl k (fun x_553 h_552 k => ?_)
                      refine R_putI rfl t0 ?_
                      show WP T N _ _ _ _ (si h_552 w 27 x_553) _
                      generalize e_556 : si h_552 w 27 x_553 = h_555
                      replace k := k h_555 e_556.symm
                      refine R_ps 1 (pc2 := 141) (L2 := [some (vr (some w))]) (st2 := [vr (some w)]) rfl ?_
                      refine R_getI rfl t0 ?_
                      refine R_ps 1 (pc2 := 146) (L2 := [some (vr (some w))]) (st2 := [vi 99, vi (gi h_555 w 26)]) rfl ?_
                      refine R_if rfl (fun c_558 => ?_) (fun c_558 => ?_)
                      · have k := k.2 c_558
                        exact k
                      · have k := k.1 (Classical.not_not.mp c_558)
                        refine R_ps 1 (pc2 := 150) (L2 := [some (vr (some w))]) (st2 := [vr (some w)]) rfl ?_
                        refine R_getZ rfl t0 ?_
                        refine R_if0 rfl (fun c_560 => ?_) (fun c_560 => ?_)
                        · have k := k.2 c_560
                          exact k
                        · have k := k.1 (Classical.not_not.mp c_560)
                          refine R_ps 2 (pc2 := 159) (L2 := [some (vr (some w))]) (st2 := [vi 45, vr (some w)]) rfl ?_
                          refine R_cV (as := [vr (some w), vi 45]) rfl rfl ⟨Nat.le_of_ble_eq_true rfl, Nat.le_of_ble_eq_true rfl, rfl, (Or.inr ⟨_, rfl, t0⟩)⟩ rfl rfl k (fun h_562 k => ?_)
                          exact k
                  · have k := k.1 (Classical.not_not.mp c_535)
                    refine R_ps 2 (pc2 := 137) (L2 := [some (vr (some w))]) (st2 := [vi 0, vr (some w)]) rfl ?_
                    refine R_putI rfl t0 ?_
                    show WP T N _ _ _ _ (si h_518 w 27 0) _
                    generalize e_566 : si h_518 w 27 0 = h_565
                    replace k := k h_565 e_566.symm
                    refine R_ps 1 (pc2 := 141) (L2 := [some (vr (some w))]) (st2 := [vr (some w)]) rfl ?_
                    refine R_getI rfl t0 ?_
                    refine R_ps 1 (pc2 := 146) (L2 := [some (vr (some w))]) (st2 := [vi 99, vi (gi h_565 w 26)]) rfl ?_
                    refine R_if rfl (fun c_568 => ?_) (fun c_568 => ?_)
                    · have k := k.2 c_568
                      exact k
                    · have k := k.1 (Classical.not_not.mp c_568)
                      refine R_ps 1 (pc2 := 150) (L2 := [some (vr (some w))]) (st2 := [vr (some w)]) rfl ?_
                      refine R_getZ rfl t0 ?_
                      refine R_if0 rfl (fun c_570 => ?_) (fun c_570 => ?_)
                      · have k := k.2 c_570
                        exact k
                      · have k := k.1 (Classical.not_not.mp c_570)
                        refine R_ps 2 (pc2 := 159) (L2 := [some (vr (some w))]) (st2 := [vi 45, vr (some w)]) rfl ?_
                        refine R_cV (as := [vr (some w), vi 45]) rfl rfl ⟨Nat.le_of_ble_eq_true rfl, Nat.le_of_ble_eq_true rfl, rfl, (Or.inr ⟨_, rfl, t0⟩)⟩ rfl rfl k (fun h_572 k => ?_)
                        exact k
              · have k := k.2 c_521
                exact R_ret rfl rfl ⟨rfl, k⟩
            · have k := k.2 c_516
              refine R_ps 3 (pc2 := 85) (L2 := [some (vr (some w))]) (st2 := [vi ((gi h_511 w 24) + 0), vr (some w)]) rfl ?_
              refine R_putI rfl t0 ?_
              show WP T N _ _ _ _ (si h_511 w 24 ((gi h_511 w 24) + 0)) _
              generalize e_577 : si h_511 w 24 ((gi h_511 w 24) + 0) = h_576
              replace k := k h_576 e_577.symm
              refine R_ps 1 (pc2 := 89) (L2 := [some (vr (some w))]) (st2 := [vr (some w)]) rfl ?_
              refine R_getZ rfl t0 ?_
              refine R_if0 rfl (fun c_579 => ?_) (fun c_579 => ?_)
              · have k := k.1 c_579
                refine R_ps 2 (pc2 := 98) (L2 := [some (vr (some w))]) (st2 := [vr (some w), vr (some w)]) rfl ?_
                refine R_getI rfl t0 ?_
                refine R_ps 1 (pc2 := 103) (L2 := [some (vr (some w))]) (st2 := [vi 110, vi (gi h_576 w 26), vr (some w)]) rfl ?_
                refine R_if rfl (fun c_581 => ?_) (fun c_581 => ?_)
                · have k := k.1 c_581
                  refine R_ps 2 (pc2 := 137) (L2 := [some (vr (some w))]) (st2 := [vi 0, vr (some w)]) rfl ?_
                  refine R_putI rfl t0 ?_
                  show WP T N _ _ _ _ (si h_576 w 27 0) _
                  generalize e_584 : si h_576 w 27 0 = h_583
                  replace k := k h_583 e_584.symm
                  refine R_ps 1 (pc2 := 141) (L2 := [some (vr (some w))]) (st2 := [vr (some w)]) rfl ?_
                  refine R_getI rfl t0 ?_
                  refine R_ps 1 (pc2 := 146) (L2 := [some (vr (some w))]) (st2 := [vi 99, vi (gi h_583 w 26)]) rfl ?_
                  refine R_if rfl (fun c_586 => ?_) (fun c_586 => ?_)
                  · have k := k.2 c_586
                    exact k
                  · have k := k.1 (Classical.not_not.mp c_586)
                    refine R_ps 1 (pc2 := 150) (L2 := [some (vr (some w))]) (st2 := [vr (some w)]) rfl ?_
                    refine R_getZ rfl t0 ?_
                    refine R_if0 rfl (fun c_588 => ?_) (fun c_588 => ?_)
                    · have k := k.2 c_588
                      exact k
                    · have k := k.1 (Classical.not_not.mp c_588)
                      refine R_ps 2 (pc2 := 159) (L2 := [some (vr (some w))]) (st2 := [vi 45, vr (some w)]) rfl ?_
                      refine R_cV (as := [vr (some w), vi 45]) rfl rfl ⟨Nat.le_of_ble_eq_true rfl, Nat.le_of_ble_eq_true rfl, rfl, (Or.inr ⟨_, rfl, t0⟩)⟩ rfl rfl k (fun h_590 k => ?_)
                      exact k
                · have k := k.2 c_581
                  refine R_ps 1 (pc2 := 107) (L2 := [some (vr (some w))]) (st2 := [vr (some w), vr (some w)]) rfl ?_
                  refine R_getI rfl t0 ?_
                  refine R_ps 1 (pc2 := 112) (L2 := [some (vr (some w))]) (st2 := [vi 112, vi (gi h_576 w 26), vr (some w)]) rfl ?_
                  refine R_if rfl (fun c_593 => ?_) (fun c_593 => ?_)
                  · have k := k.2 c_593
                    refine R_ps 2 (pc2 := 121) (L2 := [some (vr (some w))]) (st2 := [vr (some w), vr (some w), vr (some w)]) rfl ?_
                    refine R_getI rfl t0 ?_
                    refine R_ps 1 (pc2 := 126) (L2 := [some (vr (some w))]) (st2 := [vi 116, vi (gi h_576 w 26), vr (some w), vr (some w)]) rfl ?_
                    refine R_if rfl (fun c_595 => ?_) (fun c_595 => ?_)
                    · have k := k.2 c_595
                      refine R_ps 1 (pc2 := 134) (L2 := [some (vr (some w))]) (st2 := [vi 0, vr (some w), vr (some w)]) rfl ?_
                      refine R_cI (as := [vr (some w), vi 0]) rfl rfl ⟨Nat.le_of_ble_eq_true rfl, Nat.le_of_ble_eq_true rfl, rfl, (Or.inr ⟨_, rfl, t0⟩)⟩ rfl rfl k (fun x_598 h_597 k => ?_)
                      refine R_putI rfl t0 ?_
                      show WP T N _ _ _ _ (si h_597 w 27 x_598) _
                      generalize e_601 : si h_597 w 27 x_598 = h_600
                      replace k := k h_600 e_601.symm
                      refine R_ps 1 (pc2 := 141) (L2 := [some (vr (some w))]) (st2 := [vr (some w)]) rfl ?_
                      refine R_getI rfl t0 ?_
                      refine R_ps 1 (pc2 := 146) (L2 := [some (vr (some w))]) (st2 := [vi 99, vi (gi h_600 w 26)]) rfl ?_
                      refine R_if rfl (fun c_603 => ?_) (fun c_603 => ?_)
                      · have k := k.2 c_603
                        exact k
                      · have k := k.1 (Classical.not_not.mp c_603)
                        refine R_ps 1 (pc2 := 150) (L2 := [some (vr (some w))]) (st2 := [vr (some w)]) rfl ?_
                        refine R_getZ rfl t0 ?_
                        refine R_if0 rfl (fun c_605 => ?_) (fun c_605 => ?_)
                        · have k := k.2 c_605
                          exact k
                        · have k := k.1 (Classical.not_not.mp c_605)
                          refine R_ps 2 (pc2 := 159) (L2 := [some (vr (some w))]) (st2 := [vi 45, vr (some w)]) rfl ?_
                          refine R_cV (as := [vr (some w), vi 45]) rfl rfl ⟨Nat.le_of_ble_eq_true rfl, Nat.le_of_ble_eq_true rfl, rfl, (Or.inr ⟨_, rfl, t0⟩)⟩ rfl rfl k (fun h_607 k => ?_)
                          exact k
                    · have k := k.1 (Classical.not_not.mp c_595)
                      refine R_ps 2 (pc2 := 134) (L2 := [some (vr (some w))]) (st2 := [vi 1, vr (some w), vr (some w)]) rfl ?_
                      refine R_cI (as := [vr (some w), vi 1]) rfl rfl ⟨Nat.le_of_ble_eq_true rfl, Nat.le_of_ble_eq_true rfl, rfl, (Or.inr ⟨_, rfl, t0⟩)⟩ rfl rfl k (fun x_611 h_610 k => ?_)
                      refine R_putI rfl t0 ?_
                      show WP T N _ _ _ _ (si h_610 w 27 x_611) _
                      generalize e_614 : si h_610 w 27 x_611 = h_613
                      replace k := k h_613 e_614.symm
                      refine R_ps 1 (pc2 := 141) (L2 := [some (vr (some w))]) (st2 := [vr (some w)]) rfl ?_
                      refine R_getI rfl t0 ?_
                      refine R_ps 1 (pc2 := 146) (L2 := [some (vr (some w))]) (st2 := [vi 99, vi (gi h_613 w 26)]) rfl ?_
                      refine R_if rfl (fun c_616 => ?_) (fun c_616 => ?_)
                      · have k := k.2 c_616
                        exact k
                      · have k := k.1 (Classical.not_not.mp c_616)
                        refine R_ps 1 (pc2 := 150) (L2 := [some (vr (some w))]) (st2 := [vr (some w)]) rfl ?_
                        refine R_getZ rfl t0 ?_
                        refine R_if0 rfl (fun c_618 => ?_) (fun c_618 => ?_)
                        · have k := k.2 c_618
                          exact k
                        · have k := k.1 (Classical.not_not.mp c_618)
                          refine R_ps 2 (pc2 := 159) (L2 := [some (vr (some w))]) (st2 := [vi 45, vr (some w)]) rfl ?_
                          refine R_cV (as := [vr (some w), vi 45]) rfl rfl ⟨Nat.le_of_ble_eq_true rfl, Nat.le_of_ble_eq_true rfl, rfl, (Or.inr ⟨_, rfl, t0⟩)⟩ rfl rfl k (fun h_620 k => ?_)
                          exact k
                  · have k := k.1 (Classical.not_not.mp c_593)
                    refine R_ps 2 (pc2 := 137) (L2 := [some (vr (some w))]) (st2 := [vi 0, vr (some w)]) rfl ?_
                    refine R_putI rfl t0 ?_
                    show WP T N _ _ _ _ (si h_576 w 27 0) _
                    generalize e_624 : si h_576 w 27 0 = h_623
                    replace k := k h_623 e_624.symm
                    refine R_ps 1 (pc2 := 141) (L2 := [some (vr (some w))]) (st2 := [vr (some w)]) rfl ?_
                    refine R_getI rfl t0 ?_
                    refine R_ps 1 (pc2 := 146) (L2 := [some (vr (some w))]) (st2 := [vi 99, vi (gi h_623 w 26)]) rfl ?_
                    refine R_if rfl (fun c_626 => ?_) (fun c_626 => ?_)
                    · have k := k.2 c_626
                      exact k
                    · have k := k.1 (Classical.not_not.mp c_626)
                      refine R_ps 1 (pc2 := 150) (L2 := [some (vr (some w))]) (st2 := [vr (some w)]) rfl ?_
                      refine R_getZ rfl t0 ?_
                      refine R_if0 rfl (fun c_628 => ?_) (fun c_628 => ?_)
                      · have k := k.2 c_628
                        exact k
                      · have k := k.1 (Classical.not_not.mp c_628)
                        refine R_ps 2 (pc2 := 159) (L2 := [some (vr (some w))]) (st2 := [vi 45, vr (some w)]) rfl ?_
                        refine R_cV (as := [vr (some w), vi 45]) rfl rfl ⟨Nat.le_of_ble_eq_true rfl, Nat.le_of_ble_eq_true rfl, rfl, (Or.inr ⟨_, rfl, t0⟩)⟩ rfl rfl k (fun h_630 k => ?_)
                        exact k
              · have k := k.2 c_579
                exact R_ret rfl rfl ⟨rfl, k⟩
          · have k := k.2 c_509
            refine R_ps 3 (pc2 := 64) (L2 := [some (vr (some w))]) (st2 := [vi ((gi h_5 w 25) ||| 1), vr (some w)]) rfl ?_
            obtain ⟨t_636, k⟩ := k
            refine R_putZ rfl t0 t_636 ?_
            show WP T N _ _ _ _ (si h_5 w 25 ((gi h_5 w 25) ||| 1)) _
            generalize e_635 : si h_5 w 25 ((gi h_5 w 25) ||| 1) = h_634
            replace k := k h_634 e_635.symm
            refine R_ps 2 (pc2 := 69) (L2 := [some (vr (some w))]) (st2 := [vr (some w), vr (some w)]) rfl ?_
            refine R_getI rfl t0 ?_
            refine R_ps 1 (pc2 := 73) (L2 := [some (vr (some w))]) (st2 := [vr (some w), vi (gi h_634 w 24), vr (some w)]) rfl ?_
            refine R_getZ rfl t0 ?_
            refine R_if0 rfl (fun c_639 => ?_) (fun c_639 => ?_)
            · have k := k.1 c_639
              refine R_ps 2 (pc2 := 85) (L2 := [some (vr (some w))]) (st2 := [vi ((gi h_634 w 24) + 1), vr (some w)]) rfl ?_
              refine R_putI rfl t0 ?_
              show WP T N _ _ _ _ (si h_634 w 24 ((gi h_634 w 24) + 1)) _
              generalize e_642 : si h_634 w 24 ((gi h_634 w 24) + 1) = h_641
              replace k := k h_641 e_642.symm
              refine R_ps 1 (pc2 := 89) (L2 := [some (vr (some w))]) (st2 := [vr (some w)]) rfl ?_
              refine R_getZ rfl t0 ?_
              refine R_if0 rfl (fun c_644 => ?_) (fun c_644 => ?_)
              · have k := k.1 c_644
                refine R_ps 2 (pc2 := 98) (L2 := [some (vr (some w))]) (st2 := [vr (some w), vr (some w)]) rfl ?_
                refine R_getI rfl t0 ?_
                refine R_ps 1 (pc2 := 103) (L2 := [some (vr (some w))]) (st2 := [vi 110, vi (gi h_641 w 26), vr (some w)]) rfl ?_
                refine R_if rfl (fun c_646 => ?_) (fun c_646 => ?_)
                · have k := k.1 c_646
                  refine R_ps 2 (pc2 := 137) (L2 := [some (vr (some w))]) (st2 := [vi 0, vr (some w)]) rfl ?_
                  refine R_putI rfl t0 ?_
                  show WP T N _ _ _ _ (si h_641 w 27 0) _
                  generalize e_649 : si h_641 w 27 0 = h_648
                  replace k := k h_648 e_649.symm
                  refine R_ps 1 (pc2 := 141) (L2 := [some (vr (some w))]) (st2 := [vr (some w)]) rfl ?_
                  refine R_getI rfl t0 ?_
                  refine R_ps 1 (pc2 := 146) (L2 := [some (vr (some w))]) (st2 := [vi 99, vi (gi h_648 w 26)]) rfl ?_
                  refine R_if rfl (fun c_651 => ?_) (fun c_651 => ?_)
                  · have k := k.2 c_651
                    exact k
                  · have k := k.1 (Classical.not_not.mp c_651)
                    refine R_ps 1 (pc2 := 150) (L2 := [some (vr (some w))]) (st2 := [vr (some w)]) rfl ?_
                    refine R_getZ rfl t0 ?_
                    refine R_if0 rfl (fun c_653 => ?_) (fun c_653 => ?_)
                    · have k := k.2 c_653
                      exact k
                    · have k := k.1 (Classical.not_not.mp c_653)
                      refine R_ps 2 (pc2 := 159) (L2 := [some (vr (some w))]) (st2 := [vi 45, vr (some w)]) rfl ?_
                      refine R_cV (as := [vr (some w), vi 45]) rfl rfl ⟨Nat.le_of_ble_eq_true rfl, Nat.le_of_ble_eq_true rfl, rfl, (Or.inr ⟨_, rfl, t0⟩)⟩ rfl rfl k (fun h_655 k => ?_)
                      exact k
                · have k := k.2 c_646
                  refine R_ps 1 (pc2 := 107) (L2 := [some (vr (some w))]) (st2 := [vr (some w), vr (some w)]) rfl ?_
                  refine R_getI rfl t0 ?_
                  refine R_ps 1 (pc2 := 112) (L2 := [some (vr (some w))]) (st2 := [vi 112, vi (gi h_641 w 26), vr (some w)]) rfl ?_
                  refine R_if rfl (fun c_658 => ?_) (fun c_658 => ?_)
                  · have k := k.2 c_658
                    refine R_ps 2 (pc2 := 121) (L2 := [some (vr (some w))]) (st2 := [vr (some w), vr (some w), vr (some w)]) rfl ?_
                    refine R_getI rfl t0 ?_
                    refine R_ps 1 (pc2 := 126) (L2 := [some (vr (some w))]) (st2 := [vi 116, vi (gi h_641 w 26), vr (some w), vr (some w)]) rfl ?_
                    refine R_if rfl (fun c_660 => ?_) (fun c_660 => ?_)
                    · have k := k.2 c_660
                      refine R_ps 1 (pc2 := 134) (L2 := [some (vr (some w))]) (st2 := [vi 0, vr (some w), vr (some w)]) rfl ?_
                      refine R_cI (as := [vr (some w), vi 0]) rfl rfl ⟨Nat.le_of_ble_eq_true rfl, Nat.le_of_ble_eq_true rfl, rfl, (Or.inr ⟨_, rfl, t0⟩)⟩ rfl rfl k (fun x_663 h_662 k => ?_)
                      refine R_putI rfl t0 ?_
                      show WP T N _ _ _ _ (si h_662 w 27 x_663) _
                      generalize e_666 : si h_662 w 27 x_663 = h_665
                      replace k := k h_665 e_666.symm
                      refine R_ps 1 (pc2 := 141) (L2 := [some (vr (some w))]) (st2 := [vr (some w)]) rfl ?_
                      refine R_getI rfl t0 ?_
                      refine R_ps 1 (pc2 := 146) (L2 := [some (vr (some w))]) (st2 := [vi 99, vi (gi h_665 w 26)]) rfl ?_
                      refine R_if rfl (fun c_668 => ?_) (fun c_668 => ?_)
                      · have k := k.2 c_668
                        exact k
                      · have k := k.1 (Classical.not_not.mp c_668)
                        refine R_ps 1 (pc2 := 150) (L2 := [some (vr (some w))]) (st2 := [vr (some w)]) rfl ?_
                        refine R_getZ rfl t0 ?_
                        refine R_if0 rfl (fun c_670 => ?_) (fun c_670 => ?_)
                        · have k := k.2 c_670
                          exact k
                        · have k := k.1 (Classical.not_not.mp c_670)
                          refine R_ps 2 (pc2 := 159) (L2 := [some (vr (some w))]) (st2 := [vi 45, vr (some w)]) rfl ?_
                          refine R_cV (as := [vr (some w), vi 45]) rfl rfl ⟨Nat.le_of_ble_eq_true rfl, Nat.le_of_ble_eq_true rfl, rfl, (Or.inr ⟨_, rfl, t0⟩)⟩ rfl rfl k (fun h_672 k => ?_)
                          exact k
                    · have k := k.1 (Classical.not_not.mp c_660)
                      refine R_ps 2 (pc2 := 134) (L2 := [some (vr (some w))]) (st2 := [vi 1, vr (some w), vr (some w)]) rfl ?_
                      refine R_cI (as := [vr (some w), vi 1]) rfl rfl ⟨Nat.le_of_ble_eq_true rfl, Nat.le_of_ble_eq_true rfl, rfl, (Or.inr ⟨_, rfl, t0⟩)⟩ rfl rfl k (fun x_676 h_675 k => ?_)
                      refine R_putI rfl t0 ?_
                      show WP T N _ _ _ _ (si h_675 w 27 x_676) _
                      generalize e_679 : si h_675 w 27 x_676 = h_678
                      replace k := k h_678 e_679.symm
                      refine R_ps 1 (pc2 := 141) (L2 := [some (vr (some w))]) (st2 := [vr (some w)]) rfl ?_
                      refine R_getI rfl t0 ?_
                      refine R_ps 1 (pc2 := 146) (L2 := [some (vr (some w))]) (st2 := [vi 99, vi (gi h_678 w 26)]) rfl ?_
                      refine R_if rfl (fun c_681 => ?_) (fun c_681 => ?_)
                      · have k := k.2 c_681
                        exact k
                      · have k := k.1 (Classical.not_not.mp c_681)
                        refine R_ps 1 (pc2 := 150) (L2 := [some (vr (some w))]) (st2 := [vr (some w)]) rfl ?_
                        refine R_getZ rfl t0 ?_
                        refine R_if0 rfl (fun c_683 => ?_) (fun c_683 => ?_)
                        · have k := k.2 c_683
                          exact k
                        · have k := k.1 (Classical.not_not.mp c_683)
                          refine R_ps 2 (pc2 := 159) (L2 := [some (vr (some w))]) (st2 := [vi 45, vr (some w)]) rfl ?_
                          refine R_cV (as := [vr (some w), vi 45]) rfl rfl ⟨Nat.le_of_ble_eq_true rfl, Nat.le_of_ble_eq_true rfl, rfl, (Or.inr ⟨_, rfl, t0⟩)⟩ rfl rfl k (fun h_685 k => ?_)
                          exact k
                  · have k := k.1 (Classical.not_not.mp c_658)
                    refine R_ps 2 (pc2 := 137) (L2 := [some (vr (some w))]) (st2 := [vi 0, vr (some w)]) rfl ?_
                    refine R_putI rfl t0 ?_
                    show WP T N _ _ _ _ (si h_641 w 27 0) _
                    generalize e_689 : si h_641 w 27 0 = h_688
                    replace k := k h_688 e_689.symm
                    refine R_ps 1 (pc2 := 141) (L2 := [some (vr (some w))]) (st2 := [vr (some w)]) rfl ?_
                    refine R_getI rfl t0 ?_
                    refine R_ps 1 (pc2 := 146) (L2 := [some (vr (some w))]) (st2 := [vi 99, vi (gi h_688 w 26)]) rfl ?_
                    refine R_if rfl (fun c_691 => ?_) (fun c_691 => ?_)
                    · have k := k.2 c_691
                      exact k
                    · have k := k.1 (Classical.not_not.mp c_691)
                      refine R_ps 1 (pc2 := 150) (L2 := [some (vr (some w))]) (st2 := [vr (some w)]) rfl ?_
                      refine R_getZ rfl t0 ?_
                      refine R_if0 rfl (fun c_693 => ?_) (fun c_693 => ?_)
                      · have k := k.2 c_693
                        exact k
                      · have k := k.1 (Classical.not_not.mp c_693)
                        refine R_ps 2 (pc2 := 159) (L2 := [some (vr (some w))]) (st2 := [vi 45, vr (some w)]) rfl ?_
                        refine R_cV (as := [vr (some w), vi 45]) rfl rfl ⟨Nat.le_of_ble_eq_true rfl, Nat.le_of_ble_eq_true rfl, rfl, (Or.inr ⟨_, rfl, t0⟩)⟩ rfl rfl k (fun h_695 k => ?_)
                        exact k
              · have k := k.2 c_644
                exact R_ret rfl rfl ⟨rfl, k⟩
            · have k := k.2 c_639
              refine R_ps 3 (pc2 := 85) (L2 := [some (vr (some w))]) (st2 := [vi ((gi h_634 w 24) + 0), vr (some w)]) rfl ?_
              refine R_putI rfl t0 ?_
              show WP T N _ _ _ _ (si h_634 w 24 ((gi h_634 w 24) + 0)) _
              generalize e_700 : si h_634 w 24 ((gi h_634 w 24) + 0) = h_699
              replace k := k h_699 e_700.symm
              refine R_ps 1 (pc2 := 89) (L2 := [some (vr (some w))]) (st2 := [vr (some w)]) rfl ?_
              refine R_getZ rfl t0 ?_
              refine R_if0 rfl (fun c_702 => ?_) (fun c_702 => ?_)
              · have k := k.1 c_702
                refine R_ps 2 (pc2 := 98) (L2 := [some (vr (some w))]) (st2 := [vr (some w), vr (some w)]) rfl ?_
                refine R_getI rfl t0 ?_
                refine R_ps 1 (pc2 := 103) (L2 := [some (vr (some w))]) (st2 := [vi 110, vi (gi h_699 w 26), vr (some w)]) rfl ?_
                refine R_if rfl (fun c_704 => ?_) (fun c_704 => ?_)
                · have k := k.1 c_704
                  refine R_ps 2 (pc2 := 137) (L2 := [some (vr (some w))]) (st2 := [vi 0, vr (some w)]) rfl ?_
                  refine R_putI rfl t0 ?_
                  show WP T N _ _ _ _ (si h_699 w 27 0) _
                  generalize e_707 : si h_699 w 27 0 = h_706
                  replace k := k h_706 e_707.symm
                  refine R_ps 1 (pc2 := 141) (L2 := [some (vr (some w))]) (st2 := [vr (some w)]) rfl ?_
                  refine R_getI rfl t0 ?_
                  refine R_ps 1 (pc2 := 146) (L2 := [some (vr (some w))]) (st2 := [vi 99, vi (gi h_706 w 26)]) rfl ?_
                  refine R_if rfl (fun c_709 => ?_) (fun c_709 => ?_)
                  · have k := k.2 c_709
                    exact k
                  · have k := k.1 (Classical.not_not.mp c_709)
                    refine R_ps 1 (pc2 := 150) (L2 := [some (vr (some w))]) (st2 := [vr (some w)]) rfl ?_
                    refine R_getZ rfl t0 ?_
                    refine R_if0 rfl (fun c_711 => ?_) (fun c_711 => ?_)
                    · have k := k.2 c_711
                      exact k
                    · have k := k.1 (Classical.not_not.mp c_711)
                      refine R_ps 2 (pc2 := 159) (L2 := [some (vr (some w))]) (st2 := [vi 45, vr (some w)]) rfl ?_
                      refine R_cV (as := [vr (some w), vi 45]) rfl rfl ⟨Nat.le_of_ble_eq_true rfl, Nat.le_of_ble_eq_true rfl, rfl, (Or.inr ⟨_, rfl, t0⟩)⟩ rfl rfl k (fun h_713 k => ?_)
                      exact k
                · have k := k.2 c_704
                  refine R_ps 1 (pc2 := 107) (L2 := [some (vr (some w))]) (st2 := [vr (some w), vr (some w)]) rfl ?_
                  refine R_getI rfl t0 ?_
                  refine R_ps 1 (pc2 := 112) (L2 := [some (vr (some w))]) (st2 := [vi 112, vi (gi h_699 w 26), vr (some w)]) rfl ?_
                  refine R_if rfl (fun c_716 => ?_) (fun c_716 => ?_)
                  · have k := k.2 c_716
                    refine R_ps 2 (pc2 := 121) (L2 := [some (vr (some w))]) (st2 := [vr (some w), vr (some w), vr (some w)]) rfl ?_
                    refine R_getI rfl t0 ?_
                    refine R_ps 1 (pc2 := 126) (L2 := [some (vr (some w))]) (st2 := [vi 116, vi (gi h_699 w 26), vr (some w), vr (some w)]) rfl ?_
                    refine R_if rfl (fun c_718 => ?_) (fun c_718 => ?_)
                    · have k := k.2 c_718
                      refine R_ps 1 (pc2 := 134) (L2 := [some (vr (some w))]) (st2 := [vi 0, vr (some w), vr (some w)]) rfl ?_
                      refine R_cI (as := [vr (some w), vi 0]) rfl rfl ⟨Nat.le_of_ble_eq_true rfl, Nat.le_of_ble_eq_true rfl, rfl, (Or.inr ⟨_, rfl, t0⟩)⟩ rfl rfl k (fun x_721 h_720 k => ?_)
                      refine R_putI rfl t0 ?_
                      show WP T N _ _ _ _ (si h_720 w 27 x_721) _
                      generalize e_724 : si h_720 w 27 x_721 = h_723
                      replace k := k h_723 e_724.symm
                      refine R_ps 1 (pc2 := 141) (L2 := [some (vr (some w))]) (st2 := [vr (some w)]) rfl ?_
                      refine R_getI rfl t0 ?_
                      refine R_ps 1 (pc2 := 146) (L2 := [some (vr (some w))]) (st2 := [vi 99, vi (gi h_723 w 26)]) rfl ?_
                      refine R_if rfl (fun c_726 => ?_) (fun c_726 => ?_)
                      · have k := k.2 c_726
                        exact k
                      · have k := k.1 (Classical.not_not.mp c_726)
                        refine R_ps 1 (pc2 := 150) (L2 := [some (vr (some w))]) (st2 := [vr (some w)]) rfl ?_
                        refine R_getZ rfl t0 ?_
                        refine R_if0 rfl (fun c_728 => ?_) (fun c_728 => ?_)
                        · have k := k.2 c_728
                          exact k
                        · have k := k.1 (Classical.not_not.mp c_728)
                          refine R_ps 2 (pc2 := 159) (L2 := [some (vr (some w))]) (st2 := [vi 45, vr (some w)]) rfl ?_
                          refine R_cV (as := [vr (some w), vi 45]) rfl rfl ⟨Nat.le_of_ble_eq_true rfl, Nat.le_of_ble_eq_true rfl, rfl, (Or.inr ⟨_, rfl, t0⟩)⟩ rfl rfl k (fun h_730 k => ?_)
                          exact k
                    · have k := k.1 (Classical.not_not.mp c_718)
                      refine R_ps 2 (pc2 := 134) (L2 := [some (vr (some w))]) (st2 := [vi 1, vr (some w), vr (some w)]) rfl ?_
                      refine R_cI (as := [vr (some w), vi 1]) rfl rfl ⟨Nat.le_of_ble_eq_true rfl, Nat.le_of_ble_eq_true rfl, rfl, (Or.inr ⟨_, rfl, t0⟩)⟩ rfl rfl k (fun x_734 h_733 k => ?_)
                      refine R_putI rfl t0 ?_
                      show WP T N _ _ _ _ (si h_733 w 27 x_734) _
                      generalize e_737 : si h_733 w 27 x_734 = h_736
                      replace k := k h_736 e_737.symm
                      refine R_ps 1 (pc2 := 141) (L2 := [some (vr (some w))]) (st2 := [vr (some w)]) rfl ?_
                      refine R_getI rfl t0 ?_
                      refine R_ps 1 (pc2 := 146) (L2 := [some (vr (some w))]) (st2 := [vi 99, vi (gi h_736 w 26)]) rfl ?_
                      refine R_if rfl (fun c_739 => ?_) (fun c_739 => ?_)
                      · have k := k.2 c_739
                        exact k
                      · have k := k.1 (Classical.not_not.mp c_739)
                        refine R_ps 1 (pc2 := 150) (L2 := [some (vr (some w))]) (st2 := [vr (some w)]) rfl ?_
                        refine R_getZ rfl t0 ?_
                        refine R_if0 rfl (fun c_741 => ?_) (fun c_741 => ?_)
                        · have k := k.2 c_741
                          exact k
                        · have k := k.1 (Classical.not_not.mp c_741)
                          refine R_ps 2 (pc2 := 159) (L2 := [some (vr (some w))]) (st2 := [vi 45, vr (some w)]) rfl ?_
                          refine R_cV (as := [vr (some w), vi 45]) rfl rfl ⟨Nat.le_of_ble_eq_true rfl, Nat.le_of_ble_eq_true rfl, rfl, (Or.inr ⟨_, rfl, t0⟩)⟩ rfl rfl k (fun h_743 k => ?_)
                          exact k
                  · have k := k.1 (Classical.not_not.mp c_716)
                    refine R_ps 2 (pc2 := 137) (L2 := [some (vr (some w))]) (st2 := [vi 0, vr (some w)]) rfl ?_
                    refine R_putI rfl t0 ?_
                    show WP T N _ _ _ _ (si h_699 w 27 0) _
                    generalize e_747 : si h_699 w 27 0 = h_746
                    replace k := k h_746 e_747.symm
                    refine R_ps 1 (pc2 := 141) (L2 := [some (vr (some w))]) (st2 := [vr (some w)]) rfl ?_
                    refine R_getI rfl t0 ?_
                    refine R_ps 1 (pc2 := 146) (L2 := [some (vr (some w))]) (st2 := [vi 99, vi (gi h_746 w 26)]) rfl ?_
                    refine R_if rfl (fun c_749 => ?_) (fun c_749 => ?_)
                    · have k := k.2 c_749
                      exact k
                    · have k := k.1 (Classical.not_not.mp c_749)
                      refine R_ps 1 (pc2 := 150) (L2 := [some (vr (some w))]) (st2 := [vr (some w)]) rfl ?_
                      refine R_getZ rfl t0 ?_
                      refine R_if0 rfl (fun c_751 => ?_) (fun c_751 => ?_)
                      · have k := k.2 c_751
                        exact k
                      · have k := k.1 (Classical.not_not.mp c_751)
                        refine R_ps 2 (pc2 := 159) (L2 := [some (vr (some w))]) (st2 := [vi 45, vr (some w)]) rfl ?_
                        refine R_cV (as := [vr (some w), vi 45]) rfl rfl ⟨Nat.le_of_ble_eq_true rfl, Nat.le_of_ble_eq_true rfl, rfl, (Or.inr ⟨_, rfl, t0⟩)⟩ rfl rfl k (fun h_753 k => ?_)
                        exact k
              · have k := k.2 c_702
                exact R_ret rfl rfl ⟨rfl, k⟩
theorem m245_162 {T N : Nat → Nat} {h : PH} {w : Nat} {K : PH → Prop} (t0 : T w = 12) (k : ((((gi h w 25) = 0 → (CI T N 244 [vr (some w), vi 0] h (fun x_5 h_4 => (∀ h_7, h_7 = si h_4 w 28 x_5 → WV T N 245 178 [some (vr (some w))] [] h_7 K)))) ∧ (¬ ((gi h w 25) = 0) → (WV T N 245 178 [some (vr (some w))] [] h K))))) : WV T N 245 162 [some (vr (some w))] [] h K := by
  show WP T N 245 162 [some (vr (some w))] [] h _
  refine R_ps 1 (pc2 := 163) (L2 := [some (vr (some w))]) (st2 := [vr (some w)]) rfl ?_
  refine R_getZ rfl t0 ?_
  refine R_if0 rfl (fun c_2 => ?_) (fun c_2 => ?_)
  · have k := k.2 c_2
    exact k
  · have k := k.1 (Classical.not_not.mp c_2)
    refine R_ps 3 (pc2 := 172) (L2 := [some (vr (some w))]) (st2 := [vi 0, vr (some w), vr (some w)]) rfl ?_
    refine R_cI (as := [vr (some w), vi 0]) rfl rfl ⟨Nat.le_of_ble_eq_true rfl, Nat.le_of_ble_eq_true rfl, rfl, (Or.inr ⟨_, rfl, t0⟩)⟩ rfl rfl k (fun x_5 h_4 k => ?_)
    refine R_putI rfl t0 ?_
    show WP T N _ _ _ _ (si h_4 w 28 x_5) _
    generalize e_8 : si h_4 w 28 x_5 = h_7
    replace k := k h_7 e_8.symm
    exact k
theorem m245_178 {T N : Nat → Nat} {h : PH} {w : Nat} {K : PH → Prop} (t0 : T w = 12) (k : ((((gi h w 25) = 0 → (CV T N 243 [vr (some w), vi 42] h (fun h_4 => (WV T N 245 191 [some (vr (some w))] [] h_4 K)))) ∧ (¬ ((gi h w 25) = 0) → (WV T N 245 191 [some (vr (some w))] [] h K))))) : WV T N 245 178 [some (vr (some w))] [] h K := by
  show WP T N 245 178 [some (vr (some w))] [] h _
  refine R_ps 1 (pc2 := 179) (L2 := [some (vr (some w))]) (st2 := [vr (some w)]) rfl ?_
  refine R_getZ rfl t0 ?_
  refine R_if0 rfl (fun c_2 => ?_) (fun c_2 => ?_)
  · have k := k.2 c_2
    exact k
  · have k := k.1 (Classical.not_not.mp c_2)
    refine R_ps 2 (pc2 := 188) (L2 := [some (vr (some w))]) (st2 := [vi 42, vr (some w)]) rfl ?_
    refine R_cV (as := [vr (some w), vi 42]) rfl rfl ⟨Nat.le_of_ble_eq_true rfl, Nat.le_of_ble_eq_true rfl, rfl, (Or.inr ⟨_, rfl, t0⟩)⟩ rfl rfl k (fun h_4 k => ?_)
    exact k
theorem m245_191 {T N : Nat → Nat} {h : PH} {w : Nat} {K : PH → Prop} (t0 : T w = 12) (k : ((((gi h w 25) = 0 → (CI T N 244 [vr (some w), vi 1] h (fun x_5 h_4 => (∀ h_7, h_7 = si h_4 w 29 x_5 → WV T N 245 207 [some (vr (some w))] [] h_7 K)))) ∧ (¬ ((gi h w 25) = 0) → (WV T N 245 207 [some (vr (some w))] [] h K))))) : WV T N 245 191 [some (vr (some w))] [] h K := by
  show WP T N 245 191 [some (vr (some w))] [] h _
  refine R_ps 1 (pc2 := 192) (L2 := [some (vr (some w))]) (st2 := [vr (some w)]) rfl ?_
  refine R_getZ rfl t0 ?_
  refine R_if0 rfl (fun c_2 => ?_) (fun c_2 => ?_)
  · have k := k.2 c_2
    exact k
  · have k := k.1 (Classical.not_not.mp c_2)
    refine R_ps 3 (pc2 := 201) (L2 := [some (vr (some w))]) (st2 := [vi 1, vr (some w), vr (some w)]) rfl ?_
    refine R_cI (as := [vr (some w), vi 1]) rfl rfl ⟨Nat.le_of_ble_eq_true rfl, Nat.le_of_ble_eq_true rfl, rfl, (Or.inr ⟨_, rfl, t0⟩)⟩ rfl rfl k (fun x_5 h_4 k => ?_)
    refine R_putI rfl t0 ?_
    show WP T N _ _ _ _ (si h_4 w 29 x_5) _
    generalize e_8 : si h_4 w 29 x_5 = h_7
    replace k := k h_7 e_8.symm
    exact k
theorem m245_207 {T N : Nat → Nat} {h : PH} {w : Nat} {K : PH → Prop} (t0 : T w = 12) (k : ((((gi h w 25) = 0 → (CV T N 243 [vr (some w), vi 59] h (fun h_4 => (WV T N 245 220 [none] [] h_4 K)))) ∧ (¬ ((gi h w 25) = 0) → (WV T N 245 220 [none] [] h K))))) : WV T N 245 207 [some (vr (some w))] [] h K := by
  show WP T N 245 207 [some (vr (some w))] [] h _
  refine R_ps 1 (pc2 := 208) (L2 := [some (vr (some w))]) (st2 := [vr (some w)]) rfl ?_
  refine R_getZ rfl t0 ?_
  refine R_if0 rfl (fun c_2 => ?_) (fun c_2 => ?_)
  · have k := k.2 c_2
    exact R_drop k (LE_of (L := [none]) (L2 := [some (vr (some w))]) trivial)
  · have k := k.1 (Classical.not_not.mp c_2)
    refine R_ps 2 (pc2 := 217) (L2 := [some (vr (some w))]) (st2 := [vi 59, vr (some w)]) rfl ?_
    refine R_cV (as := [vr (some w), vi 59]) rfl rfl ⟨Nat.le_of_ble_eq_true rfl, Nat.le_of_ble_eq_true rfl, rfl, (Or.inr ⟨_, rfl, t0⟩)⟩ rfl rfl k (fun h_4 k => ?_)
    exact R_drop k (LE_of (L := [none]) (L2 := [some (vr (some w))]) trivial)
theorem m245_220 {T N : Nat → Nat} {h : PH} {K : PH → Prop} (k : (K h)) : WV T N 245 220 [none] [] h K := by
  show WP T N 245 220 [none] [] h _
  exact R_ret rfl rfl ⟨rfl, k⟩
/-- DroneCorridorsModel.acts -/
theorem m246 {T N : Nat → Nat} {h : PH} {w : Nat} {K : PH → Prop} (t0 : T w = 12) (k : ((((gi h w 26) = 99 → (CI T N 174 [vr (some w), vi (gi h w 27), vi (gi h w 28), vi (gi h w 29), vi 0] h (fun x_8 h_7 => (K h_7)))) ∧ (¬ ((gi h w 26) = 99) → (((gi h w 26) = 100 → (CI T N 195 [vr (some w), vi (gi h w 27), vi 100] h (fun x_13 h_12 => (K h_12)))) ∧ (¬ ((gi h w 26) = 100) → (((gi h w 26) = 110 → (CI T N 171 [vr (some w), vi 0] h (fun x_17 h_16 => (K h_16)))) ∧ (¬ ((gi h w 26) = 110) → (((gi h w 26) = 112 → (CI T N 171 [vr (some w), vi 1] h (fun x_21 h_20 => (K h_20)))) ∧ (¬ ((gi h w 26) = 112) → (∃ a_25, (gr h w 1) = some a_25 ∧ T a_25 = 22 ∧ inb 448 (N a_25) ∧ ((10000 < ((gi h a_25 448) + (gi h w 27)) → (CI T N 157 [vr (some w), vi 1] h (fun x_38 h_37 => (K h_37)))) ∧ (¬ (10000 < ((gi h a_25 448) + (gi h w 27))) → (CV T N 231 [vr (some w), vi (gi h w 27)] h (fun h_33 => (K h_33)))))))))))))))) : CV T N 246 [vr (some w)] h K := by
  show WP T N 246 0 [some (vr (some w)), none] [] h _
  refine R_ps 3 (pc2 := 3) (L2 := [some (vr (some w)), some (vi 0)]) (st2 := [vr (some w)]) rfl ?_
  refine R_getI rfl t0 ?_
  refine R_lsw rfl rfl ?_
  refine ⟨fun c_2 => ?_, fun c_2 => ?_⟩
  · have k := k.1 c_2
    show WP T N _ 66 _ _ _ _
    refine R_ps 2 (pc2 := 68) (L2 := [some (vr (some w)), some (vi 0)]) (st2 := [vr (some w), vr (some w)]) rfl ?_
    refine R_getI rfl t0 ?_
    refine R_ps 1 (pc2 := 72) (L2 := [some (vr (some w)), some (vi 0)]) (st2 := [vr (some w), vi (gi h w 27), vr (some w)]) rfl ?_
    refine R_getI rfl t0 ?_
    refine R_ps 1 (pc2 := 76) (L2 := [some (vr (some w)), some (vi 0)]) (st2 := [vr (some w), vi (gi h w 28), vi (gi h w 27), vr (some w)]) rfl ?_
    refine R_getI rfl t0 ?_
    refine R_ps 1 (pc2 := 80) (L2 := [some (vr (some w)), some (vi 0)]) (st2 := [vi 0, vi (gi h w 29), vi (gi h w 28), vi (gi h w 27), vr (some w)]) rfl ?_
    refine R_cI (as := [vr (some w), vi (gi h w 27), vi (gi h w 28), vi (gi h w 29), vi 0]) rfl rfl ⟨Nat.le_of_ble_eq_true rfl, Nat.le_of_ble_eq_true rfl, rfl, (Or.inr ⟨_, rfl, t0⟩)⟩ rfl rfl k (fun x_8 h_7 k => ?_)
    refine R_ps 2 (pc2 := 137) (L2 := [some (vr (some w)), some (vi x_8)]) (st2 := []) rfl ?_
    exact R_ret rfl rfl ⟨rfl, k⟩
  replace k := k.2 c_2
  refine ⟨fun c_2 => ?_, fun c_2 => ?_⟩
  · have k := k.1 c_2
    show WP T N _ 87 _ _ _ _
    refine R_ps 2 (pc2 := 89) (L2 := [some (vr (some w)), some (vi 0)]) (st2 := [vr (some w), vr (some w)]) rfl ?_
    refine R_getI rfl t0 ?_
    refine R_ps 1 (pc2 := 94) (L2 := [some (vr (some w)), some (vi 0)]) (st2 := [vi 100, vi (gi h w 27), vr (some w)]) rfl ?_
    refine R_cI (as := [vr (some w), vi (gi h w 27), vi 100]) rfl rfl ⟨Nat.le_of_ble_eq_true rfl, Nat.le_of_ble_eq_true rfl, rfl, (Or.inr ⟨_, rfl, t0⟩)⟩ rfl rfl k (fun x_13 h_12 k => ?_)
    refine R_ps 2 (pc2 := 137) (L2 := [some (vr (some w)), some (vi x_13)]) (st2 := []) rfl ?_
    exact R_ret rfl rfl ⟨rfl, k⟩
  replace k := k.2 c_2
  refine ⟨fun c_2 => ?_, fun c_2 => ?_⟩
  · have k := k.1 c_2
    show WP T N _ 48 _ _ _ _
    refine R_ps 2 (pc2 := 50) (L2 := [some (vr (some w)), some (vi 0)]) (st2 := [vi 0, vr (some w)]) rfl ?_
    refine R_cI (as := [vr (some w), vi 0]) rfl rfl ⟨Nat.le_of_ble_eq_true rfl, Nat.le_of_ble_eq_true rfl, rfl, (Or.inr ⟨_, rfl, t0⟩)⟩ rfl rfl k (fun x_17 h_16 k => ?_)
    refine R_ps 2 (pc2 := 137) (L2 := [some (vr (some w)), some (vi x_17)]) (st2 := []) rfl ?_
    exact R_ret rfl rfl ⟨rfl, k⟩
  replace k := k.2 c_2
  refine ⟨fun c_2 => ?_, fun c_2 => ?_⟩
  · have k := k.1 c_2
    show WP T N _ 57 _ _ _ _
    refine R_ps 2 (pc2 := 59) (L2 := [some (vr (some w)), some (vi 0)]) (st2 := [vi 1, vr (some w)]) rfl ?_
    refine R_cI (as := [vr (some w), vi 1]) rfl rfl ⟨Nat.le_of_ble_eq_true rfl, Nat.le_of_ble_eq_true rfl, rfl, (Or.inr ⟨_, rfl, t0⟩)⟩ rfl rfl k (fun x_21 h_20 k => ?_)
    refine R_ps 2 (pc2 := 137) (L2 := [some (vr (some w)), some (vi x_21)]) (st2 := []) rfl ?_
    exact R_ret rfl rfl ⟨rfl, k⟩
  replace k := k.2 c_2
  show WP T N _ 101 _ _ _ _
  refine R_ps 1 (pc2 := 102) (L2 := [some (vr (some w)), some (vi 0)]) (st2 := [vr (some w)]) rfl ?_
  refine R_getR rfl t0 ?_
  refine R_ps 1 (pc2 := 108) (L2 := [some (vr (some w)), some (vi 0)]) (st2 := [vi 448, vr (gr h w 1)]) rfl ?_
  obtain ⟨a_25, e_26, k⟩ := k
  rw [e_26]
  obtain ⟨t_27, k⟩ := k
  obtain ⟨t_28, k⟩ := k
  refine R_iald rfl (Or.inl t_27) t_28 ?_
  refine R_ps 1 (pc2 := 110) (L2 := [some (vr (some w)), some (vi 0)]) (st2 := [vr (some w), vi (gi h a_25 448)]) rfl ?_
  refine R_getI rfl t0 ?_
  refine R_ps 2 (pc2 := 117) (L2 := [some (vr (some w)), some (vi 0)]) (st2 := [vi 10000, vi ((gi h a_25 448) + (gi h w 27))]) rfl ?_
  refine R_if rfl (fun c_30 => ?_) (fun c_30 => ?_)
  · have k := k.2 (i32_nlt c_30)
    refine R_ps 2 (pc2 := 131) (L2 := [some (vr (some w)), some (vi 0)]) (st2 := [vr (some w), vr (some w)]) rfl ?_
    refine R_getI rfl t0 ?_
    refine R_cV (as := [vr (some w), vi (gi h w 27)]) rfl rfl ⟨Nat.le_of_ble_eq_true rfl, Nat.le_of_ble_eq_true rfl, rfl, (Or.inr ⟨_, rfl, t0⟩)⟩ rfl rfl k (fun h_33 k => ?_)
    exact R_ret rfl rfl ⟨rfl, k⟩
  · have k := k.1 (i32_lt c_30)
    refine R_ps 2 (pc2 := 122) (L2 := [some (vr (some w)), some (vi 0)]) (st2 := [vi 1, vr (some w)]) rfl ?_
    refine R_cI (as := [vr (some w), vi 1]) rfl rfl ⟨Nat.le_of_ble_eq_true rfl, Nat.le_of_ble_eq_true rfl, rfl, (Or.inr ⟨_, rfl, t0⟩)⟩ rfl rfl k (fun x_38 h_37 k => ?_)
    refine R_ps 2 (pc2 := 137) (L2 := [some (vr (some w)), some (vi x_38)]) (st2 := []) rfl ?_
    exact R_ret rfl rfl ⟨rfl, k⟩
/-- DroneCorridorsModel.read -/
theorem m247 {T N : Nat → Nat} {h : PH} {w : Nat} {K : Int32 → PH → Prop} (t0 : T w = 12) (k : (∀ h_2, h_2 = si h w 0 0 → ∀ h_5, h_5 = si h_2 w 25 0 → ∀ h_8, h_8 = si h_5 w 24 0 → WI T N 247 17 [some (vr (some w)), some (vi 0), none, none] [] h_8 K)) : CI T N 247 [vr (some w)] h K := by
  show WP T N 247 0 [some (vr (some w)), none, none, none] [] h _
  refine R_ps 2 (pc2 := 2) (L2 := [some (vr (some w)), none, none, none]) (st2 := [vi 0, vr (some w)]) rfl ?_
  refine R_putI rfl t0 ?_
  show WP T N _ _ _ _ (si h w 0 0) _
  generalize e_3 : si h w 0 0 = h_2
  replace k := k h_2 e_3.symm
  refine R_ps 2 (pc2 := 7) (L2 := [some (vr (some w)), none, none, none]) (st2 := [vi 0, vr (some w)]) rfl ?_
  refine R_putZ rfl t0 (Or.inl rfl) ?_
  show WP T N _ _ _ _ (si h_2 w 25 0) _
  generalize e_6 : si h_2 w 25 0 = h_5
  replace k := k h_5 e_6.symm
  refine R_ps 2 (pc2 := 12) (L2 := [some (vr (some w)), none, none, none]) (st2 := [vi 0, vr (some w)]) rfl ?_
  refine R_putI rfl t0 ?_
  show WP T N _ _ _ _ (si h_5 w 24 0) _
  generalize e_9 : si h_5 w 24 0 = h_8
  replace k := k h_8 e_9.symm
  refine R_ps 2 (pc2 := 17) (L2 := [some (vr (some w)), some (vi 0), none, none]) (st2 := []) rfl ?_
  exact k
theorem m247_17 {T N : Nat → Nat} {h : PH} {w : Nat} {x1 : Int32} {K : Int32 → PH → Prop} (t0 : T w = 12) (k : ((((gi h w 25) = 0 → (((x1 = 0 → (CV T N 245 [vr (some w)] h (fun h_30 => (WI T N 247 17 [some (vr (some w)), some (vi (x1 + 1)), none, none] [] h_30 K)))) ∧ (¬ (x1 = 0) → ((((gi h w 24) < (gi h w 11) → (CV T N 245 [vr (some w)] h (fun h_61 => (WI T N 247 17 [some (vr (some w)), some (vi (x1 + 1)), none, none] [] h_61 K)))) ∧ (¬ ((gi h w 24) < (gi h w 11)) → (∀ h_37, h_37 = si h w 11 0 → (((gi h_37 w 25) = 0 → (∀ h_42, h_42 = si h_37 w 11 (gi h w 11) → ∀ h_45, h_45 = si h_42 w 24 0 → CV T N 161 [vr (gr h_45 w 1), vr (gr h_45 w 3)] h_45 (fun h_50 => (WI T N 247 103 [some (vr (some w)), some (vi x1), none, some (vi 0)] [] h_50 K)))) ∧ (¬ ((gi h_37 w 25) = 0) → (∀ h_54, h_54 = si h_37 w 8 (gi h_37 w 24) → CI T N 157 [vr (some w), vi 1] h_54 (fun x_58 h_57 => (K x_58 h_57))))))))))))) ∧ (¬ ((gi h w 25) = 0) → (∀ h_5, h_5 = si h w 11 0 → (((gi h_5 w 25) = 0 → (∀ h_10, h_10 = si h_5 w 11 (gi h w 11) → ∀ h_13, h_13 = si h_10 w 24 0 → CV T N 161 [vr (gr h_13 w 1), vr (gr h_13 w 3)] h_13 (fun h_18 => (WI T N 247 103 [some (vr (some w)), some (vi x1), none, some (vi 0)] [] h_18 K)))) ∧ (¬ ((gi h_5 w 25) = 0) → (∀ h_22, h_22 = si h_5 w 8 (gi h_5 w 24) → CI T N 157 [vr (some w), vi 1] h_22 (fun x_26 h_25 => (K x_26 h_25)))))))))) : WI T N 247 17 [some (vr (some w)), some (vi x1), none, none] [] h K := by
  show WP T N 247 17 [some (vr (some w)), some (vi x1), none, none] [] h _
  refine R_ps 1 (pc2 := 18) (L2 := [some (vr (some w)), some (vi x1), none, none]) (st2 := [vr (some w)]) rfl ?_
  refine R_getZ rfl t0 ?_
  refine R_if0 rfl (fun c_2 => ?_) (fun c_2 => ?_)
  · have k := k.2 c_2
    refine R_ps 1 (pc2 := 50) (L2 := [some (vr (some w)), some (vi x1), none, none]) (st2 := [vr (some w)]) rfl ?_
    refine R_getI rfl t0 ?_
    refine R_ps 3 (pc2 := 56) (L2 := [some (vr (some w)), some (vi x1), some (vi (gi h w 11)), none]) (st2 := [vi 0, vr (some w)]) rfl ?_
    refine R_putI rfl t0 ?_
    show WP T N _ _ _ _ (si h w 11 0) _
    generalize e_6 : si h w 11 0 = h_5
    replace k := k h_5 e_6.symm
    refine R_ps 1 (pc2 := 60) (L2 := [some (vr (some w)), some (vi x1), some (vi (gi h w 11)), none]) (st2 := [vr (some w)]) rfl ?_
    refine R_getZ rfl t0 ?_
    refine R_if0 rfl (fun c_8 => ?_) (fun c_8 => ?_)
    · have k := k.1 c_8
      refine R_ps 2 (pc2 := 82) (L2 := [some (vr (some w)), some (vi x1), some (vi (gi h w 11)), none]) (st2 := [vi (gi h w 11), vr (some w)]) rfl ?_
      refine R_putI rfl t0 ?_
      show WP T N _ _ _ _ (si h_5 w 11 (gi h w 11)) _
      generalize e_11 : si h_5 w 11 (gi h w 11) = h_10
      replace k := k h_10 e_11.symm
      refine R_ps 2 (pc2 := 87) (L2 := [some (vr (some w)), some (vi x1), some (vi (gi h w 11)), none]) (st2 := [vi 0, vr (some w)]) rfl ?_
      refine R_putI rfl t0 ?_
      show WP T N _ _ _ _ (si h_10 w 24 0) _
      generalize e_14 : si h_10 w 24 0 = h_13
      replace k := k h_13 e_14.symm
      refine R_ps 1 (pc2 := 91) (L2 := [some (vr (some w)), some (vi x1), some (vi (gi h w 11)), none]) (st2 := [vr (some w)]) rfl ?_
      refine R_getR rfl t0 ?_
      refine R_ps 1 (pc2 := 95) (L2 := [some (vr (some w)), some (vi x1), some (vi (gi h w 11)), none]) (st2 := [vr (some w), vr (gr h_13 w 1)]) rfl ?_
      refine R_getR rfl t0 ?_
      refine R_cV (as := [vr (gr h_13 w 1), vr (gr h_13 w 3)]) rfl rfl ⟨Nat.le_of_ble_eq_true rfl, Nat.le_of_ble_eq_true rfl, rfl, (Or.inl rfl)⟩ rfl rfl k (fun h_18 k => ?_)
      refine R_ps 2 (pc2 := 103) (L2 := [some (vr (some w)), some (vi x1), some (vi (gi h w 11)), some (vi 0)]) (st2 := []) rfl ?_
      exact R_drop k (LE_of (L := [some (vr (some w)), some (vi x1), none, some (vi 0)]) (L2 := [some (vr (some w)), some (vi x1), some (vi (gi h w 11)), some (vi 0)]) ⟨rfl, rfl, rfl, trivial⟩)
    · have k := k.2 c_8
      refine R_ps 2 (pc2 := 68) (L2 := [some (vr (some w)), some (vi x1), some (vi (gi h w 11)), none]) (st2 := [vr (some w), vr (some w)]) rfl ?_
      refine R_getI rfl t0 ?_
      refine R_putI rfl t0 ?_
      show WP T N _ _ _ _ (si h_5 w 8 (gi h_5 w 24)) _
      generalize e_23 : si h_5 w 8 (gi h_5 w 24) = h_22
      replace k := k h_22 e_23.symm
      refine R_ps 2 (pc2 := 76) (L2 := [some (vr (some w)), some (vi x1), some (vi (gi h w 11)), none]) (st2 := [vi 1, vr (some w)]) rfl ?_
      refine R_cI (as := [vr (some w), vi 1]) rfl rfl ⟨Nat.le_of_ble_eq_true rfl, Nat.le_of_ble_eq_true rfl, rfl, (Or.inr ⟨_, rfl, t0⟩)⟩ rfl rfl k (fun x_26 h_25 k => ?_)
      exact R_iret rfl rfl ⟨_, rfl, k⟩
  · have k := k.1 (Classical.not_not.mp c_2)
    refine R_ps 1 (pc2 := 25) (L2 := [some (vr (some w)), some (vi x1), none, none]) (st2 := [vi x1]) rfl ?_
    refine R_if0 rfl (fun c_28 => ?_) (fun c_28 => ?_)
    · have k := k.1 c_28
      refine R_ps 1 (pc2 := 40) (L2 := [some (vr (some w)), some (vi x1), none, none]) (st2 := [vr (some w)]) rfl ?_
      refine R_cV (as := [vr (some w)]) rfl rfl ⟨Nat.le_of_ble_eq_true rfl, Nat.le_of_ble_eq_true rfl, rfl, (Or.inr ⟨_, rfl, t0⟩)⟩ rfl rfl k (fun h_30 k => ?_)
      refine R_ps 2 (pc2 := 17) (L2 := [some (vr (some w)), some (vi (x1 + 1)), none, none]) (st2 := []) rfl ?_
      exact k
    · have k := k.2 c_28
      refine R_ps 1 (pc2 := 29) (L2 := [some (vr (some w)), some (vi x1), none, none]) (st2 := [vr (some w)]) rfl ?_
      refine R_getI rfl t0 ?_
      refine R_ps 1 (pc2 := 33) (L2 := [some (vr (some w)), some (vi x1), none, none]) (st2 := [vr (some w), vi (gi h w 24)]) rfl ?_
      refine R_getI rfl t0 ?_
      refine R_if rfl (fun c_34 => ?_) (fun c_34 => ?_)
      · have k := k.2 (i32_nlt c_34)
        refine R_ps 1 (pc2 := 50) (L2 := [some (vr (some w)), some (vi x1), none, none]) (st2 := [vr (some w)]) rfl ?_
        refine R_getI rfl t0 ?_
        refine R_ps 3 (pc2 := 56) (L2 := [some (vr (some w)), some (vi x1), some (vi (gi h w 11)), none]) (st2 := [vi 0, vr (some w)]) rfl ?_
        refine R_putI rfl t0 ?_
        show WP T N _ _ _ _ (si h w 11 0) _
        generalize e_38 : si h w 11 0 = h_37
        replace k := k h_37 e_38.symm
        refine R_ps 1 (pc2 := 60) (L2 := [some (vr (some w)), some (vi x1), some (vi (gi h w 11)), none]) (st2 := [vr (some w)]) rfl ?_
        refine R_getZ rfl t0 ?_
        refine R_if0 rfl (fun c_40 => ?_) (fun c_40 => ?_)
        · have k := k.1 c_40
          refine R_ps 2 (pc2 := 82) (L2 := [some (vr (some w)), some (vi x1), some (vi (gi h w 11)), none]) (st2 := [vi (gi h w 11), vr (some w)]) rfl ?_
          refine R_putI rfl t0 ?_
          show WP T N _ _ _ _ (si h_37 w 11 (gi h w 11)) _
          generalize e_43 : si h_37 w 11 (gi h w 11) = h_42
          replace k := k h_42 e_43.symm
          refine R_ps 2 (pc2 := 87) (L2 := [some (vr (some w)), some (vi x1), some (vi (gi h w 11)), none]) (st2 := [vi 0, vr (some w)]) rfl ?_
          refine R_putI rfl t0 ?_
          show WP T N _ _ _ _ (si h_42 w 24 0) _
          generalize e_46 : si h_42 w 24 0 = h_45
          replace k := k h_45 e_46.symm
          refine R_ps 1 (pc2 := 91) (L2 := [some (vr (some w)), some (vi x1), some (vi (gi h w 11)), none]) (st2 := [vr (some w)]) rfl ?_
          refine R_getR rfl t0 ?_
          refine R_ps 1 (pc2 := 95) (L2 := [some (vr (some w)), some (vi x1), some (vi (gi h w 11)), none]) (st2 := [vr (some w), vr (gr h_45 w 1)]) rfl ?_
          refine R_getR rfl t0 ?_
          refine R_cV (as := [vr (gr h_45 w 1), vr (gr h_45 w 3)]) rfl rfl ⟨Nat.le_of_ble_eq_true rfl, Nat.le_of_ble_eq_true rfl, rfl, (Or.inl rfl)⟩ rfl rfl k (fun h_50 k => ?_)
          refine R_ps 2 (pc2 := 103) (L2 := [some (vr (some w)), some (vi x1), some (vi (gi h w 11)), some (vi 0)]) (st2 := []) rfl ?_
          exact R_drop k (LE_of (L := [some (vr (some w)), some (vi x1), none, some (vi 0)]) (L2 := [some (vr (some w)), some (vi x1), some (vi (gi h w 11)), some (vi 0)]) ⟨rfl, rfl, rfl, trivial⟩)
        · have k := k.2 c_40
          refine R_ps 2 (pc2 := 68) (L2 := [some (vr (some w)), some (vi x1), some (vi (gi h w 11)), none]) (st2 := [vr (some w), vr (some w)]) rfl ?_
          refine R_getI rfl t0 ?_
          refine R_putI rfl t0 ?_
          show WP T N _ _ _ _ (si h_37 w 8 (gi h_37 w 24)) _
          generalize e_55 : si h_37 w 8 (gi h_37 w 24) = h_54
          replace k := k h_54 e_55.symm
          refine R_ps 2 (pc2 := 76) (L2 := [some (vr (some w)), some (vi x1), some (vi (gi h w 11)), none]) (st2 := [vi 1, vr (some w)]) rfl ?_
          refine R_cI (as := [vr (some w), vi 1]) rfl rfl ⟨Nat.le_of_ble_eq_true rfl, Nat.le_of_ble_eq_true rfl, rfl, (Or.inr ⟨_, rfl, t0⟩)⟩ rfl rfl k (fun x_58 h_57 k => ?_)
          exact R_iret rfl rfl ⟨_, rfl, k⟩
      · have k := k.1 (i32_lt c_34)
        refine R_ps 1 (pc2 := 40) (L2 := [some (vr (some w)), some (vi x1), none, none]) (st2 := [vr (some w)]) rfl ?_
        refine R_cV (as := [vr (some w)]) rfl rfl ⟨Nat.le_of_ble_eq_true rfl, Nat.le_of_ble_eq_true rfl, rfl, (Or.inr ⟨_, rfl, t0⟩)⟩ rfl rfl k (fun h_61 k => ?_)
        refine R_ps 2 (pc2 := 17) (L2 := [some (vr (some w)), some (vi (x1 + 1)), none, none]) (st2 := []) rfl ?_
        exact k
theorem m247_103 {T N : Nat → Nat} {h : PH} {w : Nat} {x1 : Int32} {x3 : Int32} {K : Int32 → PH → Prop} (t0 : T w = 12) (k : (((x3 < x1 → ((((gi h w 0) = 0 → (CV T N 245 [vr (some w)] h (fun h_85 => (CV T N 246 [vr (some w)] h_85 (fun h_88 => (WI T N 247 103 [some (vr (some w)), some (vi x1), none, some (vi (x3 + 1))] [] h_88 K)))))) ∧ (¬ ((gi h w 0) = 0) → (∀ h_45, h_45 = si h w 11 0 → (((gi h_45 w 0) = 0 → (CV T N 161 [vr (gr h_45 w 1), vr (gr h_45 w 4)] h_45 (fun h_67 => (CV T N 161 [vr (gr h_67 w 3), vr (gr h_67 w 1)] h_67 (fun h_72 => (CV T N 160 [vr (some w)] h_72 (fun h_76 => (CV T N 161 [vr (gr h_76 w 4), vr (gr h_76 w 1)] h_76 (fun h_81 => (K x1 h_81)))))))))) ∧ (¬ ((gi h_45 w 0) = 0) → (CV T N 161 [vr (gr h_45 w 1), vr (gr h_45 w 4)] h_45 (fun h_52 => (CV T N 161 [vr (gr h_52 w 3), vr (gr h_52 w 1)] h_52 (fun h_57 => (CI T N 157 [vr (some w), vi 2] h_57 (fun x_62 h_61 => (K x_62 h_61)))))))))))))) ∧ (¬ (x3 < x1) → (∀ h_3, h_3 = si h w 11 0 → (((gi h_3 w 0) = 0 → (CV T N 161 [vr (gr h_3 w 1), vr (gr h_3 w 4)] h_3 (fun h_25 => (CV T N 161 [vr (gr h_25 w 3), vr (gr h_25 w 1)] h_25 (fun h_30 => (CV T N 160 [vr (some w)] h_30 (fun h_34 => (CV T N 161 [vr (gr h_34 w 4), vr (gr h_34 w 1)] h_34 (fun h_39 => (K x1 h_39)))))))))) ∧ (¬ ((gi h_3 w 0) = 0) → (CV T N 161 [vr (gr h_3 w 1), vr (gr h_3 w 4)] h_3 (fun h_10 => (CV T N 161 [vr (gr h_10 w 3), vr (gr h_10 w 1)] h_10 (fun h_15 => (CI T N 157 [vr (some w), vi 2] h_15 (fun x_20 h_19 => (K x_20 h_19)))))))))))))) : WI T N 247 103 [some (vr (some w)), some (vi x1), none, some (vi x3)] [] h K := by
  show WP T N 247 103 [some (vr (some w)), some (vi x1), none, some (vi x3)] [] h _
  refine R_ps 2 (pc2 := 105) (L2 := [some (vr (some w)), some (vi x1), none, some (vi x3)]) (st2 := [vi x1, vi x3]) rfl ?_
  refine R_if rfl (fun c_1 => ?_) (fun c_1 => ?_)
  · have k := k.2 (i32_nlt c_1)
    refine R_ps 2 (pc2 := 131) (L2 := [some (vr (some w)), some (vi x1), none, some (vi x3)]) (st2 := [vi 0, vr (some w)]) rfl ?_
    refine R_putI rfl t0 ?_
    show WP T N _ _ _ _ (si h w 11 0) _
    generalize e_4 : si h w 11 0 = h_3
    replace k := k h_3 e_4.symm
    refine R_ps 1 (pc2 := 135) (L2 := [some (vr (some w)), some (vi x1), none, some (vi x3)]) (st2 := [vr (some w)]) rfl ?_
    refine R_getI rfl t0 ?_
    refine R_if0 rfl (fun c_6 => ?_) (fun c_6 => ?_)
    · have k := k.2 c_6
      refine R_ps 3 (pc2 := 148) (L2 := [some (vr (some w)), some (vi x1), none, some (vi 0)]) (st2 := [vr (some w)]) rfl ?_
      refine R_getR rfl t0 ?_
      refine R_ps 1 (pc2 := 152) (L2 := [some (vr (some w)), some (vi x1), none, some (vi 0)]) (st2 := [vr (some w), vr (gr h_3 w 1)]) rfl ?_
      refine R_getR rfl t0 ?_
      refine R_cV (as := [vr (gr h_3 w 1), vr (gr h_3 w 4)]) rfl rfl ⟨Nat.le_of_ble_eq_true rfl, Nat.le_of_ble_eq_true rfl, rfl, (Or.inl rfl)⟩ rfl rfl k (fun h_10 k => ?_)
      refine R_ps 1 (pc2 := 159) (L2 := [some (vr (some w)), some (vi x1), none, some (vi 0)]) (st2 := [vr (some w)]) rfl ?_
      refine R_getR rfl t0 ?_
      refine R_ps 1 (pc2 := 163) (L2 := [some (vr (some w)), some (vi x1), none, some (vi 0)]) (st2 := [vr (some w), vr (gr h_10 w 3)]) rfl ?_
      refine R_getR rfl t0 ?_
      refine R_cV (as := [vr (gr h_10 w 3), vr (gr h_10 w 1)]) rfl rfl ⟨Nat.le_of_ble_eq_true rfl, Nat.le_of_ble_eq_true rfl, rfl, (Or.inl rfl)⟩ rfl rfl k (fun h_15 k => ?_)
      refine R_ps 1 (pc2 := 170) (L2 := [some (vr (some w)), some (vi x1), none, some (vi 0)]) (st2 := [vi 0]) rfl ?_
      refine R_if0 rfl (fun c_17 => absurd (show ¬ (0 : Int32) = (0 : Int32) from c_17) (by decide)) (fun _ => ?_)
      refine R_ps 2 (pc2 := 175) (L2 := [some (vr (some w)), some (vi x1), none, some (vi 0)]) (st2 := [vi 2, vr (some w)]) rfl ?_
      refine R_cI (as := [vr (some w), vi 2]) rfl rfl ⟨Nat.le_of_ble_eq_true rfl, Nat.le_of_ble_eq_true rfl, rfl, (Or.inr ⟨_, rfl, t0⟩)⟩ rfl rfl k (fun x_20 h_19 k => ?_)
      exact R_iret rfl rfl ⟨_, rfl, k⟩
    · have k := k.1 (Classical.not_not.mp c_6)
      refine R_ps 4 (pc2 := 148) (L2 := [some (vr (some w)), some (vi x1), none, some (vi 1)]) (st2 := [vr (some w)]) rfl ?_
      refine R_getR rfl t0 ?_
      refine R_ps 1 (pc2 := 152) (L2 := [some (vr (some w)), some (vi x1), none, some (vi 1)]) (st2 := [vr (some w), vr (gr h_3 w 1)]) rfl ?_
      refine R_getR rfl t0 ?_
      refine R_cV (as := [vr (gr h_3 w 1), vr (gr h_3 w 4)]) rfl rfl ⟨Nat.le_of_ble_eq_true rfl, Nat.le_of_ble_eq_true rfl, rfl, (Or.inl rfl)⟩ rfl rfl k (fun h_25 k => ?_)
      refine R_ps 1 (pc2 := 159) (L2 := [some (vr (some w)), some (vi x1), none, some (vi 1)]) (st2 := [vr (some w)]) rfl ?_
      refine R_getR rfl t0 ?_
      refine R_ps 1 (pc2 := 163) (L2 := [some (vr (some w)), some (vi x1), none, some (vi 1)]) (st2 := [vr (some w), vr (gr h_25 w 3)]) rfl ?_
      refine R_getR rfl t0 ?_
      refine R_cV (as := [vr (gr h_25 w 3), vr (gr h_25 w 1)]) rfl rfl ⟨Nat.le_of_ble_eq_true rfl, Nat.le_of_ble_eq_true rfl, rfl, (Or.inl rfl)⟩ rfl rfl k (fun h_30 k => ?_)
      refine R_ps 1 (pc2 := 170) (L2 := [some (vr (some w)), some (vi x1), none, some (vi 1)]) (st2 := [vi 1]) rfl ?_
      refine R_if0 rfl (fun _ => ?_) (fun c_32 => absurd (show ¬ (1 : Int32) = (0 : Int32) by decide) c_32)
      refine R_ps 1 (pc2 := 180) (L2 := [some (vr (some w)), some (vi x1), none, some (vi 1)]) (st2 := [vr (some w)]) rfl ?_
      refine R_cV (as := [vr (some w)]) rfl rfl ⟨Nat.le_of_ble_eq_true rfl, Nat.le_of_ble_eq_true rfl, rfl, (Or.inr ⟨_, rfl, t0⟩)⟩ rfl rfl k (fun h_34 k => ?_)
      refine R_ps 1 (pc2 := 184) (L2 := [some (vr (some w)), some (vi x1), none, some (vi 1)]) (st2 := [vr (some w)]) rfl ?_
      refine R_getR rfl t0 ?_
      refine R_ps 1 (pc2 := 188) (L2 := [some (vr (some w)), some (vi x1), none, some (vi 1)]) (st2 := [vr (some w), vr (gr h_34 w 4)]) rfl ?_
      refine R_getR rfl t0 ?_
      refine R_cV (as := [vr (gr h_34 w 4), vr (gr h_34 w 1)]) rfl rfl ⟨Nat.le_of_ble_eq_true rfl, Nat.le_of_ble_eq_true rfl, rfl, (Or.inl rfl)⟩ rfl rfl k (fun h_39 k => ?_)
      refine R_ps 1 (pc2 := 195) (L2 := [some (vr (some w)), some (vi x1), none, some (vi 1)]) (st2 := [vi x1]) rfl ?_
      exact R_iret rfl rfl ⟨_, rfl, k⟩
  · have k := k.1 (i32_lt c_1)
    refine R_ps 1 (pc2 := 109) (L2 := [some (vr (some w)), some (vi x1), none, some (vi x3)]) (st2 := [vr (some w)]) rfl ?_
    refine R_getI rfl t0 ?_
    refine R_if0 rfl (fun c_43 => ?_) (fun c_43 => ?_)
    · have k := k.2 c_43
      refine R_ps 2 (pc2 := 131) (L2 := [some (vr (some w)), some (vi x1), none, some (vi x3)]) (st2 := [vi 0, vr (some w)]) rfl ?_
      refine R_putI rfl t0 ?_
      show WP T N _ _ _ _ (si h w 11 0) _
      generalize e_46 : si h w 11 0 = h_45
      replace k := k h_45 e_46.symm
      refine R_ps 1 (pc2 := 135) (L2 := [some (vr (some w)), some (vi x1), none, some (vi x3)]) (st2 := [vr (some w)]) rfl ?_
      refine R_getI rfl t0 ?_
      refine R_if0 rfl (fun c_48 => ?_) (fun c_48 => ?_)
      · have k := k.2 c_48
        refine R_ps 3 (pc2 := 148) (L2 := [some (vr (some w)), some (vi x1), none, some (vi 0)]) (st2 := [vr (some w)]) rfl ?_
        refine R_getR rfl t0 ?_
        refine R_ps 1 (pc2 := 152) (L2 := [some (vr (some w)), some (vi x1), none, some (vi 0)]) (st2 := [vr (some w), vr (gr h_45 w 1)]) rfl ?_
        refine R_getR rfl t0 ?_
        refine R_cV (as := [vr (gr h_45 w 1), vr (gr h_45 w 4)]) rfl rfl ⟨Nat.le_of_ble_eq_true rfl, Nat.le_of_ble_eq_true rfl, rfl, (Or.inl rfl)⟩ rfl rfl k (fun h_52 k => ?_)
        refine R_ps 1 (pc2 := 159) (L2 := [some (vr (some w)), some (vi x1), none, some (vi 0)]) (st2 := [vr (some w)]) rfl ?_
        refine R_getR rfl t0 ?_
        refine R_ps 1 (pc2 := 163) (L2 := [some (vr (some w)), some (vi x1), none, some (vi 0)]) (st2 := [vr (some w), vr (gr h_52 w 3)]) rfl ?_
        refine R_getR rfl t0 ?_
        refine R_cV (as := [vr (gr h_52 w 3), vr (gr h_52 w 1)]) rfl rfl ⟨Nat.le_of_ble_eq_true rfl, Nat.le_of_ble_eq_true rfl, rfl, (Or.inl rfl)⟩ rfl rfl k (fun h_57 k => ?_)
        refine R_ps 1 (pc2 := 170) (L2 := [some (vr (some w)), some (vi x1), none, some (vi 0)]) (st2 := [vi 0]) rfl ?_
        refine R_if0 rfl (fun c_59 => absurd (show ¬ (0 : Int32) = (0 : Int32) from c_59) (by decide)) (fun _ => ?_)
        refine R_ps 2 (pc2 := 175) (L2 := [some (vr (some w)), some (vi x1), none, some (vi 0)]) (st2 := [vi 2, vr (some w)]) rfl ?_
        refine R_cI (as := [vr (some w), vi 2]) rfl rfl ⟨Nat.le_of_ble_eq_true rfl, Nat.le_of_ble_eq_true rfl, rfl, (Or.inr ⟨_, rfl, t0⟩)⟩ rfl rfl k (fun x_62 h_61 k => ?_)
        exact R_iret rfl rfl ⟨_, rfl, k⟩
      · have k := k.1 (Classical.not_not.mp c_48)
        refine R_ps 4 (pc2 := 148) (L2 := [some (vr (some w)), some (vi x1), none, some (vi 1)]) (st2 := [vr (some w)]) rfl ?_
        refine R_getR rfl t0 ?_
        refine R_ps 1 (pc2 := 152) (L2 := [some (vr (some w)), some (vi x1), none, some (vi 1)]) (st2 := [vr (some w), vr (gr h_45 w 1)]) rfl ?_
        refine R_getR rfl t0 ?_
        refine R_cV (as := [vr (gr h_45 w 1), vr (gr h_45 w 4)]) rfl rfl ⟨Nat.le_of_ble_eq_true rfl, Nat.le_of_ble_eq_true rfl, rfl, (Or.inl rfl)⟩ rfl rfl k (fun h_67 k => ?_)
        refine R_ps 1 (pc2 := 159) (L2 := [some (vr (some w)), some (vi x1), none, some (vi 1)]) (st2 := [vr (some w)]) rfl ?_
        refine R_getR rfl t0 ?_
        refine R_ps 1 (pc2 := 163) (L2 := [some (vr (some w)), some (vi x1), none, some (vi 1)]) (st2 := [vr (some w), vr (gr h_67 w 3)]) rfl ?_
        refine R_getR rfl t0 ?_
        refine R_cV (as := [vr (gr h_67 w 3), vr (gr h_67 w 1)]) rfl rfl ⟨Nat.le_of_ble_eq_true rfl, Nat.le_of_ble_eq_true rfl, rfl, (Or.inl rfl)⟩ rfl rfl k (fun h_72 k => ?_)
        refine R_ps 1 (pc2 := 170) (L2 := [some (vr (some w)), some (vi x1), none, some (vi 1)]) (st2 := [vi 1]) rfl ?_
        refine R_if0 rfl (fun _ => ?_) (fun c_74 => absurd (show ¬ (1 : Int32) = (0 : Int32) by decide) c_74)
        refine R_ps 1 (pc2 := 180) (L2 := [some (vr (some w)), some (vi x1), none, some (vi 1)]) (st2 := [vr (some w)]) rfl ?_
        refine R_cV (as := [vr (some w)]) rfl rfl ⟨Nat.le_of_ble_eq_true rfl, Nat.le_of_ble_eq_true rfl, rfl, (Or.inr ⟨_, rfl, t0⟩)⟩ rfl rfl k (fun h_76 k => ?_)
        refine R_ps 1 (pc2 := 184) (L2 := [some (vr (some w)), some (vi x1), none, some (vi 1)]) (st2 := [vr (some w)]) rfl ?_
        refine R_getR rfl t0 ?_
        refine R_ps 1 (pc2 := 188) (L2 := [some (vr (some w)), some (vi x1), none, some (vi 1)]) (st2 := [vr (some w), vr (gr h_76 w 4)]) rfl ?_
        refine R_getR rfl t0 ?_
        refine R_cV (as := [vr (gr h_76 w 4), vr (gr h_76 w 1)]) rfl rfl ⟨Nat.le_of_ble_eq_true rfl, Nat.le_of_ble_eq_true rfl, rfl, (Or.inl rfl)⟩ rfl rfl k (fun h_81 k => ?_)
        refine R_ps 1 (pc2 := 195) (L2 := [some (vr (some w)), some (vi x1), none, some (vi 1)]) (st2 := [vi x1]) rfl ?_
        exact R_iret rfl rfl ⟨_, rfl, k⟩
    · have k := k.1 (Classical.not_not.mp c_43)
      refine R_ps 1 (pc2 := 116) (L2 := [some (vr (some w)), some (vi x1), none, some (vi x3)]) (st2 := [vr (some w)]) rfl ?_
      refine R_cV (as := [vr (some w)]) rfl rfl ⟨Nat.le_of_ble_eq_true rfl, Nat.le_of_ble_eq_true rfl, rfl, (Or.inr ⟨_, rfl, t0⟩)⟩ rfl rfl k (fun h_85 k => ?_)
      refine R_ps 1 (pc2 := 120) (L2 := [some (vr (some w)), some (vi x1), none, some (vi x3)]) (st2 := [vr (some w)]) rfl ?_
      refine R_cV (as := [vr (some w)]) rfl rfl ⟨Nat.le_of_ble_eq_true rfl, Nat.le_of_ble_eq_true rfl, rfl, (Or.inr ⟨_, rfl, t0⟩)⟩ rfl rfl k (fun h_88 k => ?_)
      refine R_ps 2 (pc2 := 103) (L2 := [some (vr (some w)), some (vi x1), none, some (vi (x3 + 1))]) (st2 := []) rfl ?_
      exact k
/-- DroneCorridorsModel.errorPosition -/
theorem m248 {T N : Nat → Nat} {h : PH} {w : Nat} {K : Int32 → PH → Prop} (t0 : T w = 12) (k : ((((gi h w 8) < 0 → (∀ h_12, h_12 = si h w 0 1 → (((gi h_12 w 0) = 0 → (K (gi h_12 w 8) h_12)) ∧ (¬ ((gi h_12 w 0) = 0) → (K 0 h_12))))) ∧ (¬ ((gi h w 8) < 0) → (∀ h_4, h_4 = si h w 0 0 → (((gi h_4 w 0) = 0 → (K (gi h_4 w 8) h_4)) ∧ (¬ ((gi h_4 w 0) = 0) → (K 0 h_4)))))))) : CI T N 248 [vr (some w)] h K := by
  show WP T N 248 0 [some (vr (some w))] [] h _
  refine R_ps 2 (pc2 := 2) (L2 := [some (vr (some w))]) (st2 := [vr (some w), vr (some w)]) rfl ?_
  refine R_getI rfl t0 ?_
  refine R_if0 rfl (fun c_2 => ?_) (fun c_2 => ?_)
  · have k := k.2 (i32_nlt c_2)
    refine R_ps 1 (pc2 := 13) (L2 := [some (vr (some w))]) (st2 := [vi 0, vr (some w)]) rfl ?_
    refine R_putI rfl t0 ?_
    show WP T N _ _ _ _ (si h w 0 0) _
    generalize e_5 : si h w 0 0 = h_4
    replace k := k h_4 e_5.symm
    refine R_ps 1 (pc2 := 17) (L2 := [some (vr (some w))]) (st2 := [vr (some w)]) rfl ?_
    refine R_getI rfl t0 ?_
    refine R_if0 rfl (fun c_7 => ?_) (fun c_7 => ?_)
    · have k := k.2 c_7
      refine R_ps 1 (pc2 := 31) (L2 := [some (vr (some w))]) (st2 := [vi 0]) rfl ?_
      exact R_iret rfl rfl ⟨_, rfl, k⟩
    · have k := k.1 (Classical.not_not.mp c_7)
      refine R_ps 1 (pc2 := 24) (L2 := [some (vr (some w))]) (st2 := [vr (some w)]) rfl ?_
      refine R_getI rfl t0 ?_
      refine R_ps 1 (pc2 := 31) (L2 := [some (vr (some w))]) (st2 := [vi (gi h_4 w 8)]) rfl ?_
      exact R_iret rfl rfl ⟨_, rfl, k⟩
  · have k := k.1 (i32_lt c_2)
    refine R_ps 2 (pc2 := 13) (L2 := [some (vr (some w))]) (st2 := [vi 1, vr (some w)]) rfl ?_
    refine R_putI rfl t0 ?_
    show WP T N _ _ _ _ (si h w 0 1) _
    generalize e_13 : si h w 0 1 = h_12
    replace k := k h_12 e_13.symm
    refine R_ps 1 (pc2 := 17) (L2 := [some (vr (some w))]) (st2 := [vr (some w)]) rfl ?_
    refine R_getI rfl t0 ?_
    refine R_if0 rfl (fun c_15 => ?_) (fun c_15 => ?_)
    · have k := k.2 c_15
      refine R_ps 1 (pc2 := 31) (L2 := [some (vr (some w))]) (st2 := [vi 0]) rfl ?_
      exact R_iret rfl rfl ⟨_, rfl, k⟩
    · have k := k.1 (Classical.not_not.mp c_15)
      refine R_ps 1 (pc2 := 24) (L2 := [some (vr (some w))]) (st2 := [vr (some w)]) rfl ?_
      refine R_getI rfl t0 ?_
      refine R_ps 1 (pc2 := 31) (L2 := [some (vr (some w))]) (st2 := [vi (gi h_12 w 8)]) rfl ?_
      exact R_iret rfl rfl ⟨_, rfl, k⟩
/-- DroneCorridorsModel.describe -/
theorem m249 {T N : Nat → Nat} {h : PH} {w : Nat} {x1 : Int32} {x2 : Int32} {K : Int32 → PH → Prop} (t0 : T w = 12) (k : (CI T N 163 [vr (some w), vi x1] h (fun x_3 h_2 => (((x_3 = 0 → (∀ h_58, h_58 = si h_2 w 0 1 → ((0 < (gi h_58 w 0) → (K 0 h_58)) ∧ (¬ (0 < (gi h_58 w 0)) → (((x2 = (-1) → (K 7 h_58)) ∧ (¬ (x2 = (-1)) → ((x2 = 0 → (K 99 h_58)) ∧ (¬ (x2 = 0) → ((x2 = 1 → (CI T N 165 [vr (some w), vi x1, vi 0] h_58 (fun x_67 h_66 => (K (48 + x_67) h_66)))) ∧ (¬ (x2 = 1) → ((x2 = 2 → (K 45 h_58)) ∧ (¬ (x2 = 2) → ((x2 = 3 → (CI T N 165 [vr (some w), vi x1, vi 1] h_58 (fun x_72 h_71 => (K (48 + x_72) h_71)))) ∧ (¬ (x2 = 3) → ((x2 = 4 → (K 42 h_58)) ∧ (¬ (x2 = 4) → ((x2 = 5 → (CI T N 166 [vr (some w), vi x1] h_58 (fun x_77 h_76 => (K (48 + x_77) h_76)))) ∧ (¬ (x2 = 5) → (K 59 h_58)))))))))))))))))))) ∧ (¬ (x_3 = 0) → (CI T N 158 [vi x2, vi (-1), vi 6] h_2 (fun x_7 h_6 => (((x_7 = 0 → (∀ h_34, h_34 = si h_6 w 0 2 → ((0 < (gi h_34 w 0) → (K 0 h_34)) ∧ (¬ (0 < (gi h_34 w 0)) → (((x2 = (-1) → (K 7 h_34)) ∧ (¬ (x2 = (-1)) → ((x2 = 0 → (K 99 h_34)) ∧ (¬ (x2 = 0) → ((x2 = 1 → (CI T N 165 [vr (some w), vi x1, vi 0] h_34 (fun x_43 h_42 => (K (48 + x_43) h_42)))) ∧ (¬ (x2 = 1) → ((x2 = 2 → (K 45 h_34)) ∧ (¬ (x2 = 2) → ((x2 = 3 → (CI T N 165 [vr (some w), vi x1, vi 1] h_34 (fun x_48 h_47 => (K (48 + x_48) h_47)))) ∧ (¬ (x2 = 3) → ((x2 = 4 → (K 42 h_34)) ∧ (¬ (x2 = 4) → ((x2 = 5 → (CI T N 166 [vr (some w), vi x1] h_34 (fun x_53 h_52 => (K (48 + x_53) h_52)))) ∧ (¬ (x2 = 5) → (K 59 h_34)))))))))))))))))))) ∧ (¬ (x_7 = 0) → (∀ h_10, h_10 = si h_6 w 0 0 → ((0 < (gi h_10 w 0) → (K 0 h_10)) ∧ (¬ (0 < (gi h_10 w 0)) → (((x2 = (-1) → (K 7 h_10)) ∧ (¬ (x2 = (-1)) → ((x2 = 0 → (K 99 h_10)) ∧ (¬ (x2 = 0) → ((x2 = 1 → (CI T N 165 [vr (some w), vi x1, vi 0] h_10 (fun x_19 h_18 => (K (48 + x_19) h_18)))) ∧ (¬ (x2 = 1) → ((x2 = 2 → (K 45 h_10)) ∧ (¬ (x2 = 2) → ((x2 = 3 → (CI T N 165 [vr (some w), vi x1, vi 1] h_10 (fun x_24 h_23 => (K (48 + x_24) h_23)))) ∧ (¬ (x2 = 3) → ((x2 = 4 → (K 42 h_10)) ∧ (¬ (x2 = 4) → ((x2 = 5 → (CI T N 166 [vr (some w), vi x1] h_10 (fun x_29 h_28 => (K (48 + x_29) h_28)))) ∧ (¬ (x2 = 5) → (K 59 h_10)))))))))))))))))))))))))))))) : CI T N 249 [vr (some w), vi x1, vi x2] h K := by
  show WP T N 249 0 [some (vr (some w)), some (vi x1), some (vi x2)] [] h _
  refine R_ps 3 (pc2 := 3) (L2 := [some (vr (some w)), some (vi x1), some (vi x2)]) (st2 := [vi x1, vr (some w), vr (some w)]) rfl ?_
  refine R_cI (as := [vr (some w), vi x1]) rfl rfl ⟨Nat.le_of_ble_eq_true rfl, Nat.le_of_ble_eq_true rfl, rfl, (Or.inr ⟨_, rfl, t0⟩)⟩ rfl rfl k (fun x_3 h_2 k => ?_)
  refine R_if0 rfl (fun c_4 => ?_) (fun c_4 => ?_)
  · have k := k.2 c_4
    refine R_ps 3 (pc2 := 17) (L2 := [some (vr (some w)), some (vi x1), some (vi x2)]) (st2 := [vi 6, vi (-1), vi x2, vr (some w)]) rfl ?_
    refine R_cI (as := [vi x2, vi (-1), vi 6]) rfl rfl ⟨Nat.le_of_ble_eq_true rfl, Nat.le_of_ble_eq_true rfl, rfl, (Or.inl rfl)⟩ rfl rfl k (fun x_7 h_6 k => ?_)
    refine R_if0 rfl (fun c_8 => ?_) (fun c_8 => ?_)
    · have k := k.2 c_8
      refine R_ps 1 (pc2 := 28) (L2 := [some (vr (some w)), some (vi x1), some (vi x2)]) (st2 := [vi 0, vr (some w)]) rfl ?_
      refine R_putI rfl t0 ?_
      show WP T N _ _ _ _ (si h_6 w 0 0) _
      generalize e_11 : si h_6 w 0 0 = h_10
      replace k := k h_10 e_11.symm
      refine R_ps 1 (pc2 := 32) (L2 := [some (vr (some w)), some (vi x1), some (vi x2)]) (st2 := [vr (some w)]) rfl ?_
      refine R_getI rfl t0 ?_
      refine R_if0 rfl (fun c_13 => ?_) (fun c_13 => ?_)
      · have k := k.2 (i32_nlt c_13)
        refine R_ps 1 (pc2 := 41) (L2 := [some (vr (some w)), some (vi x1), some (vi x2)]) (st2 := [vi x2]) rfl ?_
        refine R_tsw rfl rfl ?_
        refine ⟨fun c_14 => ?_, fun c_14 => ?_⟩
        · have k := k.1 c_14
          show WP T N _ 84 _ _ _ _
          refine R_ps 1 (pc2 := 86) (L2 := [some (vr (some w)), some (vi x1), some (vi x2)]) (st2 := [vi 7]) rfl ?_
          exact R_iret rfl rfl ⟨_, rfl, k⟩
        replace k := k.2 c_14
        refine ⟨fun c_14 => ?_, fun c_14 => ?_⟩
        · have k := k.1 c_14
          show WP T N _ 87 _ _ _ _
          refine R_ps 1 (pc2 := 89) (L2 := [some (vr (some w)), some (vi x1), some (vi x2)]) (st2 := [vi 99]) rfl ?_
          exact R_iret rfl rfl ⟨_, rfl, k⟩
        replace k := k.2 c_14
        refine ⟨fun c_14 => ?_, fun c_14 => ?_⟩
        · have k := k.1 c_14
          show WP T N _ 90 _ _ _ _
          refine R_ps 4 (pc2 := 95) (L2 := [some (vr (some w)), some (vi x1), some (vi x2)]) (st2 := [vi 0, vi x1, vr (some w), vi 48]) rfl ?_
          refine R_cI (as := [vr (some w), vi x1, vi 0]) rfl rfl ⟨Nat.le_of_ble_eq_true rfl, Nat.le_of_ble_eq_true rfl, rfl, (Or.inr ⟨_, rfl, t0⟩)⟩ rfl rfl k (fun x_19 h_18 k => ?_)
          refine R_ps 1 (pc2 := 99) (L2 := [some (vr (some w)), some (vi x1), some (vi x2)]) (st2 := [vi (48 + x_19)]) rfl ?_
          exact R_iret rfl rfl ⟨_, rfl, k⟩
        replace k := k.2 c_14
        refine ⟨fun c_14 => ?_, fun c_14 => ?_⟩
        · have k := k.1 c_14
          show WP T N _ 100 _ _ _ _
          refine R_ps 1 (pc2 := 102) (L2 := [some (vr (some w)), some (vi x1), some (vi x2)]) (st2 := [vi 45]) rfl ?_
          exact R_iret rfl rfl ⟨_, rfl, k⟩
        replace k := k.2 c_14
        refine ⟨fun c_14 => ?_, fun c_14 => ?_⟩
        · have k := k.1 c_14
          show WP T N _ 103 _ _ _ _
          refine R_ps 4 (pc2 := 108) (L2 := [some (vr (some w)), some (vi x1), some (vi x2)]) (st2 := [vi 1, vi x1, vr (some w), vi 48]) rfl ?_
          refine R_cI (as := [vr (some w), vi x1, vi 1]) rfl rfl ⟨Nat.le_of_ble_eq_true rfl, Nat.le_of_ble_eq_true rfl, rfl, (Or.inr ⟨_, rfl, t0⟩)⟩ rfl rfl k (fun x_24 h_23 k => ?_)
          refine R_ps 1 (pc2 := 112) (L2 := [some (vr (some w)), some (vi x1), some (vi x2)]) (st2 := [vi (48 + x_24)]) rfl ?_
          exact R_iret rfl rfl ⟨_, rfl, k⟩
        replace k := k.2 c_14
        refine ⟨fun c_14 => ?_, fun c_14 => ?_⟩
        · have k := k.1 c_14
          show WP T N _ 113 _ _ _ _
          refine R_ps 1 (pc2 := 115) (L2 := [some (vr (some w)), some (vi x1), some (vi x2)]) (st2 := [vi 42]) rfl ?_
          exact R_iret rfl rfl ⟨_, rfl, k⟩
        replace k := k.2 c_14
        refine ⟨fun c_14 => ?_, fun c_14 => ?_⟩
        · have k := k.1 c_14
          show WP T N _ 116 _ _ _ _
          refine R_ps 3 (pc2 := 120) (L2 := [some (vr (some w)), some (vi x1), some (vi x2)]) (st2 := [vi x1, vr (some w), vi 48]) rfl ?_
          refine R_cI (as := [vr (some w), vi x1]) rfl rfl ⟨Nat.le_of_ble_eq_true rfl, Nat.le_of_ble_eq_true rfl, rfl, (Or.inr ⟨_, rfl, t0⟩)⟩ rfl rfl k (fun x_29 h_28 k => ?_)
          refine R_ps 1 (pc2 := 124) (L2 := [some (vr (some w)), some (vi x1), some (vi x2)]) (st2 := [vi (48 + x_29)]) rfl ?_
          exact R_iret rfl rfl ⟨_, rfl, k⟩
        replace k := k.2 c_14
        show WP T N _ 125 _ _ _ _
        refine R_ps 1 (pc2 := 127) (L2 := [some (vr (some w)), some (vi x1), some (vi x2)]) (st2 := [vi 59]) rfl ?_
        exact R_iret rfl rfl ⟨_, rfl, k⟩
      · have k := k.1 (i32_lt c_13)
        refine R_ps 1 (pc2 := 39) (L2 := [some (vr (some w)), some (vi x1), some (vi x2)]) (st2 := [vi 0]) rfl ?_
        exact R_iret rfl rfl ⟨_, rfl, k⟩
    · have k := k.1 (Classical.not_not.mp c_8)
      refine R_ps 2 (pc2 := 28) (L2 := [some (vr (some w)), some (vi x1), some (vi x2)]) (st2 := [vi 2, vr (some w)]) rfl ?_
      refine R_putI rfl t0 ?_
      show WP T N _ _ _ _ (si h_6 w 0 2) _
      generalize e_35 : si h_6 w 0 2 = h_34
      replace k := k h_34 e_35.symm
      refine R_ps 1 (pc2 := 32) (L2 := [some (vr (some w)), some (vi x1), some (vi x2)]) (st2 := [vr (some w)]) rfl ?_
      refine R_getI rfl t0 ?_
      refine R_if0 rfl (fun c_37 => ?_) (fun c_37 => ?_)
      · have k := k.2 (i32_nlt c_37)
        refine R_ps 1 (pc2 := 41) (L2 := [some (vr (some w)), some (vi x1), some (vi x2)]) (st2 := [vi x2]) rfl ?_
        refine R_tsw rfl rfl ?_
        refine ⟨fun c_38 => ?_, fun c_38 => ?_⟩
        · have k := k.1 c_38
          show WP T N _ 84 _ _ _ _
          refine R_ps 1 (pc2 := 86) (L2 := [some (vr (some w)), some (vi x1), some (vi x2)]) (st2 := [vi 7]) rfl ?_
          exact R_iret rfl rfl ⟨_, rfl, k⟩
        replace k := k.2 c_38
        refine ⟨fun c_38 => ?_, fun c_38 => ?_⟩
        · have k := k.1 c_38
          show WP T N _ 87 _ _ _ _
          refine R_ps 1 (pc2 := 89) (L2 := [some (vr (some w)), some (vi x1), some (vi x2)]) (st2 := [vi 99]) rfl ?_
          exact R_iret rfl rfl ⟨_, rfl, k⟩
        replace k := k.2 c_38
        refine ⟨fun c_38 => ?_, fun c_38 => ?_⟩
        · have k := k.1 c_38
          show WP T N _ 90 _ _ _ _
          refine R_ps 4 (pc2 := 95) (L2 := [some (vr (some w)), some (vi x1), some (vi x2)]) (st2 := [vi 0, vi x1, vr (some w), vi 48]) rfl ?_
          refine R_cI (as := [vr (some w), vi x1, vi 0]) rfl rfl ⟨Nat.le_of_ble_eq_true rfl, Nat.le_of_ble_eq_true rfl, rfl, (Or.inr ⟨_, rfl, t0⟩)⟩ rfl rfl k (fun x_43 h_42 k => ?_)
          refine R_ps 1 (pc2 := 99) (L2 := [some (vr (some w)), some (vi x1), some (vi x2)]) (st2 := [vi (48 + x_43)]) rfl ?_
          exact R_iret rfl rfl ⟨_, rfl, k⟩
        replace k := k.2 c_38
        refine ⟨fun c_38 => ?_, fun c_38 => ?_⟩
        · have k := k.1 c_38
          show WP T N _ 100 _ _ _ _
          refine R_ps 1 (pc2 := 102) (L2 := [some (vr (some w)), some (vi x1), some (vi x2)]) (st2 := [vi 45]) rfl ?_
          exact R_iret rfl rfl ⟨_, rfl, k⟩
        replace k := k.2 c_38
        refine ⟨fun c_38 => ?_, fun c_38 => ?_⟩
        · have k := k.1 c_38
          show WP T N _ 103 _ _ _ _
          refine R_ps 4 (pc2 := 108) (L2 := [some (vr (some w)), some (vi x1), some (vi x2)]) (st2 := [vi 1, vi x1, vr (some w), vi 48]) rfl ?_
          refine R_cI (as := [vr (some w), vi x1, vi 1]) rfl rfl ⟨Nat.le_of_ble_eq_true rfl, Nat.le_of_ble_eq_true rfl, rfl, (Or.inr ⟨_, rfl, t0⟩)⟩ rfl rfl k (fun x_48 h_47 k => ?_)
          refine R_ps 1 (pc2 := 112) (L2 := [some (vr (some w)), some (vi x1), some (vi x2)]) (st2 := [vi (48 + x_48)]) rfl ?_
          exact R_iret rfl rfl ⟨_, rfl, k⟩
        replace k := k.2 c_38
        refine ⟨fun c_38 => ?_, fun c_38 => ?_⟩
        · have k := k.1 c_38
          show WP T N _ 113 _ _ _ _
          refine R_ps 1 (pc2 := 115) (L2 := [some (vr (some w)), some (vi x1), some (vi x2)]) (st2 := [vi 42]) rfl ?_
          exact R_iret rfl rfl ⟨_, rfl, k⟩
        replace k := k.2 c_38
        refine ⟨fun c_38 => ?_, fun c_38 => ?_⟩
        · have k := k.1 c_38
          show WP T N _ 116 _ _ _ _
          refine R_ps 3 (pc2 := 120) (L2 := [some (vr (some w)), some (vi x1), some (vi x2)]) (st2 := [vi x1, vr (some w), vi 48]) rfl ?_
          refine R_cI (as := [vr (some w), vi x1]) rfl rfl ⟨Nat.le_of_ble_eq_true rfl, Nat.le_of_ble_eq_true rfl, rfl, (Or.inr ⟨_, rfl, t0⟩)⟩ rfl rfl k (fun x_53 h_52 k => ?_)
          refine R_ps 1 (pc2 := 124) (L2 := [some (vr (some w)), some (vi x1), some (vi x2)]) (st2 := [vi (48 + x_53)]) rfl ?_
          exact R_iret rfl rfl ⟨_, rfl, k⟩
        replace k := k.2 c_38
        show WP T N _ 125 _ _ _ _
        refine R_ps 1 (pc2 := 127) (L2 := [some (vr (some w)), some (vi x1), some (vi x2)]) (st2 := [vi 59]) rfl ?_
        exact R_iret rfl rfl ⟨_, rfl, k⟩
      · have k := k.1 (i32_lt c_37)
        refine R_ps 1 (pc2 := 39) (L2 := [some (vr (some w)), some (vi x1), some (vi x2)]) (st2 := [vi 0]) rfl ?_
        exact R_iret rfl rfl ⟨_, rfl, k⟩
  · have k := k.1 (Classical.not_not.mp c_4)
    refine R_ps 2 (pc2 := 28) (L2 := [some (vr (some w)), some (vi x1), some (vi x2)]) (st2 := [vi 1, vr (some w)]) rfl ?_
    refine R_putI rfl t0 ?_
    show WP T N _ _ _ _ (si h_2 w 0 1) _
    generalize e_59 : si h_2 w 0 1 = h_58
    replace k := k h_58 e_59.symm
    refine R_ps 1 (pc2 := 32) (L2 := [some (vr (some w)), some (vi x1), some (vi x2)]) (st2 := [vr (some w)]) rfl ?_
    refine R_getI rfl t0 ?_
    refine R_if0 rfl (fun c_61 => ?_) (fun c_61 => ?_)
    · have k := k.2 (i32_nlt c_61)
      refine R_ps 1 (pc2 := 41) (L2 := [some (vr (some w)), some (vi x1), some (vi x2)]) (st2 := [vi x2]) rfl ?_
      refine R_tsw rfl rfl ?_
      refine ⟨fun c_62 => ?_, fun c_62 => ?_⟩
      · have k := k.1 c_62
        show WP T N _ 84 _ _ _ _
        refine R_ps 1 (pc2 := 86) (L2 := [some (vr (some w)), some (vi x1), some (vi x2)]) (st2 := [vi 7]) rfl ?_
        exact R_iret rfl rfl ⟨_, rfl, k⟩
      replace k := k.2 c_62
      refine ⟨fun c_62 => ?_, fun c_62 => ?_⟩
      · have k := k.1 c_62
        show WP T N _ 87 _ _ _ _
        refine R_ps 1 (pc2 := 89) (L2 := [some (vr (some w)), some (vi x1), some (vi x2)]) (st2 := [vi 99]) rfl ?_
        exact R_iret rfl rfl ⟨_, rfl, k⟩
      replace k := k.2 c_62
      refine ⟨fun c_62 => ?_, fun c_62 => ?_⟩
      · have k := k.1 c_62
        show WP T N _ 90 _ _ _ _
        refine R_ps 4 (pc2 := 95) (L2 := [some (vr (some w)), some (vi x1), some (vi x2)]) (st2 := [vi 0, vi x1, vr (some w), vi 48]) rfl ?_
        refine R_cI (as := [vr (some w), vi x1, vi 0]) rfl rfl ⟨Nat.le_of_ble_eq_true rfl, Nat.le_of_ble_eq_true rfl, rfl, (Or.inr ⟨_, rfl, t0⟩)⟩ rfl rfl k (fun x_67 h_66 k => ?_)
        refine R_ps 1 (pc2 := 99) (L2 := [some (vr (some w)), some (vi x1), some (vi x2)]) (st2 := [vi (48 + x_67)]) rfl ?_
        exact R_iret rfl rfl ⟨_, rfl, k⟩
      replace k := k.2 c_62
      refine ⟨fun c_62 => ?_, fun c_62 => ?_⟩
      · have k := k.1 c_62
        show WP T N _ 100 _ _ _ _
        refine R_ps 1 (pc2 := 102) (L2 := [some (vr (some w)), some (vi x1), some (vi x2)]) (st2 := [vi 45]) rfl ?_
        exact R_iret rfl rfl ⟨_, rfl, k⟩
      replace k := k.2 c_62
      refine ⟨fun c_62 => ?_, fun c_62 => ?_⟩
      · have k := k.1 c_62
        show WP T N _ 103 _ _ _ _
        refine R_ps 4 (pc2 := 108) (L2 := [some (vr (some w)), some (vi x1), some (vi x2)]) (st2 := [vi 1, vi x1, vr (some w), vi 48]) rfl ?_
        refine R_cI (as := [vr (some w), vi x1, vi 1]) rfl rfl ⟨Nat.le_of_ble_eq_true rfl, Nat.le_of_ble_eq_true rfl, rfl, (Or.inr ⟨_, rfl, t0⟩)⟩ rfl rfl k (fun x_72 h_71 k => ?_)
        refine R_ps 1 (pc2 := 112) (L2 := [some (vr (some w)), some (vi x1), some (vi x2)]) (st2 := [vi (48 + x_72)]) rfl ?_
        exact R_iret rfl rfl ⟨_, rfl, k⟩
      replace k := k.2 c_62
      refine ⟨fun c_62 => ?_, fun c_62 => ?_⟩
      · have k := k.1 c_62
        show WP T N _ 113 _ _ _ _
        refine R_ps 1 (pc2 := 115) (L2 := [some (vr (some w)), some (vi x1), some (vi x2)]) (st2 := [vi 42]) rfl ?_
        exact R_iret rfl rfl ⟨_, rfl, k⟩
      replace k := k.2 c_62
      refine ⟨fun c_62 => ?_, fun c_62 => ?_⟩
      · have k := k.1 c_62
        show WP T N _ 116 _ _ _ _
        refine R_ps 3 (pc2 := 120) (L2 := [some (vr (some w)), some (vi x1), some (vi x2)]) (st2 := [vi x1, vr (some w), vi 48]) rfl ?_
        refine R_cI (as := [vr (some w), vi x1]) rfl rfl ⟨Nat.le_of_ble_eq_true rfl, Nat.le_of_ble_eq_true rfl, rfl, (Or.inr ⟨_, rfl, t0⟩)⟩ rfl rfl k (fun x_77 h_76 k => ?_)
        refine R_ps 1 (pc2 := 124) (L2 := [some (vr (some w)), some (vi x1), some (vi x2)]) (st2 := [vi (48 + x_77)]) rfl ?_
        exact R_iret rfl rfl ⟨_, rfl, k⟩
      replace k := k.2 c_62
      show WP T N _ 125 _ _ _ _
      refine R_ps 1 (pc2 := 127) (L2 := [some (vr (some w)), some (vi x1), some (vi x2)]) (st2 := [vi 59]) rfl ?_
      exact R_iret rfl rfl ⟨_, rfl, k⟩
    · have k := k.1 (i32_lt c_61)
      refine R_ps 1 (pc2 := 39) (L2 := [some (vr (some w)), some (vi x1), some (vi x2)]) (st2 := [vi 0]) rfl ?_
      exact R_iret rfl rfl ⟨_, rfl, k⟩
/-- DroneCorridorsModel.undo -/
theorem m250 {T N : Nat → Nat} {h : PH} {w : Nat} {K : Int32 → PH → Prop} (t0 : T w = 12) (k : ((((gi h w 6) = 0 → (∀ h_14, h_14 = si h w 0 1 → (((gi h_14 w 0) = 1 → (K 0 h_14)) ∧ (¬ ((gi h_14 w 0) = 1) → (∀ h_20, h_20 = si h_14 w 6 ((gi h_14 w 6) - 1) → WI T N 250 38 [some (vr (some w)), some (vi 0)] [] h_20 K))))) ∧ (¬ ((gi h w 6) = 0) → (∀ h_4, h_4 = si h w 0 0 → (((gi h_4 w 0) = 1 → (K 0 h_4)) ∧ (¬ ((gi h_4 w 0) = 1) → (∀ h_10, h_10 = si h_4 w 6 ((gi h_4 w 6) - 1) → WI T N 250 38 [some (vr (some w)), some (vi 0)] [] h_10 K)))))))) : CI T N 250 [vr (some w)] h K := by
  show WP T N 250 0 [some (vr (some w)), none] [] h _
  refine R_ps 2 (pc2 := 2) (L2 := [some (vr (some w)), none]) (st2 := [vr (some w), vr (some w)]) rfl ?_
  refine R_getI rfl t0 ?_
  refine R_if0 rfl (fun c_2 => ?_) (fun c_2 => ?_)
  · have k := k.2 c_2
    refine R_ps 1 (pc2 := 13) (L2 := [some (vr (some w)), none]) (st2 := [vi 0, vr (some w)]) rfl ?_
    refine R_putI rfl t0 ?_
    show WP T N _ _ _ _ (si h w 0 0) _
    generalize e_5 : si h w 0 0 = h_4
    replace k := k h_4 e_5.symm
    refine R_ps 1 (pc2 := 17) (L2 := [some (vr (some w)), none]) (st2 := [vr (some w)]) rfl ?_
    refine R_getI rfl t0 ?_
    refine R_ps 1 (pc2 := 21) (L2 := [some (vr (some w)), none]) (st2 := [vi 1, vi (gi h_4 w 0)]) rfl ?_
    refine R_if rfl (fun c_7 => ?_) (fun c_7 => ?_)
    · have k := k.2 c_7
      refine R_ps 2 (pc2 := 28) (L2 := [some (vr (some w)), none]) (st2 := [vr (some w), vr (some w)]) rfl ?_
      refine R_getI rfl t0 ?_
      refine R_ps 2 (pc2 := 33) (L2 := [some (vr (some w)), none]) (st2 := [vi ((gi h_4 w 6) - 1), vr (some w)]) rfl ?_
      refine R_putI rfl t0 ?_
      show WP T N _ _ _ _ (si h_4 w 6 ((gi h_4 w 6) - 1)) _
      generalize e_11 : si h_4 w 6 ((gi h_4 w 6) - 1) = h_10
      replace k := k h_10 e_11.symm
      refine R_ps 2 (pc2 := 38) (L2 := [some (vr (some w)), some (vi 0)]) (st2 := []) rfl ?_
      exact k
    · have k := k.1 (Classical.not_not.mp c_7)
      refine R_ps 1 (pc2 := 25) (L2 := [some (vr (some w)), none]) (st2 := [vi 0]) rfl ?_
      exact R_iret rfl rfl ⟨_, rfl, k⟩
  · have k := k.1 (Classical.not_not.mp c_2)
    refine R_ps 2 (pc2 := 13) (L2 := [some (vr (some w)), none]) (st2 := [vi 1, vr (some w)]) rfl ?_
    refine R_putI rfl t0 ?_
    show WP T N _ _ _ _ (si h w 0 1) _
    generalize e_15 : si h w 0 1 = h_14
    replace k := k h_14 e_15.symm
    refine R_ps 1 (pc2 := 17) (L2 := [some (vr (some w)), none]) (st2 := [vr (some w)]) rfl ?_
    refine R_getI rfl t0 ?_
    refine R_ps 1 (pc2 := 21) (L2 := [some (vr (some w)), none]) (st2 := [vi 1, vi (gi h_14 w 0)]) rfl ?_
    refine R_if rfl (fun c_17 => ?_) (fun c_17 => ?_)
    · have k := k.2 c_17
      refine R_ps 2 (pc2 := 28) (L2 := [some (vr (some w)), none]) (st2 := [vr (some w), vr (some w)]) rfl ?_
      refine R_getI rfl t0 ?_
      refine R_ps 2 (pc2 := 33) (L2 := [some (vr (some w)), none]) (st2 := [vi ((gi h_14 w 6) - 1), vr (some w)]) rfl ?_
      refine R_putI rfl t0 ?_
      show WP T N _ _ _ _ (si h_14 w 6 ((gi h_14 w 6) - 1)) _
      generalize e_21 : si h_14 w 6 ((gi h_14 w 6) - 1) = h_20
      replace k := k h_20 e_21.symm
      refine R_ps 2 (pc2 := 38) (L2 := [some (vr (some w)), some (vi 0)]) (st2 := []) rfl ?_
      exact k
    · have k := k.1 (Classical.not_not.mp c_17)
      refine R_ps 1 (pc2 := 25) (L2 := [some (vr (some w)), none]) (st2 := [vi 0]) rfl ?_
      exact R_iret rfl rfl ⟨_, rfl, k⟩
theorem m250_38 {T N : Nat → Nat} {h : PH} {w : Nat} {x1 : Int32} {K : Int32 → PH → Prop} (t0 : T w = 12) (k : (((x1 < 449 → (∃ a_8, (gr h w 5) = some a_8 ∧ T a_8 = 22 ∧ inb (((gi h w 6) * 449) + x1) (N a_8) ∧ ∃ a_13, (gr h w 1) = some a_13 ∧ T a_13 = 22 ∧ inb x1 (N a_13) ∧ ∀ h_15, h_15 = si h a_13 (Int32.toNatClampNeg x1) (gi h a_8 (Int32.toNatClampNeg (((gi h w 6) * 449) + x1))) → WI T N 250 38 [some (vr (some w)), some (vi (x1 + 1))] [] h_15 K)) ∧ (¬ (x1 < 449) → (K (gi h w 6) h))))) : WI T N 250 38 [some (vr (some w)), some (vi x1)] [] h K := by
  show WP T N 250 38 [some (vr (some w)), some (vi x1)] [] h _
  refine R_ps 2 (pc2 := 42) (L2 := [some (vr (some w)), some (vi x1)]) (st2 := [vi 449, vi x1]) rfl ?_
  refine R_if rfl (fun c_1 => ?_) (fun c_1 => ?_)
  · have k := k.2 (i32_nlt c_1)
    refine R_ps 1 (pc2 := 73) (L2 := [some (vr (some w)), some (vi x1)]) (st2 := [vr (some w)]) rfl ?_
    refine R_getI rfl t0 ?_
    exact R_iret rfl rfl ⟨_, rfl, k⟩
  · have k := k.1 (i32_lt c_1)
    refine R_ps 1 (pc2 := 46) (L2 := [some (vr (some w)), some (vi x1)]) (st2 := [vr (some w)]) rfl ?_
    refine R_getR rfl t0 ?_
    refine R_ps 2 (pc2 := 51) (L2 := [some (vr (some w)), some (vi x1)]) (st2 := [vr (some w), vi x1, vr (gr h w 1)]) rfl ?_
    refine R_getR rfl t0 ?_
    refine R_ps 1 (pc2 := 55) (L2 := [some (vr (some w)), some (vi x1)]) (st2 := [vr (some w), vr (gr h w 5), vi x1, vr (gr h w 1)]) rfl ?_
    refine R_getI rfl t0 ?_
    refine R_ps 4 (pc2 := 64) (L2 := [some (vr (some w)), some (vi x1)]) (st2 := [vi (((gi h w 6) * 449) + x1), vr (gr h w 5), vi x1, vr (gr h w 1)]) rfl ?_
    obtain ⟨a_8, e_9, k⟩ := k
    rw [e_9]
    obtain ⟨t_10, k⟩ := k
    obtain ⟨t_11, k⟩ := k
    refine R_iald rfl (Or.inl t_10) t_11 ?_
    obtain ⟨a_13, e_14, k⟩ := k
    rw [e_14]
    obtain ⟨t_17, k⟩ := k
    obtain ⟨t_18, k⟩ := k
    refine R_iast rfl t_17 t_18  ?_
    show WP T N _ _ _ _ (si h a_13 (Int32.toNatClampNeg x1) (gi h a_8 (Int32.toNatClampNeg (((gi h w 6) * 449) + x1)))) _
    generalize e_16 : si h a_13 (Int32.toNatClampNeg x1) (gi h a_8 (Int32.toNatClampNeg (((gi h w 6) * 449) + x1))) = h_15
    replace k := k h_15 e_16.symm
    refine R_ps 2 (pc2 := 38) (L2 := [some (vr (some w)), some (vi (x1 + 1))]) (st2 := []) rfl ?_
    exact k
/-- DroneCorridorsModel.save -/
theorem m251 {T N : Nat → Nat} {h : PH} {w : Nat} {K : Int32 → PH → Prop} (t0 : T w = 12) (k : (∀ h_2, h_2 = si h w 0 0 → CV T N 161 [vr (gr h_2 w 1), vr (gr h_2 w 2)] h_2 (fun h_7 => (∀ h_10, h_10 = si h_7 w 9 1 → ∃ a_14, (gr h_10 w 1) = some a_14 ∧ T a_14 = 22 ∧ inb 0 (N a_14) ∧ K (gi h_10 a_14 0) h_10)))) : CI T N 251 [vr (some w)] h K := by
  show WP T N 251 0 [some (vr (some w))] [] h _
  refine R_ps 2 (pc2 := 2) (L2 := [some (vr (some w))]) (st2 := [vi 0, vr (some w)]) rfl ?_
  refine R_putI rfl t0 ?_
  show WP T N _ _ _ _ (si h w 0 0) _
  generalize e_3 : si h w 0 0 = h_2
  replace k := k h_2 e_3.symm
  refine R_ps 1 (pc2 := 6) (L2 := [some (vr (some w))]) (st2 := [vr (some w)]) rfl ?_
  refine R_getR rfl t0 ?_
  refine R_ps 1 (pc2 := 10) (L2 := [some (vr (some w))]) (st2 := [vr (some w), vr (gr h_2 w 1)]) rfl ?_
  refine R_getR rfl t0 ?_
  refine R_cV (as := [vr (gr h_2 w 1), vr (gr h_2 w 2)]) rfl rfl ⟨Nat.le_of_ble_eq_true rfl, Nat.le_of_ble_eq_true rfl, rfl, (Or.inl rfl)⟩ rfl rfl k (fun h_7 k => ?_)
  refine R_ps 2 (pc2 := 18) (L2 := [some (vr (some w))]) (st2 := [vi 1, vr (some w)]) rfl ?_
  refine R_putZ rfl t0 (Or.inr rfl) ?_
  show WP T N _ _ _ _ (si h_7 w 9 1) _
  generalize e_11 : si h_7 w 9 1 = h_10
  replace k := k h_10 e_11.symm
  refine R_ps 1 (pc2 := 22) (L2 := [some (vr (some w))]) (st2 := [vr (some w)]) rfl ?_
  refine R_getR rfl t0 ?_
  refine R_ps 1 (pc2 := 26) (L2 := [some (vr (some w))]) (st2 := [vi 0, vr (gr h_10 w 1)]) rfl ?_
  obtain ⟨a_14, e_15, k⟩ := k
  rw [e_15]
  obtain ⟨t_16, k⟩ := k
  obtain ⟨t_17, k⟩ := k
  refine R_iald rfl (Or.inl t_16) t_17 ?_
  exact R_iret rfl rfl ⟨_, rfl, k⟩
/-- DroneCorridorsModel.restore -/
theorem m252 {T N : Nat → Nat} {h : PH} {w : Nat} {K : Int32 → PH → Prop} (t0 : T w = 12) (k : ((((gi h w 9) = 0 → (∀ h_4, h_4 = si h w 0 1 → (((gi h_4 w 9) = 0 → (K 0 h_4)) ∧ (¬ ((gi h_4 w 9) = 0) → (CV T N 161 [vr (gr h_4 w 2), vr (gr h_4 w 1)] h_4 (fun h_11 => (∀ h_14, h_14 = si h_11 w 6 0 → ∃ a_18, (gr h_14 w 1) = some a_18 ∧ T a_18 = 22 ∧ inb 0 (N a_18) ∧ K (gi h_14 a_18 0) h_14))))))) ∧ (¬ ((gi h w 9) = 0) → (∀ h_25, h_25 = si h w 0 0 → (((gi h_25 w 9) = 0 → (K 0 h_25)) ∧ (¬ ((gi h_25 w 9) = 0) → (CV T N 161 [vr (gr h_25 w 2), vr (gr h_25 w 1)] h_25 (fun h_32 => (∀ h_35, h_35 = si h_32 w 6 0 → ∃ a_39, (gr h_35 w 1) = some a_39 ∧ T a_39 = 22 ∧ inb 0 (N a_39) ∧ K (gi h_35 a_39 0) h_35)))))))))) : CI T N 252 [vr (some w)] h K := by
  show WP T N 252 0 [some (vr (some w))] [] h _
  refine R_ps 2 (pc2 := 2) (L2 := [some (vr (some w))]) (st2 := [vr (some w), vr (some w)]) rfl ?_
  refine R_getZ rfl t0 ?_
  refine R_if0 rfl (fun c_2 => ?_) (fun c_2 => ?_)
  · have k := k.1 c_2
    refine R_ps 1 (pc2 := 13) (L2 := [some (vr (some w))]) (st2 := [vi 1, vr (some w)]) rfl ?_
    refine R_putI rfl t0 ?_
    show WP T N _ _ _ _ (si h w 0 1) _
    generalize e_5 : si h w 0 1 = h_4
    replace k := k h_4 e_5.symm
    refine R_ps 1 (pc2 := 17) (L2 := [some (vr (some w))]) (st2 := [vr (some w)]) rfl ?_
    refine R_getZ rfl t0 ?_
    refine R_if0 rfl (fun c_7 => ?_) (fun c_7 => ?_)
    · have k := k.2 c_7
      refine R_ps 1 (pc2 := 26) (L2 := [some (vr (some w))]) (st2 := [vr (some w)]) rfl ?_
      refine R_getR rfl t0 ?_
      refine R_ps 1 (pc2 := 30) (L2 := [some (vr (some w))]) (st2 := [vr (some w), vr (gr h_4 w 2)]) rfl ?_
      refine R_getR rfl t0 ?_
      refine R_cV (as := [vr (gr h_4 w 2), vr (gr h_4 w 1)]) rfl rfl ⟨Nat.le_of_ble_eq_true rfl, Nat.le_of_ble_eq_true rfl, rfl, (Or.inl rfl)⟩ rfl rfl k (fun h_11 k => ?_)
      refine R_ps 2 (pc2 := 38) (L2 := [some (vr (some w))]) (st2 := [vi 0, vr (some w)]) rfl ?_
      refine R_putI rfl t0 ?_
      show WP T N _ _ _ _ (si h_11 w 6 0) _
      generalize e_15 : si h_11 w 6 0 = h_14
      replace k := k h_14 e_15.symm
      refine R_ps 1 (pc2 := 42) (L2 := [some (vr (some w))]) (st2 := [vr (some w)]) rfl ?_
      refine R_getR rfl t0 ?_
      refine R_ps 1 (pc2 := 46) (L2 := [some (vr (some w))]) (st2 := [vi 0, vr (gr h_14 w 1)]) rfl ?_
      obtain ⟨a_18, e_19, k⟩ := k
      rw [e_19]
      obtain ⟨t_20, k⟩ := k
      obtain ⟨t_21, k⟩ := k
      refine R_iald rfl (Or.inl t_20) t_21 ?_
      exact R_iret rfl rfl ⟨_, rfl, k⟩
    · have k := k.1 (Classical.not_not.mp c_7)
      refine R_ps 1 (pc2 := 24) (L2 := [some (vr (some w))]) (st2 := [vi 0]) rfl ?_
      exact R_iret rfl rfl ⟨_, rfl, k⟩
  · have k := k.2 c_2
    refine R_ps 2 (pc2 := 13) (L2 := [some (vr (some w))]) (st2 := [vi 0, vr (some w)]) rfl ?_
    refine R_putI rfl t0 ?_
    show WP T N _ _ _ _ (si h w 0 0) _
    generalize e_26 : si h w 0 0 = h_25
    replace k := k h_25 e_26.symm
    refine R_ps 1 (pc2 := 17) (L2 := [some (vr (some w))]) (st2 := [vr (some w)]) rfl ?_
    refine R_getZ rfl t0 ?_
    refine R_if0 rfl (fun c_28 => ?_) (fun c_28 => ?_)
    · have k := k.2 c_28
      refine R_ps 1 (pc2 := 26) (L2 := [some (vr (some w))]) (st2 := [vr (some w)]) rfl ?_
      refine R_getR rfl t0 ?_
      refine R_ps 1 (pc2 := 30) (L2 := [some (vr (some w))]) (st2 := [vr (some w), vr (gr h_25 w 2)]) rfl ?_
      refine R_getR rfl t0 ?_
      refine R_cV (as := [vr (gr h_25 w 2), vr (gr h_25 w 1)]) rfl rfl ⟨Nat.le_of_ble_eq_true rfl, Nat.le_of_ble_eq_true rfl, rfl, (Or.inl rfl)⟩ rfl rfl k (fun h_32 k => ?_)
      refine R_ps 2 (pc2 := 38) (L2 := [some (vr (some w))]) (st2 := [vi 0, vr (some w)]) rfl ?_
      refine R_putI rfl t0 ?_
      show WP T N _ _ _ _ (si h_32 w 6 0) _
      generalize e_36 : si h_32 w 6 0 = h_35
      replace k := k h_35 e_36.symm
      refine R_ps 1 (pc2 := 42) (L2 := [some (vr (some w))]) (st2 := [vr (some w)]) rfl ?_
      refine R_getR rfl t0 ?_
      refine R_ps 1 (pc2 := 46) (L2 := [some (vr (some w))]) (st2 := [vi 0, vr (gr h_35 w 1)]) rfl ?_
      obtain ⟨a_39, e_40, k⟩ := k
      rw [e_40]
      obtain ⟨t_41, k⟩ := k
      obtain ⟨t_42, k⟩ := k
      refine R_iald rfl (Or.inl t_41) t_42 ?_
      exact R_iret rfl rfl ⟨_, rfl, k⟩
    · have k := k.1 (Classical.not_not.mp c_28)
      refine R_ps 1 (pc2 := 24) (L2 := [some (vr (some w))]) (st2 := [vi 0]) rfl ?_
      exact R_iret rfl rfl ⟨_, rfl, k⟩
/-- java/util/Arrays.fill -/
theorem m253 {T N : Nat → Nat} {h : PH} {a0 : Nat} {y1 : Int64} {K : PH → Prop} (t0 : 21 ≤ T a0) (k : (WV T N 253 6 [some (vr (some a0)), some (vl y1), none, some (vi 0), some (vi (Int32.ofNat (N a0)))] [] h K)) : CV T N 253 [vr (some a0), vl y1] h K := by
  show WP T N 253 0 [some (vr (some a0)), some (vl y1), none, none, none] [] h _
  refine R_ps 3 (pc2 := 3) (L2 := [some (vr (some a0)), some (vl y1), none, some (vi 0), none]) (st2 := [vr (some a0)]) rfl ?_
  refine R_alen rfl t0 ?_
  refine R_ps 1 (pc2 := 6) (L2 := [some (vr (some a0)), some (vl y1), none, some (vi 0), some (vi (Int32.ofNat (N a0)))]) (st2 := []) rfl ?_
  exact k
theorem m253_6 {T N : Nat → Nat} {h : PH} {a0 : Nat} {y1 : Int64} {x3 : Int32} {x4 : Int32} {K : PH → Prop} (t0 : T a0 = 24) (k : (((x3 < x4 → (inb x3 (N a0) ∧ ∀ h_4, h_4 = sL h a0 (Int32.toNatClampNeg x3) y1 → WV T N 253 6 [some (vr (some a0)), some (vl y1), none, some (vi (x3 + 1)), some (vi x4)] [] h_4 K)) ∧ (¬ (x3 < x4) → (K h))))) : WV T N 253 6 [some (vr (some a0)), some (vl y1), none, some (vi x3), some (vi x4)] [] h K := by
  show WP T N 253 6 [some (vr (some a0)), some (vl y1), none, some (vi x3), some (vi x4)] [] h _
  refine R_ps 2 (pc2 := 9) (L2 := [some (vr (some a0)), some (vl y1), none, some (vi x3), some (vi x4)]) (st2 := [vi x4, vi x3]) rfl ?_
  refine R_if rfl (fun c_1 => ?_) (fun c_1 => ?_)
  · have k := k.2 (i32_nlt c_1)
    exact R_ret rfl rfl ⟨rfl, k⟩
  · have k := k.1 (i32_lt c_1)
    refine R_ps 3 (pc2 := 15) (L2 := [some (vr (some a0)), some (vl y1), none, some (vi x3), some (vi x4)]) (st2 := [vl y1, vi x3, vr (some a0)]) rfl ?_
    obtain ⟨t_6, k⟩ := k
    refine R_last rfl t0 t_6  ?_
    show WP T N _ _ _ _ (sL h a0 (Int32.toNatClampNeg x3) y1) _
    generalize e_5 : sL h a0 (Int32.toNatClampNeg x3) y1 = h_4
    replace k := k h_4 e_5.symm
    refine R_ps 2 (pc2 := 6) (L2 := [some (vr (some a0)), some (vl y1), none, some (vi (x3 + 1)), some (vi x4)]) (st2 := []) rfl ?_
    exact k
/-- java/util/Arrays.fill -/
theorem m254 {T N : Nat → Nat} {h : PH} {a0 : Nat} {x1 : Int32} {K : PH → Prop} (t0 : 21 ≤ T a0) (k : (WV T N 254 5 [some (vr (some a0)), some (vi x1), some (vi 0), some (vi (Int32.ofNat (N a0)))] [] h K)) : CV T N 254 [vr (some a0), vi x1] h K := by
  show WP T N 254 0 [some (vr (some a0)), some (vi x1), none, none] [] h _
  refine R_ps 3 (pc2 := 3) (L2 := [some (vr (some a0)), some (vi x1), some (vi 0), none]) (st2 := [vr (some a0)]) rfl ?_
  refine R_alen rfl t0 ?_
  refine R_ps 1 (pc2 := 5) (L2 := [some (vr (some a0)), some (vi x1), some (vi 0), some (vi (Int32.ofNat (N a0)))]) (st2 := []) rfl ?_
  exact k
theorem m254_5 {T N : Nat → Nat} {h : PH} {a0 : Nat} {x1 : Int32} {x2 : Int32} {x3 : Int32} {K : PH → Prop} (t0 : T a0 = 22) (k : (((x2 < x3 → (inb x2 (N a0) ∧ ∀ h_4, h_4 = si h a0 (Int32.toNatClampNeg x2) x1 → WV T N 254 5 [some (vr (some a0)), some (vi x1), some (vi (x2 + 1)), some (vi x3)] [] h_4 K)) ∧ (¬ (x2 < x3) → (K h))))) : WV T N 254 5 [some (vr (some a0)), some (vi x1), some (vi x2), some (vi x3)] [] h K := by
  show WP T N 254 5 [some (vr (some a0)), some (vi x1), some (vi x2), some (vi x3)] [] h _
  refine R_ps 2 (pc2 := 7) (L2 := [some (vr (some a0)), some (vi x1), some (vi x2), some (vi x3)]) (st2 := [vi x3, vi x2]) rfl ?_
  refine R_if rfl (fun c_1 => ?_) (fun c_1 => ?_)
  · have k := k.2 (i32_nlt c_1)
    exact R_ret rfl rfl ⟨rfl, k⟩
  · have k := k.1 (i32_lt c_1)
    refine R_ps 3 (pc2 := 13) (L2 := [some (vr (some a0)), some (vi x1), some (vi x2), some (vi x3)]) (st2 := [vi x1, vi x2, vr (some a0)]) rfl ?_
    obtain ⟨t_6, k⟩ := k
    refine R_iast rfl t0 t_6  ?_
    show WP T N _ _ _ _ (si h a0 (Int32.toNatClampNeg x2) x1) _
    generalize e_5 : si h a0 (Int32.toNatClampNeg x2) x1 = h_4
    replace k := k h_4 e_5.symm
    refine R_ps 2 (pc2 := 5) (L2 := [some (vr (some a0)), some (vi x1), some (vi (x2 + 1)), some (vi x3)]) (st2 := []) rfl ?_
    exact k
