/-! WHAT IS TO BE SHOWN OF EACH METHOD, by program (gen_blk.py): 255 to 289 -/
/-- DroneCorridorsLaw.addNode -/
theorem m255 {T N : Nat → Nat} {h : PH} {a0 : Nat} {x1 : Int32} {a2 : Nat} {K : Int32 → PH → Prop} (t0 : T a0 = 11) (t1 : T a2 = 24) (k : (CALL T N 106 [vr (some a0), vi x1] h (fun o_3 h_2 => (∃ x_4, o_3 = .inl (some (vi x_4)) ∧ (inb 0 (N a2) ∧ ∀ h_6, h_6 = sL h_2 a2 0 x_4.toInt64 → K 0 h_6)) ∨ (o_3 = .inr 0 ∧ (K 1 h_2))))) : CI T N 255 [vr (some a0), vi x1, vr (some a2)] h K := by
  show WP T N 255 0 [some (vr (some a0)), some (vi x1), some (vr (some a2)), none] [] h _
  refine R_ps 4 (pc2 := 4) (L2 := [some (vr (some a0)), some (vi x1), some (vr (some a2)), none]) (st2 := [vi x1, vr (some a0), vi 0, vr (some a2)]) rfl ?_
  refine R_cX (as := [vr (some a0), vi x1]) rfl rfl ⟨Nat.le_of_ble_eq_true rfl, Nat.le_of_ble_eq_true rfl, rfl, (Or.inr ⟨_, rfl, t0⟩)⟩ rfl rfl k (fun o_3 h_2 k => ?_)
  rcases k with ⟨x_4, rfl, k⟩ | ⟨rfl, k⟩
  · show WP T N _ 7 _ _ _ _
    refine R_ps 1 (pc2 := 8) (L2 := [some (vr (some a0)), some (vi x1), some (vr (some a2)), none]) (st2 := [vl x_4.toInt64, vi 0, vr (some a2)]) rfl ?_
    obtain ⟨t_8, k⟩ := k
    refine R_last rfl t1 t_8  ?_
    show WP T N _ _ _ _ (sL h_2 a2 0 x_4.toInt64) _
    generalize e_7 : sL h_2 a2 0 x_4.toInt64 = h_6
    replace k := k h_6 e_7.symm
    refine R_ps 2 (pc2 := 16) (L2 := [some (vr (some a0)), some (vi x1), some (vr (some a2)), none]) (st2 := [vi 0]) rfl ?_
    exact R_iret rfl rfl ⟨_, rfl, k⟩
  · show WP T N _ 13 [some (vr (some a0)), some (vi x1), some (vr (some a2)), none] [] _ _
    refine R_ps 1 (pc2 := 14) (L2 := [some (vr (some a0)), some (vi x1), some (vr (some a2)), none]) (st2 := [vi 1]) rfl ?_
    exact R_iret rfl rfl ⟨_, rfl, k⟩
/-- DroneCorridorsLaw.addCorridor -/
theorem m256 {T N : Nat → Nat} {h : PH} {a0 : Nat} {x1 : Int32} {x2 : Int32} {x3 : Int32} {x4 : Int32} {a5 : Nat} {K : Int32 → PH → Prop} (t0 : T a0 = 11) (t1 : T a5 = 24) (k : (CALL T N 107 [vr (some a0), vi x1, vi x2, vi x3, vi x4] h (fun o_3 h_2 => (∃ x_4, o_3 = .inl (some (vi x_4)) ∧ (inb 0 (N a5) ∧ ∀ h_6, h_6 = sL h_2 a5 0 x_4.toInt64 → K 0 h_6)) ∨ (o_3 = .inr 2 ∧ (K 1 h_2)) ∨ (o_3 = .inr 1 ∧ (K 2 h_2)) ∨ (o_3 = .inr 0 ∧ (K 3 h_2))))) : CI T N 256 [vr (some a0), vi x1, vi x2, vi x3, vi x4, vr (some a5)] h K := by
  show WP T N 256 0 [some (vr (some a0)), some (vi x1), some (vi x2), some (vi x3), some (vi x4), some (vr (some a5)), none] [] h _
  refine R_ps 7 (pc2 := 9) (L2 := [some (vr (some a0)), some (vi x1), some (vi x2), some (vi x3), some (vi x4), some (vr (some a5)), none]) (st2 := [vi x4, vi x3, vi x2, vi x1, vr (some a0), vi 0, vr (some a5)]) rfl ?_
  refine R_cX (as := [vr (some a0), vi x1, vi x2, vi x3, vi x4]) rfl rfl ⟨Nat.le_of_ble_eq_true rfl, Nat.le_of_ble_eq_true rfl, rfl, (Or.inr ⟨_, rfl, t0⟩)⟩ rfl rfl k (fun o_3 h_2 k => ?_)
  rcases k with ⟨x_4, rfl, k⟩ | ⟨rfl, k⟩ | ⟨rfl, k⟩ | ⟨rfl, k⟩
  · show WP T N _ 12 _ _ _ _
    refine R_ps 1 (pc2 := 13) (L2 := [some (vr (some a0)), some (vi x1), some (vi x2), some (vi x3), some (vi x4), some (vr (some a5)), none]) (st2 := [vl x_4.toInt64, vi 0, vr (some a5)]) rfl ?_
    obtain ⟨t_8, k⟩ := k
    refine R_last rfl t1 t_8  ?_
    show WP T N _ _ _ _ (sL h_2 a5 0 x_4.toInt64) _
    generalize e_7 : sL h_2 a5 0 x_4.toInt64 = h_6
    replace k := k h_6 e_7.symm
    refine R_ps 2 (pc2 := 30) (L2 := [some (vr (some a0)), some (vi x1), some (vi x2), some (vi x3), some (vi x4), some (vr (some a5)), none]) (st2 := [vi 0]) rfl ?_
    exact R_iret rfl rfl ⟨_, rfl, k⟩
  · show WP T N _ 19 [some (vr (some a0)), some (vi x1), some (vi x2), some (vi x3), some (vi x4), some (vr (some a5)), none] [] _ _
    refine R_ps 1 (pc2 := 20) (L2 := [some (vr (some a0)), some (vi x1), some (vi x2), some (vi x3), some (vi x4), some (vr (some a5)), none]) (st2 := [vi 1]) rfl ?_
    exact R_iret rfl rfl ⟨_, rfl, k⟩
  · show WP T N _ 23 [some (vr (some a0)), some (vi x1), some (vi x2), some (vi x3), some (vi x4), some (vr (some a5)), none] [] _ _
    refine R_ps 1 (pc2 := 24) (L2 := [some (vr (some a0)), some (vi x1), some (vi x2), some (vi x3), some (vi x4), some (vr (some a5)), none]) (st2 := [vi 2]) rfl ?_
    exact R_iret rfl rfl ⟨_, rfl, k⟩
  · show WP T N _ 27 [some (vr (some a0)), some (vi x1), some (vi x2), some (vi x3), some (vi x4), some (vr (some a5)), none] [] _ _
    refine R_ps 1 (pc2 := 28) (L2 := [some (vr (some a0)), some (vi x1), some (vi x2), some (vi x3), some (vi x4), some (vr (some a5)), none]) (st2 := [vi 3]) rfl ?_
    exact R_iret rfl rfl ⟨_, rfl, k⟩
/-- DroneCorridorsLaw.setWind -/
theorem m257 {T N : Nat → Nat} {h : PH} {a0 : Nat} {x1 : Int32} {x2 : Int32} {a3 : Nat} {K : Int32 → PH → Prop} (t0 : T a0 = 11) (t1 : T a3 = 24) (k : (CALL T N 108 [vr (some a0), vi x1, vi x2] h (fun o_3 h_2 => (∃ x_4, o_3 = .inl (some (vi x_4)) ∧ (inb 0 (N a3) ∧ ∀ h_6, h_6 = sL h_2 a3 0 x_4.toInt64 → K 0 h_6)) ∨ (o_3 = .inr 2 ∧ (K 1 h_2)) ∨ (o_3 = .inr 1 ∧ (K 2 h_2))))) : CI T N 257 [vr (some a0), vi x1, vi x2, vr (some a3)] h K := by
  show WP T N 257 0 [some (vr (some a0)), some (vi x1), some (vi x2), some (vr (some a3)), none] [] h _
  refine R_ps 5 (pc2 := 5) (L2 := [some (vr (some a0)), some (vi x1), some (vi x2), some (vr (some a3)), none]) (st2 := [vi x2, vi x1, vr (some a0), vi 0, vr (some a3)]) rfl ?_
  refine R_cX (as := [vr (some a0), vi x1, vi x2]) rfl rfl ⟨Nat.le_of_ble_eq_true rfl, Nat.le_of_ble_eq_true rfl, rfl, (Or.inr ⟨_, rfl, t0⟩)⟩ rfl rfl k (fun o_3 h_2 k => ?_)
  rcases k with ⟨x_4, rfl, k⟩ | ⟨rfl, k⟩ | ⟨rfl, k⟩
  · show WP T N _ 8 _ _ _ _
    refine R_ps 1 (pc2 := 9) (L2 := [some (vr (some a0)), some (vi x1), some (vi x2), some (vr (some a3)), none]) (st2 := [vl x_4.toInt64, vi 0, vr (some a3)]) rfl ?_
    obtain ⟨t_8, k⟩ := k
    refine R_last rfl t1 t_8  ?_
    show WP T N _ _ _ _ (sL h_2 a3 0 x_4.toInt64) _
    generalize e_7 : sL h_2 a3 0 x_4.toInt64 = h_6
    replace k := k h_6 e_7.symm
    refine R_ps 2 (pc2 := 22) (L2 := [some (vr (some a0)), some (vi x1), some (vi x2), some (vr (some a3)), none]) (st2 := [vi 0]) rfl ?_
    exact R_iret rfl rfl ⟨_, rfl, k⟩
  · show WP T N _ 15 [some (vr (some a0)), some (vi x1), some (vi x2), some (vr (some a3)), none] [] _ _
    refine R_ps 1 (pc2 := 16) (L2 := [some (vr (some a0)), some (vi x1), some (vi x2), some (vr (some a3)), none]) (st2 := [vi 1]) rfl ?_
    exact R_iret rfl rfl ⟨_, rfl, k⟩
  · show WP T N _ 19 [some (vr (some a0)), some (vi x1), some (vi x2), some (vr (some a3)), none] [] _ _
    refine R_ps 1 (pc2 := 20) (L2 := [some (vr (some a0)), some (vi x1), some (vi x2), some (vr (some a3)), none]) (st2 := [vi 2]) rfl ?_
    exact R_iret rfl rfl ⟨_, rfl, k⟩
/-- DroneCorridorsLaw.addFence -/
theorem m258 {T N : Nat → Nat} {h : PH} {a0 : Nat} {x1 : Int32} {x2 : Int32} {x3 : Int32} {x4 : Int32} {a5 : Nat} {K : Int32 → PH → Prop} (t0 : T a0 = 11) (t1 : T a5 = 24) (k : (CALL T N 109 [vr (some a0), vi x1, vi x2, vi x3, vi x4] h (fun o_3 h_2 => (∃ x_4, o_3 = .inl (some (vi x_4)) ∧ (inb 0 (N a5) ∧ ∀ h_6, h_6 = sL h_2 a5 0 x_4.toInt64 → K 0 h_6)) ∨ (o_3 = .inr 2 ∧ (K 1 h_2)) ∨ (o_3 = .inr 1 ∧ (K 2 h_2)) ∨ (o_3 = .inr 0 ∧ (K 3 h_2))))) : CI T N 258 [vr (some a0), vi x1, vi x2, vi x3, vi x4, vr (some a5)] h K := by
  show WP T N 258 0 [some (vr (some a0)), some (vi x1), some (vi x2), some (vi x3), some (vi x4), some (vr (some a5)), none] [] h _
  refine R_ps 7 (pc2 := 9) (L2 := [some (vr (some a0)), some (vi x1), some (vi x2), some (vi x3), some (vi x4), some (vr (some a5)), none]) (st2 := [vi x4, vi x3, vi x2, vi x1, vr (some a0), vi 0, vr (some a5)]) rfl ?_
  refine R_cX (as := [vr (some a0), vi x1, vi x2, vi x3, vi x4]) rfl rfl ⟨Nat.le_of_ble_eq_true rfl, Nat.le_of_ble_eq_true rfl, rfl, (Or.inr ⟨_, rfl, t0⟩)⟩ rfl rfl k (fun o_3 h_2 k => ?_)
  rcases k with ⟨x_4, rfl, k⟩ | ⟨rfl, k⟩ | ⟨rfl, k⟩ | ⟨rfl, k⟩
  · show WP T N _ 12 _ _ _ _
    refine R_ps 1 (pc2 := 13) (L2 := [some (vr (some a0)), some (vi x1), some (vi x2), some (vi x3), some (vi x4), some (vr (some a5)), none]) (st2 := [vl x_4.toInt64, vi 0, vr (some a5)]) rfl ?_
    obtain ⟨t_8, k⟩ := k
    refine R_last rfl t1 t_8  ?_
    show WP T N _ _ _ _ (sL h_2 a5 0 x_4.toInt64) _
    generalize e_7 : sL h_2 a5 0 x_4.toInt64 = h_6
    replace k := k h_6 e_7.symm
    refine R_ps 2 (pc2 := 30) (L2 := [some (vr (some a0)), some (vi x1), some (vi x2), some (vi x3), some (vi x4), some (vr (some a5)), none]) (st2 := [vi 0]) rfl ?_
    exact R_iret rfl rfl ⟨_, rfl, k⟩
  · show WP T N _ 19 [some (vr (some a0)), some (vi x1), some (vi x2), some (vi x3), some (vi x4), some (vr (some a5)), none] [] _ _
    refine R_ps 1 (pc2 := 20) (L2 := [some (vr (some a0)), some (vi x1), some (vi x2), some (vi x3), some (vi x4), some (vr (some a5)), none]) (st2 := [vi 1]) rfl ?_
    exact R_iret rfl rfl ⟨_, rfl, k⟩
  · show WP T N _ 23 [some (vr (some a0)), some (vi x1), some (vi x2), some (vi x3), some (vi x4), some (vr (some a5)), none] [] _ _
    refine R_ps 1 (pc2 := 24) (L2 := [some (vr (some a0)), some (vi x1), some (vi x2), some (vi x3), some (vi x4), some (vr (some a5)), none]) (st2 := [vi 2]) rfl ?_
    exact R_iret rfl rfl ⟨_, rfl, k⟩
  · show WP T N _ 27 [some (vr (some a0)), some (vi x1), some (vi x2), some (vi x3), some (vi x4), some (vr (some a5)), none] [] _ _
    refine R_ps 1 (pc2 := 28) (L2 := [some (vr (some a0)), some (vi x1), some (vi x2), some (vi x3), some (vi x4), some (vr (some a5)), none]) (st2 := [vi 3]) rfl ?_
    exact R_iret rfl rfl ⟨_, rfl, k⟩
/-- DroneCorridorsLaw.removeFence -/
theorem m259 {T N : Nat → Nat} {h : PH} {a0 : Nat} {x1 : Int32} {a2 : Nat} {K : Int32 → PH → Prop} (t0 : T a0 = 11) (t1 : T a2 = 24) (k : (CALL T N 110 [vr (some a0), vi x1] h (fun o_3 h_2 => (∃ x_4, o_3 = .inl (some (vi x_4)) ∧ (inb 0 (N a2) ∧ ∀ h_6, h_6 = sL h_2 a2 0 x_4.toInt64 → K 0 h_6)) ∨ (o_3 = .inr 2 ∧ (K 1 h_2))))) : CI T N 259 [vr (some a0), vi x1, vr (some a2)] h K := by
  show WP T N 259 0 [some (vr (some a0)), some (vi x1), some (vr (some a2)), none] [] h _
  refine R_ps 4 (pc2 := 4) (L2 := [some (vr (some a0)), some (vi x1), some (vr (some a2)), none]) (st2 := [vi x1, vr (some a0), vi 0, vr (some a2)]) rfl ?_
  refine R_cX (as := [vr (some a0), vi x1]) rfl rfl ⟨Nat.le_of_ble_eq_true rfl, Nat.le_of_ble_eq_true rfl, rfl, (Or.inr ⟨_, rfl, t0⟩)⟩ rfl rfl k (fun o_3 h_2 k => ?_)
  rcases k with ⟨x_4, rfl, k⟩ | ⟨rfl, k⟩
  · show WP T N _ 7 _ _ _ _
    refine R_ps 1 (pc2 := 8) (L2 := [some (vr (some a0)), some (vi x1), some (vr (some a2)), none]) (st2 := [vl x_4.toInt64, vi 0, vr (some a2)]) rfl ?_
    obtain ⟨t_8, k⟩ := k
    refine R_last rfl t1 t_8  ?_
    show WP T N _ _ _ _ (sL h_2 a2 0 x_4.toInt64) _
    generalize e_7 : sL h_2 a2 0 x_4.toInt64 = h_6
    replace k := k h_6 e_7.symm
    refine R_ps 2 (pc2 := 16) (L2 := [some (vr (some a0)), some (vi x1), some (vr (some a2)), none]) (st2 := [vi 0]) rfl ?_
    exact R_iret rfl rfl ⟨_, rfl, k⟩
  · show WP T N _ 13 [some (vr (some a0)), some (vi x1), some (vr (some a2)), none] [] _ _
    refine R_ps 1 (pc2 := 14) (L2 := [some (vr (some a0)), some (vi x1), some (vr (some a2)), none]) (st2 := [vi 1]) rfl ?_
    exact R_iret rfl rfl ⟨_, rfl, k⟩
/-- DroneCorridorsLaw.fence -/
theorem m260 {T N : Nat → Nat} {h : PH} {a0 : Nat} {x1 : Int32} {x2 : Int32} {a3 : Nat} {K : Int32 → PH → Prop} (t0 : T a0 = 11) (t1 : T a3 = 24) (k : (CALL T N 111 [vr (some a0), vi x1, vi x2] h (fun o_3 h_2 => (∃ x_4, o_3 = .inl (some (vi x_4)) ∧ (inb 0 (N a3) ∧ ∀ h_6, h_6 = sL h_2 a3 0 x_4.toInt64 → K 0 h_6)) ∨ (o_3 = .inr 2 ∧ (K 1 h_2)) ∨ (o_3 = .inr 1 ∧ (K 2 h_2))))) : CI T N 260 [vr (some a0), vi x1, vi x2, vr (some a3)] h K := by
  show WP T N 260 0 [some (vr (some a0)), some (vi x1), some (vi x2), some (vr (some a3)), none] [] h _
  refine R_ps 5 (pc2 := 5) (L2 := [some (vr (some a0)), some (vi x1), some (vi x2), some (vr (some a3)), none]) (st2 := [vi x2, vi x1, vr (some a0), vi 0, vr (some a3)]) rfl ?_
  refine R_cX (as := [vr (some a0), vi x1, vi x2]) rfl rfl ⟨Nat.le_of_ble_eq_true rfl, Nat.le_of_ble_eq_true rfl, rfl, (Or.inr ⟨_, rfl, t0⟩)⟩ rfl rfl k (fun o_3 h_2 k => ?_)
  rcases k with ⟨x_4, rfl, k⟩ | ⟨rfl, k⟩ | ⟨rfl, k⟩
  · show WP T N _ 8 _ _ _ _
    refine R_ps 1 (pc2 := 9) (L2 := [some (vr (some a0)), some (vi x1), some (vi x2), some (vr (some a3)), none]) (st2 := [vl x_4.toInt64, vi 0, vr (some a3)]) rfl ?_
    obtain ⟨t_8, k⟩ := k
    refine R_last rfl t1 t_8  ?_
    show WP T N _ _ _ _ (sL h_2 a3 0 x_4.toInt64) _
    generalize e_7 : sL h_2 a3 0 x_4.toInt64 = h_6
    replace k := k h_6 e_7.symm
    refine R_ps 2 (pc2 := 22) (L2 := [some (vr (some a0)), some (vi x1), some (vi x2), some (vr (some a3)), none]) (st2 := [vi 0]) rfl ?_
    exact R_iret rfl rfl ⟨_, rfl, k⟩
  · show WP T N _ 15 [some (vr (some a0)), some (vi x1), some (vi x2), some (vr (some a3)), none] [] _ _
    refine R_ps 1 (pc2 := 16) (L2 := [some (vr (some a0)), some (vi x1), some (vi x2), some (vr (some a3)), none]) (st2 := [vi 1]) rfl ?_
    exact R_iret rfl rfl ⟨_, rfl, k⟩
  · show WP T N _ 19 [some (vr (some a0)), some (vi x1), some (vi x2), some (vr (some a3)), none] [] _ _
    refine R_ps 1 (pc2 := 20) (L2 := [some (vr (some a0)), some (vi x1), some (vi x2), some (vr (some a3)), none]) (st2 := [vi 2]) rfl ?_
    exact R_iret rfl rfl ⟨_, rfl, k⟩
/-- DroneCorridorsLaw.corridor -/
theorem m261 {T N : Nat → Nat} {h : PH} {a0 : Nat} {x1 : Int32} {x2 : Int32} {a3 : Nat} {K : Int32 → PH → Prop} (t0 : T a0 = 11) (t1 : T a3 = 24) (k : (CALL T N 112 [vr (some a0), vi x1, vi x2] h (fun o_3 h_2 => (∃ x_4, o_3 = .inl (some (vi x_4)) ∧ (inb 0 (N a3) ∧ ∀ h_6, h_6 = sL h_2 a3 0 x_4.toInt64 → K 0 h_6)) ∨ (o_3 = .inr 2 ∧ (K 1 h_2)) ∨ (o_3 = .inr 1 ∧ (K 2 h_2))))) : CI T N 261 [vr (some a0), vi x1, vi x2, vr (some a3)] h K := by
  show WP T N 261 0 [some (vr (some a0)), some (vi x1), some (vi x2), some (vr (some a3)), none] [] h _
  refine R_ps 5 (pc2 := 5) (L2 := [some (vr (some a0)), some (vi x1), some (vi x2), some (vr (some a3)), none]) (st2 := [vi x2, vi x1, vr (some a0), vi 0, vr (some a3)]) rfl ?_
  refine R_cX (as := [vr (some a0), vi x1, vi x2]) rfl rfl ⟨Nat.le_of_ble_eq_true rfl, Nat.le_of_ble_eq_true rfl, rfl, (Or.inr ⟨_, rfl, t0⟩)⟩ rfl rfl k (fun o_3 h_2 k => ?_)
  rcases k with ⟨x_4, rfl, k⟩ | ⟨rfl, k⟩ | ⟨rfl, k⟩
  · show WP T N _ 8 _ _ _ _
    refine R_ps 1 (pc2 := 9) (L2 := [some (vr (some a0)), some (vi x1), some (vi x2), some (vr (some a3)), none]) (st2 := [vl x_4.toInt64, vi 0, vr (some a3)]) rfl ?_
    obtain ⟨t_8, k⟩ := k
    refine R_last rfl t1 t_8  ?_
    show WP T N _ _ _ _ (sL h_2 a3 0 x_4.toInt64) _
    generalize e_7 : sL h_2 a3 0 x_4.toInt64 = h_6
    replace k := k h_6 e_7.symm
    refine R_ps 2 (pc2 := 22) (L2 := [some (vr (some a0)), some (vi x1), some (vi x2), some (vr (some a3)), none]) (st2 := [vi 0]) rfl ?_
    exact R_iret rfl rfl ⟨_, rfl, k⟩
  · show WP T N _ 15 [some (vr (some a0)), some (vi x1), some (vi x2), some (vr (some a3)), none] [] _ _
    refine R_ps 1 (pc2 := 16) (L2 := [some (vr (some a0)), some (vi x1), some (vi x2), some (vr (some a3)), none]) (st2 := [vi 1]) rfl ?_
    exact R_iret rfl rfl ⟨_, rfl, k⟩
  · show WP T N _ 19 [some (vr (some a0)), some (vi x1), some (vi x2), some (vr (some a3)), none] [] _ _
    refine R_ps 1 (pc2 := 20) (L2 := [some (vr (some a0)), some (vi x1), some (vi x2), some (vr (some a3)), none]) (st2 := [vi 2]) rfl ?_
    exact R_iret rfl rfl ⟨_, rfl, k⟩
/-- DroneCorridorsLaw.isPad -/
theorem m262 {T N : Nat → Nat} {h : PH} {a0 : Nat} {x1 : Int32} {a2 : Nat} {K : Int32 → PH → Prop} (t0 : T a0 = 11) (t1 : T a2 = 24) (k : (CALL T N 113 [vr (some a0), vi x1] h (fun o_3 h_2 => (∃ x_4, o_3 = .inl (some (vi x_4)) ∧ (((x_4 = 0 → (inb 0 (N a2) ∧ ∀ h_7, h_7 = sL h_2 a2 0 0 → K 0 h_7)) ∧ (¬ (x_4 = 0) → (inb 0 (N a2) ∧ ∀ h_12, h_12 = sL h_2 a2 0 1 → K 0 h_12))))) ∨ (o_3 = .inr 2 ∧ (K 1 h_2))))) : CI T N 262 [vr (some a0), vi x1, vr (some a2)] h K := by
  show WP T N 262 0 [some (vr (some a0)), some (vi x1), some (vr (some a2)), none] [] h _
  refine R_ps 4 (pc2 := 4) (L2 := [some (vr (some a0)), some (vi x1), some (vr (some a2)), none]) (st2 := [vi x1, vr (some a0), vi 0, vr (some a2)]) rfl ?_
  refine R_cX (as := [vr (some a0), vi x1]) rfl rfl ⟨Nat.le_of_ble_eq_true rfl, Nat.le_of_ble_eq_true rfl, rfl, (Or.inr ⟨_, rfl, t0⟩)⟩ rfl rfl k (fun o_3 h_2 k => ?_)
  rcases k with ⟨x_4, rfl, k⟩ | ⟨rfl, k⟩
  · show WP T N _ 7 _ _ _ _
    refine R_if0 rfl (fun c_5 => ?_) (fun c_5 => ?_)
    · have k := k.1 c_5
      refine R_ps 1 (pc2 := 15) (L2 := [some (vr (some a0)), some (vi x1), some (vr (some a2)), none]) (st2 := [vl 0, vi 0, vr (some a2)]) rfl ?_
      obtain ⟨t_9, k⟩ := k
      refine R_last rfl t1 t_9  ?_
      show WP T N _ _ _ _ (sL h_2 a2 0 0) _
      generalize e_8 : sL h_2 a2 0 0 = h_7
      replace k := k h_7 e_8.symm
      refine R_ps 2 (pc2 := 23) (L2 := [some (vr (some a0)), some (vi x1), some (vr (some a2)), none]) (st2 := [vi 0]) rfl ?_
      exact R_iret rfl rfl ⟨_, rfl, k⟩
    · have k := k.2 c_5
      refine R_ps 2 (pc2 := 15) (L2 := [some (vr (some a0)), some (vi x1), some (vr (some a2)), none]) (st2 := [vl 1, vi 0, vr (some a2)]) rfl ?_
      obtain ⟨t_14, k⟩ := k
      refine R_last rfl t1 t_14  ?_
      show WP T N _ _ _ _ (sL h_2 a2 0 1) _
      generalize e_13 : sL h_2 a2 0 1 = h_12
      replace k := k h_12 e_13.symm
      refine R_ps 2 (pc2 := 23) (L2 := [some (vr (some a0)), some (vi x1), some (vr (some a2)), none]) (st2 := [vi 0]) rfl ?_
      exact R_iret rfl rfl ⟨_, rfl, k⟩
  · show WP T N _ 20 [some (vr (some a0)), some (vi x1), some (vr (some a2)), none] [] _ _
    refine R_ps 1 (pc2 := 21) (L2 := [some (vr (some a0)), some (vi x1), some (vr (some a2)), none]) (st2 := [vi 1]) rfl ?_
    exact R_iret rfl rfl ⟨_, rfl, k⟩
/-- DroneCorridorsLaw.reserve -/
theorem m263 {T N : Nat → Nat} {h : PH} {a0 : Nat} {x1 : Int32} {a2 : Nat} {K : Int32 → PH → Prop} (t0 : T a0 = 11) (t1 : T a2 = 24) (k : (CALL T N 114 [vr (some a0), vi x1] h (fun o_3 h_2 => (∃ x_4, o_3 = .inl (some (vi x_4)) ∧ (inb 0 (N a2) ∧ ∀ h_6, h_6 = sL h_2 a2 0 x_4.toInt64 → K 0 h_6)) ∨ (o_3 = .inr 2 ∧ (K 1 h_2)) ∨ (o_3 = .inr 5 ∧ (K 2 h_2))))) : CI T N 263 [vr (some a0), vi x1, vr (some a2)] h K := by
  show WP T N 263 0 [some (vr (some a0)), some (vi x1), some (vr (some a2)), none] [] h _
  refine R_ps 4 (pc2 := 4) (L2 := [some (vr (some a0)), some (vi x1), some (vr (some a2)), none]) (st2 := [vi x1, vr (some a0), vi 0, vr (some a2)]) rfl ?_
  refine R_cX (as := [vr (some a0), vi x1]) rfl rfl ⟨Nat.le_of_ble_eq_true rfl, Nat.le_of_ble_eq_true rfl, rfl, (Or.inr ⟨_, rfl, t0⟩)⟩ rfl rfl k (fun o_3 h_2 k => ?_)
  rcases k with ⟨x_4, rfl, k⟩ | ⟨rfl, k⟩ | ⟨rfl, k⟩
  · show WP T N _ 7 _ _ _ _
    refine R_ps 1 (pc2 := 8) (L2 := [some (vr (some a0)), some (vi x1), some (vr (some a2)), none]) (st2 := [vl x_4.toInt64, vi 0, vr (some a2)]) rfl ?_
    obtain ⟨t_8, k⟩ := k
    refine R_last rfl t1 t_8  ?_
    show WP T N _ _ _ _ (sL h_2 a2 0 x_4.toInt64) _
    generalize e_7 : sL h_2 a2 0 x_4.toInt64 = h_6
    replace k := k h_6 e_7.symm
    refine R_ps 2 (pc2 := 19) (L2 := [some (vr (some a0)), some (vi x1), some (vr (some a2)), none]) (st2 := [vi 0]) rfl ?_
    exact R_iret rfl rfl ⟨_, rfl, k⟩
  · show WP T N _ 13 [some (vr (some a0)), some (vi x1), some (vr (some a2)), none] [] _ _
    refine R_ps 1 (pc2 := 14) (L2 := [some (vr (some a0)), some (vi x1), some (vr (some a2)), none]) (st2 := [vi 1]) rfl ?_
    exact R_iret rfl rfl ⟨_, rfl, k⟩
  · show WP T N _ 16 [some (vr (some a0)), some (vi x1), some (vr (some a2)), none] [] _ _
    refine R_ps 1 (pc2 := 17) (L2 := [some (vr (some a0)), some (vi x1), some (vr (some a2)), none]) (st2 := [vi 2]) rfl ?_
    exact R_iret rfl rfl ⟨_, rfl, k⟩
/-- DroneCorridorsLaw.ticksBetween -/
theorem m264 {T N : Nat → Nat} {h : PH} {a0 : Nat} {x1 : Int32} {x2 : Int32} {a3 : Nat} {K : Int32 → PH → Prop} (t0 : T a0 = 11) (t1 : T a3 = 24) (k : (CALL T N 115 [vr (some a0), vi x1, vi x2] h (fun o_3 h_2 => (∃ x_4, o_3 = .inl (some (vi x_4)) ∧ (inb 0 (N a3) ∧ ∀ h_6, h_6 = sL h_2 a3 0 x_4.toInt64 → K 0 h_6)) ∨ (o_3 = .inr 2 ∧ (K 1 h_2)) ∨ (o_3 = .inr 5 ∧ (K 2 h_2))))) : CI T N 264 [vr (some a0), vi x1, vi x2, vr (some a3)] h K := by
  show WP T N 264 0 [some (vr (some a0)), some (vi x1), some (vi x2), some (vr (some a3)), none] [] h _
  refine R_ps 5 (pc2 := 5) (L2 := [some (vr (some a0)), some (vi x1), some (vi x2), some (vr (some a3)), none]) (st2 := [vi x2, vi x1, vr (some a0), vi 0, vr (some a3)]) rfl ?_
  refine R_cX (as := [vr (some a0), vi x1, vi x2]) rfl rfl ⟨Nat.le_of_ble_eq_true rfl, Nat.le_of_ble_eq_true rfl, rfl, (Or.inr ⟨_, rfl, t0⟩)⟩ rfl rfl k (fun o_3 h_2 k => ?_)
  rcases k with ⟨x_4, rfl, k⟩ | ⟨rfl, k⟩ | ⟨rfl, k⟩
  · show WP T N _ 8 _ _ _ _
    refine R_ps 1 (pc2 := 9) (L2 := [some (vr (some a0)), some (vi x1), some (vi x2), some (vr (some a3)), none]) (st2 := [vl x_4.toInt64, vi 0, vr (some a3)]) rfl ?_
    obtain ⟨t_8, k⟩ := k
    refine R_last rfl t1 t_8  ?_
    show WP T N _ _ _ _ (sL h_2 a3 0 x_4.toInt64) _
    generalize e_7 : sL h_2 a3 0 x_4.toInt64 = h_6
    replace k := k h_6 e_7.symm
    refine R_ps 2 (pc2 := 22) (L2 := [some (vr (some a0)), some (vi x1), some (vi x2), some (vr (some a3)), none]) (st2 := [vi 0]) rfl ?_
    exact R_iret rfl rfl ⟨_, rfl, k⟩
  · show WP T N _ 15 [some (vr (some a0)), some (vi x1), some (vi x2), some (vr (some a3)), none] [] _ _
    refine R_ps 1 (pc2 := 16) (L2 := [some (vr (some a0)), some (vi x1), some (vi x2), some (vr (some a3)), none]) (st2 := [vi 1]) rfl ?_
    exact R_iret rfl rfl ⟨_, rfl, k⟩
  · show WP T N _ 19 [some (vr (some a0)), some (vi x1), some (vi x2), some (vr (some a3)), none] [] _ _
    refine R_ps 1 (pc2 := 20) (L2 := [some (vr (some a0)), some (vi x1), some (vi x2), some (vr (some a3)), none]) (st2 := [vi 2]) rfl ?_
    exact R_iret rfl rfl ⟨_, rfl, k⟩
/-- DroneCorridorsLaw.count -/
theorem m265 {T N : Nat → Nat} {h : PH} {a0 : Nat} {x1 : Int32} {a2 : Nat} {K : Int32 → PH → Prop} (t0 : T a0 = 11) (t1 : T a2 = 24) (k : (CALL T N 116 [vr (some a0), vi x1] h (fun o_3 h_2 => (∃ x_4, o_3 = .inl (some (vi x_4)) ∧ (inb 0 (N a2) ∧ ∀ h_6, h_6 = sL h_2 a2 0 x_4.toInt64 → K 0 h_6)) ∨ (o_3 = .inr 1 ∧ (K 1 h_2))))) : CI T N 265 [vr (some a0), vi x1, vr (some a2)] h K := by
  show WP T N 265 0 [some (vr (some a0)), some (vi x1), some (vr (some a2)), none] [] h _
  refine R_ps 4 (pc2 := 4) (L2 := [some (vr (some a0)), some (vi x1), some (vr (some a2)), none]) (st2 := [vi x1, vr (some a0), vi 0, vr (some a2)]) rfl ?_
  refine R_cX (as := [vr (some a0), vi x1]) rfl rfl ⟨Nat.le_of_ble_eq_true rfl, Nat.le_of_ble_eq_true rfl, rfl, (Or.inr ⟨_, rfl, t0⟩)⟩ rfl rfl k (fun o_3 h_2 k => ?_)
  rcases k with ⟨x_4, rfl, k⟩ | ⟨rfl, k⟩
  · show WP T N _ 7 _ _ _ _
    refine R_ps 1 (pc2 := 8) (L2 := [some (vr (some a0)), some (vi x1), some (vr (some a2)), none]) (st2 := [vl x_4.toInt64, vi 0, vr (some a2)]) rfl ?_
    obtain ⟨t_8, k⟩ := k
    refine R_last rfl t1 t_8  ?_
    show WP T N _ _ _ _ (sL h_2 a2 0 x_4.toInt64) _
    generalize e_7 : sL h_2 a2 0 x_4.toInt64 = h_6
    replace k := k h_6 e_7.symm
    refine R_ps 2 (pc2 := 16) (L2 := [some (vr (some a0)), some (vi x1), some (vr (some a2)), none]) (st2 := [vi 0]) rfl ?_
    exact R_iret rfl rfl ⟨_, rfl, k⟩
  · show WP T N _ 13 [some (vr (some a0)), some (vi x1), some (vr (some a2)), none] [] _ _
    refine R_ps 1 (pc2 := 14) (L2 := [some (vr (some a0)), some (vi x1), some (vr (some a2)), none]) (st2 := [vi 1]) rfl ?_
    exact R_iret rfl rfl ⟨_, rfl, k⟩
/-- DroneCorridorsLaw.addDrone -/
theorem m266 {T N : Nat → Nat} {h : PH} {a0 : Nat} {x1 : Int32} {x2 : Int32} {a3 : Nat} {K : Int32 → PH → Prop} (t0 : T a0 = 11) (t1 : T a3 = 24) (k : (CALL T N 117 [vr (some a0), vi x1, vi x2] h (fun o_3 h_2 => (∃ x_4, o_3 = .inl (some (vi x_4)) ∧ (inb 0 (N a3) ∧ ∀ h_6, h_6 = sL h_2 a3 0 x_4.toInt64 → K 0 h_6)) ∨ (o_3 = .inr 2 ∧ (K 1 h_2)) ∨ (o_3 = .inr 1 ∧ (K 2 h_2)) ∨ (o_3 = .inr 0 ∧ (K 3 h_2))))) : CI T N 266 [vr (some a0), vi x1, vi x2, vr (some a3)] h K := by
  show WP T N 266 0 [some (vr (some a0)), some (vi x1), some (vi x2), some (vr (some a3)), none] [] h _
  refine R_ps 5 (pc2 := 5) (L2 := [some (vr (some a0)), some (vi x1), some (vi x2), some (vr (some a3)), none]) (st2 := [vi x2, vi x1, vr (some a0), vi 0, vr (some a3)]) rfl ?_
  refine R_cX (as := [vr (some a0), vi x1, vi x2]) rfl rfl ⟨Nat.le_of_ble_eq_true rfl, Nat.le_of_ble_eq_true rfl, rfl, (Or.inr ⟨_, rfl, t0⟩)⟩ rfl rfl k (fun o_3 h_2 k => ?_)
  rcases k with ⟨x_4, rfl, k⟩ | ⟨rfl, k⟩ | ⟨rfl, k⟩ | ⟨rfl, k⟩
  · show WP T N _ 8 _ _ _ _
    refine R_ps 1 (pc2 := 9) (L2 := [some (vr (some a0)), some (vi x1), some (vi x2), some (vr (some a3)), none]) (st2 := [vl x_4.toInt64, vi 0, vr (some a3)]) rfl ?_
    obtain ⟨t_8, k⟩ := k
    refine R_last rfl t1 t_8  ?_
    show WP T N _ _ _ _ (sL h_2 a3 0 x_4.toInt64) _
    generalize e_7 : sL h_2 a3 0 x_4.toInt64 = h_6
    replace k := k h_6 e_7.symm
    refine R_ps 2 (pc2 := 26) (L2 := [some (vr (some a0)), some (vi x1), some (vi x2), some (vr (some a3)), none]) (st2 := [vi 0]) rfl ?_
    exact R_iret rfl rfl ⟨_, rfl, k⟩
  · show WP T N _ 15 [some (vr (some a0)), some (vi x1), some (vi x2), some (vr (some a3)), none] [] _ _
    refine R_ps 1 (pc2 := 16) (L2 := [some (vr (some a0)), some (vi x1), some (vi x2), some (vr (some a3)), none]) (st2 := [vi 1]) rfl ?_
    exact R_iret rfl rfl ⟨_, rfl, k⟩
  · show WP T N _ 19 [some (vr (some a0)), some (vi x1), some (vi x2), some (vr (some a3)), none] [] _ _
    refine R_ps 1 (pc2 := 20) (L2 := [some (vr (some a0)), some (vi x1), some (vi x2), some (vr (some a3)), none]) (st2 := [vi 2]) rfl ?_
    exact R_iret rfl rfl ⟨_, rfl, k⟩
  · show WP T N _ 23 [some (vr (some a0)), some (vi x1), some (vi x2), some (vr (some a3)), none] [] _ _
    refine R_ps 1 (pc2 := 24) (L2 := [some (vr (some a0)), some (vi x1), some (vi x2), some (vr (some a3)), none]) (st2 := [vi 3]) rfl ?_
    exact R_iret rfl rfl ⟨_, rfl, k⟩
/-- DroneCorridorsLaw.drone -/
theorem m267 {T N : Nat → Nat} {h : PH} {a0 : Nat} {x1 : Int32} {x2 : Int32} {a3 : Nat} {K : Int32 → PH → Prop} (t0 : T a0 = 11) (t1 : T a3 = 24) (k : (CALL T N 118 [vr (some a0), vi x1, vi x2] h (fun o_3 h_2 => (∃ x_4, o_3 = .inl (some (vi x_4)) ∧ (inb 0 (N a3) ∧ ∀ h_6, h_6 = sL h_2 a3 0 x_4.toInt64 → K 0 h_6)) ∨ (o_3 = .inr 2 ∧ (K 1 h_2)) ∨ (o_3 = .inr 1 ∧ (K 2 h_2))))) : CI T N 267 [vr (some a0), vi x1, vi x2, vr (some a3)] h K := by
  show WP T N 267 0 [some (vr (some a0)), some (vi x1), some (vi x2), some (vr (some a3)), none] [] h _
  refine R_ps 5 (pc2 := 5) (L2 := [some (vr (some a0)), some (vi x1), some (vi x2), some (vr (some a3)), none]) (st2 := [vi x2, vi x1, vr (some a0), vi 0, vr (some a3)]) rfl ?_
  refine R_cX (as := [vr (some a0), vi x1, vi x2]) rfl rfl ⟨Nat.le_of_ble_eq_true rfl, Nat.le_of_ble_eq_true rfl, rfl, (Or.inr ⟨_, rfl, t0⟩)⟩ rfl rfl k (fun o_3 h_2 k => ?_)
  rcases k with ⟨x_4, rfl, k⟩ | ⟨rfl, k⟩ | ⟨rfl, k⟩
  · show WP T N _ 8 _ _ _ _
    refine R_ps 1 (pc2 := 9) (L2 := [some (vr (some a0)), some (vi x1), some (vi x2), some (vr (some a3)), none]) (st2 := [vl x_4.toInt64, vi 0, vr (some a3)]) rfl ?_
    obtain ⟨t_8, k⟩ := k
    refine R_last rfl t1 t_8  ?_
    show WP T N _ _ _ _ (sL h_2 a3 0 x_4.toInt64) _
    generalize e_7 : sL h_2 a3 0 x_4.toInt64 = h_6
    replace k := k h_6 e_7.symm
    refine R_ps 2 (pc2 := 22) (L2 := [some (vr (some a0)), some (vi x1), some (vi x2), some (vr (some a3)), none]) (st2 := [vi 0]) rfl ?_
    exact R_iret rfl rfl ⟨_, rfl, k⟩
  · show WP T N _ 15 [some (vr (some a0)), some (vi x1), some (vi x2), some (vr (some a3)), none] [] _ _
    refine R_ps 1 (pc2 := 16) (L2 := [some (vr (some a0)), some (vi x1), some (vi x2), some (vr (some a3)), none]) (st2 := [vi 1]) rfl ?_
    exact R_iret rfl rfl ⟨_, rfl, k⟩
  · show WP T N _ 19 [some (vr (some a0)), some (vi x1), some (vi x2), some (vr (some a3)), none] [] _ _
    refine R_ps 1 (pc2 := 20) (L2 := [some (vr (some a0)), some (vi x1), some (vi x2), some (vr (some a3)), none]) (st2 := [vi 2]) rfl ?_
    exact R_iret rfl rfl ⟨_, rfl, k⟩
/-- DroneCorridorsLaw.plan -/
theorem m268 {T N : Nat → Nat} {h : PH} {a0 : Nat} {x1 : Int32} {x2 : Int32} {a3 : Nat} {K : Int32 → PH → Prop} (t0 : T a0 = 11) (t1 : T a3 = 24) (k : (CALL T N 119 [vr (some a0), vi x1, vi x2] h (fun o_3 h_2 => (∃ x_4, o_3 = .inl (some (vi x_4)) ∧ (inb 0 (N a3) ∧ ∀ h_6, h_6 = sL h_2 a3 0 x_4.toInt64 → K 0 h_6)) ∨ (o_3 = .inr 2 ∧ (K 1 h_2)) ∨ (o_3 = .inr 4 ∧ (K 2 h_2))))) : CI T N 268 [vr (some a0), vi x1, vi x2, vr (some a3)] h K := by
  show WP T N 268 0 [some (vr (some a0)), some (vi x1), some (vi x2), some (vr (some a3)), none] [] h _
  refine R_ps 5 (pc2 := 5) (L2 := [some (vr (some a0)), some (vi x1), some (vi x2), some (vr (some a3)), none]) (st2 := [vi x2, vi x1, vr (some a0), vi 0, vr (some a3)]) rfl ?_
  refine R_cX (as := [vr (some a0), vi x1, vi x2]) rfl rfl ⟨Nat.le_of_ble_eq_true rfl, Nat.le_of_ble_eq_true rfl, rfl, (Or.inr ⟨_, rfl, t0⟩)⟩ rfl rfl k (fun o_3 h_2 k => ?_)
  rcases k with ⟨x_4, rfl, k⟩ | ⟨rfl, k⟩ | ⟨rfl, k⟩
  · show WP T N _ 8 _ _ _ _
    refine R_ps 1 (pc2 := 9) (L2 := [some (vr (some a0)), some (vi x1), some (vi x2), some (vr (some a3)), none]) (st2 := [vl x_4.toInt64, vi 0, vr (some a3)]) rfl ?_
    obtain ⟨t_8, k⟩ := k
    refine R_last rfl t1 t_8  ?_
    show WP T N _ _ _ _ (sL h_2 a3 0 x_4.toInt64) _
    generalize e_7 : sL h_2 a3 0 x_4.toInt64 = h_6
    replace k := k h_6 e_7.symm
    refine R_ps 2 (pc2 := 22) (L2 := [some (vr (some a0)), some (vi x1), some (vi x2), some (vr (some a3)), none]) (st2 := [vi 0]) rfl ?_
    exact R_iret rfl rfl ⟨_, rfl, k⟩
  · show WP T N _ 15 [some (vr (some a0)), some (vi x1), some (vi x2), some (vr (some a3)), none] [] _ _
    refine R_ps 1 (pc2 := 16) (L2 := [some (vr (some a0)), some (vi x1), some (vi x2), some (vr (some a3)), none]) (st2 := [vi 1]) rfl ?_
    exact R_iret rfl rfl ⟨_, rfl, k⟩
  · show WP T N _ 19 [some (vr (some a0)), some (vi x1), some (vi x2), some (vr (some a3)), none] [] _ _
    refine R_ps 1 (pc2 := 20) (L2 := [some (vr (some a0)), some (vi x1), some (vi x2), some (vr (some a3)), none]) (st2 := [vi 2]) rfl ?_
    exact R_iret rfl rfl ⟨_, rfl, k⟩
/-- DroneCorridorsLaw.arrival -/
theorem m269 {T N : Nat → Nat} {h : PH} {a0 : Nat} {x1 : Int32} {x2 : Int32} {a3 : Nat} {K : Int32 → PH → Prop} (t0 : T a0 = 11) (t1 : T a3 = 24) (k : (CALL T N 120 [vr (some a0), vi x1, vi x2] h (fun o_3 h_2 => (∃ x_4, o_3 = .inl (some (vi x_4)) ∧ (inb 0 (N a3) ∧ ∀ h_6, h_6 = sL h_2 a3 0 x_4.toInt64 → K 0 h_6)) ∨ (o_3 = .inr 2 ∧ (K 1 h_2)) ∨ (o_3 = .inr 5 ∧ (K 2 h_2))))) : CI T N 269 [vr (some a0), vi x1, vi x2, vr (some a3)] h K := by
  show WP T N 269 0 [some (vr (some a0)), some (vi x1), some (vi x2), some (vr (some a3)), none] [] h _
  refine R_ps 5 (pc2 := 5) (L2 := [some (vr (some a0)), some (vi x1), some (vi x2), some (vr (some a3)), none]) (st2 := [vi x2, vi x1, vr (some a0), vi 0, vr (some a3)]) rfl ?_
  refine R_cX (as := [vr (some a0), vi x1, vi x2]) rfl rfl ⟨Nat.le_of_ble_eq_true rfl, Nat.le_of_ble_eq_true rfl, rfl, (Or.inr ⟨_, rfl, t0⟩)⟩ rfl rfl k (fun o_3 h_2 k => ?_)
  rcases k with ⟨x_4, rfl, k⟩ | ⟨rfl, k⟩ | ⟨rfl, k⟩
  · show WP T N _ 8 _ _ _ _
    refine R_ps 1 (pc2 := 9) (L2 := [some (vr (some a0)), some (vi x1), some (vi x2), some (vr (some a3)), none]) (st2 := [vl x_4.toInt64, vi 0, vr (some a3)]) rfl ?_
    obtain ⟨t_8, k⟩ := k
    refine R_last rfl t1 t_8  ?_
    show WP T N _ _ _ _ (sL h_2 a3 0 x_4.toInt64) _
    generalize e_7 : sL h_2 a3 0 x_4.toInt64 = h_6
    replace k := k h_6 e_7.symm
    refine R_ps 2 (pc2 := 22) (L2 := [some (vr (some a0)), some (vi x1), some (vi x2), some (vr (some a3)), none]) (st2 := [vi 0]) rfl ?_
    exact R_iret rfl rfl ⟨_, rfl, k⟩
  · show WP T N _ 15 [some (vr (some a0)), some (vi x1), some (vi x2), some (vr (some a3)), none] [] _ _
    refine R_ps 1 (pc2 := 16) (L2 := [some (vr (some a0)), some (vi x1), some (vi x2), some (vr (some a3)), none]) (st2 := [vi 1]) rfl ?_
    exact R_iret rfl rfl ⟨_, rfl, k⟩
  · show WP T N _ 19 [some (vr (some a0)), some (vi x1), some (vi x2), some (vr (some a3)), none] [] _ _
    refine R_ps 1 (pc2 := 20) (L2 := [some (vr (some a0)), some (vi x1), some (vi x2), some (vr (some a3)), none]) (st2 := [vi 2]) rfl ?_
    exact R_iret rfl rfl ⟨_, rfl, k⟩
/-- DroneCorridorsLaw.planEnergy -/
theorem m270 {T N : Nat → Nat} {h : PH} {a0 : Nat} {x1 : Int32} {x2 : Int32} {a3 : Nat} {K : Int32 → PH → Prop} (t0 : T a0 = 11) (t1 : T a3 = 24) (k : (CALL T N 121 [vr (some a0), vi x1, vi x2] h (fun o_3 h_2 => (∃ x_4, o_3 = .inl (some (vi x_4)) ∧ (inb 0 (N a3) ∧ ∀ h_6, h_6 = sL h_2 a3 0 x_4.toInt64 → K 0 h_6)) ∨ (o_3 = .inr 2 ∧ (K 1 h_2)) ∨ (o_3 = .inr 5 ∧ (K 2 h_2))))) : CI T N 270 [vr (some a0), vi x1, vi x2, vr (some a3)] h K := by
  show WP T N 270 0 [some (vr (some a0)), some (vi x1), some (vi x2), some (vr (some a3)), none] [] h _
  refine R_ps 5 (pc2 := 5) (L2 := [some (vr (some a0)), some (vi x1), some (vi x2), some (vr (some a3)), none]) (st2 := [vi x2, vi x1, vr (some a0), vi 0, vr (some a3)]) rfl ?_
  refine R_cX (as := [vr (some a0), vi x1, vi x2]) rfl rfl ⟨Nat.le_of_ble_eq_true rfl, Nat.le_of_ble_eq_true rfl, rfl, (Or.inr ⟨_, rfl, t0⟩)⟩ rfl rfl k (fun o_3 h_2 k => ?_)
  rcases k with ⟨x_4, rfl, k⟩ | ⟨rfl, k⟩ | ⟨rfl, k⟩
  · show WP T N _ 8 _ _ _ _
    refine R_ps 1 (pc2 := 9) (L2 := [some (vr (some a0)), some (vi x1), some (vi x2), some (vr (some a3)), none]) (st2 := [vl x_4.toInt64, vi 0, vr (some a3)]) rfl ?_
    obtain ⟨t_8, k⟩ := k
    refine R_last rfl t1 t_8  ?_
    show WP T N _ _ _ _ (sL h_2 a3 0 x_4.toInt64) _
    generalize e_7 : sL h_2 a3 0 x_4.toInt64 = h_6
    replace k := k h_6 e_7.symm
    refine R_ps 2 (pc2 := 22) (L2 := [some (vr (some a0)), some (vi x1), some (vi x2), some (vr (some a3)), none]) (st2 := [vi 0]) rfl ?_
    exact R_iret rfl rfl ⟨_, rfl, k⟩
  · show WP T N _ 15 [some (vr (some a0)), some (vi x1), some (vi x2), some (vr (some a3)), none] [] _ _
    refine R_ps 1 (pc2 := 16) (L2 := [some (vr (some a0)), some (vi x1), some (vi x2), some (vr (some a3)), none]) (st2 := [vi 1]) rfl ?_
    exact R_iret rfl rfl ⟨_, rfl, k⟩
  · show WP T N _ 19 [some (vr (some a0)), some (vi x1), some (vi x2), some (vr (some a3)), none] [] _ _
    refine R_ps 1 (pc2 := 20) (L2 := [some (vr (some a0)), some (vi x1), some (vi x2), some (vr (some a3)), none]) (st2 := [vi 2]) rfl ?_
    exact R_iret rfl rfl ⟨_, rfl, k⟩
/-- DroneCorridorsLaw.leg -/
theorem m271 {T N : Nat → Nat} {h : PH} {a0 : Nat} {x1 : Int32} {x2 : Int32} {x3 : Int32} {a4 : Nat} {K : Int32 → PH → Prop} (t0 : T a0 = 11) (t1 : T a4 = 24) (k : (CALL T N 122 [vr (some a0), vi x1, vi x2, vi x3] h (fun o_3 h_2 => (∃ x_4, o_3 = .inl (some (vi x_4)) ∧ (inb 0 (N a4) ∧ ∀ h_6, h_6 = sL h_2 a4 0 x_4.toInt64 → K 0 h_6)) ∨ (o_3 = .inr 2 ∧ (K 1 h_2)) ∨ (o_3 = .inr 1 ∧ (K 2 h_2))))) : CI T N 271 [vr (some a0), vi x1, vi x2, vi x3, vr (some a4)] h K := by
  show WP T N 271 0 [some (vr (some a0)), some (vi x1), some (vi x2), some (vi x3), some (vr (some a4)), none] [] h _
  refine R_ps 6 (pc2 := 7) (L2 := [some (vr (some a0)), some (vi x1), some (vi x2), some (vi x3), some (vr (some a4)), none]) (st2 := [vi x3, vi x2, vi x1, vr (some a0), vi 0, vr (some a4)]) rfl ?_
  refine R_cX (as := [vr (some a0), vi x1, vi x2, vi x3]) rfl rfl ⟨Nat.le_of_ble_eq_true rfl, Nat.le_of_ble_eq_true rfl, rfl, (Or.inr ⟨_, rfl, t0⟩)⟩ rfl rfl k (fun o_3 h_2 k => ?_)
  rcases k with ⟨x_4, rfl, k⟩ | ⟨rfl, k⟩ | ⟨rfl, k⟩
  · show WP T N _ 10 _ _ _ _
    refine R_ps 1 (pc2 := 11) (L2 := [some (vr (some a0)), some (vi x1), some (vi x2), some (vi x3), some (vr (some a4)), none]) (st2 := [vl x_4.toInt64, vi 0, vr (some a4)]) rfl ?_
    obtain ⟨t_8, k⟩ := k
    refine R_last rfl t1 t_8  ?_
    show WP T N _ _ _ _ (sL h_2 a4 0 x_4.toInt64) _
    generalize e_7 : sL h_2 a4 0 x_4.toInt64 = h_6
    replace k := k h_6 e_7.symm
    refine R_ps 2 (pc2 := 24) (L2 := [some (vr (some a0)), some (vi x1), some (vi x2), some (vi x3), some (vr (some a4)), none]) (st2 := [vi 0]) rfl ?_
    exact R_iret rfl rfl ⟨_, rfl, k⟩
  · show WP T N _ 17 [some (vr (some a0)), some (vi x1), some (vi x2), some (vi x3), some (vr (some a4)), none] [] _ _
    refine R_ps 1 (pc2 := 18) (L2 := [some (vr (some a0)), some (vi x1), some (vi x2), some (vi x3), some (vr (some a4)), none]) (st2 := [vi 1]) rfl ?_
    exact R_iret rfl rfl ⟨_, rfl, k⟩
  · show WP T N _ 21 [some (vr (some a0)), some (vi x1), some (vi x2), some (vi x3), some (vr (some a4)), none] [] _ _
    refine R_ps 1 (pc2 := 22) (L2 := [some (vr (some a0)), some (vi x1), some (vi x2), some (vi x3), some (vr (some a4)), none]) (st2 := [vi 2]) rfl ?_
    exact R_iret rfl rfl ⟨_, rfl, k⟩
/-- DroneCorridorsLaw.cancel -/
theorem m272 {T N : Nat → Nat} {h : PH} {a0 : Nat} {x1 : Int32} {a2 : Nat} {K : Int32 → PH → Prop} (t0 : T a0 = 11) (t1 : T a2 = 24) (k : (CALL T N 123 [vr (some a0), vi x1] h (fun o_3 h_2 => (∃ x_4, o_3 = .inl (some (vi x_4)) ∧ (inb 0 (N a2) ∧ ∀ h_6, h_6 = sL h_2 a2 0 x_4.toInt64 → K 0 h_6)) ∨ (o_3 = .inr 2 ∧ (K 1 h_2))))) : CI T N 272 [vr (some a0), vi x1, vr (some a2)] h K := by
  show WP T N 272 0 [some (vr (some a0)), some (vi x1), some (vr (some a2)), none] [] h _
  refine R_ps 4 (pc2 := 4) (L2 := [some (vr (some a0)), some (vi x1), some (vr (some a2)), none]) (st2 := [vi x1, vr (some a0), vi 0, vr (some a2)]) rfl ?_
  refine R_cX (as := [vr (some a0), vi x1]) rfl rfl ⟨Nat.le_of_ble_eq_true rfl, Nat.le_of_ble_eq_true rfl, rfl, (Or.inr ⟨_, rfl, t0⟩)⟩ rfl rfl k (fun o_3 h_2 k => ?_)
  rcases k with ⟨x_4, rfl, k⟩ | ⟨rfl, k⟩
  · show WP T N _ 7 _ _ _ _
    refine R_ps 1 (pc2 := 8) (L2 := [some (vr (some a0)), some (vi x1), some (vr (some a2)), none]) (st2 := [vl x_4.toInt64, vi 0, vr (some a2)]) rfl ?_
    obtain ⟨t_8, k⟩ := k
    refine R_last rfl t1 t_8  ?_
    show WP T N _ _ _ _ (sL h_2 a2 0 x_4.toInt64) _
    generalize e_7 : sL h_2 a2 0 x_4.toInt64 = h_6
    replace k := k h_6 e_7.symm
    refine R_ps 2 (pc2 := 16) (L2 := [some (vr (some a0)), some (vi x1), some (vr (some a2)), none]) (st2 := [vi 0]) rfl ?_
    exact R_iret rfl rfl ⟨_, rfl, k⟩
  · show WP T N _ 13 [some (vr (some a0)), some (vi x1), some (vr (some a2)), none] [] _ _
    refine R_ps 1 (pc2 := 14) (L2 := [some (vr (some a0)), some (vi x1), some (vr (some a2)), none]) (st2 := [vi 1]) rfl ?_
    exact R_iret rfl rfl ⟨_, rfl, k⟩
/-- DroneCorridorsLaw.drain -/
theorem m273 {T N : Nat → Nat} {h : PH} {a0 : Nat} {x1 : Int32} {x2 : Int32} {a3 : Nat} {K : Int32 → PH → Prop} (t0 : T a0 = 11) (t1 : T a3 = 24) (k : (CALL T N 124 [vr (some a0), vi x1, vi x2] h (fun o_3 h_2 => (∃ x_4, o_3 = .inl (some (vi x_4)) ∧ (inb 0 (N a3) ∧ ∀ h_6, h_6 = sL h_2 a3 0 x_4.toInt64 → K 0 h_6)) ∨ (o_3 = .inr 2 ∧ (K 1 h_2)) ∨ (o_3 = .inr 1 ∧ (K 2 h_2)) ∨ (o_3 = .inr 0 ∧ (K 3 h_2))))) : CI T N 273 [vr (some a0), vi x1, vi x2, vr (some a3)] h K := by
  show WP T N 273 0 [some (vr (some a0)), some (vi x1), some (vi x2), some (vr (some a3)), none] [] h _
  refine R_ps 5 (pc2 := 5) (L2 := [some (vr (some a0)), some (vi x1), some (vi x2), some (vr (some a3)), none]) (st2 := [vi x2, vi x1, vr (some a0), vi 0, vr (some a3)]) rfl ?_
  refine R_cX (as := [vr (some a0), vi x1, vi x2]) rfl rfl ⟨Nat.le_of_ble_eq_true rfl, Nat.le_of_ble_eq_true rfl, rfl, (Or.inr ⟨_, rfl, t0⟩)⟩ rfl rfl k (fun o_3 h_2 k => ?_)
  rcases k with ⟨x_4, rfl, k⟩ | ⟨rfl, k⟩ | ⟨rfl, k⟩ | ⟨rfl, k⟩
  · show WP T N _ 8 _ _ _ _
    refine R_ps 1 (pc2 := 9) (L2 := [some (vr (some a0)), some (vi x1), some (vi x2), some (vr (some a3)), none]) (st2 := [vl x_4.toInt64, vi 0, vr (some a3)]) rfl ?_
    obtain ⟨t_8, k⟩ := k
    refine R_last rfl t1 t_8  ?_
    show WP T N _ _ _ _ (sL h_2 a3 0 x_4.toInt64) _
    generalize e_7 : sL h_2 a3 0 x_4.toInt64 = h_6
    replace k := k h_6 e_7.symm
    refine R_ps 2 (pc2 := 26) (L2 := [some (vr (some a0)), some (vi x1), some (vi x2), some (vr (some a3)), none]) (st2 := [vi 0]) rfl ?_
    exact R_iret rfl rfl ⟨_, rfl, k⟩
  · show WP T N _ 15 [some (vr (some a0)), some (vi x1), some (vi x2), some (vr (some a3)), none] [] _ _
    refine R_ps 1 (pc2 := 16) (L2 := [some (vr (some a0)), some (vi x1), some (vi x2), some (vr (some a3)), none]) (st2 := [vi 1]) rfl ?_
    exact R_iret rfl rfl ⟨_, rfl, k⟩
  · show WP T N _ 19 [some (vr (some a0)), some (vi x1), some (vi x2), some (vr (some a3)), none] [] _ _
    refine R_ps 1 (pc2 := 20) (L2 := [some (vr (some a0)), some (vi x1), some (vi x2), some (vr (some a3)), none]) (st2 := [vi 2]) rfl ?_
    exact R_iret rfl rfl ⟨_, rfl, k⟩
  · show WP T N _ 23 [some (vr (some a0)), some (vi x1), some (vi x2), some (vr (some a3)), none] [] _ _
    refine R_ps 1 (pc2 := 24) (L2 := [some (vr (some a0)), some (vi x1), some (vi x2), some (vr (some a3)), none]) (st2 := [vi 3]) rfl ?_
    exact R_iret rfl rfl ⟨_, rfl, k⟩
/-- DroneCorridorsLaw.nearestPad -/
theorem m274 {T N : Nat → Nat} {h : PH} {a0 : Nat} {x1 : Int32} {a2 : Nat} {K : Int32 → PH → Prop} (t0 : T a0 = 11) (t1 : T a2 = 24) (k : (CALL T N 127 [vr (some a0), vi x1] h (fun o_3 h_2 => (∃ x_4, o_3 = .inl (some (vi x_4)) ∧ (inb 0 (N a2) ∧ ∀ h_6, h_6 = sL h_2 a2 0 x_4.toInt64 → K 0 h_6)) ∨ (o_3 = .inr 2 ∧ (K 1 h_2)) ∨ (o_3 = .inr 5 ∧ (K 2 h_2))))) : CI T N 274 [vr (some a0), vi x1, vr (some a2)] h K := by
  show WP T N 274 0 [some (vr (some a0)), some (vi x1), some (vr (some a2)), none] [] h _
  refine R_ps 4 (pc2 := 4) (L2 := [some (vr (some a0)), some (vi x1), some (vr (some a2)), none]) (st2 := [vi x1, vr (some a0), vi 0, vr (some a2)]) rfl ?_
  refine R_cX (as := [vr (some a0), vi x1]) rfl rfl ⟨Nat.le_of_ble_eq_true rfl, Nat.le_of_ble_eq_true rfl, rfl, (Or.inr ⟨_, rfl, t0⟩)⟩ rfl rfl k (fun o_3 h_2 k => ?_)
  rcases k with ⟨x_4, rfl, k⟩ | ⟨rfl, k⟩ | ⟨rfl, k⟩
  · show WP T N _ 7 _ _ _ _
    refine R_ps 1 (pc2 := 8) (L2 := [some (vr (some a0)), some (vi x1), some (vr (some a2)), none]) (st2 := [vl x_4.toInt64, vi 0, vr (some a2)]) rfl ?_
    obtain ⟨t_8, k⟩ := k
    refine R_last rfl t1 t_8  ?_
    show WP T N _ _ _ _ (sL h_2 a2 0 x_4.toInt64) _
    generalize e_7 : sL h_2 a2 0 x_4.toInt64 = h_6
    replace k := k h_6 e_7.symm
    refine R_ps 2 (pc2 := 19) (L2 := [some (vr (some a0)), some (vi x1), some (vr (some a2)), none]) (st2 := [vi 0]) rfl ?_
    exact R_iret rfl rfl ⟨_, rfl, k⟩
  · show WP T N _ 13 [some (vr (some a0)), some (vi x1), some (vr (some a2)), none] [] _ _
    refine R_ps 1 (pc2 := 14) (L2 := [some (vr (some a0)), some (vi x1), some (vr (some a2)), none]) (st2 := [vi 1]) rfl ?_
    exact R_iret rfl rfl ⟨_, rfl, k⟩
  · show WP T N _ 16 [some (vr (some a0)), some (vi x1), some (vr (some a2)), none] [] _ _
    refine R_ps 1 (pc2 := 17) (L2 := [some (vr (some a0)), some (vi x1), some (vr (some a2)), none]) (st2 := [vi 2]) rfl ?_
    exact R_iret rfl rfl ⟨_, rfl, k⟩
/-- DroneCorridorsLaw.reason -/
theorem m275 {T N : Nat → Nat} {h : PH} {a0 : Nat} {a1 : Nat} {K : Int32 → PH → Prop} (t0 : T a0 = 11) (t1 : T a1 = 24) (k : (CALL T N 129 [vr (some a0)] h (fun o_3 h_2 => (∃ x_4, o_3 = .inl (some (vi x_4)) ∧ (inb 0 (N a1) ∧ ∀ h_6, h_6 = sL h_2 a1 0 x_4.toInt64 → K 0 h_6)) ∨ (o_3 = .inr 5 ∧ (K 1 h_2))))) : CI T N 275 [vr (some a0), vr (some a1)] h K := by
  show WP T N 275 0 [some (vr (some a0)), some (vr (some a1)), none] [] h _
  refine R_ps 3 (pc2 := 3) (L2 := [some (vr (some a0)), some (vr (some a1)), none]) (st2 := [vr (some a0), vi 0, vr (some a1)]) rfl ?_
  refine R_cX (as := [vr (some a0)]) rfl rfl ⟨Nat.le_of_ble_eq_true rfl, Nat.le_of_ble_eq_true rfl, rfl, (Or.inr ⟨_, rfl, t0⟩)⟩ rfl rfl k (fun o_3 h_2 k => ?_)
  rcases k with ⟨x_4, rfl, k⟩ | ⟨rfl, k⟩
  · show WP T N _ 6 _ _ _ _
    refine R_ps 1 (pc2 := 7) (L2 := [some (vr (some a0)), some (vr (some a1)), none]) (st2 := [vl x_4.toInt64, vi 0, vr (some a1)]) rfl ?_
    obtain ⟨t_8, k⟩ := k
    refine R_last rfl t1 t_8  ?_
    show WP T N _ _ _ _ (sL h_2 a1 0 x_4.toInt64) _
    generalize e_7 : sL h_2 a1 0 x_4.toInt64 = h_6
    replace k := k h_6 e_7.symm
    refine R_ps 2 (pc2 := 15) (L2 := [some (vr (some a0)), some (vr (some a1)), none]) (st2 := [vi 0]) rfl ?_
    exact R_iret rfl rfl ⟨_, rfl, k⟩
  · show WP T N _ 12 [some (vr (some a0)), some (vr (some a1)), none] [] _ _
    refine R_ps 1 (pc2 := 13) (L2 := [some (vr (some a0)), some (vr (some a1)), none]) (st2 := [vi 1]) rfl ?_
    exact R_iret rfl rfl ⟨_, rfl, k⟩
/-- DroneCorridorsLaw.advance -/
theorem m276 {T N : Nat → Nat} {h : PH} {a0 : Nat} {x1 : Int32} {a2 : Nat} {K : Int32 → PH → Prop} (t0 : T a0 = 11) (t1 : T a2 = 24) (k : (CALL T N 130 [vr (some a0), vi x1] h (fun o_3 h_2 => (∃ x_4, o_3 = .inl (some (vi x_4)) ∧ (inb 0 (N a2) ∧ ∀ h_6, h_6 = sL h_2 a2 0 x_4.toInt64 → K 0 h_6)) ∨ (o_3 = .inr 1 ∧ (K 1 h_2)) ∨ (o_3 = .inr 0 ∧ (K 2 h_2))))) : CI T N 276 [vr (some a0), vi x1, vr (some a2)] h K := by
  show WP T N 276 0 [some (vr (some a0)), some (vi x1), some (vr (some a2)), none] [] h _
  refine R_ps 4 (pc2 := 4) (L2 := [some (vr (some a0)), some (vi x1), some (vr (some a2)), none]) (st2 := [vi x1, vr (some a0), vi 0, vr (some a2)]) rfl ?_
  refine R_cX (as := [vr (some a0), vi x1]) rfl rfl ⟨Nat.le_of_ble_eq_true rfl, Nat.le_of_ble_eq_true rfl, rfl, (Or.inr ⟨_, rfl, t0⟩)⟩ rfl rfl k (fun o_3 h_2 k => ?_)
  rcases k with ⟨x_4, rfl, k⟩ | ⟨rfl, k⟩ | ⟨rfl, k⟩
  · show WP T N _ 7 _ _ _ _
    refine R_ps 1 (pc2 := 8) (L2 := [some (vr (some a0)), some (vi x1), some (vr (some a2)), none]) (st2 := [vl x_4.toInt64, vi 0, vr (some a2)]) rfl ?_
    obtain ⟨t_8, k⟩ := k
    refine R_last rfl t1 t_8  ?_
    show WP T N _ _ _ _ (sL h_2 a2 0 x_4.toInt64) _
    generalize e_7 : sL h_2 a2 0 x_4.toInt64 = h_6
    replace k := k h_6 e_7.symm
    refine R_ps 2 (pc2 := 19) (L2 := [some (vr (some a0)), some (vi x1), some (vr (some a2)), none]) (st2 := [vi 0]) rfl ?_
    exact R_iret rfl rfl ⟨_, rfl, k⟩
  · show WP T N _ 13 [some (vr (some a0)), some (vi x1), some (vr (some a2)), none] [] _ _
    refine R_ps 1 (pc2 := 14) (L2 := [some (vr (some a0)), some (vi x1), some (vr (some a2)), none]) (st2 := [vi 1]) rfl ?_
    exact R_iret rfl rfl ⟨_, rfl, k⟩
  · show WP T N _ 16 [some (vr (some a0)), some (vi x1), some (vr (some a2)), none] [] _ _
    refine R_ps 1 (pc2 := 17) (L2 := [some (vr (some a0)), some (vi x1), some (vr (some a2)), none]) (st2 := [vi 2]) rfl ?_
    exact R_iret rfl rfl ⟨_, rfl, k⟩
/-- DroneCorridorsLaw.placeAfter -/
theorem m277 {T N : Nat → Nat} {h : PH} {a0 : Nat} {x1 : Int32} {x2 : Int32} {a3 : Nat} {K : Int32 → PH → Prop} (t0 : T a0 = 11) (t1 : T a3 = 24) (k : (CALL T N 131 [vr (some a0), vi x1, vi x2] h (fun o_3 h_2 => (∃ x_4, o_3 = .inl (some (vi x_4)) ∧ (inb 0 (N a3) ∧ ∀ h_6, h_6 = sL h_2 a3 0 x_4.toInt64 → K 0 h_6)) ∨ (o_3 = .inr 2 ∧ (K 1 h_2)) ∨ (o_3 = .inr 1 ∧ (K 2 h_2))))) : CI T N 277 [vr (some a0), vi x1, vi x2, vr (some a3)] h K := by
  show WP T N 277 0 [some (vr (some a0)), some (vi x1), some (vi x2), some (vr (some a3)), none] [] h _
  refine R_ps 5 (pc2 := 5) (L2 := [some (vr (some a0)), some (vi x1), some (vi x2), some (vr (some a3)), none]) (st2 := [vi x2, vi x1, vr (some a0), vi 0, vr (some a3)]) rfl ?_
  refine R_cX (as := [vr (some a0), vi x1, vi x2]) rfl rfl ⟨Nat.le_of_ble_eq_true rfl, Nat.le_of_ble_eq_true rfl, rfl, (Or.inr ⟨_, rfl, t0⟩)⟩ rfl rfl k (fun o_3 h_2 k => ?_)
  rcases k with ⟨x_4, rfl, k⟩ | ⟨rfl, k⟩ | ⟨rfl, k⟩
  · show WP T N _ 8 _ _ _ _
    refine R_ps 1 (pc2 := 9) (L2 := [some (vr (some a0)), some (vi x1), some (vi x2), some (vr (some a3)), none]) (st2 := [vl x_4.toInt64, vi 0, vr (some a3)]) rfl ?_
    obtain ⟨t_8, k⟩ := k
    refine R_last rfl t1 t_8  ?_
    show WP T N _ _ _ _ (sL h_2 a3 0 x_4.toInt64) _
    generalize e_7 : sL h_2 a3 0 x_4.toInt64 = h_6
    replace k := k h_6 e_7.symm
    refine R_ps 2 (pc2 := 22) (L2 := [some (vr (some a0)), some (vi x1), some (vi x2), some (vr (some a3)), none]) (st2 := [vi 0]) rfl ?_
    exact R_iret rfl rfl ⟨_, rfl, k⟩
  · show WP T N _ 15 [some (vr (some a0)), some (vi x1), some (vi x2), some (vr (some a3)), none] [] _ _
    refine R_ps 1 (pc2 := 16) (L2 := [some (vr (some a0)), some (vi x1), some (vi x2), some (vr (some a3)), none]) (st2 := [vi 1]) rfl ?_
    exact R_iret rfl rfl ⟨_, rfl, k⟩
  · show WP T N _ 19 [some (vr (some a0)), some (vi x1), some (vi x2), some (vr (some a3)), none] [] _ _
    refine R_ps 1 (pc2 := 20) (L2 := [some (vr (some a0)), some (vi x1), some (vi x2), some (vr (some a3)), none]) (st2 := [vi 2]) rfl ?_
    exact R_iret rfl rfl ⟨_, rfl, k⟩
/-- DroneCorridorsLaw.uses -/
theorem m278 {T N : Nat → Nat} {h : PH} {a0 : Nat} {x1 : Int32} {x2 : Int32} {a3 : Nat} {K : Int32 → PH → Prop} (t0 : T a0 = 11) (t1 : T a3 = 24) (k : (CALL T N 133 [vr (some a0), vi x1, vi x2] h (fun o_3 h_2 => (∃ x_4, o_3 = .inl (some (vi x_4)) ∧ (inb 0 (N a3) ∧ ∀ h_6, h_6 = sL h_2 a3 0 x_4.toInt64 → K 0 h_6)) ∨ (o_3 = .inr 2 ∧ (K 1 h_2)) ∨ (o_3 = .inr 1 ∧ (K 2 h_2))))) : CI T N 278 [vr (some a0), vi x1, vi x2, vr (some a3)] h K := by
  show WP T N 278 0 [some (vr (some a0)), some (vi x1), some (vi x2), some (vr (some a3)), none] [] h _
  refine R_ps 5 (pc2 := 5) (L2 := [some (vr (some a0)), some (vi x1), some (vi x2), some (vr (some a3)), none]) (st2 := [vi x2, vi x1, vr (some a0), vi 0, vr (some a3)]) rfl ?_
  refine R_cX (as := [vr (some a0), vi x1, vi x2]) rfl rfl ⟨Nat.le_of_ble_eq_true rfl, Nat.le_of_ble_eq_true rfl, rfl, (Or.inr ⟨_, rfl, t0⟩)⟩ rfl rfl k (fun o_3 h_2 k => ?_)
  rcases k with ⟨x_4, rfl, k⟩ | ⟨rfl, k⟩ | ⟨rfl, k⟩
  · show WP T N _ 8 _ _ _ _
    refine R_ps 1 (pc2 := 9) (L2 := [some (vr (some a0)), some (vi x1), some (vi x2), some (vr (some a3)), none]) (st2 := [vl x_4.toInt64, vi 0, vr (some a3)]) rfl ?_
    obtain ⟨t_8, k⟩ := k
    refine R_last rfl t1 t_8  ?_
    show WP T N _ _ _ _ (sL h_2 a3 0 x_4.toInt64) _
    generalize e_7 : sL h_2 a3 0 x_4.toInt64 = h_6
    replace k := k h_6 e_7.symm
    refine R_ps 2 (pc2 := 22) (L2 := [some (vr (some a0)), some (vi x1), some (vi x2), some (vr (some a3)), none]) (st2 := [vi 0]) rfl ?_
    exact R_iret rfl rfl ⟨_, rfl, k⟩
  · show WP T N _ 15 [some (vr (some a0)), some (vi x1), some (vi x2), some (vr (some a3)), none] [] _ _
    refine R_ps 1 (pc2 := 16) (L2 := [some (vr (some a0)), some (vi x1), some (vi x2), some (vr (some a3)), none]) (st2 := [vi 1]) rfl ?_
    exact R_iret rfl rfl ⟨_, rfl, k⟩
  · show WP T N _ 19 [some (vr (some a0)), some (vi x1), some (vi x2), some (vr (some a3)), none] [] _ _
    refine R_ps 1 (pc2 := 20) (L2 := [some (vr (some a0)), some (vi x1), some (vi x2), some (vr (some a3)), none]) (st2 := [vi 2]) rfl ?_
    exact R_iret rfl rfl ⟨_, rfl, k⟩
/-- DroneCorridorsLaw.account -/
theorem m279 {T N : Nat → Nat} {h : PH} {a0 : Nat} {x1 : Int32} {x2 : Int32} {a3 : Nat} {K : Int32 → PH → Prop} (t0 : T a0 = 11) (t1 : T a3 = 24) (k : (CALL T N 134 [vr (some a0), vi x1, vi x2] h (fun o_3 h_2 => (∃ x_4, o_3 = .inl (some (vi x_4)) ∧ (inb 0 (N a3) ∧ ∀ h_6, h_6 = sL h_2 a3 0 x_4.toInt64 → K 0 h_6)) ∨ (o_3 = .inr 2 ∧ (K 1 h_2)) ∨ (o_3 = .inr 1 ∧ (K 2 h_2))))) : CI T N 279 [vr (some a0), vi x1, vi x2, vr (some a3)] h K := by
  show WP T N 279 0 [some (vr (some a0)), some (vi x1), some (vi x2), some (vr (some a3)), none] [] h _
  refine R_ps 5 (pc2 := 5) (L2 := [some (vr (some a0)), some (vi x1), some (vi x2), some (vr (some a3)), none]) (st2 := [vi x2, vi x1, vr (some a0), vi 0, vr (some a3)]) rfl ?_
  refine R_cX (as := [vr (some a0), vi x1, vi x2]) rfl rfl ⟨Nat.le_of_ble_eq_true rfl, Nat.le_of_ble_eq_true rfl, rfl, (Or.inr ⟨_, rfl, t0⟩)⟩ rfl rfl k (fun o_3 h_2 k => ?_)
  rcases k with ⟨x_4, rfl, k⟩ | ⟨rfl, k⟩ | ⟨rfl, k⟩
  · show WP T N _ 8 _ _ _ _
    refine R_ps 1 (pc2 := 9) (L2 := [some (vr (some a0)), some (vi x1), some (vi x2), some (vr (some a3)), none]) (st2 := [vl x_4.toInt64, vi 0, vr (some a3)]) rfl ?_
    obtain ⟨t_8, k⟩ := k
    refine R_last rfl t1 t_8  ?_
    show WP T N _ _ _ _ (sL h_2 a3 0 x_4.toInt64) _
    generalize e_7 : sL h_2 a3 0 x_4.toInt64 = h_6
    replace k := k h_6 e_7.symm
    refine R_ps 2 (pc2 := 22) (L2 := [some (vr (some a0)), some (vi x1), some (vi x2), some (vr (some a3)), none]) (st2 := [vi 0]) rfl ?_
    exact R_iret rfl rfl ⟨_, rfl, k⟩
  · show WP T N _ 15 [some (vr (some a0)), some (vi x1), some (vi x2), some (vr (some a3)), none] [] _ _
    refine R_ps 1 (pc2 := 16) (L2 := [some (vr (some a0)), some (vi x1), some (vi x2), some (vr (some a3)), none]) (st2 := [vi 1]) rfl ?_
    exact R_iret rfl rfl ⟨_, rfl, k⟩
  · show WP T N _ 19 [some (vr (some a0)), some (vi x1), some (vi x2), some (vr (some a3)), none] [] _ _
    refine R_ps 1 (pc2 := 20) (L2 := [some (vr (some a0)), some (vi x1), some (vi x2), some (vr (some a3)), none]) (st2 := [vi 2]) rfl ?_
    exact R_iret rfl rfl ⟨_, rfl, k⟩
/-- DroneCorridorsLaw.flyingShare -/
theorem m280 {T N : Nat → Nat} {h : PH} {a0 : Nat} {a1 : Nat} {K : Int32 → PH → Prop} (t0 : T a0 = 11) (t1 : T a1 = 25) (k : (CALL T N 136 [vr (some a0)] h (fun o_3 h_2 => (∃ x_4, o_3 = .inl (some (vd x_4)) ∧ (inb 0 (N a1) ∧ ∀ h_6, h_6 = sd h_2 a1 0 x_4 → K 0 h_6)) ∨ (o_3 = .inr 3 ∧ (K 1 h_2))))) : CI T N 280 [vr (some a0), vr (some a1)] h K := by
  show WP T N 280 0 [some (vr (some a0)), some (vr (some a1)), none] [] h _
  refine R_ps 3 (pc2 := 3) (L2 := [some (vr (some a0)), some (vr (some a1)), none]) (st2 := [vr (some a0), vi 0, vr (some a1)]) rfl ?_
  refine R_cX (as := [vr (some a0)]) rfl rfl ⟨Nat.le_of_ble_eq_true rfl, Nat.le_of_ble_eq_true rfl, rfl, (Or.inr ⟨_, rfl, t0⟩)⟩ rfl rfl k (fun o_3 h_2 k => ?_)
  rcases k with ⟨x_4, rfl, k⟩ | ⟨rfl, k⟩
  · show WP T N _ 6 _ _ _ _
    obtain ⟨t_8, k⟩ := k
    refine R_dast rfl t1 t_8  ?_
    show WP T N _ _ _ _ (sd h_2 a1 0 x_4) _
    generalize e_7 : sd h_2 a1 0 x_4 = h_6
    replace k := k h_6 e_7.symm
    refine R_ps 2 (pc2 := 14) (L2 := [some (vr (some a0)), some (vr (some a1)), none]) (st2 := [vi 0]) rfl ?_
    exact R_iret rfl rfl ⟨_, rfl, k⟩
  · show WP T N _ 11 [some (vr (some a0)), some (vr (some a1)), none] [] _ _
    refine R_ps 1 (pc2 := 12) (L2 := [some (vr (some a0)), some (vr (some a1)), none]) (st2 := [vi 1]) rfl ?_
    exact R_iret rfl rfl ⟨_, rfl, k⟩
/-- DroneCorridorsLaw.busiest -/
theorem m281 {T N : Nat → Nat} {h : PH} {a0 : Nat} {a1 : Nat} {K : Int32 → PH → Prop} (t0 : T a0 = 11) (t1 : T a1 = 24) (k : (CALL T N 137 [vr (some a0)] h (fun o_3 h_2 => (∃ x_4, o_3 = .inl (some (vi x_4)) ∧ (inb 0 (N a1) ∧ ∀ h_6, h_6 = sL h_2 a1 0 x_4.toInt64 → K 0 h_6)) ∨ (o_3 = .inr 5 ∧ (K 1 h_2))))) : CI T N 281 [vr (some a0), vr (some a1)] h K := by
  show WP T N 281 0 [some (vr (some a0)), some (vr (some a1)), none] [] h _
  refine R_ps 3 (pc2 := 3) (L2 := [some (vr (some a0)), some (vr (some a1)), none]) (st2 := [vr (some a0), vi 0, vr (some a1)]) rfl ?_
  refine R_cX (as := [vr (some a0)]) rfl rfl ⟨Nat.le_of_ble_eq_true rfl, Nat.le_of_ble_eq_true rfl, rfl, (Or.inr ⟨_, rfl, t0⟩)⟩ rfl rfl k (fun o_3 h_2 k => ?_)
  rcases k with ⟨x_4, rfl, k⟩ | ⟨rfl, k⟩
  · show WP T N _ 6 _ _ _ _
    refine R_ps 1 (pc2 := 7) (L2 := [some (vr (some a0)), some (vr (some a1)), none]) (st2 := [vl x_4.toInt64, vi 0, vr (some a1)]) rfl ?_
    obtain ⟨t_8, k⟩ := k
    refine R_last rfl t1 t_8  ?_
    show WP T N _ _ _ _ (sL h_2 a1 0 x_4.toInt64) _
    generalize e_7 : sL h_2 a1 0 x_4.toInt64 = h_6
    replace k := k h_6 e_7.symm
    refine R_ps 2 (pc2 := 15) (L2 := [some (vr (some a0)), some (vr (some a1)), none]) (st2 := [vi 0]) rfl ?_
    exact R_iret rfl rfl ⟨_, rfl, k⟩
  · show WP T N _ 12 [some (vr (some a0)), some (vr (some a1)), none] [] _ _
    refine R_ps 1 (pc2 := 13) (L2 := [some (vr (some a0)), some (vr (some a1)), none]) (st2 := [vi 1]) rfl ?_
    exact R_iret rfl rfl ⟨_, rfl, k⟩
/-- DroneCorridorsLaw.append -/
theorem m282 {T N : Nat → Nat} {h : PH} {a0 : Nat} {x1 : Int32} {a2 : Nat} {K : Int32 → PH → Prop} (t0 : T a0 = 11) (t1 : T a2 = 24) (k : (CALL T N 138 [vr (some a0), vi x1] h (fun o_3 h_2 => (∃ x_4, o_3 = .inl (some (vi x_4)) ∧ (inb 0 (N a2) ∧ ∀ h_6, h_6 = sL h_2 a2 0 x_4.toInt64 → K 0 h_6)) ∨ (o_3 = .inr 1 ∧ (K 1 h_2)) ∨ (o_3 = .inr 0 ∧ (K 2 h_2))))) : CI T N 282 [vr (some a0), vi x1, vr (some a2)] h K := by
  show WP T N 282 0 [some (vr (some a0)), some (vi x1), some (vr (some a2)), none] [] h _
  refine R_ps 4 (pc2 := 4) (L2 := [some (vr (some a0)), some (vi x1), some (vr (some a2)), none]) (st2 := [vi x1, vr (some a0), vi 0, vr (some a2)]) rfl ?_
  refine R_cX (as := [vr (some a0), vi x1]) rfl rfl ⟨Nat.le_of_ble_eq_true rfl, Nat.le_of_ble_eq_true rfl, rfl, (Or.inr ⟨_, rfl, t0⟩)⟩ rfl rfl k (fun o_3 h_2 k => ?_)
  rcases k with ⟨x_4, rfl, k⟩ | ⟨rfl, k⟩ | ⟨rfl, k⟩
  · show WP T N _ 7 _ _ _ _
    refine R_ps 1 (pc2 := 8) (L2 := [some (vr (some a0)), some (vi x1), some (vr (some a2)), none]) (st2 := [vl x_4.toInt64, vi 0, vr (some a2)]) rfl ?_
    obtain ⟨t_8, k⟩ := k
    refine R_last rfl t1 t_8  ?_
    show WP T N _ _ _ _ (sL h_2 a2 0 x_4.toInt64) _
    generalize e_7 : sL h_2 a2 0 x_4.toInt64 = h_6
    replace k := k h_6 e_7.symm
    refine R_ps 2 (pc2 := 19) (L2 := [some (vr (some a0)), some (vi x1), some (vr (some a2)), none]) (st2 := [vi 0]) rfl ?_
    exact R_iret rfl rfl ⟨_, rfl, k⟩
  · show WP T N _ 13 [some (vr (some a0)), some (vi x1), some (vr (some a2)), none] [] _ _
    refine R_ps 1 (pc2 := 14) (L2 := [some (vr (some a0)), some (vi x1), some (vr (some a2)), none]) (st2 := [vi 1]) rfl ?_
    exact R_iret rfl rfl ⟨_, rfl, k⟩
  · show WP T N _ 16 [some (vr (some a0)), some (vi x1), some (vr (some a2)), none] [] _ _
    refine R_ps 1 (pc2 := 17) (L2 := [some (vr (some a0)), some (vi x1), some (vr (some a2)), none]) (st2 := [vi 2]) rfl ?_
    exact R_iret rfl rfl ⟨_, rfl, k⟩
/-- DroneCorridorsLaw.read -/
theorem m283 {T N : Nat → Nat} {h : PH} {a0 : Nat} {a1 : Nat} {K : Int32 → PH → Prop} (t0 : T a0 = 11) (t1 : T a1 = 24) (k : (CALL T N 139 [vr (some a0)] h (fun o_3 h_2 => (∃ x_4, o_3 = .inl (some (vi x_4)) ∧ (inb 0 (N a1) ∧ ∀ h_6, h_6 = sL h_2 a1 0 x_4.toInt64 → K 0 h_6)) ∨ (o_3 = .inr 1 ∧ (K 1 h_2)) ∨ (o_3 = .inr 0 ∧ (K 2 h_2))))) : CI T N 283 [vr (some a0), vr (some a1)] h K := by
  show WP T N 283 0 [some (vr (some a0)), some (vr (some a1)), none] [] h _
  refine R_ps 3 (pc2 := 3) (L2 := [some (vr (some a0)), some (vr (some a1)), none]) (st2 := [vr (some a0), vi 0, vr (some a1)]) rfl ?_
  refine R_cX (as := [vr (some a0)]) rfl rfl ⟨Nat.le_of_ble_eq_true rfl, Nat.le_of_ble_eq_true rfl, rfl, (Or.inr ⟨_, rfl, t0⟩)⟩ rfl rfl k (fun o_3 h_2 k => ?_)
  rcases k with ⟨x_4, rfl, k⟩ | ⟨rfl, k⟩ | ⟨rfl, k⟩
  · show WP T N _ 6 _ _ _ _
    refine R_ps 1 (pc2 := 7) (L2 := [some (vr (some a0)), some (vr (some a1)), none]) (st2 := [vl x_4.toInt64, vi 0, vr (some a1)]) rfl ?_
    obtain ⟨t_8, k⟩ := k
    refine R_last rfl t1 t_8  ?_
    show WP T N _ _ _ _ (sL h_2 a1 0 x_4.toInt64) _
    generalize e_7 : sL h_2 a1 0 x_4.toInt64 = h_6
    replace k := k h_6 e_7.symm
    refine R_ps 2 (pc2 := 18) (L2 := [some (vr (some a0)), some (vr (some a1)), none]) (st2 := [vi 0]) rfl ?_
    exact R_iret rfl rfl ⟨_, rfl, k⟩
  · show WP T N _ 12 [some (vr (some a0)), some (vr (some a1)), none] [] _ _
    refine R_ps 1 (pc2 := 13) (L2 := [some (vr (some a0)), some (vr (some a1)), none]) (st2 := [vi 1]) rfl ?_
    exact R_iret rfl rfl ⟨_, rfl, k⟩
  · show WP T N _ 15 [some (vr (some a0)), some (vr (some a1)), none] [] _ _
    refine R_ps 1 (pc2 := 16) (L2 := [some (vr (some a0)), some (vr (some a1)), none]) (st2 := [vi 2]) rfl ?_
    exact R_iret rfl rfl ⟨_, rfl, k⟩
/-- DroneCorridorsLaw.errorPosition -/
theorem m284 {T N : Nat → Nat} {h : PH} {a0 : Nat} {a1 : Nat} {K : Int32 → PH → Prop} (t0 : T a0 = 11) (t1 : T a1 = 24) (k : (CALL T N 140 [vr (some a0)] h (fun o_3 h_2 => (∃ x_4, o_3 = .inl (some (vi x_4)) ∧ (inb 0 (N a1) ∧ ∀ h_6, h_6 = sL h_2 a1 0 x_4.toInt64 → K 0 h_6)) ∨ (o_3 = .inr 5 ∧ (K 1 h_2))))) : CI T N 284 [vr (some a0), vr (some a1)] h K := by
  show WP T N 284 0 [some (vr (some a0)), some (vr (some a1)), none] [] h _
  refine R_ps 3 (pc2 := 3) (L2 := [some (vr (some a0)), some (vr (some a1)), none]) (st2 := [vr (some a0), vi 0, vr (some a1)]) rfl ?_
  refine R_cX (as := [vr (some a0)]) rfl rfl ⟨Nat.le_of_ble_eq_true rfl, Nat.le_of_ble_eq_true rfl, rfl, (Or.inr ⟨_, rfl, t0⟩)⟩ rfl rfl k (fun o_3 h_2 k => ?_)
  rcases k with ⟨x_4, rfl, k⟩ | ⟨rfl, k⟩
  · show WP T N _ 6 _ _ _ _
    refine R_ps 1 (pc2 := 7) (L2 := [some (vr (some a0)), some (vr (some a1)), none]) (st2 := [vl x_4.toInt64, vi 0, vr (some a1)]) rfl ?_
    obtain ⟨t_8, k⟩ := k
    refine R_last rfl t1 t_8  ?_
    show WP T N _ _ _ _ (sL h_2 a1 0 x_4.toInt64) _
    generalize e_7 : sL h_2 a1 0 x_4.toInt64 = h_6
    replace k := k h_6 e_7.symm
    refine R_ps 2 (pc2 := 15) (L2 := [some (vr (some a0)), some (vr (some a1)), none]) (st2 := [vi 0]) rfl ?_
    exact R_iret rfl rfl ⟨_, rfl, k⟩
  · show WP T N _ 12 [some (vr (some a0)), some (vr (some a1)), none] [] _ _
    refine R_ps 1 (pc2 := 13) (L2 := [some (vr (some a0)), some (vr (some a1)), none]) (st2 := [vi 1]) rfl ?_
    exact R_iret rfl rfl ⟨_, rfl, k⟩
/-- DroneCorridorsLaw.describe -/
theorem m285 {T N : Nat → Nat} {h : PH} {a0 : Nat} {x1 : Int32} {x2 : Int32} {a3 : Nat} {K : Int32 → PH → Prop} (t0 : T a0 = 11) (t1 : T a3 = 24) (k : (CALL T N 141 [vr (some a0), vi x1, vi x2] h (fun o_3 h_2 => (∃ x_4, o_3 = .inl (some (vi x_4)) ∧ (inb 0 (N a3) ∧ ∀ h_6, h_6 = sL h_2 a3 0 x_4.toInt64 → K 0 h_6)) ∨ (o_3 = .inr 2 ∧ (K 1 h_2)) ∨ (o_3 = .inr 5 ∧ (K 2 h_2))))) : CI T N 285 [vr (some a0), vi x1, vi x2, vr (some a3)] h K := by
  show WP T N 285 0 [some (vr (some a0)), some (vi x1), some (vi x2), some (vr (some a3)), none] [] h _
  refine R_ps 5 (pc2 := 5) (L2 := [some (vr (some a0)), some (vi x1), some (vi x2), some (vr (some a3)), none]) (st2 := [vi x2, vi x1, vr (some a0), vi 0, vr (some a3)]) rfl ?_
  refine R_cX (as := [vr (some a0), vi x1, vi x2]) rfl rfl ⟨Nat.le_of_ble_eq_true rfl, Nat.le_of_ble_eq_true rfl, rfl, (Or.inr ⟨_, rfl, t0⟩)⟩ rfl rfl k (fun o_3 h_2 k => ?_)
  rcases k with ⟨x_4, rfl, k⟩ | ⟨rfl, k⟩ | ⟨rfl, k⟩
  · show WP T N _ 8 _ _ _ _
    refine R_ps 1 (pc2 := 9) (L2 := [some (vr (some a0)), some (vi x1), some (vi x2), some (vr (some a3)), none]) (st2 := [vl x_4.toInt64, vi 0, vr (some a3)]) rfl ?_
    obtain ⟨t_8, k⟩ := k
    refine R_last rfl t1 t_8  ?_
    show WP T N _ _ _ _ (sL h_2 a3 0 x_4.toInt64) _
    generalize e_7 : sL h_2 a3 0 x_4.toInt64 = h_6
    replace k := k h_6 e_7.symm
    refine R_ps 2 (pc2 := 22) (L2 := [some (vr (some a0)), some (vi x1), some (vi x2), some (vr (some a3)), none]) (st2 := [vi 0]) rfl ?_
    exact R_iret rfl rfl ⟨_, rfl, k⟩
  · show WP T N _ 15 [some (vr (some a0)), some (vi x1), some (vi x2), some (vr (some a3)), none] [] _ _
    refine R_ps 1 (pc2 := 16) (L2 := [some (vr (some a0)), some (vi x1), some (vi x2), some (vr (some a3)), none]) (st2 := [vi 1]) rfl ?_
    exact R_iret rfl rfl ⟨_, rfl, k⟩
  · show WP T N _ 19 [some (vr (some a0)), some (vi x1), some (vi x2), some (vr (some a3)), none] [] _ _
    refine R_ps 1 (pc2 := 20) (L2 := [some (vr (some a0)), some (vi x1), some (vi x2), some (vr (some a3)), none]) (st2 := [vi 2]) rfl ?_
    exact R_iret rfl rfl ⟨_, rfl, k⟩
/-- DroneCorridorsLaw.undo -/
theorem m286 {T N : Nat → Nat} {h : PH} {a0 : Nat} {a1 : Nat} {K : Int32 → PH → Prop} (t0 : T a0 = 11) (t1 : T a1 = 24) (k : (CALL T N 142 [vr (some a0)] h (fun o_3 h_2 => (∃ x_4, o_3 = .inl (some (vi x_4)) ∧ (inb 0 (N a1) ∧ ∀ h_6, h_6 = sL h_2 a1 0 x_4.toInt64 → K 0 h_6)) ∨ (o_3 = .inr 5 ∧ (K 1 h_2))))) : CI T N 286 [vr (some a0), vr (some a1)] h K := by
  show WP T N 286 0 [some (vr (some a0)), some (vr (some a1)), none] [] h _
  refine R_ps 3 (pc2 := 3) (L2 := [some (vr (some a0)), some (vr (some a1)), none]) (st2 := [vr (some a0), vi 0, vr (some a1)]) rfl ?_
  refine R_cX (as := [vr (some a0)]) rfl rfl ⟨Nat.le_of_ble_eq_true rfl, Nat.le_of_ble_eq_true rfl, rfl, (Or.inr ⟨_, rfl, t0⟩)⟩ rfl rfl k (fun o_3 h_2 k => ?_)
  rcases k with ⟨x_4, rfl, k⟩ | ⟨rfl, k⟩
  · show WP T N _ 6 _ _ _ _
    refine R_ps 1 (pc2 := 7) (L2 := [some (vr (some a0)), some (vr (some a1)), none]) (st2 := [vl x_4.toInt64, vi 0, vr (some a1)]) rfl ?_
    obtain ⟨t_8, k⟩ := k
    refine R_last rfl t1 t_8  ?_
    show WP T N _ _ _ _ (sL h_2 a1 0 x_4.toInt64) _
    generalize e_7 : sL h_2 a1 0 x_4.toInt64 = h_6
    replace k := k h_6 e_7.symm
    refine R_ps 2 (pc2 := 15) (L2 := [some (vr (some a0)), some (vr (some a1)), none]) (st2 := [vi 0]) rfl ?_
    exact R_iret rfl rfl ⟨_, rfl, k⟩
  · show WP T N _ 12 [some (vr (some a0)), some (vr (some a1)), none] [] _ _
    refine R_ps 1 (pc2 := 13) (L2 := [some (vr (some a0)), some (vr (some a1)), none]) (st2 := [vi 1]) rfl ?_
    exact R_iret rfl rfl ⟨_, rfl, k⟩
/-- DroneCorridorsLaw.restore -/
theorem m287 {T N : Nat → Nat} {h : PH} {a0 : Nat} {a1 : Nat} {K : Int32 → PH → Prop} (t0 : T a0 = 11) (t1 : T a1 = 24) (k : (CALL T N 144 [vr (some a0)] h (fun o_3 h_2 => (∃ x_4, o_3 = .inl (some (vi x_4)) ∧ (inb 0 (N a1) ∧ ∀ h_6, h_6 = sL h_2 a1 0 x_4.toInt64 → K 0 h_6)) ∨ (o_3 = .inr 0 ∧ (K 1 h_2))))) : CI T N 287 [vr (some a0), vr (some a1)] h K := by
  show WP T N 287 0 [some (vr (some a0)), some (vr (some a1)), none] [] h _
  refine R_ps 3 (pc2 := 3) (L2 := [some (vr (some a0)), some (vr (some a1)), none]) (st2 := [vr (some a0), vi 0, vr (some a1)]) rfl ?_
  refine R_cX (as := [vr (some a0)]) rfl rfl ⟨Nat.le_of_ble_eq_true rfl, Nat.le_of_ble_eq_true rfl, rfl, (Or.inr ⟨_, rfl, t0⟩)⟩ rfl rfl k (fun o_3 h_2 k => ?_)
  rcases k with ⟨x_4, rfl, k⟩ | ⟨rfl, k⟩
  · show WP T N _ 6 _ _ _ _
    refine R_ps 1 (pc2 := 7) (L2 := [some (vr (some a0)), some (vr (some a1)), none]) (st2 := [vl x_4.toInt64, vi 0, vr (some a1)]) rfl ?_
    obtain ⟨t_8, k⟩ := k
    refine R_last rfl t1 t_8  ?_
    show WP T N _ _ _ _ (sL h_2 a1 0 x_4.toInt64) _
    generalize e_7 : sL h_2 a1 0 x_4.toInt64 = h_6
    replace k := k h_6 e_7.symm
    refine R_ps 2 (pc2 := 15) (L2 := [some (vr (some a0)), some (vr (some a1)), none]) (st2 := [vi 0]) rfl ?_
    exact R_iret rfl rfl ⟨_, rfl, k⟩
  · show WP T N _ 12 [some (vr (some a0)), some (vr (some a1)), none] [] _ _
    refine R_ps 1 (pc2 := 13) (L2 := [some (vr (some a0)), some (vr (some a1)), none]) (st2 := [vi 1]) rfl ?_
    exact R_iret rfl rfl ⟨_, rfl, k⟩
/-- DroneCorridorsLaw.law -/
theorem m288 {T N : Nat → Nat} {h : PH} {a0 : Nat} {K : Int32 → PH → Prop} (k : (T (nx h) = 11 ∧ ∀ a_2 h_3, a_2 = nx h → h_3 = grow h 10 → CV T N 104 [vr (some a_2)] h_3 (fun h_8 => (T (nx h_8) = 12 ∧ ∀ a_11 h_12, a_11 = nx h_8 → h_12 = grow h_8 30 → CV T N 155 [vr (some a_11)] h_12 (fun h_17 => ((T (nx h_17) = 24 ∧ 0 ≤ Int32.toInt 1 ∧ Int32.toInt 1 = N (nx h_17) ∧ N (nx h_17) ≤ 65536) ∧ ∀ a_20 h_21, a_20 = nx h_17 → h_21 = grow h_17 (N (nx h_17)) → (T (nx h_21) = 25 ∧ 0 ≤ Int32.toInt 1 ∧ Int32.toInt 1 = N (nx h_21) ∧ N (nx h_21) ≤ 65536) ∧ ∀ a_26 h_27, a_26 = nx h_21 → h_27 = grow h_21 (N (nx h_21)) → WI T N 288 28 [some (vr (some a0)), some (vr (some a_2)), some (vr (some a_11)), some (vr (some a_20)), some (vr (some a_26)), some (vi 0), none, none, none] [] h_27 K)))))) : CI T N 288 [vr (some a0)] h K := by
  show WP T N 288 0 [some (vr (some a0)), none, none, none, none, none, none, none, none] [] h _
  obtain ⟨t_6, k⟩ := k
  refine R_new rfl ⟨by decide, t_6⟩ ?_
  show WP T N _ _ _ _ (grow h 10) _
  generalize e_4 : nx h = a_2
  generalize e_5 : grow h 10 = h_3
  replace k := k a_2 h_3 e_4.symm e_5.symm
  refine R_ps 1 (pc2 := 4) (L2 := [some (vr (some a0)), none, none, none, none, none, none, none, none]) (st2 := [vr (some a_2), vr (some a_2)]) rfl ?_
  refine R_cV (as := [vr (some a_2)]) rfl rfl ⟨Nat.le_of_ble_eq_true rfl, Nat.le_of_ble_eq_true rfl, rfl, (Or.inr ⟨_, rfl, (e_4 ▸ t_6)⟩)⟩ rfl rfl k (fun h_8 k => ?_)
  refine R_ps 1 (pc2 := 8) (L2 := [some (vr (some a0)), some (vr (some a_2)), none, none, none, none, none, none, none]) (st2 := []) rfl ?_
  obtain ⟨t_15, k⟩ := k
  refine R_new rfl ⟨by decide, t_15⟩ ?_
  show WP T N _ _ _ _ (grow h_8 30) _
  generalize e_13 : nx h_8 = a_11
  generalize e_14 : grow h_8 30 = h_12
  replace k := k a_11 h_12 e_13.symm e_14.symm
  refine R_ps 1 (pc2 := 12) (L2 := [some (vr (some a0)), some (vr (some a_2)), none, none, none, none, none, none, none]) (st2 := [vr (some a_11), vr (some a_11)]) rfl ?_
  refine R_cV (as := [vr (some a_11)]) rfl rfl ⟨Nat.le_of_ble_eq_true rfl, Nat.le_of_ble_eq_true rfl, rfl, (Or.inr ⟨_, rfl, (e_13 ▸ t_15)⟩)⟩ rfl rfl k (fun h_17 k => ?_)
  refine R_ps 2 (pc2 := 17) (L2 := [some (vr (some a0)), some (vr (some a_2)), some (vr (some a_11)), none, none, none, none, none, none]) (st2 := [vi 1]) rfl ?_
  obtain ⟨t_24, k⟩ := k
  refine R_newa rfl t_24 ?_
  generalize e_23 : grow h_17 (N (nx h_17)) = h_21
  generalize e_22 : nx h_17 = a_20
  replace k := k a_20 h_21 e_22.symm e_23.symm
  refine R_ps 2 (pc2 := 21) (L2 := [some (vr (some a0)), some (vr (some a_2)), some (vr (some a_11)), some (vr (some a_20)), none, none, none, none, none]) (st2 := [vi 1]) rfl ?_
  obtain ⟨t_30, k⟩ := k
  refine R_newa rfl t_30 ?_
  generalize e_29 : grow h_21 (N (nx h_21)) = h_27
  generalize e_28 : nx h_21 = a_26
  replace k := k a_26 h_27 e_28.symm e_29.symm
  refine R_ps 3 (pc2 := 28) (L2 := [some (vr (some a0)), some (vr (some a_2)), some (vr (some a_11)), some (vr (some a_20)), some (vr (some a_26)), some (vi 0), none, none, none]) (st2 := []) rfl ?_
  exact k
theorem m288_28 {T N : Nat → Nat} {h : PH} {a0 : Nat} {a1 : Nat} {a2 : Nat} {a3 : Nat} {a4 : Nat} {x5 : Int32} {K : Int32 → PH → Prop} (t0 : 21 ≤ T a0) (t1 : T a0 = 21) (t2 : T a1 = 11) (t3 : T a2 = 12) (t4 : T a3 = 24) (t5 : T a4 = 25) (k : (((((Int32.ofNat (N a0)) - 5) < x5 → (K 1 h)) ∧ (¬ (((Int32.ofNat (N a0)) - 5) < x5) → (inb x5 (N a0) ∧ ((((gi h a0 (Int32.toNatClampNeg x5)) &&& 63) = 0 → (CI T N 105 [vr (some a1)] h (fun x_9 h_8 => (CI T N 170 [vr (some a2)] h_8 (fun x_12 h_11 => (((x_9 = x_12 → (WI T N 288 28 [some (vr (some a0)), some (vr (some a1)), some (vr (some a2)), some (vr (some a3)), some (vr (some a4)), some (vi (x5 + 5)), none, none, none] [] h_11 K)) ∧ (¬ (x_9 = x_12) → (K 0 h_11))))))))) ∧ (¬ (((gi h a0 (Int32.toNatClampNeg x5)) &&& 63) = 0) → ((((gi h a0 (Int32.toNatClampNeg x5)) &&& 63) = 1 → (inb (x5 + 1) (N a0) ∧ (((gi h a0 (Int32.toNatClampNeg (x5 + 1))) = 0 → (CI T N 255 [vr (some a1), vi 0, vr (some a3)] h (fun x_20 h_19 => ((((gi h_19 a0 (Int32.toNatClampNeg (x5 + 1))) = 0 → (CI T N 172 [vr (some a2), vi 0] h_19 (fun x_25 h_24 => (CI T N 156 [vr (some a2)] h_24 (fun x_28 h_27 => (((x_28 = x_20 → (((x_20 = 0 → (inb 0 (N a3) ∧ (((lg_cmp (gl h_27 a3 0) x_25.toInt64) = 0 → (WI T N 288 28 [some (vr (some a0)), some (vr (some a1)), some (vr (some a2)), some (vr (some a3)), some (vr (some a4)), some (vi (x5 + 5)), none, none, none] [] h_27 K)) ∧ (¬ ((lg_cmp (gl h_27 a3 0) x_25.toInt64) = 0) → (K 0 h_27))))) ∧ (¬ (x_20 = 0) → (WI T N 288 28 [some (vr (some a0)), some (vr (some a1)), some (vr (some a2)), some (vr (some a3)), some (vr (some a4)), some (vi (x5 + 5)), none, none, none] [] h_27 K))))) ∧ (¬ (x_28 = x_20) → (K 0 h_27))))))))) ∧ (¬ ((gi h_19 a0 (Int32.toNatClampNeg (x5 + 1))) = 0) → (CI T N 172 [vr (some a2), vi 1] h_19 (fun x_38 h_37 => (CI T N 156 [vr (some a2)] h_37 (fun x_41 h_40 => (((x_41 = x_20 → (((x_20 = 0 → (inb 0 (N a3) ∧ (((lg_cmp (gl h_40 a3 0) x_38.toInt64) = 0 → (WI T N 288 28 [some (vr (some a0)), some (vr (some a1)), some (vr (some a2)), some (vr (some a3)), some (vr (some a4)), some (vi (x5 + 5)), none, none, none] [] h_40 K)) ∧ (¬ ((lg_cmp (gl h_40 a3 0) x_38.toInt64) = 0) → (K 0 h_40))))) ∧ (¬ (x_20 = 0) → (WI T N 288 28 [some (vr (some a0)), some (vr (some a1)), some (vr (some a2)), some (vr (some a3)), some (vr (some a4)), some (vi (x5 + 5)), none, none, none] [] h_40 K))))) ∧ (¬ (x_41 = x_20) → (K 0 h_40)))))))))))))) ∧ (¬ ((gi h a0 (Int32.toNatClampNeg (x5 + 1))) = 0) → (CI T N 255 [vr (some a1), vi 1, vr (some a3)] h (fun x_51 h_50 => ((((gi h_50 a0 (Int32.toNatClampNeg (x5 + 1))) = 0 → (CI T N 172 [vr (some a2), vi 0] h_50 (fun x_56 h_55 => (CI T N 156 [vr (some a2)] h_55 (fun x_59 h_58 => (((x_59 = x_51 → (((x_51 = 0 → (inb 0 (N a3) ∧ (((lg_cmp (gl h_58 a3 0) x_56.toInt64) = 0 → (WI T N 288 28 [some (vr (some a0)), some (vr (some a1)), some (vr (some a2)), some (vr (some a3)), some (vr (some a4)), some (vi (x5 + 5)), none, none, none] [] h_58 K)) ∧ (¬ ((lg_cmp (gl h_58 a3 0) x_56.toInt64) = 0) → (K 0 h_58))))) ∧ (¬ (x_51 = 0) → (WI T N 288 28 [some (vr (some a0)), some (vr (some a1)), some (vr (some a2)), some (vr (some a3)), some (vr (some a4)), some (vi (x5 + 5)), none, none, none] [] h_58 K))))) ∧ (¬ (x_59 = x_51) → (K 0 h_58))))))))) ∧ (¬ ((gi h_50 a0 (Int32.toNatClampNeg (x5 + 1))) = 0) → (CI T N 172 [vr (some a2), vi 1] h_50 (fun x_69 h_68 => (CI T N 156 [vr (some a2)] h_68 (fun x_72 h_71 => (((x_72 = x_51 → (((x_51 = 0 → (inb 0 (N a3) ∧ (((lg_cmp (gl h_71 a3 0) x_69.toInt64) = 0 → (WI T N 288 28 [some (vr (some a0)), some (vr (some a1)), some (vr (some a2)), some (vr (some a3)), some (vr (some a4)), some (vi (x5 + 5)), none, none, none] [] h_71 K)) ∧ (¬ ((lg_cmp (gl h_71 a3 0) x_69.toInt64) = 0) → (K 0 h_71))))) ∧ (¬ (x_51 = 0) → (WI T N 288 28 [some (vr (some a0)), some (vr (some a1)), some (vr (some a2)), some (vr (some a3)), some (vr (some a4)), some (vi (x5 + 5)), none, none, none] [] h_71 K))))) ∧ (¬ (x_72 = x_51) → (K 0 h_71))))))))))))))))) ∧ (¬ (((gi h a0 (Int32.toNatClampNeg x5)) &&& 63) = 1) → ((((gi h a0 (Int32.toNatClampNeg x5)) &&& 63) = 2 → (inb (x5 + 1) (N a0) ∧ inb (x5 + 2) (N a0) ∧ inb (x5 + 3) (N a0) ∧ inb (x5 + 4) (N a0) ∧ CI T N 256 [vr (some a1), vi (gi h a0 (Int32.toNatClampNeg (x5 + 1))), vi (gi h a0 (Int32.toNatClampNeg (x5 + 2))), vi (gi h a0 (Int32.toNatClampNeg (x5 + 3))), vi (gi h a0 (Int32.toNatClampNeg (x5 + 4))), vr (some a3)] h (fun x_90 h_89 => (CI T N 175 [vr (some a2), vi (gi h_89 a0 (Int32.toNatClampNeg (x5 + 1))), vi (gi h_89 a0 (Int32.toNatClampNeg (x5 + 2))), vi (gi h_89 a0 (Int32.toNatClampNeg (x5 + 3))), vi (gi h_89 a0 (Int32.toNatClampNeg (x5 + 4)))] h_89 (fun x_97 h_96 => (CI T N 156 [vr (some a2)] h_96 (fun x_100 h_99 => (((x_100 = x_90 → (((x_90 = 0 → (inb 0 (N a3) ∧ (((lg_cmp (gl h_99 a3 0) x_97.toInt64) = 0 → (WI T N 288 28 [some (vr (some a0)), some (vr (some a1)), some (vr (some a2)), some (vr (some a3)), some (vr (some a4)), some (vi (x5 + 5)), none, none, none] [] h_99 K)) ∧ (¬ ((lg_cmp (gl h_99 a3 0) x_97.toInt64) = 0) → (K 0 h_99))))) ∧ (¬ (x_90 = 0) → (WI T N 288 28 [some (vr (some a0)), some (vr (some a1)), some (vr (some a2)), some (vr (some a3)), some (vr (some a4)), some (vi (x5 + 5)), none, none, none] [] h_99 K))))) ∧ (¬ (x_100 = x_90) → (K 0 h_99))))))))))) ∧ (¬ (((gi h a0 (Int32.toNatClampNeg x5)) &&& 63) = 2) → ((((gi h a0 (Int32.toNatClampNeg x5)) &&& 63) = 3 → (inb (x5 + 1) (N a0) ∧ inb (x5 + 2) (N a0) ∧ CI T N 257 [vr (some a1), vi (gi h a0 (Int32.toNatClampNeg (x5 + 1))), vi (gi h a0 (Int32.toNatClampNeg (x5 + 2))), vr (some a3)] h (fun x_114 h_113 => (CI T N 176 [vr (some a2), vi (gi h_113 a0 (Int32.toNatClampNeg (x5 + 1))), vi (gi h_113 a0 (Int32.toNatClampNeg (x5 + 2)))] h_113 (fun x_119 h_118 => (CI T N 156 [vr (some a2)] h_118 (fun x_122 h_121 => (((x_122 = x_114 → (((x_114 = 0 → (inb 0 (N a3) ∧ (((lg_cmp (gl h_121 a3 0) x_119.toInt64) = 0 → (WI T N 288 28 [some (vr (some a0)), some (vr (some a1)), some (vr (some a2)), some (vr (some a3)), some (vr (some a4)), some (vi (x5 + 5)), none, none, none] [] h_121 K)) ∧ (¬ ((lg_cmp (gl h_121 a3 0) x_119.toInt64) = 0) → (K 0 h_121))))) ∧ (¬ (x_114 = 0) → (WI T N 288 28 [some (vr (some a0)), some (vr (some a1)), some (vr (some a2)), some (vr (some a3)), some (vr (some a4)), some (vi (x5 + 5)), none, none, none] [] h_121 K))))) ∧ (¬ (x_122 = x_114) → (K 0 h_121))))))))))) ∧ (¬ (((gi h a0 (Int32.toNatClampNeg x5)) &&& 63) = 3) → ((((gi h a0 (Int32.toNatClampNeg x5)) &&& 63) = 4 → (inb (x5 + 1) (N a0) ∧ inb (x5 + 2) (N a0) ∧ inb (x5 + 3) (N a0) ∧ inb (x5 + 4) (N a0) ∧ CI T N 258 [vr (some a1), vi (gi h a0 (Int32.toNatClampNeg (x5 + 1))), vi (gi h a0 (Int32.toNatClampNeg (x5 + 2))), vi (gi h a0 (Int32.toNatClampNeg (x5 + 3))), vi (gi h a0 (Int32.toNatClampNeg (x5 + 4))), vr (some a3)] h (fun x_140 h_139 => (CI T N 177 [vr (some a2), vi (gi h_139 a0 (Int32.toNatClampNeg (x5 + 1))), vi (gi h_139 a0 (Int32.toNatClampNeg (x5 + 2))), vi (gi h_139 a0 (Int32.toNatClampNeg (x5 + 3))), vi (gi h_139 a0 (Int32.toNatClampNeg (x5 + 4)))] h_139 (fun x_147 h_146 => (CI T N 156 [vr (some a2)] h_146 (fun x_150 h_149 => (((x_150 = x_140 → (((x_140 = 0 → (inb 0 (N a3) ∧ (((lg_cmp (gl h_149 a3 0) x_147.toInt64) = 0 → (WI T N 288 28 [some (vr (some a0)), some (vr (some a1)), some (vr (some a2)), some (vr (some a3)), some (vr (some a4)), some (vi (x5 + 5)), none, none, none] [] h_149 K)) ∧ (¬ ((lg_cmp (gl h_149 a3 0) x_147.toInt64) = 0) → (K 0 h_149))))) ∧ (¬ (x_140 = 0) → (WI T N 288 28 [some (vr (some a0)), some (vr (some a1)), some (vr (some a2)), some (vr (some a3)), some (vr (some a4)), some (vi (x5 + 5)), none, none, none] [] h_149 K))))) ∧ (¬ (x_150 = x_140) → (K 0 h_149))))))))))) ∧ (¬ (((gi h a0 (Int32.toNatClampNeg x5)) &&& 63) = 4) → ((((gi h a0 (Int32.toNatClampNeg x5)) &&& 63) = 5 → (inb (x5 + 1) (N a0) ∧ CI T N 259 [vr (some a1), vi (gi h a0 (Int32.toNatClampNeg (x5 + 1))), vr (some a3)] h (fun x_162 h_161 => (CI T N 178 [vr (some a2), vi (gi h_161 a0 (Int32.toNatClampNeg (x5 + 1)))] h_161 (fun x_166 h_165 => (CI T N 156 [vr (some a2)] h_165 (fun x_169 h_168 => (((x_169 = x_162 → (((x_162 = 0 → (inb 0 (N a3) ∧ (((lg_cmp (gl h_168 a3 0) x_166.toInt64) = 0 → (WI T N 288 28 [some (vr (some a0)), some (vr (some a1)), some (vr (some a2)), some (vr (some a3)), some (vr (some a4)), some (vi (x5 + 5)), none, none, none] [] h_168 K)) ∧ (¬ ((lg_cmp (gl h_168 a3 0) x_166.toInt64) = 0) → (K 0 h_168))))) ∧ (¬ (x_162 = 0) → (WI T N 288 28 [some (vr (some a0)), some (vr (some a1)), some (vr (some a2)), some (vr (some a3)), some (vr (some a4)), some (vi (x5 + 5)), none, none, none] [] h_168 K))))) ∧ (¬ (x_169 = x_162) → (K 0 h_168))))))))))) ∧ (¬ (((gi h a0 (Int32.toNatClampNeg x5)) &&& 63) = 5) → ((((gi h a0 (Int32.toNatClampNeg x5)) &&& 63) = 6 → (inb (x5 + 1) (N a0) ∧ inb (x5 + 2) (N a0) ∧ CI T N 260 [vr (some a1), vi (gi h a0 (Int32.toNatClampNeg (x5 + 1))), vi (gi h a0 (Int32.toNatClampNeg (x5 + 2))), vr (some a3)] h (fun x_183 h_182 => (CI T N 179 [vr (some a2), vi (gi h_182 a0 (Int32.toNatClampNeg (x5 + 1))), vi (gi h_182 a0 (Int32.toNatClampNeg (x5 + 2)))] h_182 (fun x_188 h_187 => (CI T N 156 [vr (some a2)] h_187 (fun x_191 h_190 => (((x_191 = x_183 → (((x_183 = 0 → (inb 0 (N a3) ∧ (((lg_cmp (gl h_190 a3 0) x_188.toInt64) = 0 → (WI T N 288 28 [some (vr (some a0)), some (vr (some a1)), some (vr (some a2)), some (vr (some a3)), some (vr (some a4)), some (vi (x5 + 5)), none, none, none] [] h_190 K)) ∧ (¬ ((lg_cmp (gl h_190 a3 0) x_188.toInt64) = 0) → (K 0 h_190))))) ∧ (¬ (x_183 = 0) → (WI T N 288 28 [some (vr (some a0)), some (vr (some a1)), some (vr (some a2)), some (vr (some a3)), some (vr (some a4)), some (vi (x5 + 5)), none, none, none] [] h_190 K))))) ∧ (¬ (x_191 = x_183) → (K 0 h_190))))))))))) ∧ (¬ (((gi h a0 (Int32.toNatClampNeg x5)) &&& 63) = 6) → ((((gi h a0 (Int32.toNatClampNeg x5)) &&& 63) = 7 → (inb (x5 + 1) (N a0) ∧ inb (x5 + 2) (N a0) ∧ CI T N 261 [vr (some a1), vi (gi h a0 (Int32.toNatClampNeg (x5 + 1))), vi (gi h a0 (Int32.toNatClampNeg (x5 + 2))), vr (some a3)] h (fun x_205 h_204 => (CI T N 180 [vr (some a2), vi (gi h_204 a0 (Int32.toNatClampNeg (x5 + 1))), vi (gi h_204 a0 (Int32.toNatClampNeg (x5 + 2)))] h_204 (fun x_210 h_209 => (CI T N 156 [vr (some a2)] h_209 (fun x_213 h_212 => (((x_213 = x_205 → (((x_205 = 0 → (inb 0 (N a3) ∧ (((lg_cmp (gl h_212 a3 0) x_210.toInt64) = 0 → (WI T N 288 28 [some (vr (some a0)), some (vr (some a1)), some (vr (some a2)), some (vr (some a3)), some (vr (some a4)), some (vi (x5 + 5)), none, none, none] [] h_212 K)) ∧ (¬ ((lg_cmp (gl h_212 a3 0) x_210.toInt64) = 0) → (K 0 h_212))))) ∧ (¬ (x_205 = 0) → (WI T N 288 28 [some (vr (some a0)), some (vr (some a1)), some (vr (some a2)), some (vr (some a3)), some (vr (some a4)), some (vi (x5 + 5)), none, none, none] [] h_212 K))))) ∧ (¬ (x_213 = x_205) → (K 0 h_212))))))))))) ∧ (¬ (((gi h a0 (Int32.toNatClampNeg x5)) &&& 63) = 7) → ((((gi h a0 (Int32.toNatClampNeg x5)) &&& 63) = 8 → (inb (x5 + 1) (N a0) ∧ CI T N 262 [vr (some a1), vi (gi h a0 (Int32.toNatClampNeg (x5 + 1))), vr (some a3)] h (fun x_225 h_224 => (CI T N 181 [vr (some a2), vi (gi h_224 a0 (Int32.toNatClampNeg (x5 + 1)))] h_224 (fun x_229 h_228 => (CI T N 156 [vr (some a2)] h_228 (fun x_232 h_231 => (((x_232 = x_225 → (((x_225 = 0 → (inb 0 (N a3) ∧ ((x_229 = 0 → ((((lg_cmp (gl h_231 a3 0) 0) = 0 → (WI T N 288 28 [some (vr (some a0)), some (vr (some a1)), some (vr (some a2)), some (vr (some a3)), some (vr (some a4)), some (vi (x5 + 5)), none, none, none] [] h_231 K)) ∧ (¬ ((lg_cmp (gl h_231 a3 0) 0) = 0) → (K 0 h_231))))) ∧ (¬ (x_229 = 0) → ((((lg_cmp (gl h_231 a3 0) 1) = 0 → (WI T N 288 28 [some (vr (some a0)), some (vr (some a1)), some (vr (some a2)), some (vr (some a3)), some (vr (some a4)), some (vi (x5 + 5)), none, none, none] [] h_231 K)) ∧ (¬ ((lg_cmp (gl h_231 a3 0) 1) = 0) → (K 0 h_231)))))))) ∧ (¬ (x_225 = 0) → (WI T N 288 28 [some (vr (some a0)), some (vr (some a1)), some (vr (some a2)), some (vr (some a3)), some (vr (some a4)), some (vi (x5 + 5)), none, none, none] [] h_231 K))))) ∧ (¬ (x_232 = x_225) → (K 0 h_231))))))))))) ∧ (¬ (((gi h a0 (Int32.toNatClampNeg x5)) &&& 63) = 8) → ((((gi h a0 (Int32.toNatClampNeg x5)) &&& 63) = 9 → (inb (x5 + 1) (N a0) ∧ CI T N 263 [vr (some a1), vi (gi h a0 (Int32.toNatClampNeg (x5 + 1))), vr (some a3)] h (fun x_247 h_246 => (CI T N 183 [vr (some a2), vi (gi h_246 a0 (Int32.toNatClampNeg (x5 + 1)))] h_246 (fun x_251 h_250 => (CI T N 156 [vr (some a2)] h_250 (fun x_254 h_253 => (((x_254 = x_247 → (((x_247 = 0 → (inb 0 (N a3) ∧ (((lg_cmp (gl h_253 a3 0) x_251.toInt64) = 0 → (WI T N 288 28 [some (vr (some a0)), some (vr (some a1)), some (vr (some a2)), some (vr (some a3)), some (vr (some a4)), some (vi (x5 + 5)), none, none, none] [] h_253 K)) ∧ (¬ ((lg_cmp (gl h_253 a3 0) x_251.toInt64) = 0) → (K 0 h_253))))) ∧ (¬ (x_247 = 0) → (WI T N 288 28 [some (vr (some a0)), some (vr (some a1)), some (vr (some a2)), some (vr (some a3)), some (vr (some a4)), some (vi (x5 + 5)), none, none, none] [] h_253 K))))) ∧ (¬ (x_254 = x_247) → (K 0 h_253))))))))))) ∧ (¬ (((gi h a0 (Int32.toNatClampNeg x5)) &&& 63) = 9) → ((((gi h a0 (Int32.toNatClampNeg x5)) &&& 63) = 10 → (inb (x5 + 1) (N a0) ∧ inb (x5 + 2) (N a0) ∧ CI T N 264 [vr (some a1), vi (gi h a0 (Int32.toNatClampNeg (x5 + 1))), vi (gi h a0 (Int32.toNatClampNeg (x5 + 2))), vr (some a3)] h (fun x_268 h_267 => (CI T N 184 [vr (some a2), vi (gi h_267 a0 (Int32.toNatClampNeg (x5 + 1))), vi (gi h_267 a0 (Int32.toNatClampNeg (x5 + 2)))] h_267 (fun x_273 h_272 => (CI T N 156 [vr (some a2)] h_272 (fun x_276 h_275 => (((x_276 = x_268 → (((x_268 = 0 → (inb 0 (N a3) ∧ (((lg_cmp (gl h_275 a3 0) x_273.toInt64) = 0 → (WI T N 288 28 [some (vr (some a0)), some (vr (some a1)), some (vr (some a2)), some (vr (some a3)), some (vr (some a4)), some (vi (x5 + 5)), none, none, none] [] h_275 K)) ∧ (¬ ((lg_cmp (gl h_275 a3 0) x_273.toInt64) = 0) → (K 0 h_275))))) ∧ (¬ (x_268 = 0) → (WI T N 288 28 [some (vr (some a0)), some (vr (some a1)), some (vr (some a2)), some (vr (some a3)), some (vr (some a4)), some (vi (x5 + 5)), none, none, none] [] h_275 K))))) ∧ (¬ (x_276 = x_268) → (K 0 h_275))))))))))) ∧ (¬ (((gi h a0 (Int32.toNatClampNeg x5)) &&& 63) = 10) → ((((gi h a0 (Int32.toNatClampNeg x5)) &&& 63) = 11 → (inb (x5 + 1) (N a0) ∧ CI T N 265 [vr (some a1), vi (gi h a0 (Int32.toNatClampNeg (x5 + 1))), vr (some a3)] h (fun x_288 h_287 => (CI T N 185 [vr (some a2), vi (gi h_287 a0 (Int32.toNatClampNeg (x5 + 1)))] h_287 (fun x_292 h_291 => (CI T N 156 [vr (some a2)] h_291 (fun x_295 h_294 => (((x_295 = x_288 → (((x_288 = 0 → (inb 0 (N a3) ∧ (((lg_cmp (gl h_294 a3 0) x_292.toInt64) = 0 → (WI T N 288 28 [some (vr (some a0)), some (vr (some a1)), some (vr (some a2)), some (vr (some a3)), some (vr (some a4)), some (vi (x5 + 5)), none, none, none] [] h_294 K)) ∧ (¬ ((lg_cmp (gl h_294 a3 0) x_292.toInt64) = 0) → (K 0 h_294))))) ∧ (¬ (x_288 = 0) → (WI T N 288 28 [some (vr (some a0)), some (vr (some a1)), some (vr (some a2)), some (vr (some a3)), some (vr (some a4)), some (vi (x5 + 5)), none, none, none] [] h_294 K))))) ∧ (¬ (x_295 = x_288) → (K 0 h_294))))))))))) ∧ (¬ (((gi h a0 (Int32.toNatClampNeg x5)) &&& 63) = 11) → ((((gi h a0 (Int32.toNatClampNeg x5)) &&& 63) = 12 → (inb (x5 + 1) (N a0) ∧ inb (x5 + 2) (N a0) ∧ CI T N 266 [vr (some a1), vi (gi h a0 (Int32.toNatClampNeg (x5 + 1))), vi (gi h a0 (Int32.toNatClampNeg (x5 + 2))), vr (some a3)] h (fun x_309 h_308 => (CI T N 196 [vr (some a2), vi (gi h_308 a0 (Int32.toNatClampNeg (x5 + 1))), vi (gi h_308 a0 (Int32.toNatClampNeg (x5 + 2)))] h_308 (fun x_314 h_313 => (CI T N 156 [vr (some a2)] h_313 (fun x_317 h_316 => (((x_317 = x_309 → (((x_309 = 0 → (inb 0 (N a3) ∧ (((lg_cmp (gl h_316 a3 0) x_314.toInt64) = 0 → (WI T N 288 28 [some (vr (some a0)), some (vr (some a1)), some (vr (some a2)), some (vr (some a3)), some (vr (some a4)), some (vi (x5 + 5)), none, none, none] [] h_316 K)) ∧ (¬ ((lg_cmp (gl h_316 a3 0) x_314.toInt64) = 0) → (K 0 h_316))))) ∧ (¬ (x_309 = 0) → (WI T N 288 28 [some (vr (some a0)), some (vr (some a1)), some (vr (some a2)), some (vr (some a3)), some (vr (some a4)), some (vi (x5 + 5)), none, none, none] [] h_316 K))))) ∧ (¬ (x_317 = x_309) → (K 0 h_316))))))))))) ∧ (¬ (((gi h a0 (Int32.toNatClampNeg x5)) &&& 63) = 12) → ((((gi h a0 (Int32.toNatClampNeg x5)) &&& 63) = 13 → (inb (x5 + 1) (N a0) ∧ inb (x5 + 2) (N a0) ∧ CI T N 267 [vr (some a1), vi (gi h a0 (Int32.toNatClampNeg (x5 + 1))), vi (gi h a0 (Int32.toNatClampNeg (x5 + 2))), vr (some a3)] h (fun x_331 h_330 => (CI T N 197 [vr (some a2), vi (gi h_330 a0 (Int32.toNatClampNeg (x5 + 1))), vi (gi h_330 a0 (Int32.toNatClampNeg (x5 + 2)))] h_330 (fun x_336 h_335 => (CI T N 156 [vr (some a2)] h_335 (fun x_339 h_338 => (((x_339 = x_331 → (((x_331 = 0 → (inb 0 (N a3) ∧ (((lg_cmp (gl h_338 a3 0) x_336.toInt64) = 0 → (WI T N 288 28 [some (vr (some a0)), some (vr (some a1)), some (vr (some a2)), some (vr (some a3)), some (vr (some a4)), some (vi (x5 + 5)), none, none, none] [] h_338 K)) ∧ (¬ ((lg_cmp (gl h_338 a3 0) x_336.toInt64) = 0) → (K 0 h_338))))) ∧ (¬ (x_331 = 0) → (WI T N 288 28 [some (vr (some a0)), some (vr (some a1)), some (vr (some a2)), some (vr (some a3)), some (vr (some a4)), some (vi (x5 + 5)), none, none, none] [] h_338 K))))) ∧ (¬ (x_339 = x_331) → (K 0 h_338))))))))))) ∧ (¬ (((gi h a0 (Int32.toNatClampNeg x5)) &&& 63) = 13) → ((((gi h a0 (Int32.toNatClampNeg x5)) &&& 63) = 14 → (inb (x5 + 1) (N a0) ∧ inb (x5 + 2) (N a0) ∧ CI T N 268 [vr (some a1), vi (gi h a0 (Int32.toNatClampNeg (x5 + 1))), vi (gi h a0 (Int32.toNatClampNeg (x5 + 2))), vr (some a3)] h (fun x_353 h_352 => (CI T N 215 [vr (some a2), vi (gi h_352 a0 (Int32.toNatClampNeg (x5 + 1))), vi (gi h_352 a0 (Int32.toNatClampNeg (x5 + 2)))] h_352 (fun x_358 h_357 => (CI T N 156 [vr (some a2)] h_357 (fun x_361 h_360 => (((x_361 = x_353 → (((x_353 = 0 → (inb 0 (N a3) ∧ (((lg_cmp (gl h_360 a3 0) x_358.toInt64) = 0 → (WI T N 288 28 [some (vr (some a0)), some (vr (some a1)), some (vr (some a2)), some (vr (some a3)), some (vr (some a4)), some (vi (x5 + 5)), none, none, none] [] h_360 K)) ∧ (¬ ((lg_cmp (gl h_360 a3 0) x_358.toInt64) = 0) → (K 0 h_360))))) ∧ (¬ (x_353 = 0) → (WI T N 288 28 [some (vr (some a0)), some (vr (some a1)), some (vr (some a2)), some (vr (some a3)), some (vr (some a4)), some (vi (x5 + 5)), none, none, none] [] h_360 K))))) ∧ (¬ (x_361 = x_353) → (K 0 h_360))))))))))) ∧ (¬ (((gi h a0 (Int32.toNatClampNeg x5)) &&& 63) = 14) → ((((gi h a0 (Int32.toNatClampNeg x5)) &&& 63) = 15 → (inb (x5 + 1) (N a0) ∧ inb (x5 + 2) (N a0) ∧ CI T N 269 [vr (some a1), vi (gi h a0 (Int32.toNatClampNeg (x5 + 1))), vi (gi h a0 (Int32.toNatClampNeg (x5 + 2))), vr (some a3)] h (fun x_375 h_374 => (CI T N 217 [vr (some a2), vi (gi h_374 a0 (Int32.toNatClampNeg (x5 + 1))), vi (gi h_374 a0 (Int32.toNatClampNeg (x5 + 2)))] h_374 (fun x_380 h_379 => (CI T N 156 [vr (some a2)] h_379 (fun x_383 h_382 => (((x_383 = x_375 → (((x_375 = 0 → (inb 0 (N a3) ∧ (((lg_cmp (gl h_382 a3 0) x_380.toInt64) = 0 → (WI T N 288 28 [some (vr (some a0)), some (vr (some a1)), some (vr (some a2)), some (vr (some a3)), some (vr (some a4)), some (vi (x5 + 5)), none, none, none] [] h_382 K)) ∧ (¬ ((lg_cmp (gl h_382 a3 0) x_380.toInt64) = 0) → (K 0 h_382))))) ∧ (¬ (x_375 = 0) → (WI T N 288 28 [some (vr (some a0)), some (vr (some a1)), some (vr (some a2)), some (vr (some a3)), some (vr (some a4)), some (vi (x5 + 5)), none, none, none] [] h_382 K))))) ∧ (¬ (x_383 = x_375) → (K 0 h_382))))))))))) ∧ (¬ (((gi h a0 (Int32.toNatClampNeg x5)) &&& 63) = 15) → ((((gi h a0 (Int32.toNatClampNeg x5)) &&& 63) = 16 → (inb (x5 + 1) (N a0) ∧ inb (x5 + 2) (N a0) ∧ CI T N 270 [vr (some a1), vi (gi h a0 (Int32.toNatClampNeg (x5 + 1))), vi (gi h a0 (Int32.toNatClampNeg (x5 + 2))), vr (some a3)] h (fun x_397 h_396 => (CI T N 218 [vr (some a2), vi (gi h_396 a0 (Int32.toNatClampNeg (x5 + 1))), vi (gi h_396 a0 (Int32.toNatClampNeg (x5 + 2)))] h_396 (fun x_402 h_401 => (CI T N 156 [vr (some a2)] h_401 (fun x_405 h_404 => (((x_405 = x_397 → (((x_397 = 0 → (inb 0 (N a3) ∧ (((lg_cmp (gl h_404 a3 0) x_402.toInt64) = 0 → (WI T N 288 28 [some (vr (some a0)), some (vr (some a1)), some (vr (some a2)), some (vr (some a3)), some (vr (some a4)), some (vi (x5 + 5)), none, none, none] [] h_404 K)) ∧ (¬ ((lg_cmp (gl h_404 a3 0) x_402.toInt64) = 0) → (K 0 h_404))))) ∧ (¬ (x_397 = 0) → (WI T N 288 28 [some (vr (some a0)), some (vr (some a1)), some (vr (some a2)), some (vr (some a3)), some (vr (some a4)), some (vi (x5 + 5)), none, none, none] [] h_404 K))))) ∧ (¬ (x_405 = x_397) → (K 0 h_404))))))))))) ∧ (¬ (((gi h a0 (Int32.toNatClampNeg x5)) &&& 63) = 16) → ((((gi h a0 (Int32.toNatClampNeg x5)) &&& 63) = 17 → (inb (x5 + 1) (N a0) ∧ inb (x5 + 2) (N a0) ∧ inb (x5 + 3) (N a0) ∧ CI T N 271 [vr (some a1), vi (gi h a0 (Int32.toNatClampNeg (x5 + 1))), vi (gi h a0 (Int32.toNatClampNeg (x5 + 2))), vi (gi h a0 (Int32.toNatClampNeg (x5 + 3))), vr (some a3)] h (fun x_421 h_420 => (CI T N 198 [vr (some a2), vi (gi h_420 a0 (Int32.toNatClampNeg (x5 + 1))), vi (gi h_420 a0 (Int32.toNatClampNeg (x5 + 2))), vi (gi h_420 a0 (Int32.toNatClampNeg (x5 + 3)))] h_420 (fun x_427 h_426 => (CI T N 156 [vr (some a2)] h_426 (fun x_430 h_429 => (((x_430 = x_421 → (((x_421 = 0 → (inb 0 (N a3) ∧ (((lg_cmp (gl h_429 a3 0) x_427.toInt64) = 0 → (WI T N 288 28 [some (vr (some a0)), some (vr (some a1)), some (vr (some a2)), some (vr (some a3)), some (vr (some a4)), some (vi (x5 + 5)), none, none, none] [] h_429 K)) ∧ (¬ ((lg_cmp (gl h_429 a3 0) x_427.toInt64) = 0) → (K 0 h_429))))) ∧ (¬ (x_421 = 0) → (WI T N 288 28 [some (vr (some a0)), some (vr (some a1)), some (vr (some a2)), some (vr (some a3)), some (vr (some a4)), some (vi (x5 + 5)), none, none, none] [] h_429 K))))) ∧ (¬ (x_430 = x_421) → (K 0 h_429))))))))))) ∧ (¬ (((gi h a0 (Int32.toNatClampNeg x5)) &&& 63) = 17) → ((((gi h a0 (Int32.toNatClampNeg x5)) &&& 63) = 18 → (inb (x5 + 1) (N a0) ∧ CI T N 272 [vr (some a1), vi (gi h a0 (Int32.toNatClampNeg (x5 + 1))), vr (some a3)] h (fun x_442 h_441 => (CI T N 219 [vr (some a2), vi (gi h_441 a0 (Int32.toNatClampNeg (x5 + 1)))] h_441 (fun x_446 h_445 => (CI T N 156 [vr (some a2)] h_445 (fun x_449 h_448 => (((x_449 = x_442 → (((x_442 = 0 → (inb 0 (N a3) ∧ (((lg_cmp (gl h_448 a3 0) x_446.toInt64) = 0 → (WI T N 288 28 [some (vr (some a0)), some (vr (some a1)), some (vr (some a2)), some (vr (some a3)), some (vr (some a4)), some (vi (x5 + 5)), none, none, none] [] h_448 K)) ∧ (¬ ((lg_cmp (gl h_448 a3 0) x_446.toInt64) = 0) → (K 0 h_448))))) ∧ (¬ (x_442 = 0) → (WI T N 288 28 [some (vr (some a0)), some (vr (some a1)), some (vr (some a2)), some (vr (some a3)), some (vr (some a4)), some (vi (x5 + 5)), none, none, none] [] h_448 K))))) ∧ (¬ (x_449 = x_442) → (K 0 h_448))))))))))) ∧ (¬ (((gi h a0 (Int32.toNatClampNeg x5)) &&& 63) = 18) → ((((gi h a0 (Int32.toNatClampNeg x5)) &&& 63) = 19 → (inb (x5 + 1) (N a0) ∧ inb (x5 + 2) (N a0) ∧ CI T N 273 [vr (some a1), vi (gi h a0 (Int32.toNatClampNeg (x5 + 1))), vi (gi h a0 (Int32.toNatClampNeg (x5 + 2))), vr (some a3)] h (fun x_463 h_462 => (CI T N 221 [vr (some a2), vi (gi h_462 a0 (Int32.toNatClampNeg (x5 + 1))), vi (gi h_462 a0 (Int32.toNatClampNeg (x5 + 2)))] h_462 (fun x_468 h_467 => (CI T N 156 [vr (some a2)] h_467 (fun x_471 h_470 => (((x_471 = x_463 → (((x_463 = 0 → (inb 0 (N a3) ∧ (((lg_cmp (gl h_470 a3 0) x_468.toInt64) = 0 → (WI T N 288 28 [some (vr (some a0)), some (vr (some a1)), some (vr (some a2)), some (vr (some a3)), some (vr (some a4)), some (vi (x5 + 5)), none, none, none] [] h_470 K)) ∧ (¬ ((lg_cmp (gl h_470 a3 0) x_468.toInt64) = 0) → (K 0 h_470))))) ∧ (¬ (x_463 = 0) → (WI T N 288 28 [some (vr (some a0)), some (vr (some a1)), some (vr (some a2)), some (vr (some a3)), some (vr (some a4)), some (vi (x5 + 5)), none, none, none] [] h_470 K))))) ∧ (¬ (x_471 = x_463) → (K 0 h_470))))))))))) ∧ (¬ (((gi h a0 (Int32.toNatClampNeg x5)) &&& 63) = 19) → ((((gi h a0 (Int32.toNatClampNeg x5)) &&& 63) = 20 → (CI T N 125 [vr (some a1)] h (fun x_481 h_480 => (CI T N 201 [vr (some a2)] h_480 (fun x_484 h_483 => (((x_481 = x_484 → (WI T N 288 28 [some (vr (some a0)), some (vr (some a1)), some (vr (some a2)), some (vr (some a3)), some (vr (some a4)), some (vi (x5 + 5)), none, none, none] [] h_483 K)) ∧ (¬ (x_481 = x_484) → (K 0 h_483))))))))) ∧ (¬ (((gi h a0 (Int32.toNatClampNeg x5)) &&& 63) = 20) → ((((gi h a0 (Int32.toNatClampNeg x5)) &&& 63) = 21 → (CI T N 126 [vr (some a1)] h (fun x_489 h_488 => (CI T N 223 [vr (some a2)] h_488 (fun x_492 h_491 => (((x_489 = x_492 → (WI T N 288 28 [some (vr (some a0)), some (vr (some a1)), some (vr (some a2)), some (vr (some a3)), some (vr (some a4)), some (vi (x5 + 5)), none, none, none] [] h_491 K)) ∧ (¬ (x_489 = x_492) → (K 0 h_491))))))))) ∧ (¬ (((gi h a0 (Int32.toNatClampNeg x5)) &&& 63) = 21) → ((((gi h a0 (Int32.toNatClampNeg x5)) &&& 63) = 22 → (inb (x5 + 1) (N a0) ∧ CI T N 274 [vr (some a1), vi (gi h a0 (Int32.toNatClampNeg (x5 + 1))), vr (some a3)] h (fun x_499 h_498 => (CI T N 224 [vr (some a2), vi (gi h_498 a0 (Int32.toNatClampNeg (x5 + 1)))] h_498 (fun x_503 h_502 => (CI T N 156 [vr (some a2)] h_502 (fun x_506 h_505 => (((x_506 = x_499 → (((x_499 = 0 → (inb 0 (N a3) ∧ (((lg_cmp (gl h_505 a3 0) x_503.toInt64) = 0 → (WI T N 288 28 [some (vr (some a0)), some (vr (some a1)), some (vr (some a2)), some (vr (some a3)), some (vr (some a4)), some (vi (x5 + 5)), none, none, none] [] h_505 K)) ∧ (¬ ((lg_cmp (gl h_505 a3 0) x_503.toInt64) = 0) → (K 0 h_505))))) ∧ (¬ (x_499 = 0) → (WI T N 288 28 [some (vr (some a0)), some (vr (some a1)), some (vr (some a2)), some (vr (some a3)), some (vr (some a4)), some (vi (x5 + 5)), none, none, none] [] h_505 K))))) ∧ (¬ (x_506 = x_499) → (K 0 h_505))))))))))) ∧ (¬ (((gi h a0 (Int32.toNatClampNeg x5)) &&& 63) = 22) → ((((gi h a0 (Int32.toNatClampNeg x5)) &&& 63) = 23 → (CI T N 128 [vr (some a1)] h (fun x_516 h_515 => (CI T N 225 [vr (some a2)] h_515 (fun x_519 h_518 => (((x_516 = x_519 → (WI T N 288 28 [some (vr (some a0)), some (vr (some a1)), some (vr (some a2)), some (vr (some a3)), some (vr (some a4)), some (vi (x5 + 5)), none, none, none] [] h_518 K)) ∧ (¬ (x_516 = x_519) → (K 0 h_518))))))))) ∧ (¬ (((gi h a0 (Int32.toNatClampNeg x5)) &&& 63) = 23) → ((((gi h a0 (Int32.toNatClampNeg x5)) &&& 63) = 24 → (CI T N 275 [vr (some a1), vr (some a3)] h (fun x_524 h_523 => (CI T N 226 [vr (some a2)] h_523 (fun x_527 h_526 => (CI T N 156 [vr (some a2)] h_526 (fun x_530 h_529 => (((x_530 = x_524 → (((x_524 = 0 → (inb 0 (N a3) ∧ (((lg_cmp (gl h_529 a3 0) x_527.toInt64) = 0 → (WI T N 288 28 [some (vr (some a0)), some (vr (some a1)), some (vr (some a2)), some (vr (some a3)), some (vr (some a4)), some (vi (x5 + 5)), none, none, none] [] h_529 K)) ∧ (¬ ((lg_cmp (gl h_529 a3 0) x_527.toInt64) = 0) → (K 0 h_529))))) ∧ (¬ (x_524 = 0) → (WI T N 288 28 [some (vr (some a0)), some (vr (some a1)), some (vr (some a2)), some (vr (some a3)), some (vr (some a4)), some (vi (x5 + 5)), none, none, none] [] h_529 K))))) ∧ (¬ (x_530 = x_524) → (K 0 h_529))))))))))) ∧ (¬ (((gi h a0 (Int32.toNatClampNeg x5)) &&& 63) = 24) → ((((gi h a0 (Int32.toNatClampNeg x5)) &&& 63) = 25 → (inb (x5 + 1) (N a0) ∧ CI T N 276 [vr (some a1), vi (gi h a0 (Int32.toNatClampNeg (x5 + 1))), vr (some a3)] h (fun x_542 h_541 => (CI T N 232 [vr (some a2), vi (gi h_541 a0 (Int32.toNatClampNeg (x5 + 1)))] h_541 (fun x_546 h_545 => (CI T N 156 [vr (some a2)] h_545 (fun x_549 h_548 => (((x_549 = x_542 → (((x_542 = 0 → (inb 0 (N a3) ∧ (((lg_cmp (gl h_548 a3 0) x_546.toInt64) = 0 → (WI T N 288 28 [some (vr (some a0)), some (vr (some a1)), some (vr (some a2)), some (vr (some a3)), some (vr (some a4)), some (vi (x5 + 5)), none, none, none] [] h_548 K)) ∧ (¬ ((lg_cmp (gl h_548 a3 0) x_546.toInt64) = 0) → (K 0 h_548))))) ∧ (¬ (x_542 = 0) → (WI T N 288 28 [some (vr (some a0)), some (vr (some a1)), some (vr (some a2)), some (vr (some a3)), some (vr (some a4)), some (vi (x5 + 5)), none, none, none] [] h_548 K))))) ∧ (¬ (x_549 = x_542) → (K 0 h_548))))))))))) ∧ (¬ (((gi h a0 (Int32.toNatClampNeg x5)) &&& 63) = 25) → ((((gi h a0 (Int32.toNatClampNeg x5)) &&& 63) = 26 → (inb (x5 + 1) (N a0) ∧ inb (x5 + 2) (N a0) ∧ CI T N 277 [vr (some a1), vi (gi h a0 (Int32.toNatClampNeg (x5 + 1))), vi (gi h a0 (Int32.toNatClampNeg (x5 + 2))), vr (some a3)] h (fun x_563 h_562 => (CI T N 233 [vr (some a2), vi (gi h_562 a0 (Int32.toNatClampNeg (x5 + 1))), vi (gi h_562 a0 (Int32.toNatClampNeg (x5 + 2)))] h_562 (fun x_568 h_567 => (CI T N 156 [vr (some a2)] h_567 (fun x_571 h_570 => (((x_571 = x_563 → (((x_563 = 0 → (inb 0 (N a3) ∧ (((lg_cmp (gl h_570 a3 0) x_568.toInt64) = 0 → (WI T N 288 28 [some (vr (some a0)), some (vr (some a1)), some (vr (some a2)), some (vr (some a3)), some (vr (some a4)), some (vi (x5 + 5)), none, none, none] [] h_570 K)) ∧ (¬ ((lg_cmp (gl h_570 a3 0) x_568.toInt64) = 0) → (K 0 h_570))))) ∧ (¬ (x_563 = 0) → (WI T N 288 28 [some (vr (some a0)), some (vr (some a1)), some (vr (some a2)), some (vr (some a3)), some (vr (some a4)), some (vi (x5 + 5)), none, none, none] [] h_570 K))))) ∧ (¬ (x_571 = x_563) → (K 0 h_570))))))))))) ∧ (¬ (((gi h a0 (Int32.toNatClampNeg x5)) &&& 63) = 26) → ((((gi h a0 (Int32.toNatClampNeg x5)) &&& 63) = 27 → (inb (x5 + 1) (N a0) ∧ (((gi h a0 (Int32.toNatClampNeg (x5 + 1))) = 0 → (CI T N 132 [vr (some a1), vi 0] h (fun x_584 h_583 => ((((gi h_583 a0 (Int32.toNatClampNeg (x5 + 1))) = 0 → (CI T N 234 [vr (some a2), vi 0] h_583 (fun x_589 h_588 => (((x_584 = x_589 → (WI T N 288 28 [some (vr (some a0)), some (vr (some a1)), some (vr (some a2)), some (vr (some a3)), some (vr (some a4)), some (vi (x5 + 5)), none, none, none] [] h_588 K)) ∧ (¬ (x_584 = x_589) → (K 0 h_588))))))) ∧ (¬ ((gi h_583 a0 (Int32.toNatClampNeg (x5 + 1))) = 0) → (CI T N 234 [vr (some a2), vi 1] h_583 (fun x_594 h_593 => (((x_584 = x_594 → (WI T N 288 28 [some (vr (some a0)), some (vr (some a1)), some (vr (some a2)), some (vr (some a3)), some (vr (some a4)), some (vi (x5 + 5)), none, none, none] [] h_593 K)) ∧ (¬ (x_584 = x_594) → (K 0 h_593)))))))))))) ∧ (¬ ((gi h a0 (Int32.toNatClampNeg (x5 + 1))) = 0) → (CI T N 132 [vr (some a1), vi 1] h (fun x_599 h_598 => ((((gi h_598 a0 (Int32.toNatClampNeg (x5 + 1))) = 0 → (CI T N 234 [vr (some a2), vi 0] h_598 (fun x_604 h_603 => (((x_599 = x_604 → (WI T N 288 28 [some (vr (some a0)), some (vr (some a1)), some (vr (some a2)), some (vr (some a3)), some (vr (some a4)), some (vi (x5 + 5)), none, none, none] [] h_603 K)) ∧ (¬ (x_599 = x_604) → (K 0 h_603))))))) ∧ (¬ ((gi h_598 a0 (Int32.toNatClampNeg (x5 + 1))) = 0) → (CI T N 234 [vr (some a2), vi 1] h_598 (fun x_609 h_608 => (((x_599 = x_609 → (WI T N 288 28 [some (vr (some a0)), some (vr (some a1)), some (vr (some a2)), some (vr (some a3)), some (vr (some a4)), some (vi (x5 + 5)), none, none, none] [] h_608 K)) ∧ (¬ (x_599 = x_609) → (K 0 h_608))))))))))))))) ∧ (¬ (((gi h a0 (Int32.toNatClampNeg x5)) &&& 63) = 27) → ((((gi h a0 (Int32.toNatClampNeg x5)) &&& 63) = 28 → (inb (x5 + 1) (N a0) ∧ inb (x5 + 2) (N a0) ∧ CI T N 278 [vr (some a1), vi (gi h a0 (Int32.toNatClampNeg (x5 + 1))), vi (gi h a0 (Int32.toNatClampNeg (x5 + 2))), vr (some a3)] h (fun x_618 h_617 => (CI T N 235 [vr (some a2), vi (gi h_617 a0 (Int32.toNatClampNeg (x5 + 1))), vi (gi h_617 a0 (Int32.toNatClampNeg (x5 + 2)))] h_617 (fun x_623 h_622 => (CI T N 156 [vr (some a2)] h_622 (fun x_626 h_625 => (((x_626 = x_618 → (((x_618 = 0 → (inb 0 (N a3) ∧ (((lg_cmp (gl h_625 a3 0) x_623.toInt64) = 0 → (WI T N 288 28 [some (vr (some a0)), some (vr (some a1)), some (vr (some a2)), some (vr (some a3)), some (vr (some a4)), some (vi (x5 + 5)), none, none, none] [] h_625 K)) ∧ (¬ ((lg_cmp (gl h_625 a3 0) x_623.toInt64) = 0) → (K 0 h_625))))) ∧ (¬ (x_618 = 0) → (WI T N 288 28 [some (vr (some a0)), some (vr (some a1)), some (vr (some a2)), some (vr (some a3)), some (vr (some a4)), some (vi (x5 + 5)), none, none, none] [] h_625 K))))) ∧ (¬ (x_626 = x_618) → (K 0 h_625))))))))))) ∧ (¬ (((gi h a0 (Int32.toNatClampNeg x5)) &&& 63) = 28) → ((((gi h a0 (Int32.toNatClampNeg x5)) &&& 63) = 29 → (inb (x5 + 1) (N a0) ∧ inb (x5 + 2) (N a0) ∧ CI T N 279 [vr (some a1), vi (gi h a0 (Int32.toNatClampNeg (x5 + 1))), vi (gi h a0 (Int32.toNatClampNeg (x5 + 2))), vr (some a3)] h (fun x_640 h_639 => (CI T N 236 [vr (some a2), vi (gi h_639 a0 (Int32.toNatClampNeg (x5 + 1))), vi (gi h_639 a0 (Int32.toNatClampNeg (x5 + 2)))] h_639 (fun x_645 h_644 => (CI T N 156 [vr (some a2)] h_644 (fun x_648 h_647 => (((x_648 = x_640 → (((x_640 = 0 → (inb 0 (N a3) ∧ (((lg_cmp (gl h_647 a3 0) x_645.toInt64) = 0 → (WI T N 288 28 [some (vr (some a0)), some (vr (some a1)), some (vr (some a2)), some (vr (some a3)), some (vr (some a4)), some (vi (x5 + 5)), none, none, none] [] h_647 K)) ∧ (¬ ((lg_cmp (gl h_647 a3 0) x_645.toInt64) = 0) → (K 0 h_647))))) ∧ (¬ (x_640 = 0) → (WI T N 288 28 [some (vr (some a0)), some (vr (some a1)), some (vr (some a2)), some (vr (some a3)), some (vr (some a4)), some (vi (x5 + 5)), none, none, none] [] h_647 K))))) ∧ (¬ (x_648 = x_640) → (K 0 h_647))))))))))) ∧ (¬ (((gi h a0 (Int32.toNatClampNeg x5)) &&& 63) = 29) → ((((gi h a0 (Int32.toNatClampNeg x5)) &&& 63) = 30 → (CI T N 135 [vr (some a1)] h (fun x_658 h_657 => (CI T N 237 [vr (some a2)] h_657 (fun x_661 h_660 => (((x_658 = x_661 → (WI T N 288 28 [some (vr (some a0)), some (vr (some a1)), some (vr (some a2)), some (vr (some a3)), some (vr (some a4)), some (vi (x5 + 5)), none, none, none] [] h_660 K)) ∧ (¬ (x_658 = x_661) → (K 0 h_660))))))))) ∧ (¬ (((gi h a0 (Int32.toNatClampNeg x5)) &&& 63) = 30) → ((((gi h a0 (Int32.toNatClampNeg x5)) &&& 63) = 31 → (CI T N 280 [vr (some a1), vr (some a4)] h (fun x_666 h_665 => (CD T N 239 [vr (some a2)] h_665 (fun x_669 h_668 => (CI T N 156 [vr (some a2)] h_668 (fun x_672 h_671 => (((x_672 = x_666 → (((x_666 = 0 → (inb 0 (N a4) ∧ (((Op.cmpValue (FP.dcmp (gd h_671 a4 0) x_669) .l) = 0 → (WI T N 288 28 [some (vr (some a0)), some (vr (some a1)), some (vr (some a2)), some (vr (some a3)), some (vr (some a4)), some (vi (x5 + 5)), none, none, none] [] h_671 K)) ∧ (¬ ((Op.cmpValue (FP.dcmp (gd h_671 a4 0) x_669) .l) = 0) → ((((Op.cmpValue (FP.dcmp (gd h_671 a4 0) (gd h_671 a4 0)) .l) = 0 → (K 0 h_671)) ∧ (¬ ((Op.cmpValue (FP.dcmp (gd h_671 a4 0) (gd h_671 a4 0)) .l) = 0) → ((((Op.cmpValue (FP.dcmp x_669 x_669) .l) = 0 → (K 0 h_671)) ∧ (¬ ((Op.cmpValue (FP.dcmp x_669 x_669) .l) = 0) → (WI T N 288 28 [some (vr (some a0)), some (vr (some a1)), some (vr (some a2)), some (vr (some a3)), some (vr (some a4)), some (vi (x5 + 5)), none, none, none] [] h_671 K))))))))))) ∧ (¬ (x_666 = 0) → (WI T N 288 28 [some (vr (some a0)), some (vr (some a1)), some (vr (some a2)), some (vr (some a3)), some (vr (some a4)), some (vi (x5 + 5)), none, none, none] [] h_671 K))))) ∧ (¬ (x_672 = x_666) → (K 0 h_671))))))))))) ∧ (¬ (((gi h a0 (Int32.toNatClampNeg x5)) &&& 63) = 31) → ((((gi h a0 (Int32.toNatClampNeg x5)) &&& 63) = 32 → (CI T N 281 [vr (some a1), vr (some a3)] h (fun x_687 h_686 => (CI T N 240 [vr (some a2)] h_686 (fun x_690 h_689 => (CI T N 156 [vr (some a2)] h_689 (fun x_693 h_692 => (((x_693 = x_687 → (((x_687 = 0 → (inb 0 (N a3) ∧ (((lg_cmp (gl h_692 a3 0) x_690.toInt64) = 0 → (WI T N 288 28 [some (vr (some a0)), some (vr (some a1)), some (vr (some a2)), some (vr (some a3)), some (vr (some a4)), some (vi (x5 + 5)), none, none, none] [] h_692 K)) ∧ (¬ ((lg_cmp (gl h_692 a3 0) x_690.toInt64) = 0) → (K 0 h_692))))) ∧ (¬ (x_687 = 0) → (WI T N 288 28 [some (vr (some a0)), some (vr (some a1)), some (vr (some a2)), some (vr (some a3)), some (vr (some a4)), some (vi (x5 + 5)), none, none, none] [] h_692 K))))) ∧ (¬ (x_693 = x_687) → (K 0 h_692))))))))))) ∧ (¬ (((gi h a0 (Int32.toNatClampNeg x5)) &&& 63) = 32) → ((((gi h a0 (Int32.toNatClampNeg x5)) &&& 63) = 33 → (inb (x5 + 1) (N a0) ∧ CI T N 282 [vr (some a1), vi (((gi h a0 (Int32.toNatClampNeg (x5 + 1))).toUInt32 % 65536).toInt32), vr (some a3)] h (fun x_705 h_704 => (CI T N 241 [vr (some a2), vi (((gi h_704 a0 (Int32.toNatClampNeg (x5 + 1))).toUInt32 % 65536).toInt32)] h_704 (fun x_709 h_708 => (CI T N 156 [vr (some a2)] h_708 (fun x_712 h_711 => (((x_712 = x_705 → (((x_705 = 0 → (inb 0 (N a3) ∧ (((lg_cmp (gl h_711 a3 0) x_709.toInt64) = 0 → (WI T N 288 28 [some (vr (some a0)), some (vr (some a1)), some (vr (some a2)), some (vr (some a3)), some (vr (some a4)), some (vi (x5 + 5)), none, none, none] [] h_711 K)) ∧ (¬ ((lg_cmp (gl h_711 a3 0) x_709.toInt64) = 0) → (K 0 h_711))))) ∧ (¬ (x_705 = 0) → (WI T N 288 28 [some (vr (some a0)), some (vr (some a1)), some (vr (some a2)), some (vr (some a3)), some (vr (some a4)), some (vi (x5 + 5)), none, none, none] [] h_711 K))))) ∧ (¬ (x_712 = x_705) → (K 0 h_711))))))))))) ∧ (¬ (((gi h a0 (Int32.toNatClampNeg x5)) &&& 63) = 33) → ((((gi h a0 (Int32.toNatClampNeg x5)) &&& 63) = 34 → (CI T N 283 [vr (some a1), vr (some a3)] h (fun x_722 h_721 => (CI T N 247 [vr (some a2)] h_721 (fun x_725 h_724 => (CI T N 156 [vr (some a2)] h_724 (fun x_728 h_727 => (((x_728 = x_722 → (((x_722 = 0 → (inb 0 (N a3) ∧ (((lg_cmp (gl h_727 a3 0) x_725.toInt64) = 0 → (WI T N 288 28 [some (vr (some a0)), some (vr (some a1)), some (vr (some a2)), some (vr (some a3)), some (vr (some a4)), some (vi (x5 + 5)), none, none, none] [] h_727 K)) ∧ (¬ ((lg_cmp (gl h_727 a3 0) x_725.toInt64) = 0) → (K 0 h_727))))) ∧ (¬ (x_722 = 0) → (WI T N 288 28 [some (vr (some a0)), some (vr (some a1)), some (vr (some a2)), some (vr (some a3)), some (vr (some a4)), some (vi (x5 + 5)), none, none, none] [] h_727 K))))) ∧ (¬ (x_728 = x_722) → (K 0 h_727))))))))))) ∧ (¬ (((gi h a0 (Int32.toNatClampNeg x5)) &&& 63) = 34) → ((((gi h a0 (Int32.toNatClampNeg x5)) &&& 63) = 35 → (CI T N 284 [vr (some a1), vr (some a3)] h (fun x_738 h_737 => (CI T N 248 [vr (some a2)] h_737 (fun x_741 h_740 => (CI T N 156 [vr (some a2)] h_740 (fun x_744 h_743 => (((x_744 = x_738 → (((x_738 = 0 → (inb 0 (N a3) ∧ (((lg_cmp (gl h_743 a3 0) x_741.toInt64) = 0 → (WI T N 288 28 [some (vr (some a0)), some (vr (some a1)), some (vr (some a2)), some (vr (some a3)), some (vr (some a4)), some (vi (x5 + 5)), none, none, none] [] h_743 K)) ∧ (¬ ((lg_cmp (gl h_743 a3 0) x_741.toInt64) = 0) → (K 0 h_743))))) ∧ (¬ (x_738 = 0) → (WI T N 288 28 [some (vr (some a0)), some (vr (some a1)), some (vr (some a2)), some (vr (some a3)), some (vr (some a4)), some (vi (x5 + 5)), none, none, none] [] h_743 K))))) ∧ (¬ (x_744 = x_738) → (K 0 h_743))))))))))) ∧ (¬ (((gi h a0 (Int32.toNatClampNeg x5)) &&& 63) = 35) → ((((gi h a0 (Int32.toNatClampNeg x5)) &&& 63) = 36 → (inb (x5 + 1) (N a0) ∧ inb (x5 + 2) (N a0) ∧ CI T N 285 [vr (some a1), vi (gi h a0 (Int32.toNatClampNeg (x5 + 1))), vi (gi h a0 (Int32.toNatClampNeg (x5 + 2))), vr (some a3)] h (fun x_758 h_757 => (CI T N 249 [vr (some a2), vi (gi h_757 a0 (Int32.toNatClampNeg (x5 + 1))), vi (gi h_757 a0 (Int32.toNatClampNeg (x5 + 2)))] h_757 (fun x_763 h_762 => (CI T N 156 [vr (some a2)] h_762 (fun x_766 h_765 => (((x_766 = x_758 → (((x_758 = 0 → (inb 0 (N a3) ∧ (((lg_cmp (gl h_765 a3 0) x_763.toInt64) = 0 → (WI T N 288 28 [some (vr (some a0)), some (vr (some a1)), some (vr (some a2)), some (vr (some a3)), some (vr (some a4)), some (vi (x5 + 5)), none, none, none] [] h_765 K)) ∧ (¬ ((lg_cmp (gl h_765 a3 0) x_763.toInt64) = 0) → (K 0 h_765))))) ∧ (¬ (x_758 = 0) → (WI T N 288 28 [some (vr (some a0)), some (vr (some a1)), some (vr (some a2)), some (vr (some a3)), some (vr (some a4)), some (vi (x5 + 5)), none, none, none] [] h_765 K))))) ∧ (¬ (x_766 = x_758) → (K 0 h_765))))))))))) ∧ (¬ (((gi h a0 (Int32.toNatClampNeg x5)) &&& 63) = 36) → ((((gi h a0 (Int32.toNatClampNeg x5)) &&& 63) = 37 → (CI T N 286 [vr (some a1), vr (some a3)] h (fun x_776 h_775 => (CI T N 250 [vr (some a2)] h_775 (fun x_779 h_778 => (CI T N 156 [vr (some a2)] h_778 (fun x_782 h_781 => (((x_782 = x_776 → (((x_776 = 0 → (inb 0 (N a3) ∧ (((lg_cmp (gl h_781 a3 0) x_779.toInt64) = 0 → (WI T N 288 28 [some (vr (some a0)), some (vr (some a1)), some (vr (some a2)), some (vr (some a3)), some (vr (some a4)), some (vi (x5 + 5)), none, none, none] [] h_781 K)) ∧ (¬ ((lg_cmp (gl h_781 a3 0) x_779.toInt64) = 0) → (K 0 h_781))))) ∧ (¬ (x_776 = 0) → (WI T N 288 28 [some (vr (some a0)), some (vr (some a1)), some (vr (some a2)), some (vr (some a3)), some (vr (some a4)), some (vi (x5 + 5)), none, none, none] [] h_781 K))))) ∧ (¬ (x_782 = x_776) → (K 0 h_781))))))))))) ∧ (¬ (((gi h a0 (Int32.toNatClampNeg x5)) &&& 63) = 37) → ((((gi h a0 (Int32.toNatClampNeg x5)) &&& 63) = 38 → (CI T N 143 [vr (some a1)] h (fun x_792 h_791 => (CI T N 251 [vr (some a2)] h_791 (fun x_795 h_794 => (((x_792 = x_795 → (WI T N 288 28 [some (vr (some a0)), some (vr (some a1)), some (vr (some a2)), some (vr (some a3)), some (vr (some a4)), some (vi (x5 + 5)), none, none, none] [] h_794 K)) ∧ (¬ (x_792 = x_795) → (K 0 h_794))))))))) ∧ (¬ (((gi h a0 (Int32.toNatClampNeg x5)) &&& 63) = 38) → ((((gi h a0 (Int32.toNatClampNeg x5)) &&& 63) = 39 → (CI T N 287 [vr (some a1), vr (some a3)] h (fun x_800 h_799 => (CI T N 252 [vr (some a2)] h_799 (fun x_803 h_802 => (CI T N 156 [vr (some a2)] h_802 (fun x_806 h_805 => (((x_806 = x_800 → (((x_800 = 0 → (inb 0 (N a3) ∧ (((lg_cmp (gl h_805 a3 0) x_803.toInt64) = 0 → (WI T N 288 28 [some (vr (some a0)), some (vr (some a1)), some (vr (some a2)), some (vr (some a3)), some (vr (some a4)), some (vi (x5 + 5)), none, none, none] [] h_805 K)) ∧ (¬ ((lg_cmp (gl h_805 a3 0) x_803.toInt64) = 0) → (K 0 h_805))))) ∧ (¬ (x_800 = 0) → (WI T N 288 28 [some (vr (some a0)), some (vr (some a1)), some (vr (some a2)), some (vr (some a3)), some (vr (some a4)), some (vi (x5 + 5)), none, none, none] [] h_805 K))))) ∧ (¬ (x_806 = x_800) → (K 0 h_805))))))))))) ∧ (¬ (((gi h a0 (Int32.toNatClampNeg x5)) &&& 63) = 39) → (WI T N 288 28 [some (vr (some a0)), some (vr (some a1)), some (vr (some a2)), some (vr (some a3)), some (vr (some a4)), some (vi (x5 + 5)), none, none, none] [] h K)))))))))))))))))))))))))))))))))))))))))))))))))))))))))))))))))))))))))))))))))))))) : WI T N 288 28 [some (vr (some a0)), some (vr (some a1)), some (vr (some a2)), some (vr (some a3)), some (vr (some a4)), some (vi x5), none, none, none] [] h K := by
  show WP T N 288 28 [some (vr (some a0)), some (vr (some a1)), some (vr (some a2)), some (vr (some a3)), some (vr (some a4)), some (vi x5), none, none, none] [] h _
  refine R_ps 2 (pc2 := 31) (L2 := [some (vr (some a0)), some (vr (some a1)), some (vr (some a2)), some (vr (some a3)), some (vr (some a4)), some (vi x5), none, none, none]) (st2 := [vr (some a0), vi x5]) rfl ?_
  refine R_alen rfl t0 ?_
  refine R_ps 2 (pc2 := 34) (L2 := [some (vr (some a0)), some (vr (some a1)), some (vr (some a2)), some (vr (some a3)), some (vr (some a4)), some (vi x5), none, none, none]) (st2 := [vi ((Int32.ofNat (N a0)) - 5), vi x5]) rfl ?_
  refine R_if rfl (fun c_2 => ?_) (fun c_2 => ?_)
  · have k := k.1 c_2
    refine R_ps 1 (pc2 := 2420) (L2 := [some (vr (some a0)), some (vr (some a1)), some (vr (some a2)), some (vr (some a3)), some (vr (some a4)), some (vi x5), none, none, none]) (st2 := [vi 1]) rfl ?_
    exact R_zret rfl rfl (Or.inr rfl) ⟨_, rfl, k⟩
  · have k := k.2 c_2
    refine R_ps 2 (pc2 := 40) (L2 := [some (vr (some a0)), some (vr (some a1)), some (vr (some a2)), some (vr (some a3)), some (vr (some a4)), some (vi x5), none, none, none]) (st2 := [vi x5, vr (some a0)]) rfl ?_
    obtain ⟨t_5, k⟩ := k
    refine R_iald rfl (Or.inr t1) t_5 ?_
    refine R_ps 2 (pc2 := 44) (L2 := [some (vr (some a0)), some (vr (some a1)), some (vr (some a2)), some (vr (some a3)), some (vr (some a4)), some (vi x5), none, none, none]) (st2 := [vi ((gi h a0 (Int32.toNatClampNeg x5)) &&& 63)]) rfl ?_
    refine R_tsw rfl rfl ?_
    refine ⟨fun c_6 => ?_, fun c_6 => ?_⟩
    · have k := k.1 c_6
      show WP T N _ 220 _ _ _ _
      refine R_ps 1 (pc2 := 221) (L2 := [some (vr (some a0)), some (vr (some a1)), some (vr (some a2)), some (vr (some a3)), some (vr (some a4)), some (vi x5), none, none, none]) (st2 := [vr (some a1)]) rfl ?_
      refine R_cI (as := [vr (some a1)]) rfl rfl ⟨Nat.le_of_ble_eq_true rfl, Nat.le_of_ble_eq_true rfl, rfl, (Or.inr ⟨_, rfl, t2⟩)⟩ rfl rfl k (fun x_9 h_8 k => ?_)
      refine R_ps 1 (pc2 := 225) (L2 := [some (vr (some a0)), some (vr (some a1)), some (vr (some a2)), some (vr (some a3)), some (vr (some a4)), some (vi x5), none, none, none]) (st2 := [vr (some a2), vi x_9]) rfl ?_
      refine R_cI (as := [vr (some a2)]) rfl rfl ⟨Nat.le_of_ble_eq_true rfl, Nat.le_of_ble_eq_true rfl, rfl, (Or.inr ⟨_, rfl, t3⟩)⟩ rfl rfl k (fun x_12 h_11 k => ?_)
      refine R_if rfl (fun c_13 => ?_) (fun c_13 => ?_)
      · have k := k.1 c_13
        refine R_ps 2 (pc2 := 28) (L2 := [some (vr (some a0)), some (vr (some a1)), some (vr (some a2)), some (vr (some a3)), some (vr (some a4)), some (vi (x5 + 5)), none, none, none]) (st2 := []) rfl ?_
        exact k
      · have k := k.2 c_13
        refine R_ps 1 (pc2 := 232) (L2 := [some (vr (some a0)), some (vr (some a1)), some (vr (some a2)), some (vr (some a3)), some (vr (some a4)), some (vi x5), none, none, none]) (st2 := [vi 0]) rfl ?_
        exact R_zret rfl rfl (Or.inl rfl) ⟨_, rfl, k⟩
    replace k := k.2 c_6
    refine ⟨fun c_6 => ?_, fun c_6 => ?_⟩
    · have k := k.1 c_6
      show WP T N _ 233 _ _ _ _
      refine R_ps 5 (pc2 := 239) (L2 := [some (vr (some a0)), some (vr (some a1)), some (vr (some a2)), some (vr (some a3)), some (vr (some a4)), some (vi x5), none, none, none]) (st2 := [vi (x5 + 1), vr (some a0), vr (some a1)]) rfl ?_
      obtain ⟨t_16, k⟩ := k
      refine R_iald rfl (Or.inr t1) t_16 ?_
      refine R_if0 rfl (fun c_17 => ?_) (fun c_17 => ?_)
      · have k := k.1 c_17
        refine R_ps 2 (pc2 := 249) (L2 := [some (vr (some a0)), some (vr (some a1)), some (vr (some a2)), some (vr (some a3)), some (vr (some a4)), some (vi x5), none, none, none]) (st2 := [vr (some a3), vi 0, vr (some a1)]) rfl ?_
        refine R_cI (as := [vr (some a1), vi 0, vr (some a3)]) rfl rfl ⟨Nat.le_of_ble_eq_true rfl, Nat.le_of_ble_eq_true rfl, rfl, (Or.inl rfl)⟩ rfl rfl k (fun x_20 h_19 k => ?_)
        refine R_ps 6 (pc2 := 260) (L2 := [some (vr (some a0)), some (vr (some a1)), some (vr (some a2)), some (vr (some a3)), some (vr (some a4)), some (vi x5), some (vi x_20), none, none]) (st2 := [vi (x5 + 1), vr (some a0), vr (some a2)]) rfl ?_
        refine R_iald rfl (Or.inr t1) t_16 ?_
        refine R_if0 rfl (fun c_22 => ?_) (fun c_22 => ?_)
        · have k := k.1 c_22
          refine R_ps 1 (pc2 := 269) (L2 := [some (vr (some a0)), some (vr (some a1)), some (vr (some a2)), some (vr (some a3)), some (vr (some a4)), some (vi x5), some (vi x_20), none, none]) (st2 := [vi 0, vr (some a2)]) rfl ?_
          refine R_cI (as := [vr (some a2), vi 0]) rfl rfl ⟨Nat.le_of_ble_eq_true rfl, Nat.le_of_ble_eq_true rfl, rfl, (Or.inr ⟨_, rfl, t3⟩)⟩ rfl rfl k (fun x_25 h_24 k => ?_)
          refine R_ps 2 (pc2 := 275) (L2 := [some (vr (some a0)), some (vr (some a1)), some (vr (some a2)), some (vr (some a3)), some (vr (some a4)), some (vi x5), some (vi x_20), some (vi x_25), none]) (st2 := [vr (some a2)]) rfl ?_
          refine R_cI (as := [vr (some a2)]) rfl rfl ⟨Nat.le_of_ble_eq_true rfl, Nat.le_of_ble_eq_true rfl, rfl, (Or.inr ⟨_, rfl, t3⟩)⟩ rfl rfl k (fun x_28 h_27 k => ?_)
          refine R_ps 1 (pc2 := 280) (L2 := [some (vr (some a0)), some (vr (some a1)), some (vr (some a2)), some (vr (some a3)), some (vr (some a4)), some (vi x5), some (vi x_20), some (vi x_25), none]) (st2 := [vi x_20, vi x_28]) rfl ?_
          refine R_if rfl (fun c_29 => ?_) (fun c_29 => ?_)
          · have k := k.1 c_29
            refine R_ps 1 (pc2 := 287) (L2 := [some (vr (some a0)), some (vr (some a1)), some (vr (some a2)), some (vr (some a3)), some (vr (some a4)), some (vi x5), some (vi x_20), some (vi x_25), none]) (st2 := [vi x_20]) rfl ?_
            refine R_if0 rfl (fun c_30 => ?_) (fun c_30 => ?_)
            · have k := k.2 c_30
              refine R_ps 3 (pc2 := 28) (L2 := [some (vr (some a0)), some (vr (some a1)), some (vr (some a2)), some (vr (some a3)), some (vr (some a4)), some (vi (x5 + 5)), some (vi x_20), some (vi x_25), none]) (st2 := []) rfl ?_
              exact R_drop k (LE_of (L := [some (vr (some a0)), some (vr (some a1)), some (vr (some a2)), some (vr (some a3)), some (vr (some a4)), some (vi (x5 + 5)), none, none, none]) (L2 := [some (vr (some a0)), some (vr (some a1)), some (vr (some a2)), some (vr (some a3)), some (vr (some a4)), some (vi (x5 + 5)), some (vi x_20), some (vi x_25), none]) ⟨rfl, rfl, rfl, rfl, rfl, rfl, trivial⟩)
            · have k := k.1 (Classical.not_not.mp c_30)
              refine R_ps 2 (pc2 := 292) (L2 := [some (vr (some a0)), some (vr (some a1)), some (vr (some a2)), some (vr (some a3)), some (vr (some a4)), some (vi x5), some (vi x_20), some (vi x_25), none]) (st2 := [vi 0, vr (some a3)]) rfl ?_
              obtain ⟨t_32, k⟩ := k
              refine R_lald rfl t4 t_32 ?_
              refine R_ps 3 (pc2 := 297) (L2 := [some (vr (some a0)), some (vr (some a1)), some (vr (some a2)), some (vr (some a3)), some (vr (some a4)), some (vi x5), some (vi x_20), some (vi x_25), none]) (st2 := [vi (lg_cmp (gl h_27 a3 0) x_25.toInt64)]) rfl ?_
              refine R_if0 rfl (fun c_33 => ?_) (fun c_33 => ?_)
              · have k := k.1 c_33
                refine R_ps 3 (pc2 := 28) (L2 := [some (vr (some a0)), some (vr (some a1)), some (vr (some a2)), some (vr (some a3)), some (vr (some a4)), some (vi (x5 + 5)), some (vi x_20), some (vi x_25), none]) (st2 := []) rfl ?_
                exact R_drop k (LE_of (L := [some (vr (some a0)), some (vr (some a1)), some (vr (some a2)), some (vr (some a3)), some (vr (some a4)), some (vi (x5 + 5)), none, none, none]) (L2 := [some (vr (some a0)), some (vr (some a1)), some (vr (some a2)), some (vr (some a3)), some (vr (some a4)), some (vi (x5 + 5)), some (vi x_20), some (vi x_25), none]) ⟨rfl, rfl, rfl, rfl, rfl, rfl, trivial⟩)
              · have k := k.2 c_33
                refine R_ps 1 (pc2 := 301) (L2 := [some (vr (some a0)), some (vr (some a1)), some (vr (some a2)), some (vr (some a3)), some (vr (some a4)), some (vi x5), some (vi x_20), some (vi x_25), none]) (st2 := [vi 0]) rfl ?_
                exact R_zret rfl rfl (Or.inl rfl) ⟨_, rfl, k⟩
          · have k := k.2 c_29
            refine R_ps 1 (pc2 := 284) (L2 := [some (vr (some a0)), some (vr (some a1)), some (vr (some a2)), some (vr (some a3)), some (vr (some a4)), some (vi x5), some (vi x_20), some (vi x_25), none]) (st2 := [vi 0]) rfl ?_
            exact R_zret rfl rfl (Or.inl rfl) ⟨_, rfl, k⟩
        · have k := k.2 c_22
          refine R_ps 2 (pc2 := 269) (L2 := [some (vr (some a0)), some (vr (some a1)), some (vr (some a2)), some (vr (some a3)), some (vr (some a4)), some (vi x5), some (vi x_20), none, none]) (st2 := [vi 1, vr (some a2)]) rfl ?_
          refine R_cI (as := [vr (some a2), vi 1]) rfl rfl ⟨Nat.le_of_ble_eq_true rfl, Nat.le_of_ble_eq_true rfl, rfl, (Or.inr ⟨_, rfl, t3⟩)⟩ rfl rfl k (fun x_38 h_37 k => ?_)
          refine R_ps 2 (pc2 := 275) (L2 := [some (vr (some a0)), some (vr (some a1)), some (vr (some a2)), some (vr (some a3)), some (vr (some a4)), some (vi x5), some (vi x_20), some (vi x_38), none]) (st2 := [vr (some a2)]) rfl ?_
          refine R_cI (as := [vr (some a2)]) rfl rfl ⟨Nat.le_of_ble_eq_true rfl, Nat.le_of_ble_eq_true rfl, rfl, (Or.inr ⟨_, rfl, t3⟩)⟩ rfl rfl k (fun x_41 h_40 k => ?_)
          refine R_ps 1 (pc2 := 280) (L2 := [some (vr (some a0)), some (vr (some a1)), some (vr (some a2)), some (vr (some a3)), some (vr (some a4)), some (vi x5), some (vi x_20), some (vi x_38), none]) (st2 := [vi x_20, vi x_41]) rfl ?_
          refine R_if rfl (fun c_42 => ?_) (fun c_42 => ?_)
          · have k := k.1 c_42
            refine R_ps 1 (pc2 := 287) (L2 := [some (vr (some a0)), some (vr (some a1)), some (vr (some a2)), some (vr (some a3)), some (vr (some a4)), some (vi x5), some (vi x_20), some (vi x_38), none]) (st2 := [vi x_20]) rfl ?_
            refine R_if0 rfl (fun c_43 => ?_) (fun c_43 => ?_)
            · have k := k.2 c_43
              refine R_ps 3 (pc2 := 28) (L2 := [some (vr (some a0)), some (vr (some a1)), some (vr (some a2)), some (vr (some a3)), some (vr (some a4)), some (vi (x5 + 5)), some (vi x_20), some (vi x_38), none]) (st2 := []) rfl ?_
              exact R_drop k (LE_of (L := [some (vr (some a0)), some (vr (some a1)), some (vr (some a2)), some (vr (some a3)), some (vr (some a4)), some (vi (x5 + 5)), none, none, none]) (L2 := [some (vr (some a0)), some (vr (some a1)), some (vr (some a2)), some (vr (some a3)), some (vr (some a4)), some (vi (x5 + 5)), some (vi x_20), some (vi x_38), none]) ⟨rfl, rfl, rfl, rfl, rfl, rfl, trivial⟩)
            · have k := k.1 (Classical.not_not.mp c_43)
              refine R_ps 2 (pc2 := 292) (L2 := [some (vr (some a0)), some (vr (some a1)), some (vr (some a2)), some (vr (some a3)), some (vr (some a4)), some (vi x5), some (vi x_20), some (vi x_38), none]) (st2 := [vi 0, vr (some a3)]) rfl ?_
              obtain ⟨t_45, k⟩ := k
              refine R_lald rfl t4 t_45 ?_
              refine R_ps 3 (pc2 := 297) (L2 := [some (vr (some a0)), some (vr (some a1)), some (vr (some a2)), some (vr (some a3)), some (vr (some a4)), some (vi x5), some (vi x_20), some (vi x_38), none]) (st2 := [vi (lg_cmp (gl h_40 a3 0) x_38.toInt64)]) rfl ?_
              refine R_if0 rfl (fun c_46 => ?_) (fun c_46 => ?_)
              · have k := k.1 c_46
                refine R_ps 3 (pc2 := 28) (L2 := [some (vr (some a0)), some (vr (some a1)), some (vr (some a2)), some (vr (some a3)), some (vr (some a4)), some (vi (x5 + 5)), some (vi x_20), some (vi x_38), none]) (st2 := []) rfl ?_
                exact R_drop k (LE_of (L := [some (vr (some a0)), some (vr (some a1)), some (vr (some a2)), some (vr (some a3)), some (vr (some a4)), some (vi (x5 + 5)), none, none, none]) (L2 := [some (vr (some a0)), some (vr (some a1)), some (vr (some a2)), some (vr (some a3)), some (vr (some a4)), some (vi (x5 + 5)), some (vi x_20), some (vi x_38), none]) ⟨rfl, rfl, rfl, rfl, rfl, rfl, trivial⟩)
              · have k := k.2 c_46
                refine R_ps 1 (pc2 := 301) (L2 := [some (vr (some a0)), some (vr (some a1)), some (vr (some a2)), some (vr (some a3)), some (vr (some a4)), some (vi x5), some (vi x_20), some (vi x_38), none]) (st2 := [vi 0]) rfl ?_
                exact R_zret rfl rfl (Or.inl rfl) ⟨_, rfl, k⟩
          · have k := k.2 c_42
            refine R_ps 1 (pc2 := 284) (L2 := [some (vr (some a0)), some (vr (some a1)), some (vr (some a2)), some (vr (some a3)), some (vr (some a4)), some (vi x5), some (vi x_20), some (vi x_38), none]) (st2 := [vi 0]) rfl ?_
            exact R_zret rfl rfl (Or.inl rfl) ⟨_, rfl, k⟩
      · have k := k.2 c_17
        refine R_ps 3 (pc2 := 249) (L2 := [some (vr (some a0)), some (vr (some a1)), some (vr (some a2)), some (vr (some a3)), some (vr (some a4)), some (vi x5), none, none, none]) (st2 := [vr (some a3), vi 1, vr (some a1)]) rfl ?_
        refine R_cI (as := [vr (some a1), vi 1, vr (some a3)]) rfl rfl ⟨Nat.le_of_ble_eq_true rfl, Nat.le_of_ble_eq_true rfl, rfl, (Or.inl rfl)⟩ rfl rfl k (fun x_51 h_50 k => ?_)
        refine R_ps 6 (pc2 := 260) (L2 := [some (vr (some a0)), some (vr (some a1)), some (vr (some a2)), some (vr (some a3)), some (vr (some a4)), some (vi x5), some (vi x_51), none, none]) (st2 := [vi (x5 + 1), vr (some a0), vr (some a2)]) rfl ?_
        refine R_iald rfl (Or.inr t1) t_16 ?_
        refine R_if0 rfl (fun c_53 => ?_) (fun c_53 => ?_)
        · have k := k.1 c_53
          refine R_ps 1 (pc2 := 269) (L2 := [some (vr (some a0)), some (vr (some a1)), some (vr (some a2)), some (vr (some a3)), some (vr (some a4)), some (vi x5), some (vi x_51), none, none]) (st2 := [vi 0, vr (some a2)]) rfl ?_
          refine R_cI (as := [vr (some a2), vi 0]) rfl rfl ⟨Nat.le_of_ble_eq_true rfl, Nat.le_of_ble_eq_true rfl, rfl, (Or.inr ⟨_, rfl, t3⟩)⟩ rfl rfl k (fun x_56 h_55 k => ?_)
          refine R_ps 2 (pc2 := 275) (L2 := [some (vr (some a0)), some (vr (some a1)), some (vr (some a2)), some (vr (some a3)), some (vr (some a4)), some (vi x5), some (vi x_51), some (vi x_56), none]) (st2 := [vr (some a2)]) rfl ?_
          refine R_cI (as := [vr (some a2)]) rfl rfl ⟨Nat.le_of_ble_eq_true rfl, Nat.le_of_ble_eq_true rfl, rfl, (Or.inr ⟨_, rfl, t3⟩)⟩ rfl rfl k (fun x_59 h_58 k => ?_)
          refine R_ps 1 (pc2 := 280) (L2 := [some (vr (some a0)), some (vr (some a1)), some (vr (some a2)), some (vr (some a3)), some (vr (some a4)), some (vi x5), some (vi x_51), some (vi x_56), none]) (st2 := [vi x_51, vi x_59]) rfl ?_
          refine R_if rfl (fun c_60 => ?_) (fun c_60 => ?_)
          · have k := k.1 c_60
            refine R_ps 1 (pc2 := 287) (L2 := [some (vr (some a0)), some (vr (some a1)), some (vr (some a2)), some (vr (some a3)), some (vr (some a4)), some (vi x5), some (vi x_51), some (vi x_56), none]) (st2 := [vi x_51]) rfl ?_
            refine R_if0 rfl (fun c_61 => ?_) (fun c_61 => ?_)
            · have k := k.2 c_61
              refine R_ps 3 (pc2 := 28) (L2 := [some (vr (some a0)), some (vr (some a1)), some (vr (some a2)), some (vr (some a3)), some (vr (some a4)), some (vi (x5 + 5)), some (vi x_51), some (vi x_56), none]) (st2 := []) rfl ?_
              exact R_drop k (LE_of (L := [some (vr (some a0)), some (vr (some a1)), some (vr (some a2)), some (vr (some a3)), some (vr (some a4)), some (vi (x5 + 5)), none, none, none]) (L2 := [some (vr (some a0)), some (vr (some a1)), some (vr (some a2)), some (vr (some a3)), some (vr (some a4)), some (vi (x5 + 5)), some (vi x_51), some (vi x_56), none]) ⟨rfl, rfl, rfl, rfl, rfl, rfl, trivial⟩)
            · have k := k.1 (Classical.not_not.mp c_61)
              refine R_ps 2 (pc2 := 292) (L2 := [some (vr (some a0)), some (vr (some a1)), some (vr (some a2)), some (vr (some a3)), some (vr (some a4)), some (vi x5), some (vi x_51), some (vi x_56), none]) (st2 := [vi 0, vr (some a3)]) rfl ?_
              obtain ⟨t_63, k⟩ := k
              refine R_lald rfl t4 t_63 ?_
              refine R_ps 3 (pc2 := 297) (L2 := [some (vr (some a0)), some (vr (some a1)), some (vr (some a2)), some (vr (some a3)), some (vr (some a4)), some (vi x5), some (vi x_51), some (vi x_56), none]) (st2 := [vi (lg_cmp (gl h_58 a3 0) x_56.toInt64)]) rfl ?_
              refine R_if0 rfl (fun c_64 => ?_) (fun c_64 => ?_)
              · have k := k.1 c_64
                refine R_ps 3 (pc2 := 28) (L2 := [some (vr (some a0)), some (vr (some a1)), some (vr (some a2)), some (vr (some a3)), some (vr (some a4)), some (vi (x5 + 5)), some (vi x_51), some (vi x_56), none]) (st2 := []) rfl ?_
                exact R_drop k (LE_of (L := [some (vr (some a0)), some (vr (some a1)), some (vr (some a2)), some (vr (some a3)), some (vr (some a4)), some (vi (x5 + 5)), none, none, none]) (L2 := [some (vr (some a0)), some (vr (some a1)), some (vr (some a2)), some (vr (some a3)), some (vr (some a4)), some (vi (x5 + 5)), some (vi x_51), some (vi x_56), none]) ⟨rfl, rfl, rfl, rfl, rfl, rfl, trivial⟩)
              · have k := k.2 c_64
                refine R_ps 1 (pc2 := 301) (L2 := [some (vr (some a0)), some (vr (some a1)), some (vr (some a2)), some (vr (some a3)), some (vr (some a4)), some (vi x5), some (vi x_51), some (vi x_56), none]) (st2 := [vi 0]) rfl ?_
                exact R_zret rfl rfl (Or.inl rfl) ⟨_, rfl, k⟩
          · have k := k.2 c_60
            refine R_ps 1 (pc2 := 284) (L2 := [some (vr (some a0)), some (vr (some a1)), some (vr (some a2)), some (vr (some a3)), some (vr (some a4)), some (vi x5), some (vi x_51), some (vi x_56), none]) (st2 := [vi 0]) rfl ?_
            exact R_zret rfl rfl (Or.inl rfl) ⟨_, rfl, k⟩
        · have k := k.2 c_53
          refine R_ps 2 (pc2 := 269) (L2 := [some (vr (some a0)), some (vr (some a1)), some (vr (some a2)), some (vr (some a3)), some (vr (some a4)), some (vi x5), some (vi x_51), none, none]) (st2 := [vi 1, vr (some a2)]) rfl ?_
          refine R_cI (as := [vr (some a2), vi 1]) rfl rfl ⟨Nat.le_of_ble_eq_true rfl, Nat.le_of_ble_eq_true rfl, rfl, (Or.inr ⟨_, rfl, t3⟩)⟩ rfl rfl k (fun x_69 h_68 k => ?_)
          refine R_ps 2 (pc2 := 275) (L2 := [some (vr (some a0)), some (vr (some a1)), some (vr (some a2)), some (vr (some a3)), some (vr (some a4)), some (vi x5), some (vi x_51), some (vi x_69), none]) (st2 := [vr (some a2)]) rfl ?_
          refine R_cI (as := [vr (some a2)]) rfl rfl ⟨Nat.le_of_ble_eq_true rfl, Nat.le_of_ble_eq_true rfl, rfl, (Or.inr ⟨_, rfl, t3⟩)⟩ rfl rfl k (fun x_72 h_71 k => ?_)
          refine R_ps 1 (pc2 := 280) (L2 := [some (vr (some a0)), some (vr (some a1)), some (vr (some a2)), some (vr (some a3)), some (vr (some a4)), some (vi x5), some (vi x_51), some (vi x_69), none]) (st2 := [vi x_51, vi x_72]) rfl ?_
          refine R_if rfl (fun c_73 => ?_) (fun c_73 => ?_)
          · have k := k.1 c_73
            refine R_ps 1 (pc2 := 287) (L2 := [some (vr (some a0)), some (vr (some a1)), some (vr (some a2)), some (vr (some a3)), some (vr (some a4)), some (vi x5), some (vi x_51), some (vi x_69), none]) (st2 := [vi x_51]) rfl ?_
            refine R_if0 rfl (fun c_74 => ?_) (fun c_74 => ?_)
            · have k := k.2 c_74
              refine R_ps 3 (pc2 := 28) (L2 := [some (vr (some a0)), some (vr (some a1)), some (vr (some a2)), some (vr (some a3)), some (vr (some a4)), some (vi (x5 + 5)), some (vi x_51), some (vi x_69), none]) (st2 := []) rfl ?_
              exact R_drop k (LE_of (L := [some (vr (some a0)), some (vr (some a1)), some (vr (some a2)), some (vr (some a3)), some (vr (some a4)), some (vi (x5 + 5)), none, none, none]) (L2 := [some (vr (some a0)), some (vr (some a1)), some (vr (some a2)), some (vr (some a3)), some (vr (some a4)), some (vi (x5 + 5)), some (vi x_51), some (vi x_69), none]) ⟨rfl, rfl, rfl, rfl, rfl, rfl, trivial⟩)
            · have k := k.1 (Classical.not_not.mp c_74)
              refine R_ps 2 (pc2 := 292) (L2 := [some (vr (some a0)), some (vr (some a1)), some (vr (some a2)), some (vr (some a3)), some (vr (some a4)), some (vi x5), some (vi x_51), some (vi x_69), none]) (st2 := [vi 0, vr (some a3)]) rfl ?_
              obtain ⟨t_76, k⟩ := k
              refine R_lald rfl t4 t_76 ?_
              refine R_ps 3 (pc2 := 297) (L2 := [some (vr (some a0)), some (vr (some a1)), some (vr (some a2)), some (vr (some a3)), some (vr (some a4)), some (vi x5), some (vi x_51), some (vi x_69), none]) (st2 := [vi (lg_cmp (gl h_71 a3 0) x_69.toInt64)]) rfl ?_
              refine R_if0 rfl (fun c_77 => ?_) (fun c_77 => ?_)
              · have k := k.1 c_77
                refine R_ps 3 (pc2 := 28) (L2 := [some (vr (some a0)), some (vr (some a1)), some (vr (some a2)), some (vr (some a3)), some (vr (some a4)), some (vi (x5 + 5)), some (vi x_51), some (vi x_69), none]) (st2 := []) rfl ?_
                exact R_drop k (LE_of (L := [some (vr (some a0)), some (vr (some a1)), some (vr (some a2)), some (vr (some a3)), some (vr (some a4)), some (vi (x5 + 5)), none, none, none]) (L2 := [some (vr (some a0)), some (vr (some a1)), some (vr (some a2)), some (vr (some a3)), some (vr (some a4)), some (vi (x5 + 5)), some (vi x_51), some (vi x_69), none]) ⟨rfl, rfl, rfl, rfl, rfl, rfl, trivial⟩)
              · have k := k.2 c_77
                refine R_ps 1 (pc2 := 301) (L2 := [some (vr (some a0)), some (vr (some a1)), some (vr (some a2)), some (vr (some a3)), some (vr (some a4)), some (vi x5), some (vi x_51), some (vi x_69), none]) (st2 := [vi 0]) rfl ?_
                exact R_zret rfl rfl (Or.inl rfl) ⟨_, rfl, k⟩
          · have k := k.2 c_73
            refine R_ps 1 (pc2 := 284) (L2 := [some (vr (some a0)), some (vr (some a1)), some (vr (some a2)), some (vr (some a3)), some (vr (some a4)), some (vi x5), some (vi x_51), some (vi x_69), none]) (st2 := [vi 0]) rfl ?_
            exact R_zret rfl rfl (Or.inl rfl) ⟨_, rfl, k⟩
    replace k := k.2 c_6
    refine ⟨fun c_6 => ?_, fun c_6 => ?_⟩
    · have k := k.1 c_6
      show WP T N _ 305 _ _ _ _
      refine R_ps 5 (pc2 := 311) (L2 := [some (vr (some a0)), some (vr (some a1)), some (vr (some a2)), some (vr (some a3)), some (vr (some a4)), some (vi x5), none, none, none]) (st2 := [vi (x5 + 1), vr (some a0), vr (some a1)]) rfl ?_
      obtain ⟨t_81, k⟩ := k
      refine R_iald rfl (Or.inr t1) t_81 ?_
      refine R_ps 4 (pc2 := 317) (L2 := [some (vr (some a0)), some (vr (some a1)), some (vr (some a2)), some (vr (some a3)), some (vr (some a4)), some (vi x5), none, none, none]) (st2 := [vi (x5 + 2), vr (some a0), vi (gi h a0 (Int32.toNatClampNeg (x5 + 1))), vr (some a1)]) rfl ?_
      obtain ⟨t_83, k⟩ := k
      refine R_iald rfl (Or.inr t1) t_83 ?_
      refine R_ps 4 (pc2 := 323) (L2 := [some (vr (some a0)), some (vr (some a1)), some (vr (some a2)), some (vr (some a3)), some (vr (some a4)), some (vi x5), none, none, none]) (st2 := [vi (x5 + 3), vr (some a0), vi (gi h a0 (Int32.toNatClampNeg (x5 + 2))), vi (gi h a0 (Int32.toNatClampNeg (x5 + 1))), vr (some a1)]) rfl ?_
      obtain ⟨t_85, k⟩ := k
      refine R_iald rfl (Or.inr t1) t_85 ?_
      refine R_ps 4 (pc2 := 329) (L2 := [some (vr (some a0)), some (vr (some a1)), some (vr (some a2)), some (vr (some a3)), some (vr (some a4)), some (vi x5), none, none, none]) (st2 := [vi (x5 + 4), vr (some a0), vi (gi h a0 (Int32.toNatClampNeg (x5 + 3))), vi (gi h a0 (Int32.toNatClampNeg (x5 + 2))), vi (gi h a0 (Int32.toNatClampNeg (x5 + 1))), vr (some a1)]) rfl ?_
      obtain ⟨t_87, k⟩ := k
      refine R_iald rfl (Or.inr t1) t_87 ?_
      refine R_ps 1 (pc2 := 331) (L2 := [some (vr (some a0)), some (vr (some a1)), some (vr (some a2)), some (vr (some a3)), some (vr (some a4)), some (vi x5), none, none, none]) (st2 := [vr (some a3), vi (gi h a0 (Int32.toNatClampNeg (x5 + 4))), vi (gi h a0 (Int32.toNatClampNeg (x5 + 3))), vi (gi h a0 (Int32.toNatClampNeg (x5 + 2))), vi (gi h a0 (Int32.toNatClampNeg (x5 + 1))), vr (some a1)]) rfl ?_
      refine R_cI (as := [vr (some a1), vi (gi h a0 (Int32.toNatClampNeg (x5 + 1))), vi (gi h a0 (Int32.toNatClampNeg (x5 + 2))), vi (gi h a0 (Int32.toNatClampNeg (x5 + 3))), vi (gi h a0 (Int32.toNatClampNeg (x5 + 4))), vr (some a3)]) rfl rfl ⟨Nat.le_of_ble_eq_true rfl, Nat.le_of_ble_eq_true rfl, rfl, (Or.inl rfl)⟩ rfl rfl k (fun x_90 h_89 k => ?_)
      refine R_ps 6 (pc2 := 342) (L2 := [some (vr (some a0)), some (vr (some a1)), some (vr (some a2)), some (vr (some a3)), some (vr (some a4)), some (vi x5), some (vi x_90), none, none]) (st2 := [vi (x5 + 1), vr (some a0), vr (some a2)]) rfl ?_
      refine R_iald rfl (Or.inr t1) t_81 ?_
      refine R_ps 4 (pc2 := 348) (L2 := [some (vr (some a0)), some (vr (some a1)), some (vr (some a2)), some (vr (some a3)), some (vr (some a4)), some (vi x5), some (vi x_90), none, none]) (st2 := [vi (x5 + 2), vr (some a0), vi (gi h_89 a0 (Int32.toNatClampNeg (x5 + 1))), vr (some a2)]) rfl ?_
      refine R_iald rfl (Or.inr t1) t_83 ?_
      refine R_ps 4 (pc2 := 354) (L2 := [some (vr (some a0)), some (vr (some a1)), some (vr (some a2)), some (vr (some a3)), some (vr (some a4)), some (vi x5), some (vi x_90), none, none]) (st2 := [vi (x5 + 3), vr (some a0), vi (gi h_89 a0 (Int32.toNatClampNeg (x5 + 2))), vi (gi h_89 a0 (Int32.toNatClampNeg (x5 + 1))), vr (some a2)]) rfl ?_
      refine R_iald rfl (Or.inr t1) t_85 ?_
      refine R_ps 4 (pc2 := 360) (L2 := [some (vr (some a0)), some (vr (some a1)), some (vr (some a2)), some (vr (some a3)), some (vr (some a4)), some (vi x5), some (vi x_90), none, none]) (st2 := [vi (x5 + 4), vr (some a0), vi (gi h_89 a0 (Int32.toNatClampNeg (x5 + 3))), vi (gi h_89 a0 (Int32.toNatClampNeg (x5 + 2))), vi (gi h_89 a0 (Int32.toNatClampNeg (x5 + 1))), vr (some a2)]) rfl ?_
      refine R_iald rfl (Or.inr t1) t_87 ?_
      refine R_cI (as := [vr (some a2), vi (gi h_89 a0 (Int32.toNatClampNeg (x5 + 1))), vi (gi h_89 a0 (Int32.toNatClampNeg (x5 + 2))), vi (gi h_89 a0 (Int32.toNatClampNeg (x5 + 3))), vi (gi h_89 a0 (Int32.toNatClampNeg (x5 + 4)))]) rfl rfl ⟨Nat.le_of_ble_eq_true rfl, Nat.le_of_ble_eq_true rfl, rfl, (Or.inr ⟨_, rfl, t3⟩)⟩ rfl rfl k (fun x_97 h_96 k => ?_)
      refine R_ps 2 (pc2 := 367) (L2 := [some (vr (some a0)), some (vr (some a1)), some (vr (some a2)), some (vr (some a3)), some (vr (some a4)), some (vi x5), some (vi x_90), some (vi x_97), none]) (st2 := [vr (some a2)]) rfl ?_
      refine R_cI (as := [vr (some a2)]) rfl rfl ⟨Nat.le_of_ble_eq_true rfl, Nat.le_of_ble_eq_true rfl, rfl, (Or.inr ⟨_, rfl, t3⟩)⟩ rfl rfl k (fun x_100 h_99 k => ?_)
      refine R_ps 1 (pc2 := 372) (L2 := [some (vr (some a0)), some (vr (some a1)), some (vr (some a2)), some (vr (some a3)), some (vr (some a4)), some (vi x5), some (vi x_90), some (vi x_97), none]) (st2 := [vi x_90, vi x_100]) rfl ?_
      refine R_if rfl (fun c_101 => ?_) (fun c_101 => ?_)
      · have k := k.1 c_101
        refine R_ps 1 (pc2 := 379) (L2 := [some (vr (some a0)), some (vr (some a1)), some (vr (some a2)), some (vr (some a3)), some (vr (some a4)), some (vi x5), some (vi x_90), some (vi x_97), none]) (st2 := [vi x_90]) rfl ?_
        refine R_if0 rfl (fun c_102 => ?_) (fun c_102 => ?_)
        · have k := k.2 c_102
          refine R_ps 3 (pc2 := 28) (L2 := [some (vr (some a0)), some (vr (some a1)), some (vr (some a2)), some (vr (some a3)), some (vr (some a4)), some (vi (x5 + 5)), some (vi x_90), some (vi x_97), none]) (st2 := []) rfl ?_
          exact R_drop k (LE_of (L := [some (vr (some a0)), some (vr (some a1)), some (vr (some a2)), some (vr (some a3)), some (vr (some a4)), some (vi (x5 + 5)), none, none, none]) (L2 := [some (vr (some a0)), some (vr (some a1)), some (vr (some a2)), some (vr (some a3)), some (vr (some a4)), some (vi (x5 + 5)), some (vi x_90), some (vi x_97), none]) ⟨rfl, rfl, rfl, rfl, rfl, rfl, trivial⟩)
        · have k := k.1 (Classical.not_not.mp c_102)
          refine R_ps 2 (pc2 := 384) (L2 := [some (vr (some a0)), some (vr (some a1)), some (vr (some a2)), some (vr (some a3)), some (vr (some a4)), some (vi x5), some (vi x_90), some (vi x_97), none]) (st2 := [vi 0, vr (some a3)]) rfl ?_
          obtain ⟨t_104, k⟩ := k
          refine R_lald rfl t4 t_104 ?_
          refine R_ps 3 (pc2 := 389) (L2 := [some (vr (some a0)), some (vr (some a1)), some (vr (some a2)), some (vr (some a3)), some (vr (some a4)), some (vi x5), some (vi x_90), some (vi x_97), none]) (st2 := [vi (lg_cmp (gl h_99 a3 0) x_97.toInt64)]) rfl ?_
          refine R_if0 rfl (fun c_105 => ?_) (fun c_105 => ?_)
          · have k := k.1 c_105
            refine R_ps 3 (pc2 := 28) (L2 := [some (vr (some a0)), some (vr (some a1)), some (vr (some a2)), some (vr (some a3)), some (vr (some a4)), some (vi (x5 + 5)), some (vi x_90), some (vi x_97), none]) (st2 := []) rfl ?_
            exact R_drop k (LE_of (L := [some (vr (some a0)), some (vr (some a1)), some (vr (some a2)), some (vr (some a3)), some (vr (some a4)), some (vi (x5 + 5)), none, none, none]) (L2 := [some (vr (some a0)), some (vr (some a1)), some (vr (some a2)), some (vr (some a3)), some (vr (some a4)), some (vi (x5 + 5)), some (vi x_90), some (vi x_97), none]) ⟨rfl, rfl, rfl, rfl, rfl, rfl, trivial⟩)
          · have k := k.2 c_105
            refine R_ps 1 (pc2 := 393) (L2 := [some (vr (some a0)), some (vr (some a1)), some (vr (some a2)), some (vr (some a3)), some (vr (some a4)), some (vi x5), some (vi x_90), some (vi x_97), none]) (st2 := [vi 0]) rfl ?_
            exact R_zret rfl rfl (Or.inl rfl) ⟨_, rfl, k⟩
      · have k := k.2 c_101
        refine R_ps 1 (pc2 := 376) (L2 := [some (vr (some a0)), some (vr (some a1)), some (vr (some a2)), some (vr (some a3)), some (vr (some a4)), some (vi x5), some (vi x_90), some (vi x_97), none]) (st2 := [vi 0]) rfl ?_
        exact R_zret rfl rfl (Or.inl rfl) ⟨_, rfl, k⟩
    replace k := k.2 c_6
    refine ⟨fun c_6 => ?_, fun c_6 => ?_⟩
    · have k := k.1 c_6
      show WP T N _ 397 _ _ _ _
      refine R_ps 5 (pc2 := 403) (L2 := [some (vr (some a0)), some (vr (some a1)), some (vr (some a2)), some (vr (some a3)), some (vr (some a4)), some (vi x5), none, none, none]) (st2 := [vi (x5 + 1), vr (some a0), vr (some a1)]) rfl ?_
      obtain ⟨t_109, k⟩ := k
      refine R_iald rfl (Or.inr t1) t_109 ?_
      refine R_ps 4 (pc2 := 409) (L2 := [some (vr (some a0)), some (vr (some a1)), some (vr (some a2)), some (vr (some a3)), some (vr (some a4)), some (vi x5), none, none, none]) (st2 := [vi (x5 + 2), vr (some a0), vi (gi h a0 (Int32.toNatClampNeg (x5 + 1))), vr (some a1)]) rfl ?_
      obtain ⟨t_111, k⟩ := k
      refine R_iald rfl (Or.inr t1) t_111 ?_
      refine R_ps 1 (pc2 := 411) (L2 := [some (vr (some a0)), some (vr (some a1)), some (vr (some a2)), some (vr (some a3)), some (vr (some a4)), some (vi x5), none, none, none]) (st2 := [vr (some a3), vi (gi h a0 (Int32.toNatClampNeg (x5 + 2))), vi (gi h a0 (Int32.toNatClampNeg (x5 + 1))), vr (some a1)]) rfl ?_
      refine R_cI (as := [vr (some a1), vi (gi h a0 (Int32.toNatClampNeg (x5 + 1))), vi (gi h a0 (Int32.toNatClampNeg (x5 + 2))), vr (some a3)]) rfl rfl ⟨Nat.le_of_ble_eq_true rfl, Nat.le_of_ble_eq_true rfl, rfl, (Or.inl rfl)⟩ rfl rfl k (fun x_114 h_113 k => ?_)
      refine R_ps 6 (pc2 := 422) (L2 := [some (vr (some a0)), some (vr (some a1)), some (vr (some a2)), some (vr (some a3)), some (vr (some a4)), some (vi x5), some (vi x_114), none, none]) (st2 := [vi (x5 + 1), vr (some a0), vr (some a2)]) rfl ?_
      refine R_iald rfl (Or.inr t1) t_109 ?_
      refine R_ps 4 (pc2 := 428) (L2 := [some (vr (some a0)), some (vr (some a1)), some (vr (some a2)), some (vr (some a3)), some (vr (some a4)), some (vi x5), some (vi x_114), none, none]) (st2 := [vi (x5 + 2), vr (some a0), vi (gi h_113 a0 (Int32.toNatClampNeg (x5 + 1))), vr (some a2)]) rfl ?_
      refine R_iald rfl (Or.inr t1) t_111 ?_
      refine R_cI (as := [vr (some a2), vi (gi h_113 a0 (Int32.toNatClampNeg (x5 + 1))), vi (gi h_113 a0 (Int32.toNatClampNeg (x5 + 2)))]) rfl rfl ⟨Nat.le_of_ble_eq_true rfl, Nat.le_of_ble_eq_true rfl, rfl, (Or.inr ⟨_, rfl, t3⟩)⟩ rfl rfl k (fun x_119 h_118 k => ?_)
      refine R_ps 2 (pc2 := 435) (L2 := [some (vr (some a0)), some (vr (some a1)), some (vr (some a2)), some (vr (some a3)), some (vr (some a4)), some (vi x5), some (vi x_114), some (vi x_119), none]) (st2 := [vr (some a2)]) rfl ?_
      refine R_cI (as := [vr (some a2)]) rfl rfl ⟨Nat.le_of_ble_eq_true rfl, Nat.le_of_ble_eq_true rfl, rfl, (Or.inr ⟨_, rfl, t3⟩)⟩ rfl rfl k (fun x_122 h_121 k => ?_)
      refine R_ps 1 (pc2 := 440) (L2 := [some (vr (some a0)), some (vr (some a1)), some (vr (some a2)), some (vr (some a3)), some (vr (some a4)), some (vi x5), some (vi x_114), some (vi x_119), none]) (st2 := [vi x_114, vi x_122]) rfl ?_
      refine R_if rfl (fun c_123 => ?_) (fun c_123 => ?_)
      · have k := k.1 c_123
        refine R_ps 1 (pc2 := 447) (L2 := [some (vr (some a0)), some (vr (some a1)), some (vr (some a2)), some (vr (some a3)), some (vr (some a4)), some (vi x5), some (vi x_114), some (vi x_119), none]) (st2 := [vi x_114]) rfl ?_
        refine R_if0 rfl (fun c_124 => ?_) (fun c_124 => ?_)
        · have k := k.2 c_124
          refine R_ps 3 (pc2 := 28) (L2 := [some (vr (some a0)), some (vr (some a1)), some (vr (some a2)), some (vr (some a3)), some (vr (some a4)), some (vi (x5 + 5)), some (vi x_114), some (vi x_119), none]) (st2 := []) rfl ?_
          exact R_drop k (LE_of (L := [some (vr (some a0)), some (vr (some a1)), some (vr (some a2)), some (vr (some a3)), some (vr (some a4)), some (vi (x5 + 5)), none, none, none]) (L2 := [some (vr (some a0)), some (vr (some a1)), some (vr (some a2)), some (vr (some a3)), some (vr (some a4)), some (vi (x5 + 5)), some (vi x_114), some (vi x_119), none]) ⟨rfl, rfl, rfl, rfl, rfl, rfl, trivial⟩)
        · have k := k.1 (Classical.not_not.mp c_124)
          refine R_ps 2 (pc2 := 452) (L2 := [some (vr (some a0)), some (vr (some a1)), some (vr (some a2)), some (vr (some a3)), some (vr (some a4)), some (vi x5), some (vi x_114), some (vi x_119), none]) (st2 := [vi 0, vr (some a3)]) rfl ?_
          obtain ⟨t_126, k⟩ := k
          refine R_lald rfl t4 t_126 ?_
          refine R_ps 3 (pc2 := 457) (L2 := [some (vr (some a0)), some (vr (some a1)), some (vr (some a2)), some (vr (some a3)), some (vr (some a4)), some (vi x5), some (vi x_114), some (vi x_119), none]) (st2 := [vi (lg_cmp (gl h_121 a3 0) x_119.toInt64)]) rfl ?_
          refine R_if0 rfl (fun c_127 => ?_) (fun c_127 => ?_)
          · have k := k.1 c_127
            refine R_ps 3 (pc2 := 28) (L2 := [some (vr (some a0)), some (vr (some a1)), some (vr (some a2)), some (vr (some a3)), some (vr (some a4)), some (vi (x5 + 5)), some (vi x_114), some (vi x_119), none]) (st2 := []) rfl ?_
            exact R_drop k (LE_of (L := [some (vr (some a0)), some (vr (some a1)), some (vr (some a2)), some (vr (some a3)), some (vr (some a4)), some (vi (x5 + 5)), none, none, none]) (L2 := [some (vr (some a0)), some (vr (some a1)), some (vr (some a2)), some (vr (some a3)), some (vr (some a4)), some (vi (x5 + 5)), some (vi x_114), some (vi x_119), none]) ⟨rfl, rfl, rfl, rfl, rfl, rfl, trivial⟩)
          · have k := k.2 c_127
            refine R_ps 1 (pc2 := 461) (L2 := [some (vr (some a0)), some (vr (some a1)), some (vr (some a2)), some (vr (some a3)), some (vr (some a4)), some (vi x5), some (vi x_114), some (vi x_119), none]) (st2 := [vi 0]) rfl ?_
            exact R_zret rfl rfl (Or.inl rfl) ⟨_, rfl, k⟩
      · have k := k.2 c_123
        refine R_ps 1 (pc2 := 444) (L2 := [some (vr (some a0)), some (vr (some a1)), some (vr (some a2)), some (vr (some a3)), some (vr (some a4)), some (vi x5), some (vi x_114), some (vi x_119), none]) (st2 := [vi 0]) rfl ?_
        exact R_zret rfl rfl (Or.inl rfl) ⟨_, rfl, k⟩
    replace k := k.2 c_6
    refine ⟨fun c_6 => ?_, fun c_6 => ?_⟩
    · have k := k.1 c_6
      show WP T N _ 465 _ _ _ _
      refine R_ps 5 (pc2 := 471) (L2 := [some (vr (some a0)), some (vr (some a1)), some (vr (some a2)), some (vr (some a3)), some (vr (some a4)), some (vi x5), none, none, none]) (st2 := [vi (x5 + 1), vr (some a0), vr (some a1)]) rfl ?_
      obtain ⟨t_131, k⟩ := k
      refine R_iald rfl (Or.inr t1) t_131 ?_
      refine R_ps 4 (pc2 := 477) (L2 := [some (vr (some a0)), some (vr (some a1)), some (vr (some a2)), some (vr (some a3)), some (vr (some a4)), some (vi x5), none, none, none]) (st2 := [vi (x5 + 2), vr (some a0), vi (gi h a0 (Int32.toNatClampNeg (x5 + 1))), vr (some a1)]) rfl ?_
      obtain ⟨t_133, k⟩ := k
      refine R_iald rfl (Or.inr t1) t_133 ?_
      refine R_ps 4 (pc2 := 483) (L2 := [some (vr (some a0)), some (vr (some a1)), some (vr (some a2)), some (vr (some a3)), some (vr (some a4)), some (vi x5), none, none, none]) (st2 := [vi (x5 + 3), vr (some a0), vi (gi h a0 (Int32.toNatClampNeg (x5 + 2))), vi (gi h a0 (Int32.toNatClampNeg (x5 + 1))), vr (some a1)]) rfl ?_
      obtain ⟨t_135, k⟩ := k
      refine R_iald rfl (Or.inr t1) t_135 ?_
      refine R_ps 4 (pc2 := 489) (L2 := [some (vr (some a0)), some (vr (some a1)), some (vr (some a2)), some (vr (some a3)), some (vr (some a4)), some (vi x5), none, none, none]) (st2 := [vi (x5 + 4), vr (some a0), vi (gi h a0 (Int32.toNatClampNeg (x5 + 3))), vi (gi h a0 (Int32.toNatClampNeg (x5 + 2))), vi (gi h a0 (Int32.toNatClampNeg (x5 + 1))), vr (some a1)]) rfl ?_
      obtain ⟨t_137, k⟩ := k
      refine R_iald rfl (Or.inr t1) t_137 ?_
      refine R_ps 1 (pc2 := 491) (L2 := [some (vr (some a0)), some (vr (some a1)), some (vr (some a2)), some (vr (some a3)), some (vr (some a4)), some (vi x5), none, none, none]) (st2 := [vr (some a3), vi (gi h a0 (Int32.toNatClampNeg (x5 + 4))), vi (gi h a0 (Int32.toNatClampNeg (x5 + 3))), vi (gi h a0 (Int32.toNatClampNeg (x5 + 2))), vi (gi h a0 (Int32.toNatClampNeg (x5 + 1))), vr (some a1)]) rfl ?_
      refine R_cI (as := [vr (some a1), vi (gi h a0 (Int32.toNatClampNeg (x5 + 1))), vi (gi h a0 (Int32.toNatClampNeg (x5 + 2))), vi (gi h a0 (Int32.toNatClampNeg (x5 + 3))), vi (gi h a0 (Int32.toNatClampNeg (x5 + 4))), vr (some a3)]) rfl rfl ⟨Nat.le_of_ble_eq_true rfl, Nat.le_of_ble_eq_true rfl, rfl, (Or.inl rfl)⟩ rfl rfl k (fun x_140 h_139 k => ?_)
      refine R_ps 6 (pc2 := 502) (L2 := [some (vr (some a0)), some (vr (some a1)), some (vr (some a2)), some (vr (some a3)), some (vr (some a4)), some (vi x5), some (vi x_140), none, none]) (st2 := [vi (x5 + 1), vr (some a0), vr (some a2)]) rfl ?_
      refine R_iald rfl (Or.inr t1) t_131 ?_
      refine R_ps 4 (pc2 := 508) (L2 := [some (vr (some a0)), some (vr (some a1)), some (vr (some a2)), some (vr (some a3)), some (vr (some a4)), some (vi x5), some (vi x_140), none, none]) (st2 := [vi (x5 + 2), vr (some a0), vi (gi h_139 a0 (Int32.toNatClampNeg (x5 + 1))), vr (some a2)]) rfl ?_
      refine R_iald rfl (Or.inr t1) t_133 ?_
      refine R_ps 4 (pc2 := 514) (L2 := [some (vr (some a0)), some (vr (some a1)), some (vr (some a2)), some (vr (some a3)), some (vr (some a4)), some (vi x5), some (vi x_140), none, none]) (st2 := [vi (x5 + 3), vr (some a0), vi (gi h_139 a0 (Int32.toNatClampNeg (x5 + 2))), vi (gi h_139 a0 (Int32.toNatClampNeg (x5 + 1))), vr (some a2)]) rfl ?_
      refine R_iald rfl (Or.inr t1) t_135 ?_
      refine R_ps 4 (pc2 := 520) (L2 := [some (vr (some a0)), some (vr (some a1)), some (vr (some a2)), some (vr (some a3)), some (vr (some a4)), some (vi x5), some (vi x_140), none, none]) (st2 := [vi (x5 + 4), vr (some a0), vi (gi h_139 a0 (Int32.toNatClampNeg (x5 + 3))), vi (gi h_139 a0 (Int32.toNatClampNeg (x5 + 2))), vi (gi h_139 a0 (Int32.toNatClampNeg (x5 + 1))), vr (some a2)]) rfl ?_
      refine R_iald rfl (Or.inr t1) t_137 ?_
      refine R_cI (as := [vr (some a2), vi (gi h_139 a0 (Int32.toNatClampNeg (x5 + 1))), vi (gi h_139 a0 (Int32.toNatClampNeg (x5 + 2))), vi (gi h_139 a0 (Int32.toNatClampNeg (x5 + 3))), vi (gi h_139 a0 (Int32.toNatClampNeg (x5 + 4)))]) rfl rfl ⟨Nat.le_of_ble_eq_true rfl, Nat.le_of_ble_eq_true rfl, rfl, (Or.inr ⟨_, rfl, t3⟩)⟩ rfl rfl k (fun x_147 h_146 k => ?_)
      refine R_ps 2 (pc2 := 527) (L2 := [some (vr (some a0)), some (vr (some a1)), some (vr (some a2)), some (vr (some a3)), some (vr (some a4)), some (vi x5), some (vi x_140), some (vi x_147), none]) (st2 := [vr (some a2)]) rfl ?_
      refine R_cI (as := [vr (some a2)]) rfl rfl ⟨Nat.le_of_ble_eq_true rfl, Nat.le_of_ble_eq_true rfl, rfl, (Or.inr ⟨_, rfl, t3⟩)⟩ rfl rfl k (fun x_150 h_149 k => ?_)
      refine R_ps 1 (pc2 := 532) (L2 := [some (vr (some a0)), some (vr (some a1)), some (vr (some a2)), some (vr (some a3)), some (vr (some a4)), some (vi x5), some (vi x_140), some (vi x_147), none]) (st2 := [vi x_140, vi x_150]) rfl ?_
      refine R_if rfl (fun c_151 => ?_) (fun c_151 => ?_)
      · have k := k.1 c_151
        refine R_ps 1 (pc2 := 539) (L2 := [some (vr (some a0)), some (vr (some a1)), some (vr (some a2)), some (vr (some a3)), some (vr (some a4)), some (vi x5), some (vi x_140), some (vi x_147), none]) (st2 := [vi x_140]) rfl ?_
        refine R_if0 rfl (fun c_152 => ?_) (fun c_152 => ?_)
        · have k := k.2 c_152
          refine R_ps 3 (pc2 := 28) (L2 := [some (vr (some a0)), some (vr (some a1)), some (vr (some a2)), some (vr (some a3)), some (vr (some a4)), some (vi (x5 + 5)), some (vi x_140), some (vi x_147), none]) (st2 := []) rfl ?_
          exact R_drop k (LE_of (L := [some (vr (some a0)), some (vr (some a1)), some (vr (some a2)), some (vr (some a3)), some (vr (some a4)), some (vi (x5 + 5)), none, none, none]) (L2 := [some (vr (some a0)), some (vr (some a1)), some (vr (some a2)), some (vr (some a3)), some (vr (some a4)), some (vi (x5 + 5)), some (vi x_140), some (vi x_147), none]) ⟨rfl, rfl, rfl, rfl, rfl, rfl, trivial⟩)
        · have k := k.1 (Classical.not_not.mp c_152)
          refine R_ps 2 (pc2 := 544) (L2 := [some (vr (some a0)), some (vr (some a1)), some (vr (some a2)), some (vr (some a3)), some (vr (some a4)), some (vi x5), some (vi x_140), some (vi x_147), none]) (st2 := [vi 0, vr (some a3)]) rfl ?_
          obtain ⟨t_154, k⟩ := k
          refine R_lald rfl t4 t_154 ?_
          refine R_ps 3 (pc2 := 549) (L2 := [some (vr (some a0)), some (vr (some a1)), some (vr (some a2)), some (vr (some a3)), some (vr (some a4)), some (vi x5), some (vi x_140), some (vi x_147), none]) (st2 := [vi (lg_cmp (gl h_149 a3 0) x_147.toInt64)]) rfl ?_
          refine R_if0 rfl (fun c_155 => ?_) (fun c_155 => ?_)
          · have k := k.1 c_155
            refine R_ps 3 (pc2 := 28) (L2 := [some (vr (some a0)), some (vr (some a1)), some (vr (some a2)), some (vr (some a3)), some (vr (some a4)), some (vi (x5 + 5)), some (vi x_140), some (vi x_147), none]) (st2 := []) rfl ?_
            exact R_drop k (LE_of (L := [some (vr (some a0)), some (vr (some a1)), some (vr (some a2)), some (vr (some a3)), some (vr (some a4)), some (vi (x5 + 5)), none, none, none]) (L2 := [some (vr (some a0)), some (vr (some a1)), some (vr (some a2)), some (vr (some a3)), some (vr (some a4)), some (vi (x5 + 5)), some (vi x_140), some (vi x_147), none]) ⟨rfl, rfl, rfl, rfl, rfl, rfl, trivial⟩)
          · have k := k.2 c_155
            refine R_ps 1 (pc2 := 553) (L2 := [some (vr (some a0)), some (vr (some a1)), some (vr (some a2)), some (vr (some a3)), some (vr (some a4)), some (vi x5), some (vi x_140), some (vi x_147), none]) (st2 := [vi 0]) rfl ?_
            exact R_zret rfl rfl (Or.inl rfl) ⟨_, rfl, k⟩
      · have k := k.2 c_151
        refine R_ps 1 (pc2 := 536) (L2 := [some (vr (some a0)), some (vr (some a1)), some (vr (some a2)), some (vr (some a3)), some (vr (some a4)), some (vi x5), some (vi x_140), some (vi x_147), none]) (st2 := [vi 0]) rfl ?_
        exact R_zret rfl rfl (Or.inl rfl) ⟨_, rfl, k⟩
    replace k := k.2 c_6
    refine ⟨fun c_6 => ?_, fun c_6 => ?_⟩
    · have k := k.1 c_6
      show WP T N _ 557 _ _ _ _
      refine R_ps 5 (pc2 := 563) (L2 := [some (vr (some a0)), some (vr (some a1)), some (vr (some a2)), some (vr (some a3)), some (vr (some a4)), some (vi x5), none, none, none]) (st2 := [vi (x5 + 1), vr (some a0), vr (some a1)]) rfl ?_
      obtain ⟨t_159, k⟩ := k
      refine R_iald rfl (Or.inr t1) t_159 ?_
      refine R_ps 1 (pc2 := 565) (L2 := [some (vr (some a0)), some (vr (some a1)), some (vr (some a2)), some (vr (some a3)), some (vr (some a4)), some (vi x5), none, none, none]) (st2 := [vr (some a3), vi (gi h a0 (Int32.toNatClampNeg (x5 + 1))), vr (some a1)]) rfl ?_
      refine R_cI (as := [vr (some a1), vi (gi h a0 (Int32.toNatClampNeg (x5 + 1))), vr (some a3)]) rfl rfl ⟨Nat.le_of_ble_eq_true rfl, Nat.le_of_ble_eq_true rfl, rfl, (Or.inl rfl)⟩ rfl rfl k (fun x_162 h_161 k => ?_)
      refine R_ps 6 (pc2 := 576) (L2 := [some (vr (some a0)), some (vr (some a1)), some (vr (some a2)), some (vr (some a3)), some (vr (some a4)), some (vi x5), some (vi x_162), none, none]) (st2 := [vi (x5 + 1), vr (some a0), vr (some a2)]) rfl ?_
      refine R_iald rfl (Or.inr t1) t_159 ?_
      refine R_cI (as := [vr (some a2), vi (gi h_161 a0 (Int32.toNatClampNeg (x5 + 1)))]) rfl rfl ⟨Nat.le_of_ble_eq_true rfl, Nat.le_of_ble_eq_true rfl, rfl, (Or.inr ⟨_, rfl, t3⟩)⟩ rfl rfl k (fun x_166 h_165 k => ?_)
      refine R_ps 2 (pc2 := 583) (L2 := [some (vr (some a0)), some (vr (some a1)), some (vr (some a2)), some (vr (some a3)), some (vr (some a4)), some (vi x5), some (vi x_162), some (vi x_166), none]) (st2 := [vr (some a2)]) rfl ?_
      refine R_cI (as := [vr (some a2)]) rfl rfl ⟨Nat.le_of_ble_eq_true rfl, Nat.le_of_ble_eq_true rfl, rfl, (Or.inr ⟨_, rfl, t3⟩)⟩ rfl rfl k (fun x_169 h_168 k => ?_)
      refine R_ps 1 (pc2 := 588) (L2 := [some (vr (some a0)), some (vr (some a1)), some (vr (some a2)), some (vr (some a3)), some (vr (some a4)), some (vi x5), some (vi x_162), some (vi x_166), none]) (st2 := [vi x_162, vi x_169]) rfl ?_
      refine R_if rfl (fun c_170 => ?_) (fun c_170 => ?_)
      · have k := k.1 c_170
        refine R_ps 1 (pc2 := 595) (L2 := [some (vr (some a0)), some (vr (some a1)), some (vr (some a2)), some (vr (some a3)), some (vr (some a4)), some (vi x5), some (vi x_162), some (vi x_166), none]) (st2 := [vi x_162]) rfl ?_
        refine R_if0 rfl (fun c_171 => ?_) (fun c_171 => ?_)
        · have k := k.2 c_171
          refine R_ps 3 (pc2 := 28) (L2 := [some (vr (some a0)), some (vr (some a1)), some (vr (some a2)), some (vr (some a3)), some (vr (some a4)), some (vi (x5 + 5)), some (vi x_162), some (vi x_166), none]) (st2 := []) rfl ?_
          exact R_drop k (LE_of (L := [some (vr (some a0)), some (vr (some a1)), some (vr (some a2)), some (vr (some a3)), some (vr (some a4)), some (vi (x5 + 5)), none, none, none]) (L2 := [some (vr (some a0)), some (vr (some a1)), some (vr (some a2)), some (vr (some a3)), some (vr (some a4)), some (vi (x5 + 5)), some (vi x_162), some (vi x_166), none]) ⟨rfl, rfl, rfl, rfl, rfl, rfl, trivial⟩)
        · have k := k.1 (Classical.not_not.mp c_171)
          refine R_ps 2 (pc2 := 600) (L2 := [some (vr (some a0)), some (vr (some a1)), some (vr (some a2)), some (vr (some a3)), some (vr (some a4)), some (vi x5), some (vi x_162), some (vi x_166), none]) (st2 := [vi 0, vr (some a3)]) rfl ?_
          obtain ⟨t_173, k⟩ := k
          refine R_lald rfl t4 t_173 ?_
          refine R_ps 3 (pc2 := 605) (L2 := [some (vr (some a0)), some (vr (some a1)), some (vr (some a2)), some (vr (some a3)), some (vr (some a4)), some (vi x5), some (vi x_162), some (vi x_166), none]) (st2 := [vi (lg_cmp (gl h_168 a3 0) x_166.toInt64)]) rfl ?_
          refine R_if0 rfl (fun c_174 => ?_) (fun c_174 => ?_)
          · have k := k.1 c_174
            refine R_ps 3 (pc2 := 28) (L2 := [some (vr (some a0)), some (vr (some a1)), some (vr (some a2)), some (vr (some a3)), some (vr (some a4)), some (vi (x5 + 5)), some (vi x_162), some (vi x_166), none]) (st2 := []) rfl ?_
            exact R_drop k (LE_of (L := [some (vr (some a0)), some (vr (some a1)), some (vr (some a2)), some (vr (some a3)), some (vr (some a4)), some (vi (x5 + 5)), none, none, none]) (L2 := [some (vr (some a0)), some (vr (some a1)), some (vr (some a2)), some (vr (some a3)), some (vr (some a4)), some (vi (x5 + 5)), some (vi x_162), some (vi x_166), none]) ⟨rfl, rfl, rfl, rfl, rfl, rfl, trivial⟩)
          · have k := k.2 c_174
            refine R_ps 1 (pc2 := 609) (L2 := [some (vr (some a0)), some (vr (some a1)), some (vr (some a2)), some (vr (some a3)), some (vr (some a4)), some (vi x5), some (vi x_162), some (vi x_166), none]) (st2 := [vi 0]) rfl ?_
            exact R_zret rfl rfl (Or.inl rfl) ⟨_, rfl, k⟩
      · have k := k.2 c_170
        refine R_ps 1 (pc2 := 592) (L2 := [some (vr (some a0)), some (vr (some a1)), some (vr (some a2)), some (vr (some a3)), some (vr (some a4)), some (vi x5), some (vi x_162), some (vi x_166), none]) (st2 := [vi 0]) rfl ?_
        exact R_zret rfl rfl (Or.inl rfl) ⟨_, rfl, k⟩
    replace k := k.2 c_6
    refine ⟨fun c_6 => ?_, fun c_6 => ?_⟩
    · have k := k.1 c_6
      show WP T N _ 613 _ _ _ _
      refine R_ps 5 (pc2 := 619) (L2 := [some (vr (some a0)), some (vr (some a1)), some (vr (some a2)), some (vr (some a3)), some (vr (some a4)), some (vi x5), none, none, none]) (st2 := [vi (x5 + 1), vr (some a0), vr (some a1)]) rfl ?_
      obtain ⟨t_178, k⟩ := k
      refine R_iald rfl (Or.inr t1) t_178 ?_
      refine R_ps 4 (pc2 := 625) (L2 := [some (vr (some a0)), some (vr (some a1)), some (vr (some a2)), some (vr (some a3)), some (vr (some a4)), some (vi x5), none, none, none]) (st2 := [vi (x5 + 2), vr (some a0), vi (gi h a0 (Int32.toNatClampNeg (x5 + 1))), vr (some a1)]) rfl ?_
      obtain ⟨t_180, k⟩ := k
      refine R_iald rfl (Or.inr t1) t_180 ?_
      refine R_ps 1 (pc2 := 627) (L2 := [some (vr (some a0)), some (vr (some a1)), some (vr (some a2)), some (vr (some a3)), some (vr (some a4)), some (vi x5), none, none, none]) (st2 := [vr (some a3), vi (gi h a0 (Int32.toNatClampNeg (x5 + 2))), vi (gi h a0 (Int32.toNatClampNeg (x5 + 1))), vr (some a1)]) rfl ?_
      refine R_cI (as := [vr (some a1), vi (gi h a0 (Int32.toNatClampNeg (x5 + 1))), vi (gi h a0 (Int32.toNatClampNeg (x5 + 2))), vr (some a3)]) rfl rfl ⟨Nat.le_of_ble_eq_true rfl, Nat.le_of_ble_eq_true rfl, rfl, (Or.inl rfl)⟩ rfl rfl k (fun x_183 h_182 k => ?_)
      refine R_ps 6 (pc2 := 638) (L2 := [some (vr (some a0)), some (vr (some a1)), some (vr (some a2)), some (vr (some a3)), some (vr (some a4)), some (vi x5), some (vi x_183), none, none]) (st2 := [vi (x5 + 1), vr (some a0), vr (some a2)]) rfl ?_
      refine R_iald rfl (Or.inr t1) t_178 ?_
      refine R_ps 4 (pc2 := 644) (L2 := [some (vr (some a0)), some (vr (some a1)), some (vr (some a2)), some (vr (some a3)), some (vr (some a4)), some (vi x5), some (vi x_183), none, none]) (st2 := [vi (x5 + 2), vr (some a0), vi (gi h_182 a0 (Int32.toNatClampNeg (x5 + 1))), vr (some a2)]) rfl ?_
      refine R_iald rfl (Or.inr t1) t_180 ?_
      refine R_cI (as := [vr (some a2), vi (gi h_182 a0 (Int32.toNatClampNeg (x5 + 1))), vi (gi h_182 a0 (Int32.toNatClampNeg (x5 + 2)))]) rfl rfl ⟨Nat.le_of_ble_eq_true rfl, Nat.le_of_ble_eq_true rfl, rfl, (Or.inr ⟨_, rfl, t3⟩)⟩ rfl rfl k (fun x_188 h_187 k => ?_)
      refine R_ps 2 (pc2 := 651) (L2 := [some (vr (some a0)), some (vr (some a1)), some (vr (some a2)), some (vr (some a3)), some (vr (some a4)), some (vi x5), some (vi x_183), some (vi x_188), none]) (st2 := [vr (some a2)]) rfl ?_
      refine R_cI (as := [vr (some a2)]) rfl rfl ⟨Nat.le_of_ble_eq_true rfl, Nat.le_of_ble_eq_true rfl, rfl, (Or.inr ⟨_, rfl, t3⟩)⟩ rfl rfl k (fun x_191 h_190 k => ?_)
      refine R_ps 1 (pc2 := 656) (L2 := [some (vr (some a0)), some (vr (some a1)), some (vr (some a2)), some (vr (some a3)), some (vr (some a4)), some (vi x5), some (vi x_183), some (vi x_188), none]) (st2 := [vi x_183, vi x_191]) rfl ?_
      refine R_if rfl (fun c_192 => ?_) (fun c_192 => ?_)
      · have k := k.1 c_192
        refine R_ps 1 (pc2 := 663) (L2 := [some (vr (some a0)), some (vr (some a1)), some (vr (some a2)), some (vr (some a3)), some (vr (some a4)), some (vi x5), some (vi x_183), some (vi x_188), none]) (st2 := [vi x_183]) rfl ?_
        refine R_if0 rfl (fun c_193 => ?_) (fun c_193 => ?_)
        · have k := k.2 c_193
          refine R_ps 3 (pc2 := 28) (L2 := [some (vr (some a0)), some (vr (some a1)), some (vr (some a2)), some (vr (some a3)), some (vr (some a4)), some (vi (x5 + 5)), some (vi x_183), some (vi x_188), none]) (st2 := []) rfl ?_
          exact R_drop k (LE_of (L := [some (vr (some a0)), some (vr (some a1)), some (vr (some a2)), some (vr (some a3)), some (vr (some a4)), some (vi (x5 + 5)), none, none, none]) (L2 := [some (vr (some a0)), some (vr (some a1)), some (vr (some a2)), some (vr (some a3)), some (vr (some a4)), some (vi (x5 + 5)), some (vi x_183), some (vi x_188), none]) ⟨rfl, rfl, rfl, rfl, rfl, rfl, trivial⟩)
        · have k := k.1 (Classical.not_not.mp c_193)
          refine R_ps 2 (pc2 := 668) (L2 := [some (vr (some a0)), some (vr (some a1)), some (vr (some a2)), some (vr (some a3)), some (vr (some a4)), some (vi x5), some (vi x_183), some (vi x_188), none]) (st2 := [vi 0, vr (some a3)]) rfl ?_
          obtain ⟨t_195, k⟩ := k
          refine R_lald rfl t4 t_195 ?_
          refine R_ps 3 (pc2 := 673) (L2 := [some (vr (some a0)), some (vr (some a1)), some (vr (some a2)), some (vr (some a3)), some (vr (some a4)), some (vi x5), some (vi x_183), some (vi x_188), none]) (st2 := [vi (lg_cmp (gl h_190 a3 0) x_188.toInt64)]) rfl ?_
          refine R_if0 rfl (fun c_196 => ?_) (fun c_196 => ?_)
          · have k := k.1 c_196
            refine R_ps 3 (pc2 := 28) (L2 := [some (vr (some a0)), some (vr (some a1)), some (vr (some a2)), some (vr (some a3)), some (vr (some a4)), some (vi (x5 + 5)), some (vi x_183), some (vi x_188), none]) (st2 := []) rfl ?_
            exact R_drop k (LE_of (L := [some (vr (some a0)), some (vr (some a1)), some (vr (some a2)), some (vr (some a3)), some (vr (some a4)), some (vi (x5 + 5)), none, none, none]) (L2 := [some (vr (some a0)), some (vr (some a1)), some (vr (some a2)), some (vr (some a3)), some (vr (some a4)), some (vi (x5 + 5)), some (vi x_183), some (vi x_188), none]) ⟨rfl, rfl, rfl, rfl, rfl, rfl, trivial⟩)
          · have k := k.2 c_196
            refine R_ps 1 (pc2 := 677) (L2 := [some (vr (some a0)), some (vr (some a1)), some (vr (some a2)), some (vr (some a3)), some (vr (some a4)), some (vi x5), some (vi x_183), some (vi x_188), none]) (st2 := [vi 0]) rfl ?_
            exact R_zret rfl rfl (Or.inl rfl) ⟨_, rfl, k⟩
      · have k := k.2 c_192
        refine R_ps 1 (pc2 := 660) (L2 := [some (vr (some a0)), some (vr (some a1)), some (vr (some a2)), some (vr (some a3)), some (vr (some a4)), some (vi x5), some (vi x_183), some (vi x_188), none]) (st2 := [vi 0]) rfl ?_
        exact R_zret rfl rfl (Or.inl rfl) ⟨_, rfl, k⟩
    replace k := k.2 c_6
    refine ⟨fun c_6 => ?_, fun c_6 => ?_⟩
    · have k := k.1 c_6
      show WP T N _ 681 _ _ _ _
      refine R_ps 5 (pc2 := 687) (L2 := [some (vr (some a0)), some (vr (some a1)), some (vr (some a2)), some (vr (some a3)), some (vr (some a4)), some (vi x5), none, none, none]) (st2 := [vi (x5 + 1), vr (some a0), vr (some a1)]) rfl ?_
      obtain ⟨t_200, k⟩ := k
      refine R_iald rfl (Or.inr t1) t_200 ?_
      refine R_ps 4 (pc2 := 693) (L2 := [some (vr (some a0)), some (vr (some a1)), some (vr (some a2)), some (vr (some a3)), some (vr (some a4)), some (vi x5), none, none, none]) (st2 := [vi (x5 + 2), vr (some a0), vi (gi h a0 (Int32.toNatClampNeg (x5 + 1))), vr (some a1)]) rfl ?_
      obtain ⟨t_202, k⟩ := k
      refine R_iald rfl (Or.inr t1) t_202 ?_
      refine R_ps 1 (pc2 := 695) (L2 := [some (vr (some a0)), some (vr (some a1)), some (vr (some a2)), some (vr (some a3)), some (vr (some a4)), some (vi x5), none, none, none]) (st2 := [vr (some a3), vi (gi h a0 (Int32.toNatClampNeg (x5 + 2))), vi (gi h a0 (Int32.toNatClampNeg (x5 + 1))), vr (some a1)]) rfl ?_
      refine R_cI (as := [vr (some a1), vi (gi h a0 (Int32.toNatClampNeg (x5 + 1))), vi (gi h a0 (Int32.toNatClampNeg (x5 + 2))), vr (some a3)]) rfl rfl ⟨Nat.le_of_ble_eq_true rfl, Nat.le_of_ble_eq_true rfl, rfl, (Or.inl rfl)⟩ rfl rfl k (fun x_205 h_204 k => ?_)
      refine R_ps 6 (pc2 := 706) (L2 := [some (vr (some a0)), some (vr (some a1)), some (vr (some a2)), some (vr (some a3)), some (vr (some a4)), some (vi x5), some (vi x_205), none, none]) (st2 := [vi (x5 + 1), vr (some a0), vr (some a2)]) rfl ?_
      refine R_iald rfl (Or.inr t1) t_200 ?_
      refine R_ps 4 (pc2 := 712) (L2 := [some (vr (some a0)), some (vr (some a1)), some (vr (some a2)), some (vr (some a3)), some (vr (some a4)), some (vi x5), some (vi x_205), none, none]) (st2 := [vi (x5 + 2), vr (some a0), vi (gi h_204 a0 (Int32.toNatClampNeg (x5 + 1))), vr (some a2)]) rfl ?_
      refine R_iald rfl (Or.inr t1) t_202 ?_
      refine R_cI (as := [vr (some a2), vi (gi h_204 a0 (Int32.toNatClampNeg (x5 + 1))), vi (gi h_204 a0 (Int32.toNatClampNeg (x5 + 2)))]) rfl rfl ⟨Nat.le_of_ble_eq_true rfl, Nat.le_of_ble_eq_true rfl, rfl, (Or.inr ⟨_, rfl, t3⟩)⟩ rfl rfl k (fun x_210 h_209 k => ?_)
      refine R_ps 2 (pc2 := 719) (L2 := [some (vr (some a0)), some (vr (some a1)), some (vr (some a2)), some (vr (some a3)), some (vr (some a4)), some (vi x5), some (vi x_205), some (vi x_210), none]) (st2 := [vr (some a2)]) rfl ?_
      refine R_cI (as := [vr (some a2)]) rfl rfl ⟨Nat.le_of_ble_eq_true rfl, Nat.le_of_ble_eq_true rfl, rfl, (Or.inr ⟨_, rfl, t3⟩)⟩ rfl rfl k (fun x_213 h_212 k => ?_)
      refine R_ps 1 (pc2 := 724) (L2 := [some (vr (some a0)), some (vr (some a1)), some (vr (some a2)), some (vr (some a3)), some (vr (some a4)), some (vi x5), some (vi x_205), some (vi x_210), none]) (st2 := [vi x_205, vi x_213]) rfl ?_
      refine R_if rfl (fun c_214 => ?_) (fun c_214 => ?_)
      · have k := k.1 c_214
        refine R_ps 1 (pc2 := 731) (L2 := [some (vr (some a0)), some (vr (some a1)), some (vr (some a2)), some (vr (some a3)), some (vr (some a4)), some (vi x5), some (vi x_205), some (vi x_210), none]) (st2 := [vi x_205]) rfl ?_
        refine R_if0 rfl (fun c_215 => ?_) (fun c_215 => ?_)
        · have k := k.2 c_215
          refine R_ps 3 (pc2 := 28) (L2 := [some (vr (some a0)), some (vr (some a1)), some (vr (some a2)), some (vr (some a3)), some (vr (some a4)), some (vi (x5 + 5)), some (vi x_205), some (vi x_210), none]) (st2 := []) rfl ?_
          exact R_drop k (LE_of (L := [some (vr (some a0)), some (vr (some a1)), some (vr (some a2)), some (vr (some a3)), some (vr (some a4)), some (vi (x5 + 5)), none, none, none]) (L2 := [some (vr (some a0)), some (vr (some a1)), some (vr (some a2)), some (vr (some a3)), some (vr (some a4)), some (vi (x5 + 5)), some (vi x_205), some (vi x_210), none]) ⟨rfl, rfl, rfl, rfl, rfl, rfl, trivial⟩)
        · have k := k.1 (Classical.not_not.mp c_215)
          refine R_ps 2 (pc2 := 736) (L2 := [some (vr (some a0)), some (vr (some a1)), some (vr (some a2)), some (vr (some a3)), some (vr (some a4)), some (vi x5), some (vi x_205), some (vi x_210), none]) (st2 := [vi 0, vr (some a3)]) rfl ?_
          obtain ⟨t_217, k⟩ := k
          refine R_lald rfl t4 t_217 ?_
          refine R_ps 3 (pc2 := 741) (L2 := [some (vr (some a0)), some (vr (some a1)), some (vr (some a2)), some (vr (some a3)), some (vr (some a4)), some (vi x5), some (vi x_205), some (vi x_210), none]) (st2 := [vi (lg_cmp (gl h_212 a3 0) x_210.toInt64)]) rfl ?_
          refine R_if0 rfl (fun c_218 => ?_) (fun c_218 => ?_)
          · have k := k.1 c_218
            refine R_ps 3 (pc2 := 28) (L2 := [some (vr (some a0)), some (vr (some a1)), some (vr (some a2)), some (vr (some a3)), some (vr (some a4)), some (vi (x5 + 5)), some (vi x_205), some (vi x_210), none]) (st2 := []) rfl ?_
            exact R_drop k (LE_of (L := [some (vr (some a0)), some (vr (some a1)), some (vr (some a2)), some (vr (some a3)), some (vr (some a4)), some (vi (x5 + 5)), none, none, none]) (L2 := [some (vr (some a0)), some (vr (some a1)), some (vr (some a2)), some (vr (some a3)), some (vr (some a4)), some (vi (x5 + 5)), some (vi x_205), some (vi x_210), none]) ⟨rfl, rfl, rfl, rfl, rfl, rfl, trivial⟩)
          · have k := k.2 c_218
            refine R_ps 1 (pc2 := 745) (L2 := [some (vr (some a0)), some (vr (some a1)), some (vr (some a2)), some (vr (some a3)), some (vr (some a4)), some (vi x5), some (vi x_205), some (vi x_210), none]) (st2 := [vi 0]) rfl ?_
            exact R_zret rfl rfl (Or.inl rfl) ⟨_, rfl, k⟩
      · have k := k.2 c_214
        refine R_ps 1 (pc2 := 728) (L2 := [some (vr (some a0)), some (vr (some a1)), some (vr (some a2)), some (vr (some a3)), some (vr (some a4)), some (vi x5), some (vi x_205), some (vi x_210), none]) (st2 := [vi 0]) rfl ?_
        exact R_zret rfl rfl (Or.inl rfl) ⟨_, rfl, k⟩
    replace k := k.2 c_6
    refine ⟨fun c_6 => ?_, fun c_6 => ?_⟩
    · have k := k.1 c_6
      show WP T N _ 749 _ _ _ _
      refine R_ps 5 (pc2 := 755) (L2 := [some (vr (some a0)), some (vr (some a1)), some (vr (some a2)), some (vr (some a3)), some (vr (some a4)), some (vi x5), none, none, none]) (st2 := [vi (x5 + 1), vr (some a0), vr (some a1)]) rfl ?_
      obtain ⟨t_222, k⟩ := k
      refine R_iald rfl (Or.inr t1) t_222 ?_
      refine R_ps 1 (pc2 := 757) (L2 := [some (vr (some a0)), some (vr (some a1)), some (vr (some a2)), some (vr (some a3)), some (vr (some a4)), some (vi x5), none, none, none]) (st2 := [vr (some a3), vi (gi h a0 (Int32.toNatClampNeg (x5 + 1))), vr (some a1)]) rfl ?_
      refine R_cI (as := [vr (some a1), vi (gi h a0 (Int32.toNatClampNeg (x5 + 1))), vr (some a3)]) rfl rfl ⟨Nat.le_of_ble_eq_true rfl, Nat.le_of_ble_eq_true rfl, rfl, (Or.inl rfl)⟩ rfl rfl k (fun x_225 h_224 k => ?_)
      refine R_ps 6 (pc2 := 768) (L2 := [some (vr (some a0)), some (vr (some a1)), some (vr (some a2)), some (vr (some a3)), some (vr (some a4)), some (vi x5), some (vi x_225), none, none]) (st2 := [vi (x5 + 1), vr (some a0), vr (some a2)]) rfl ?_
      refine R_iald rfl (Or.inr t1) t_222 ?_
      refine R_cI (as := [vr (some a2), vi (gi h_224 a0 (Int32.toNatClampNeg (x5 + 1)))]) rfl rfl ⟨Nat.le_of_ble_eq_true rfl, Nat.le_of_ble_eq_true rfl, rfl, (Or.inr ⟨_, rfl, t3⟩)⟩ rfl rfl k (fun x_229 h_228 k => ?_)
      refine R_ps 2 (pc2 := 775) (L2 := [some (vr (some a0)), some (vr (some a1)), some (vr (some a2)), some (vr (some a3)), some (vr (some a4)), some (vi x5), some (vi x_225), some (vi x_229), none]) (st2 := [vr (some a2)]) rfl ?_
      refine R_cI (as := [vr (some a2)]) rfl rfl ⟨Nat.le_of_ble_eq_true rfl, Nat.le_of_ble_eq_true rfl, rfl, (Or.inr ⟨_, rfl, t3⟩)⟩ rfl rfl k (fun x_232 h_231 k => ?_)
      refine R_ps 1 (pc2 := 780) (L2 := [some (vr (some a0)), some (vr (some a1)), some (vr (some a2)), some (vr (some a3)), some (vr (some a4)), some (vi x5), some (vi x_225), some (vi x_229), none]) (st2 := [vi x_225, vi x_232]) rfl ?_
      refine R_if rfl (fun c_233 => ?_) (fun c_233 => ?_)
      · have k := k.1 c_233
        refine R_ps 1 (pc2 := 787) (L2 := [some (vr (some a0)), some (vr (some a1)), some (vr (some a2)), some (vr (some a3)), some (vr (some a4)), some (vi x5), some (vi x_225), some (vi x_229), none]) (st2 := [vi x_225]) rfl ?_
        refine R_if0 rfl (fun c_234 => ?_) (fun c_234 => ?_)
        · have k := k.2 c_234
          refine R_ps 3 (pc2 := 28) (L2 := [some (vr (some a0)), some (vr (some a1)), some (vr (some a2)), some (vr (some a3)), some (vr (some a4)), some (vi (x5 + 5)), some (vi x_225), some (vi x_229), none]) (st2 := []) rfl ?_
          exact R_drop k (LE_of (L := [some (vr (some a0)), some (vr (some a1)), some (vr (some a2)), some (vr (some a3)), some (vr (some a4)), some (vi (x5 + 5)), none, none, none]) (L2 := [some (vr (some a0)), some (vr (some a1)), some (vr (some a2)), some (vr (some a3)), some (vr (some a4)), some (vi (x5 + 5)), some (vi x_225), some (vi x_229), none]) ⟨rfl, rfl, rfl, rfl, rfl, rfl, trivial⟩)
        · have k := k.1 (Classical.not_not.mp c_234)
          refine R_ps 2 (pc2 := 792) (L2 := [some (vr (some a0)), some (vr (some a1)), some (vr (some a2)), some (vr (some a3)), some (vr (some a4)), some (vi x5), some (vi x_225), some (vi x_229), none]) (st2 := [vi 0, vr (some a3)]) rfl ?_
          obtain ⟨t_236, k⟩ := k
          refine R_lald rfl t4 t_236 ?_
          refine R_ps 1 (pc2 := 795) (L2 := [some (vr (some a0)), some (vr (some a1)), some (vr (some a2)), some (vr (some a3)), some (vr (some a4)), some (vi x5), some (vi x_225), some (vi x_229), none]) (st2 := [vi x_229, vl (gl h_231 a3 0)]) rfl ?_
          refine R_if0 rfl (fun c_237 => ?_) (fun c_237 => ?_)
          · have k := k.1 c_237
            refine R_ps 2 (pc2 := 804) (L2 := [some (vr (some a0)), some (vr (some a1)), some (vr (some a2)), some (vr (some a3)), some (vr (some a4)), some (vi x5), some (vi x_225), some (vi x_229), none]) (st2 := [vi (lg_cmp (gl h_231 a3 0) 0)]) rfl ?_
            refine R_if0 rfl (fun c_238 => ?_) (fun c_238 => ?_)
            · have k := k.1 c_238
              refine R_ps 3 (pc2 := 28) (L2 := [some (vr (some a0)), some (vr (some a1)), some (vr (some a2)), some (vr (some a3)), some (vr (some a4)), some (vi (x5 + 5)), some (vi x_225), some (vi x_229), none]) (st2 := []) rfl ?_
              exact R_drop k (LE_of (L := [some (vr (some a0)), some (vr (some a1)), some (vr (some a2)), some (vr (some a3)), some (vr (some a4)), some (vi (x5 + 5)), none, none, none]) (L2 := [some (vr (some a0)), some (vr (some a1)), some (vr (some a2)), some (vr (some a3)), some (vr (some a4)), some (vi (x5 + 5)), some (vi x_225), some (vi x_229), none]) ⟨rfl, rfl, rfl, rfl, rfl, rfl, trivial⟩)
            · have k := k.2 c_238
              refine R_ps 1 (pc2 := 808) (L2 := [some (vr (some a0)), some (vr (some a1)), some (vr (some a2)), some (vr (some a3)), some (vr (some a4)), some (vi x5), some (vi x_225), some (vi x_229), none]) (st2 := [vi 0]) rfl ?_
              exact R_zret rfl rfl (Or.inl rfl) ⟨_, rfl, k⟩
          · have k := k.2 c_237
            refine R_ps 3 (pc2 := 804) (L2 := [some (vr (some a0)), some (vr (some a1)), some (vr (some a2)), some (vr (some a3)), some (vr (some a4)), some (vi x5), some (vi x_225), some (vi x_229), none]) (st2 := [vi (lg_cmp (gl h_231 a3 0) 1)]) rfl ?_
            refine R_if0 rfl (fun c_240 => ?_) (fun c_240 => ?_)
            · have k := k.1 c_240
              refine R_ps 3 (pc2 := 28) (L2 := [some (vr (some a0)), some (vr (some a1)), some (vr (some a2)), some (vr (some a3)), some (vr (some a4)), some (vi (x5 + 5)), some (vi x_225), some (vi x_229), none]) (st2 := []) rfl ?_
              exact R_drop k (LE_of (L := [some (vr (some a0)), some (vr (some a1)), some (vr (some a2)), some (vr (some a3)), some (vr (some a4)), some (vi (x5 + 5)), none, none, none]) (L2 := [some (vr (some a0)), some (vr (some a1)), some (vr (some a2)), some (vr (some a3)), some (vr (some a4)), some (vi (x5 + 5)), some (vi x_225), some (vi x_229), none]) ⟨rfl, rfl, rfl, rfl, rfl, rfl, trivial⟩)
            · have k := k.2 c_240
              refine R_ps 1 (pc2 := 808) (L2 := [some (vr (some a0)), some (vr (some a1)), some (vr (some a2)), some (vr (some a3)), some (vr (some a4)), some (vi x5), some (vi x_225), some (vi x_229), none]) (st2 := [vi 0]) rfl ?_
              exact R_zret rfl rfl (Or.inl rfl) ⟨_, rfl, k⟩
      · have k := k.2 c_233
        refine R_ps 1 (pc2 := 784) (L2 := [some (vr (some a0)), some (vr (some a1)), some (vr (some a2)), some (vr (some a3)), some (vr (some a4)), some (vi x5), some (vi x_225), some (vi x_229), none]) (st2 := [vi 0]) rfl ?_
        exact R_zret rfl rfl (Or.inl rfl) ⟨_, rfl, k⟩
    replace k := k.2 c_6
    refine ⟨fun c_6 => ?_, fun c_6 => ?_⟩
    · have k := k.1 c_6
      show WP T N _ 812 _ _ _ _
      refine R_ps 5 (pc2 := 818) (L2 := [some (vr (some a0)), some (vr (some a1)), some (vr (some a2)), some (vr (some a3)), some (vr (some a4)), some (vi x5), none, none, none]) (st2 := [vi (x5 + 1), vr (some a0), vr (some a1)]) rfl ?_
      obtain ⟨t_244, k⟩ := k
      refine R_iald rfl (Or.inr t1) t_244 ?_
      refine R_ps 1 (pc2 := 820) (L2 := [some (vr (some a0)), some (vr (some a1)), some (vr (some a2)), some (vr (some a3)), some (vr (some a4)), some (vi x5), none, none, none]) (st2 := [vr (some a3), vi (gi h a0 (Int32.toNatClampNeg (x5 + 1))), vr (some a1)]) rfl ?_
      refine R_cI (as := [vr (some a1), vi (gi h a0 (Int32.toNatClampNeg (x5 + 1))), vr (some a3)]) rfl rfl ⟨Nat.le_of_ble_eq_true rfl, Nat.le_of_ble_eq_true rfl, rfl, (Or.inl rfl)⟩ rfl rfl k (fun x_247 h_246 k => ?_)
      refine R_ps 6 (pc2 := 831) (L2 := [some (vr (some a0)), some (vr (some a1)), some (vr (some a2)), some (vr (some a3)), some (vr (some a4)), some (vi x5), some (vi x_247), none, none]) (st2 := [vi (x5 + 1), vr (some a0), vr (some a2)]) rfl ?_
      refine R_iald rfl (Or.inr t1) t_244 ?_
      refine R_cI (as := [vr (some a2), vi (gi h_246 a0 (Int32.toNatClampNeg (x5 + 1)))]) rfl rfl ⟨Nat.le_of_ble_eq_true rfl, Nat.le_of_ble_eq_true rfl, rfl, (Or.inr ⟨_, rfl, t3⟩)⟩ rfl rfl k (fun x_251 h_250 k => ?_)
      refine R_ps 2 (pc2 := 838) (L2 := [some (vr (some a0)), some (vr (some a1)), some (vr (some a2)), some (vr (some a3)), some (vr (some a4)), some (vi x5), some (vi x_247), some (vi x_251), none]) (st2 := [vr (some a2)]) rfl ?_
      refine R_cI (as := [vr (some a2)]) rfl rfl ⟨Nat.le_of_ble_eq_true rfl, Nat.le_of_ble_eq_true rfl, rfl, (Or.inr ⟨_, rfl, t3⟩)⟩ rfl rfl k (fun x_254 h_253 k => ?_)
      refine R_ps 1 (pc2 := 843) (L2 := [some (vr (some a0)), some (vr (some a1)), some (vr (some a2)), some (vr (some a3)), some (vr (some a4)), some (vi x5), some (vi x_247), some (vi x_251), none]) (st2 := [vi x_247, vi x_254]) rfl ?_
      refine R_if rfl (fun c_255 => ?_) (fun c_255 => ?_)
      · have k := k.1 c_255
        refine R_ps 1 (pc2 := 850) (L2 := [some (vr (some a0)), some (vr (some a1)), some (vr (some a2)), some (vr (some a3)), some (vr (some a4)), some (vi x5), some (vi x_247), some (vi x_251), none]) (st2 := [vi x_247]) rfl ?_
        refine R_if0 rfl (fun c_256 => ?_) (fun c_256 => ?_)
        · have k := k.2 c_256
          refine R_ps 3 (pc2 := 28) (L2 := [some (vr (some a0)), some (vr (some a1)), some (vr (some a2)), some (vr (some a3)), some (vr (some a4)), some (vi (x5 + 5)), some (vi x_247), some (vi x_251), none]) (st2 := []) rfl ?_
          exact R_drop k (LE_of (L := [some (vr (some a0)), some (vr (some a1)), some (vr (some a2)), some (vr (some a3)), some (vr (some a4)), some (vi (x5 + 5)), none, none, none]) (L2 := [some (vr (some a0)), some (vr (some a1)), some (vr (some a2)), some (vr (some a3)), some (vr (some a4)), some (vi (x5 + 5)), some (vi x_247), some (vi x_251), none]) ⟨rfl, rfl, rfl, rfl, rfl, rfl, trivial⟩)
        · have k := k.1 (Classical.not_not.mp c_256)
          refine R_ps 2 (pc2 := 855) (L2 := [some (vr (some a0)), some (vr (some a1)), some (vr (some a2)), some (vr (some a3)), some (vr (some a4)), some (vi x5), some (vi x_247), some (vi x_251), none]) (st2 := [vi 0, vr (some a3)]) rfl ?_
          obtain ⟨t_258, k⟩ := k
          refine R_lald rfl t4 t_258 ?_
          refine R_ps 3 (pc2 := 860) (L2 := [some (vr (some a0)), some (vr (some a1)), some (vr (some a2)), some (vr (some a3)), some (vr (some a4)), some (vi x5), some (vi x_247), some (vi x_251), none]) (st2 := [vi (lg_cmp (gl h_253 a3 0) x_251.toInt64)]) rfl ?_
          refine R_if0 rfl (fun c_259 => ?_) (fun c_259 => ?_)
          · have k := k.1 c_259
            refine R_ps 3 (pc2 := 28) (L2 := [some (vr (some a0)), some (vr (some a1)), some (vr (some a2)), some (vr (some a3)), some (vr (some a4)), some (vi (x5 + 5)), some (vi x_247), some (vi x_251), none]) (st2 := []) rfl ?_
            exact R_drop k (LE_of (L := [some (vr (some a0)), some (vr (some a1)), some (vr (some a2)), some (vr (some a3)), some (vr (some a4)), some (vi (x5 + 5)), none, none, none]) (L2 := [some (vr (some a0)), some (vr (some a1)), some (vr (some a2)), some (vr (some a3)), some (vr (some a4)), some (vi (x5 + 5)), some (vi x_247), some (vi x_251), none]) ⟨rfl, rfl, rfl, rfl, rfl, rfl, trivial⟩)
          · have k := k.2 c_259
            refine R_ps 1 (pc2 := 864) (L2 := [some (vr (some a0)), some (vr (some a1)), some (vr (some a2)), some (vr (some a3)), some (vr (some a4)), some (vi x5), some (vi x_247), some (vi x_251), none]) (st2 := [vi 0]) rfl ?_
            exact R_zret rfl rfl (Or.inl rfl) ⟨_, rfl, k⟩
      · have k := k.2 c_255
        refine R_ps 1 (pc2 := 847) (L2 := [some (vr (some a0)), some (vr (some a1)), some (vr (some a2)), some (vr (some a3)), some (vr (some a4)), some (vi x5), some (vi x_247), some (vi x_251), none]) (st2 := [vi 0]) rfl ?_
        exact R_zret rfl rfl (Or.inl rfl) ⟨_, rfl, k⟩
    replace k := k.2 c_6
    refine ⟨fun c_6 => ?_, fun c_6 => ?_⟩
    · have k := k.1 c_6
      show WP T N _ 868 _ _ _ _
      refine R_ps 5 (pc2 := 874) (L2 := [some (vr (some a0)), some (vr (some a1)), some (vr (some a2)), some (vr (some a3)), some (vr (some a4)), some (vi x5), none, none, none]) (st2 := [vi (x5 + 1), vr (some a0), vr (some a1)]) rfl ?_
      obtain ⟨t_263, k⟩ := k
      refine R_iald rfl (Or.inr t1) t_263 ?_
      refine R_ps 4 (pc2 := 880) (L2 := [some (vr (some a0)), some (vr (some a1)), some (vr (some a2)), some (vr (some a3)), some (vr (some a4)), some (vi x5), none, none, none]) (st2 := [vi (x5 + 2), vr (some a0), vi (gi h a0 (Int32.toNatClampNeg (x5 + 1))), vr (some a1)]) rfl ?_
      obtain ⟨t_265, k⟩ := k
      refine R_iald rfl (Or.inr t1) t_265 ?_
      refine R_ps 1 (pc2 := 882) (L2 := [some (vr (some a0)), some (vr (some a1)), some (vr (some a2)), some (vr (some a3)), some (vr (some a4)), some (vi x5), none, none, none]) (st2 := [vr (some a3), vi (gi h a0 (Int32.toNatClampNeg (x5 + 2))), vi (gi h a0 (Int32.toNatClampNeg (x5 + 1))), vr (some a1)]) rfl ?_
      refine R_cI (as := [vr (some a1), vi (gi h a0 (Int32.toNatClampNeg (x5 + 1))), vi (gi h a0 (Int32.toNatClampNeg (x5 + 2))), vr (some a3)]) rfl rfl ⟨Nat.le_of_ble_eq_true rfl, Nat.le_of_ble_eq_true rfl, rfl, (Or.inl rfl)⟩ rfl rfl k (fun x_268 h_267 k => ?_)
      refine R_ps 6 (pc2 := 893) (L2 := [some (vr (some a0)), some (vr (some a1)), some (vr (some a2)), some (vr (some a3)), some (vr (some a4)), some (vi x5), some (vi x_268), none, none]) (st2 := [vi (x5 + 1), vr (some a0), vr (some a2)]) rfl ?_
      refine R_iald rfl (Or.inr t1) t_263 ?_
      refine R_ps 4 (pc2 := 899) (L2 := [some (vr (some a0)), some (vr (some a1)), some (vr (some a2)), some (vr (some a3)), some (vr (some a4)), some (vi x5), some (vi x_268), none, none]) (st2 := [vi (x5 + 2), vr (some a0), vi (gi h_267 a0 (Int32.toNatClampNeg (x5 + 1))), vr (some a2)]) rfl ?_
      refine R_iald rfl (Or.inr t1) t_265 ?_
      refine R_cI (as := [vr (some a2), vi (gi h_267 a0 (Int32.toNatClampNeg (x5 + 1))), vi (gi h_267 a0 (Int32.toNatClampNeg (x5 + 2)))]) rfl rfl ⟨Nat.le_of_ble_eq_true rfl, Nat.le_of_ble_eq_true rfl, rfl, (Or.inr ⟨_, rfl, t3⟩)⟩ rfl rfl k (fun x_273 h_272 k => ?_)
      refine R_ps 2 (pc2 := 906) (L2 := [some (vr (some a0)), some (vr (some a1)), some (vr (some a2)), some (vr (some a3)), some (vr (some a4)), some (vi x5), some (vi x_268), some (vi x_273), none]) (st2 := [vr (some a2)]) rfl ?_
      refine R_cI (as := [vr (some a2)]) rfl rfl ⟨Nat.le_of_ble_eq_true rfl, Nat.le_of_ble_eq_true rfl, rfl, (Or.inr ⟨_, rfl, t3⟩)⟩ rfl rfl k (fun x_276 h_275 k => ?_)
      refine R_ps 1 (pc2 := 911) (L2 := [some (vr (some a0)), some (vr (some a1)), some (vr (some a2)), some (vr (some a3)), some (vr (some a4)), some (vi x5), some (vi x_268), some (vi x_273), none]) (st2 := [vi x_268, vi x_276]) rfl ?_
      refine R_if rfl (fun c_277 => ?_) (fun c_277 => ?_)
      · have k := k.1 c_277
        refine R_ps 1 (pc2 := 918) (L2 := [some (vr (some a0)), some (vr (some a1)), some (vr (some a2)), some (vr (some a3)), some (vr (some a4)), some (vi x5), some (vi x_268), some (vi x_273), none]) (st2 := [vi x_268]) rfl ?_
        refine R_if0 rfl (fun c_278 => ?_) (fun c_278 => ?_)
        · have k := k.2 c_278
          refine R_ps 3 (pc2 := 28) (L2 := [some (vr (some a0)), some (vr (some a1)), some (vr (some a2)), some (vr (some a3)), some (vr (some a4)), some (vi (x5 + 5)), some (vi x_268), some (vi x_273), none]) (st2 := []) rfl ?_
          exact R_drop k (LE_of (L := [some (vr (some a0)), some (vr (some a1)), some (vr (some a2)), some (vr (some a3)), some (vr (some a4)), some (vi (x5 + 5)), none, none, none]) (L2 := [some (vr (some a0)), some (vr (some a1)), some (vr (some a2)), some (vr (some a3)), some (vr (some a4)), some (vi (x5 + 5)), some (vi x_268), some (vi x_273), none]) ⟨rfl, rfl, rfl, rfl, rfl, rfl, trivial⟩)
        · have k := k.1 (Classical.not_not.mp c_278)
          refine R_ps 2 (pc2 := 923) (L2 := [some (vr (some a0)), some (vr (some a1)), some (vr (some a2)), some (vr (some a3)), some (vr (some a4)), some (vi x5), some (vi x_268), some (vi x_273), none]) (st2 := [vi 0, vr (some a3)]) rfl ?_
          obtain ⟨t_280, k⟩ := k
          refine R_lald rfl t4 t_280 ?_
          refine R_ps 3 (pc2 := 928) (L2 := [some (vr (some a0)), some (vr (some a1)), some (vr (some a2)), some (vr (some a3)), some (vr (some a4)), some (vi x5), some (vi x_268), some (vi x_273), none]) (st2 := [vi (lg_cmp (gl h_275 a3 0) x_273.toInt64)]) rfl ?_
          refine R_if0 rfl (fun c_281 => ?_) (fun c_281 => ?_)
          · have k := k.1 c_281
            refine R_ps 3 (pc2 := 28) (L2 := [some (vr (some a0)), some (vr (some a1)), some (vr (some a2)), some (vr (some a3)), some (vr (some a4)), some (vi (x5 + 5)), some (vi x_268), some (vi x_273), none]) (st2 := []) rfl ?_
            exact R_drop k (LE_of (L := [some (vr (some a0)), some (vr (some a1)), some (vr (some a2)), some (vr (some a3)), some (vr (some a4)), some (vi (x5 + 5)), none, none, none]) (L2 := [some (vr (some a0)), some (vr (some a1)), some (vr (some a2)), some (vr (some a3)), some (vr (some a4)), some (vi (x5 + 5)), some (vi x_268), some (vi x_273), none]) ⟨rfl, rfl, rfl, rfl, rfl, rfl, trivial⟩)
          · have k := k.2 c_281
            refine R_ps 1 (pc2 := 932) (L2 := [some (vr (some a0)), some (vr (some a1)), some (vr (some a2)), some (vr (some a3)), some (vr (some a4)), some (vi x5), some (vi x_268), some (vi x_273), none]) (st2 := [vi 0]) rfl ?_
            exact R_zret rfl rfl (Or.inl rfl) ⟨_, rfl, k⟩
      · have k := k.2 c_277
        refine R_ps 1 (pc2 := 915) (L2 := [some (vr (some a0)), some (vr (some a1)), some (vr (some a2)), some (vr (some a3)), some (vr (some a4)), some (vi x5), some (vi x_268), some (vi x_273), none]) (st2 := [vi 0]) rfl ?_
        exact R_zret rfl rfl (Or.inl rfl) ⟨_, rfl, k⟩
    replace k := k.2 c_6
    refine ⟨fun c_6 => ?_, fun c_6 => ?_⟩
    · have k := k.1 c_6
      show WP T N _ 936 _ _ _ _
      refine R_ps 5 (pc2 := 942) (L2 := [some (vr (some a0)), some (vr (some a1)), some (vr (some a2)), some (vr (some a3)), some (vr (some a4)), some (vi x5), none, none, none]) (st2 := [vi (x5 + 1), vr (some a0), vr (some a1)]) rfl ?_
      obtain ⟨t_285, k⟩ := k
      refine R_iald rfl (Or.inr t1) t_285 ?_
      refine R_ps 1 (pc2 := 944) (L2 := [some (vr (some a0)), some (vr (some a1)), some (vr (some a2)), some (vr (some a3)), some (vr (some a4)), some (vi x5), none, none, none]) (st2 := [vr (some a3), vi (gi h a0 (Int32.toNatClampNeg (x5 + 1))), vr (some a1)]) rfl ?_
      refine R_cI (as := [vr (some a1), vi (gi h a0 (Int32.toNatClampNeg (x5 + 1))), vr (some a3)]) rfl rfl ⟨Nat.le_of_ble_eq_true rfl, Nat.le_of_ble_eq_true rfl, rfl, (Or.inl rfl)⟩ rfl rfl k (fun x_288 h_287 k => ?_)
      refine R_ps 6 (pc2 := 955) (L2 := [some (vr (some a0)), some (vr (some a1)), some (vr (some a2)), some (vr (some a3)), some (vr (some a4)), some (vi x5), some (vi x_288), none, none]) (st2 := [vi (x5 + 1), vr (some a0), vr (some a2)]) rfl ?_
      refine R_iald rfl (Or.inr t1) t_285 ?_
      refine R_cI (as := [vr (some a2), vi (gi h_287 a0 (Int32.toNatClampNeg (x5 + 1)))]) rfl rfl ⟨Nat.le_of_ble_eq_true rfl, Nat.le_of_ble_eq_true rfl, rfl, (Or.inr ⟨_, rfl, t3⟩)⟩ rfl rfl k (fun x_292 h_291 k => ?_)
      refine R_ps 2 (pc2 := 962) (L2 := [some (vr (some a0)), some (vr (some a1)), some (vr (some a2)), some (vr (some a3)), some (vr (some a4)), some (vi x5), some (vi x_288), some (vi x_292), none]) (st2 := [vr (some a2)]) rfl ?_
      refine R_cI (as := [vr (some a2)]) rfl rfl ⟨Nat.le_of_ble_eq_true rfl, Nat.le_of_ble_eq_true rfl, rfl, (Or.inr ⟨_, rfl, t3⟩)⟩ rfl rfl k (fun x_295 h_294 k => ?_)
      refine R_ps 1 (pc2 := 967) (L2 := [some (vr (some a0)), some (vr (some a1)), some (vr (some a2)), some (vr (some a3)), some (vr (some a4)), some (vi x5), some (vi x_288), some (vi x_292), none]) (st2 := [vi x_288, vi x_295]) rfl ?_
      refine R_if rfl (fun c_296 => ?_) (fun c_296 => ?_)
      · have k := k.1 c_296
        refine R_ps 1 (pc2 := 974) (L2 := [some (vr (some a0)), some (vr (some a1)), some (vr (some a2)), some (vr (some a3)), some (vr (some a4)), some (vi x5), some (vi x_288), some (vi x_292), none]) (st2 := [vi x_288]) rfl ?_
        refine R_if0 rfl (fun c_297 => ?_) (fun c_297 => ?_)
        · have k := k.2 c_297
          refine R_ps 3 (pc2 := 28) (L2 := [some (vr (some a0)), some (vr (some a1)), some (vr (some a2)), some (vr (some a3)), some (vr (some a4)), some (vi (x5 + 5)), some (vi x_288), some (vi x_292), none]) (st2 := []) rfl ?_
          exact R_drop k (LE_of (L := [some (vr (some a0)), some (vr (some a1)), some (vr (some a2)), some (vr (some a3)), some (vr (some a4)), some (vi (x5 + 5)), none, none, none]) (L2 := [some (vr (some a0)), some (vr (some a1)), some (vr (some a2)), some (vr (some a3)), some (vr (some a4)), some (vi (x5 + 5)), some (vi x_288), some (vi x_292), none]) ⟨rfl, rfl, rfl, rfl, rfl, rfl, trivial⟩)
        · have k := k.1 (Classical.not_not.mp c_297)
          refine R_ps 2 (pc2 := 979) (L2 := [some (vr (some a0)), some (vr (some a1)), some (vr (some a2)), some (vr (some a3)), some (vr (some a4)), some (vi x5), some (vi x_288), some (vi x_292), none]) (st2 := [vi 0, vr (some a3)]) rfl ?_
          obtain ⟨t_299, k⟩ := k
          refine R_lald rfl t4 t_299 ?_
          refine R_ps 3 (pc2 := 984) (L2 := [some (vr (some a0)), some (vr (some a1)), some (vr (some a2)), some (vr (some a3)), some (vr (some a4)), some (vi x5), some (vi x_288), some (vi x_292), none]) (st2 := [vi (lg_cmp (gl h_294 a3 0) x_292.toInt64)]) rfl ?_
          refine R_if0 rfl (fun c_300 => ?_) (fun c_300 => ?_)
          · have k := k.1 c_300
            refine R_ps 3 (pc2 := 28) (L2 := [some (vr (some a0)), some (vr (some a1)), some (vr (some a2)), some (vr (some a3)), some (vr (some a4)), some (vi (x5 + 5)), some (vi x_288), some (vi x_292), none]) (st2 := []) rfl ?_
            exact R_drop k (LE_of (L := [some (vr (some a0)), some (vr (some a1)), some (vr (some a2)), some (vr (some a3)), some (vr (some a4)), some (vi (x5 + 5)), none, none, none]) (L2 := [some (vr (some a0)), some (vr (some a1)), some (vr (some a2)), some (vr (some a3)), some (vr (some a4)), some (vi (x5 + 5)), some (vi x_288), some (vi x_292), none]) ⟨rfl, rfl, rfl, rfl, rfl, rfl, trivial⟩)
          · have k := k.2 c_300
            refine R_ps 1 (pc2 := 988) (L2 := [some (vr (some a0)), some (vr (some a1)), some (vr (some a2)), some (vr (some a3)), some (vr (some a4)), some (vi x5), some (vi x_288), some (vi x_292), none]) (st2 := [vi 0]) rfl ?_
            exact R_zret rfl rfl (Or.inl rfl) ⟨_, rfl, k⟩
      · have k := k.2 c_296
        refine R_ps 1 (pc2 := 971) (L2 := [some (vr (some a0)), some (vr (some a1)), some (vr (some a2)), some (vr (some a3)), some (vr (some a4)), some (vi x5), some (vi x_288), some (vi x_292), none]) (st2 := [vi 0]) rfl ?_
        exact R_zret rfl rfl (Or.inl rfl) ⟨_, rfl, k⟩
    replace k := k.2 c_6
    refine ⟨fun c_6 => ?_, fun c_6 => ?_⟩
    · have k := k.1 c_6
      show WP T N _ 992 _ _ _ _
      refine R_ps 5 (pc2 := 998) (L2 := [some (vr (some a0)), some (vr (some a1)), some (vr (some a2)), some (vr (some a3)), some (vr (some a4)), some (vi x5), none, none, none]) (st2 := [vi (x5 + 1), vr (some a0), vr (some a1)]) rfl ?_
      obtain ⟨t_304, k⟩ := k
      refine R_iald rfl (Or.inr t1) t_304 ?_
      refine R_ps 4 (pc2 := 1004) (L2 := [some (vr (some a0)), some (vr (some a1)), some (vr (some a2)), some (vr (some a3)), some (vr (some a4)), some (vi x5), none, none, none]) (st2 := [vi (x5 + 2), vr (some a0), vi (gi h a0 (Int32.toNatClampNeg (x5 + 1))), vr (some a1)]) rfl ?_
      obtain ⟨t_306, k⟩ := k
      refine R_iald rfl (Or.inr t1) t_306 ?_
      refine R_ps 1 (pc2 := 1006) (L2 := [some (vr (some a0)), some (vr (some a1)), some (vr (some a2)), some (vr (some a3)), some (vr (some a4)), some (vi x5), none, none, none]) (st2 := [vr (some a3), vi (gi h a0 (Int32.toNatClampNeg (x5 + 2))), vi (gi h a0 (Int32.toNatClampNeg (x5 + 1))), vr (some a1)]) rfl ?_
      refine R_cI (as := [vr (some a1), vi (gi h a0 (Int32.toNatClampNeg (x5 + 1))), vi (gi h a0 (Int32.toNatClampNeg (x5 + 2))), vr (some a3)]) rfl rfl ⟨Nat.le_of_ble_eq_true rfl, Nat.le_of_ble_eq_true rfl, rfl, (Or.inl rfl)⟩ rfl rfl k (fun x_309 h_308 k => ?_)
      refine R_ps 6 (pc2 := 1017) (L2 := [some (vr (some a0)), some (vr (some a1)), some (vr (some a2)), some (vr (some a3)), some (vr (some a4)), some (vi x5), some (vi x_309), none, none]) (st2 := [vi (x5 + 1), vr (some a0), vr (some a2)]) rfl ?_
      refine R_iald rfl (Or.inr t1) t_304 ?_
      refine R_ps 4 (pc2 := 1023) (L2 := [some (vr (some a0)), some (vr (some a1)), some (vr (some a2)), some (vr (some a3)), some (vr (some a4)), some (vi x5), some (vi x_309), none, none]) (st2 := [vi (x5 + 2), vr (some a0), vi (gi h_308 a0 (Int32.toNatClampNeg (x5 + 1))), vr (some a2)]) rfl ?_
      refine R_iald rfl (Or.inr t1) t_306 ?_
      refine R_cI (as := [vr (some a2), vi (gi h_308 a0 (Int32.toNatClampNeg (x5 + 1))), vi (gi h_308 a0 (Int32.toNatClampNeg (x5 + 2)))]) rfl rfl ⟨Nat.le_of_ble_eq_true rfl, Nat.le_of_ble_eq_true rfl, rfl, (Or.inr ⟨_, rfl, t3⟩)⟩ rfl rfl k (fun x_314 h_313 k => ?_)
      refine R_ps 2 (pc2 := 1030) (L2 := [some (vr (some a0)), some (vr (some a1)), some (vr (some a2)), some (vr (some a3)), some (vr (some a4)), some (vi x5), some (vi x_309), some (vi x_314), none]) (st2 := [vr (some a2)]) rfl ?_
      refine R_cI (as := [vr (some a2)]) rfl rfl ⟨Nat.le_of_ble_eq_true rfl, Nat.le_of_ble_eq_true rfl, rfl, (Or.inr ⟨_, rfl, t3⟩)⟩ rfl rfl k (fun x_317 h_316 k => ?_)
      refine R_ps 1 (pc2 := 1035) (L2 := [some (vr (some a0)), some (vr (some a1)), some (vr (some a2)), some (vr (some a3)), some (vr (some a4)), some (vi x5), some (vi x_309), some (vi x_314), none]) (st2 := [vi x_309, vi x_317]) rfl ?_
      refine R_if rfl (fun c_318 => ?_) (fun c_318 => ?_)
      · have k := k.1 c_318
        refine R_ps 1 (pc2 := 1042) (L2 := [some (vr (some a0)), some (vr (some a1)), some (vr (some a2)), some (vr (some a3)), some (vr (some a4)), some (vi x5), some (vi x_309), some (vi x_314), none]) (st2 := [vi x_309]) rfl ?_
        refine R_if0 rfl (fun c_319 => ?_) (fun c_319 => ?_)
        · have k := k.2 c_319
          refine R_ps 3 (pc2 := 28) (L2 := [some (vr (some a0)), some (vr (some a1)), some (vr (some a2)), some (vr (some a3)), some (vr (some a4)), some (vi (x5 + 5)), some (vi x_309), some (vi x_314), none]) (st2 := []) rfl ?_
          exact R_drop k (LE_of (L := [some (vr (some a0)), some (vr (some a1)), some (vr (some a2)), some (vr (some a3)), some (vr (some a4)), some (vi (x5 + 5)), none, none, none]) (L2 := [some (vr (some a0)), some (vr (some a1)), some (vr (some a2)), some (vr (some a3)), some (vr (some a4)), some (vi (x5 + 5)), some (vi x_309), some (vi x_314), none]) ⟨rfl, rfl, rfl, rfl, rfl, rfl, trivial⟩)
        · have k := k.1 (Classical.not_not.mp c_319)
          refine R_ps 2 (pc2 := 1047) (L2 := [some (vr (some a0)), some (vr (some a1)), some (vr (some a2)), some (vr (some a3)), some (vr (some a4)), some (vi x5), some (vi x_309), some (vi x_314), none]) (st2 := [vi 0, vr (some a3)]) rfl ?_
          obtain ⟨t_321, k⟩ := k
          refine R_lald rfl t4 t_321 ?_
          refine R_ps 3 (pc2 := 1052) (L2 := [some (vr (some a0)), some (vr (some a1)), some (vr (some a2)), some (vr (some a3)), some (vr (some a4)), some (vi x5), some (vi x_309), some (vi x_314), none]) (st2 := [vi (lg_cmp (gl h_316 a3 0) x_314.toInt64)]) rfl ?_
          refine R_if0 rfl (fun c_322 => ?_) (fun c_322 => ?_)
          · have k := k.1 c_322
            refine R_ps 3 (pc2 := 28) (L2 := [some (vr (some a0)), some (vr (some a1)), some (vr (some a2)), some (vr (some a3)), some (vr (some a4)), some (vi (x5 + 5)), some (vi x_309), some (vi x_314), none]) (st2 := []) rfl ?_
            exact R_drop k (LE_of (L := [some (vr (some a0)), some (vr (some a1)), some (vr (some a2)), some (vr (some a3)), some (vr (some a4)), some (vi (x5 + 5)), none, none, none]) (L2 := [some (vr (some a0)), some (vr (some a1)), some (vr (some a2)), some (vr (some a3)), some (vr (some a4)), some (vi (x5 + 5)), some (vi x_309), some (vi x_314), none]) ⟨rfl, rfl, rfl, rfl, rfl, rfl, trivial⟩)
          · have k := k.2 c_322
            refine R_ps 1 (pc2 := 1056) (L2 := [some (vr (some a0)), some (vr (some a1)), some (vr (some a2)), some (vr (some a3)), some (vr (some a4)), some (vi x5), some (vi x_309), some (vi x_314), none]) (st2 := [vi 0]) rfl ?_
            exact R_zret rfl rfl (Or.inl rfl) ⟨_, rfl, k⟩
      · have k := k.2 c_318
        refine R_ps 1 (pc2 := 1039) (L2 := [some (vr (some a0)), some (vr (some a1)), some (vr (some a2)), some (vr (some a3)), some (vr (some a4)), some (vi x5), some (vi x_309), some (vi x_314), none]) (st2 := [vi 0]) rfl ?_
        exact R_zret rfl rfl (Or.inl rfl) ⟨_, rfl, k⟩
    replace k := k.2 c_6
    refine ⟨fun c_6 => ?_, fun c_6 => ?_⟩
    · have k := k.1 c_6
      show WP T N _ 1060 _ _ _ _
      refine R_ps 5 (pc2 := 1066) (L2 := [some (vr (some a0)), some (vr (some a1)), some (vr (some a2)), some (vr (some a3)), some (vr (some a4)), some (vi x5), none, none, none]) (st2 := [vi (x5 + 1), vr (some a0), vr (some a1)]) rfl ?_
      obtain ⟨t_326, k⟩ := k
      refine R_iald rfl (Or.inr t1) t_326 ?_
      refine R_ps 4 (pc2 := 1072) (L2 := [some (vr (some a0)), some (vr (some a1)), some (vr (some a2)), some (vr (some a3)), some (vr (some a4)), some (vi x5), none, none, none]) (st2 := [vi (x5 + 2), vr (some a0), vi (gi h a0 (Int32.toNatClampNeg (x5 + 1))), vr (some a1)]) rfl ?_
      obtain ⟨t_328, k⟩ := k
      refine R_iald rfl (Or.inr t1) t_328 ?_
      refine R_ps 1 (pc2 := 1074) (L2 := [some (vr (some a0)), some (vr (some a1)), some (vr (some a2)), some (vr (some a3)), some (vr (some a4)), some (vi x5), none, none, none]) (st2 := [vr (some a3), vi (gi h a0 (Int32.toNatClampNeg (x5 + 2))), vi (gi h a0 (Int32.toNatClampNeg (x5 + 1))), vr (some a1)]) rfl ?_
      refine R_cI (as := [vr (some a1), vi (gi h a0 (Int32.toNatClampNeg (x5 + 1))), vi (gi h a0 (Int32.toNatClampNeg (x5 + 2))), vr (some a3)]) rfl rfl ⟨Nat.le_of_ble_eq_true rfl, Nat.le_of_ble_eq_true rfl, rfl, (Or.inl rfl)⟩ rfl rfl k (fun x_331 h_330 k => ?_)
      refine R_ps 6 (pc2 := 1085) (L2 := [some (vr (some a0)), some (vr (some a1)), some (vr (some a2)), some (vr (some a3)), some (vr (some a4)), some (vi x5), some (vi x_331), none, none]) (st2 := [vi (x5 + 1), vr (some a0), vr (some a2)]) rfl ?_
      refine R_iald rfl (Or.inr t1) t_326 ?_
      refine R_ps 4 (pc2 := 1091) (L2 := [some (vr (some a0)), some (vr (some a1)), some (vr (some a2)), some (vr (some a3)), some (vr (some a4)), some (vi x5), some (vi x_331), none, none]) (st2 := [vi (x5 + 2), vr (some a0), vi (gi h_330 a0 (Int32.toNatClampNeg (x5 + 1))), vr (some a2)]) rfl ?_
      refine R_iald rfl (Or.inr t1) t_328 ?_
      refine R_cI (as := [vr (some a2), vi (gi h_330 a0 (Int32.toNatClampNeg (x5 + 1))), vi (gi h_330 a0 (Int32.toNatClampNeg (x5 + 2)))]) rfl rfl ⟨Nat.le_of_ble_eq_true rfl, Nat.le_of_ble_eq_true rfl, rfl, (Or.inr ⟨_, rfl, t3⟩)⟩ rfl rfl k (fun x_336 h_335 k => ?_)
      refine R_ps 2 (pc2 := 1098) (L2 := [some (vr (some a0)), some (vr (some a1)), some (vr (some a2)), some (vr (some a3)), some (vr (some a4)), some (vi x5), some (vi x_331), some (vi x_336), none]) (st2 := [vr (some a2)]) rfl ?_
      refine R_cI (as := [vr (some a2)]) rfl rfl ⟨Nat.le_of_ble_eq_true rfl, Nat.le_of_ble_eq_true rfl, rfl, (Or.inr ⟨_, rfl, t3⟩)⟩ rfl rfl k (fun x_339 h_338 k => ?_)
      refine R_ps 1 (pc2 := 1103) (L2 := [some (vr (some a0)), some (vr (some a1)), some (vr (some a2)), some (vr (some a3)), some (vr (some a4)), some (vi x5), some (vi x_331), some (vi x_336), none]) (st2 := [vi x_331, vi x_339]) rfl ?_
      refine R_if rfl (fun c_340 => ?_) (fun c_340 => ?_)
      · have k := k.1 c_340
        refine R_ps 1 (pc2 := 1110) (L2 := [some (vr (some a0)), some (vr (some a1)), some (vr (some a2)), some (vr (some a3)), some (vr (some a4)), some (vi x5), some (vi x_331), some (vi x_336), none]) (st2 := [vi x_331]) rfl ?_
        refine R_if0 rfl (fun c_341 => ?_) (fun c_341 => ?_)
        · have k := k.2 c_341
          refine R_ps 3 (pc2 := 28) (L2 := [some (vr (some a0)), some (vr (some a1)), some (vr (some a2)), some (vr (some a3)), some (vr (some a4)), some (vi (x5 + 5)), some (vi x_331), some (vi x_336), none]) (st2 := []) rfl ?_
          exact R_drop k (LE_of (L := [some (vr (some a0)), some (vr (some a1)), some (vr (some a2)), some (vr (some a3)), some (vr (some a4)), some (vi (x5 + 5)), none, none, none]) (L2 := [some (vr (some a0)), some (vr (some a1)), some (vr (some a2)), some (vr (some a3)), some (vr (some a4)), some (vi (x5 + 5)), some (vi x_331), some (vi x_336), none]) ⟨rfl, rfl, rfl, rfl, rfl, rfl, trivial⟩)
        · have k := k.1 (Classical.not_not.mp c_341)
          refine R_ps 2 (pc2 := 1115) (L2 := [some (vr (some a0)), some (vr (some a1)), some (vr (some a2)), some (vr (some a3)), some (vr (some a4)), some (vi x5), some (vi x_331), some (vi x_336), none]) (st2 := [vi 0, vr (some a3)]) rfl ?_
          obtain ⟨t_343, k⟩ := k
          refine R_lald rfl t4 t_343 ?_
          refine R_ps 3 (pc2 := 1120) (L2 := [some (vr (some a0)), some (vr (some a1)), some (vr (some a2)), some (vr (some a3)), some (vr (some a4)), some (vi x5), some (vi x_331), some (vi x_336), none]) (st2 := [vi (lg_cmp (gl h_338 a3 0) x_336.toInt64)]) rfl ?_
          refine R_if0 rfl (fun c_344 => ?_) (fun c_344 => ?_)
          · have k := k.1 c_344
            refine R_ps 3 (pc2 := 28) (L2 := [some (vr (some a0)), some (vr (some a1)), some (vr (some a2)), some (vr (some a3)), some (vr (some a4)), some (vi (x5 + 5)), some (vi x_331), some (vi x_336), none]) (st2 := []) rfl ?_
            exact R_drop k (LE_of (L := [some (vr (some a0)), some (vr (some a1)), some (vr (some a2)), some (vr (some a3)), some (vr (some a4)), some (vi (x5 + 5)), none, none, none]) (L2 := [some (vr (some a0)), some (vr (some a1)), some (vr (some a2)), some (vr (some a3)), some (vr (some a4)), some (vi (x5 + 5)), some (vi x_331), some (vi x_336), none]) ⟨rfl, rfl, rfl, rfl, rfl, rfl, trivial⟩)
          · have k := k.2 c_344
            refine R_ps 1 (pc2 := 1124) (L2 := [some (vr (some a0)), some (vr (some a1)), some (vr (some a2)), some (vr (some a3)), some (vr (some a4)), some (vi x5), some (vi x_331), some (vi x_336), none]) (st2 := [vi 0]) rfl ?_
            exact R_zret rfl rfl (Or.inl rfl) ⟨_, rfl, k⟩
      · have k := k.2 c_340
        refine R_ps 1 (pc2 := 1107) (L2 := [some (vr (some a0)), some (vr (some a1)), some (vr (some a2)), some (vr (some a3)), some (vr (some a4)), some (vi x5), some (vi x_331), some (vi x_336), none]) (st2 := [vi 0]) rfl ?_
        exact R_zret rfl rfl (Or.inl rfl) ⟨_, rfl, k⟩
    replace k := k.2 c_6
    refine ⟨fun c_6 => ?_, fun c_6 => ?_⟩
    · have k := k.1 c_6
      show WP T N _ 1128 _ _ _ _
      refine R_ps 5 (pc2 := 1134) (L2 := [some (vr (some a0)), some (vr (some a1)), some (vr (some a2)), some (vr (some a3)), some (vr (some a4)), some (vi x5), none, none, none]) (st2 := [vi (x5 + 1), vr (some a0), vr (some a1)]) rfl ?_
      obtain ⟨t_348, k⟩ := k
      refine R_iald rfl (Or.inr t1) t_348 ?_
      refine R_ps 4 (pc2 := 1140) (L2 := [some (vr (some a0)), some (vr (some a1)), some (vr (some a2)), some (vr (some a3)), some (vr (some a4)), some (vi x5), none, none, none]) (st2 := [vi (x5 + 2), vr (some a0), vi (gi h a0 (Int32.toNatClampNeg (x5 + 1))), vr (some a1)]) rfl ?_
      obtain ⟨t_350, k⟩ := k
      refine R_iald rfl (Or.inr t1) t_350 ?_
      refine R_ps 1 (pc2 := 1142) (L2 := [some (vr (some a0)), some (vr (some a1)), some (vr (some a2)), some (vr (some a3)), some (vr (some a4)), some (vi x5), none, none, none]) (st2 := [vr (some a3), vi (gi h a0 (Int32.toNatClampNeg (x5 + 2))), vi (gi h a0 (Int32.toNatClampNeg (x5 + 1))), vr (some a1)]) rfl ?_
      refine R_cI (as := [vr (some a1), vi (gi h a0 (Int32.toNatClampNeg (x5 + 1))), vi (gi h a0 (Int32.toNatClampNeg (x5 + 2))), vr (some a3)]) rfl rfl ⟨Nat.le_of_ble_eq_true rfl, Nat.le_of_ble_eq_true rfl, rfl, (Or.inl rfl)⟩ rfl rfl k (fun x_353 h_352 k => ?_)
      refine R_ps 6 (pc2 := 1153) (L2 := [some (vr (some a0)), some (vr (some a1)), some (vr (some a2)), some (vr (some a3)), some (vr (some a4)), some (vi x5), some (vi x_353), none, none]) (st2 := [vi (x5 + 1), vr (some a0), vr (some a2)]) rfl ?_
      refine R_iald rfl (Or.inr t1) t_348 ?_
      refine R_ps 4 (pc2 := 1159) (L2 := [some (vr (some a0)), some (vr (some a1)), some (vr (some a2)), some (vr (some a3)), some (vr (some a4)), some (vi x5), some (vi x_353), none, none]) (st2 := [vi (x5 + 2), vr (some a0), vi (gi h_352 a0 (Int32.toNatClampNeg (x5 + 1))), vr (some a2)]) rfl ?_
      refine R_iald rfl (Or.inr t1) t_350 ?_
      refine R_cI (as := [vr (some a2), vi (gi h_352 a0 (Int32.toNatClampNeg (x5 + 1))), vi (gi h_352 a0 (Int32.toNatClampNeg (x5 + 2)))]) rfl rfl ⟨Nat.le_of_ble_eq_true rfl, Nat.le_of_ble_eq_true rfl, rfl, (Or.inr ⟨_, rfl, t3⟩)⟩ rfl rfl k (fun x_358 h_357 k => ?_)
      refine R_ps 2 (pc2 := 1166) (L2 := [some (vr (some a0)), some (vr (some a1)), some (vr (some a2)), some (vr (some a3)), some (vr (some a4)), some (vi x5), some (vi x_353), some (vi x_358), none]) (st2 := [vr (some a2)]) rfl ?_
      refine R_cI (as := [vr (some a2)]) rfl rfl ⟨Nat.le_of_ble_eq_true rfl, Nat.le_of_ble_eq_true rfl, rfl, (Or.inr ⟨_, rfl, t3⟩)⟩ rfl rfl k (fun x_361 h_360 k => ?_)
      refine R_ps 1 (pc2 := 1171) (L2 := [some (vr (some a0)), some (vr (some a1)), some (vr (some a2)), some (vr (some a3)), some (vr (some a4)), some (vi x5), some (vi x_353), some (vi x_358), none]) (st2 := [vi x_353, vi x_361]) rfl ?_
      refine R_if rfl (fun c_362 => ?_) (fun c_362 => ?_)
      · have k := k.1 c_362
        refine R_ps 1 (pc2 := 1178) (L2 := [some (vr (some a0)), some (vr (some a1)), some (vr (some a2)), some (vr (some a3)), some (vr (some a4)), some (vi x5), some (vi x_353), some (vi x_358), none]) (st2 := [vi x_353]) rfl ?_
        refine R_if0 rfl (fun c_363 => ?_) (fun c_363 => ?_)
        · have k := k.2 c_363
          refine R_ps 3 (pc2 := 28) (L2 := [some (vr (some a0)), some (vr (some a1)), some (vr (some a2)), some (vr (some a3)), some (vr (some a4)), some (vi (x5 + 5)), some (vi x_353), some (vi x_358), none]) (st2 := []) rfl ?_
          exact R_drop k (LE_of (L := [some (vr (some a0)), some (vr (some a1)), some (vr (some a2)), some (vr (some a3)), some (vr (some a4)), some (vi (x5 + 5)), none, none, none]) (L2 := [some (vr (some a0)), some (vr (some a1)), some (vr (some a2)), some (vr (some a3)), some (vr (some a4)), some (vi (x5 + 5)), some (vi x_353), some (vi x_358), none]) ⟨rfl, rfl, rfl, rfl, rfl, rfl, trivial⟩)
        · have k := k.1 (Classical.not_not.mp c_363)
          refine R_ps 2 (pc2 := 1183) (L2 := [some (vr (some a0)), some (vr (some a1)), some (vr (some a2)), some (vr (some a3)), some (vr (some a4)), some (vi x5), some (vi x_353), some (vi x_358), none]) (st2 := [vi 0, vr (some a3)]) rfl ?_
          obtain ⟨t_365, k⟩ := k
          refine R_lald rfl t4 t_365 ?_
          refine R_ps 3 (pc2 := 1188) (L2 := [some (vr (some a0)), some (vr (some a1)), some (vr (some a2)), some (vr (some a3)), some (vr (some a4)), some (vi x5), some (vi x_353), some (vi x_358), none]) (st2 := [vi (lg_cmp (gl h_360 a3 0) x_358.toInt64)]) rfl ?_
          refine R_if0 rfl (fun c_366 => ?_) (fun c_366 => ?_)
          · have k := k.1 c_366
            refine R_ps 3 (pc2 := 28) (L2 := [some (vr (some a0)), some (vr (some a1)), some (vr (some a2)), some (vr (some a3)), some (vr (some a4)), some (vi (x5 + 5)), some (vi x_353), some (vi x_358), none]) (st2 := []) rfl ?_
            exact R_drop k (LE_of (L := [some (vr (some a0)), some (vr (some a1)), some (vr (some a2)), some (vr (some a3)), some (vr (some a4)), some (vi (x5 + 5)), none, none, none]) (L2 := [some (vr (some a0)), some (vr (some a1)), some (vr (some a2)), some (vr (some a3)), some (vr (some a4)), some (vi (x5 + 5)), some (vi x_353), some (vi x_358), none]) ⟨rfl, rfl, rfl, rfl, rfl, rfl, trivial⟩)
          · have k := k.2 c_366
            refine R_ps 1 (pc2 := 1192) (L2 := [some (vr (some a0)), some (vr (some a1)), some (vr (some a2)), some (vr (some a3)), some (vr (some a4)), some (vi x5), some (vi x_353), some (vi x_358), none]) (st2 := [vi 0]) rfl ?_
            exact R_zret rfl rfl (Or.inl rfl) ⟨_, rfl, k⟩
      · have k := k.2 c_362
        refine R_ps 1 (pc2 := 1175) (L2 := [some (vr (some a0)), some (vr (some a1)), some (vr (some a2)), some (vr (some a3)), some (vr (some a4)), some (vi x5), some (vi x_353), some (vi x_358), none]) (st2 := [vi 0]) rfl ?_
        exact R_zret rfl rfl (Or.inl rfl) ⟨_, rfl, k⟩
    replace k := k.2 c_6
    refine ⟨fun c_6 => ?_, fun c_6 => ?_⟩
    · have k := k.1 c_6
      show WP T N _ 1196 _ _ _ _
      refine R_ps 5 (pc2 := 1202) (L2 := [some (vr (some a0)), some (vr (some a1)), some (vr (some a2)), some (vr (some a3)), some (vr (some a4)), some (vi x5), none, none, none]) (st2 := [vi (x5 + 1), vr (some a0), vr (some a1)]) rfl ?_
      obtain ⟨t_370, k⟩ := k
      refine R_iald rfl (Or.inr t1) t_370 ?_
      refine R_ps 4 (pc2 := 1208) (L2 := [some (vr (some a0)), some (vr (some a1)), some (vr (some a2)), some (vr (some a3)), some (vr (some a4)), some (vi x5), none, none, none]) (st2 := [vi (x5 + 2), vr (some a0), vi (gi h a0 (Int32.toNatClampNeg (x5 + 1))), vr (some a1)]) rfl ?_
      obtain ⟨t_372, k⟩ := k
      refine R_iald rfl (Or.inr t1) t_372 ?_
      refine R_ps 1 (pc2 := 1210) (L2 := [some (vr (some a0)), some (vr (some a1)), some (vr (some a2)), some (vr (some a3)), some (vr (some a4)), some (vi x5), none, none, none]) (st2 := [vr (some a3), vi (gi h a0 (Int32.toNatClampNeg (x5 + 2))), vi (gi h a0 (Int32.toNatClampNeg (x5 + 1))), vr (some a1)]) rfl ?_
      refine R_cI (as := [vr (some a1), vi (gi h a0 (Int32.toNatClampNeg (x5 + 1))), vi (gi h a0 (Int32.toNatClampNeg (x5 + 2))), vr (some a3)]) rfl rfl ⟨Nat.le_of_ble_eq_true rfl, Nat.le_of_ble_eq_true rfl, rfl, (Or.inl rfl)⟩ rfl rfl k (fun x_375 h_374 k => ?_)
      refine R_ps 6 (pc2 := 1221) (L2 := [some (vr (some a0)), some (vr (some a1)), some (vr (some a2)), some (vr (some a3)), some (vr (some a4)), some (vi x5), some (vi x_375), none, none]) (st2 := [vi (x5 + 1), vr (some a0), vr (some a2)]) rfl ?_
      refine R_iald rfl (Or.inr t1) t_370 ?_
      refine R_ps 4 (pc2 := 1227) (L2 := [some (vr (some a0)), some (vr (some a1)), some (vr (some a2)), some (vr (some a3)), some (vr (some a4)), some (vi x5), some (vi x_375), none, none]) (st2 := [vi (x5 + 2), vr (some a0), vi (gi h_374 a0 (Int32.toNatClampNeg (x5 + 1))), vr (some a2)]) rfl ?_
      refine R_iald rfl (Or.inr t1) t_372 ?_
      refine R_cI (as := [vr (some a2), vi (gi h_374 a0 (Int32.toNatClampNeg (x5 + 1))), vi (gi h_374 a0 (Int32.toNatClampNeg (x5 + 2)))]) rfl rfl ⟨Nat.le_of_ble_eq_true rfl, Nat.le_of_ble_eq_true rfl, rfl, (Or.inr ⟨_, rfl, t3⟩)⟩ rfl rfl k (fun x_380 h_379 k => ?_)
      refine R_ps 2 (pc2 := 1234) (L2 := [some (vr (some a0)), some (vr (some a1)), some (vr (some a2)), some (vr (some a3)), some (vr (some a4)), some (vi x5), some (vi x_375), some (vi x_380), none]) (st2 := [vr (some a2)]) rfl ?_
      refine R_cI (as := [vr (some a2)]) rfl rfl ⟨Nat.le_of_ble_eq_true rfl, Nat.le_of_ble_eq_true rfl, rfl, (Or.inr ⟨_, rfl, t3⟩)⟩ rfl rfl k (fun x_383 h_382 k => ?_)
      refine R_ps 1 (pc2 := 1239) (L2 := [some (vr (some a0)), some (vr (some a1)), some (vr (some a2)), some (vr (some a3)), some (vr (some a4)), some (vi x5), some (vi x_375), some (vi x_380), none]) (st2 := [vi x_375, vi x_383]) rfl ?_
      refine R_if rfl (fun c_384 => ?_) (fun c_384 => ?_)
      · have k := k.1 c_384
        refine R_ps 1 (pc2 := 1246) (L2 := [some (vr (some a0)), some (vr (some a1)), some (vr (some a2)), some (vr (some a3)), some (vr (some a4)), some (vi x5), some (vi x_375), some (vi x_380), none]) (st2 := [vi x_375]) rfl ?_
        refine R_if0 rfl (fun c_385 => ?_) (fun c_385 => ?_)
        · have k := k.2 c_385
          refine R_ps 3 (pc2 := 28) (L2 := [some (vr (some a0)), some (vr (some a1)), some (vr (some a2)), some (vr (some a3)), some (vr (some a4)), some (vi (x5 + 5)), some (vi x_375), some (vi x_380), none]) (st2 := []) rfl ?_
          exact R_drop k (LE_of (L := [some (vr (some a0)), some (vr (some a1)), some (vr (some a2)), some (vr (some a3)), some (vr (some a4)), some (vi (x5 + 5)), none, none, none]) (L2 := [some (vr (some a0)), some (vr (some a1)), some (vr (some a2)), some (vr (some a3)), some (vr (some a4)), some (vi (x5 + 5)), some (vi x_375), some (vi x_380), none]) ⟨rfl, rfl, rfl, rfl, rfl, rfl, trivial⟩)
        · have k := k.1 (Classical.not_not.mp c_385)
          refine R_ps 2 (pc2 := 1251) (L2 := [some (vr (some a0)), some (vr (some a1)), some (vr (some a2)), some (vr (some a3)), some (vr (some a4)), some (vi x5), some (vi x_375), some (vi x_380), none]) (st2 := [vi 0, vr (some a3)]) rfl ?_
          obtain ⟨t_387, k⟩ := k
          refine R_lald rfl t4 t_387 ?_
          refine R_ps 3 (pc2 := 1256) (L2 := [some (vr (some a0)), some (vr (some a1)), some (vr (some a2)), some (vr (some a3)), some (vr (some a4)), some (vi x5), some (vi x_375), some (vi x_380), none]) (st2 := [vi (lg_cmp (gl h_382 a3 0) x_380.toInt64)]) rfl ?_
          refine R_if0 rfl (fun c_388 => ?_) (fun c_388 => ?_)
          · have k := k.1 c_388
            refine R_ps 3 (pc2 := 28) (L2 := [some (vr (some a0)), some (vr (some a1)), some (vr (some a2)), some (vr (some a3)), some (vr (some a4)), some (vi (x5 + 5)), some (vi x_375), some (vi x_380), none]) (st2 := []) rfl ?_
            exact R_drop k (LE_of (L := [some (vr (some a0)), some (vr (some a1)), some (vr (some a2)), some (vr (some a3)), some (vr (some a4)), some (vi (x5 + 5)), none, none, none]) (L2 := [some (vr (some a0)), some (vr (some a1)), some (vr (some a2)), some (vr (some a3)), some (vr (some a4)), some (vi (x5 + 5)), some (vi x_375), some (vi x_380), none]) ⟨rfl, rfl, rfl, rfl, rfl, rfl, trivial⟩)
          · have k := k.2 c_388
            refine R_ps 1 (pc2 := 1260) (L2 := [some (vr (some a0)), some (vr (some a1)), some (vr (some a2)), some (vr (some a3)), some (vr (some a4)), some (vi x5), some (vi x_375), some (vi x_380), none]) (st2 := [vi 0]) rfl ?_
            exact R_zret rfl rfl (Or.inl rfl) ⟨_, rfl, k⟩
      · have k := k.2 c_384
        refine R_ps 1 (pc2 := 1243) (L2 := [some (vr (some a0)), some (vr (some a1)), some (vr (some a2)), some (vr (some a3)), some (vr (some a4)), some (vi x5), some (vi x_375), some (vi x_380), none]) (st2 := [vi 0]) rfl ?_
        exact R_zret rfl rfl (Or.inl rfl) ⟨_, rfl, k⟩
    replace k := k.2 c_6
    refine ⟨fun c_6 => ?_, fun c_6 => ?_⟩
    · have k := k.1 c_6
      show WP T N _ 1264 _ _ _ _
      refine R_ps 5 (pc2 := 1270) (L2 := [some (vr (some a0)), some (vr (some a1)), some (vr (some a2)), some (vr (some a3)), some (vr (some a4)), some (vi x5), none, none, none]) (st2 := [vi (x5 + 1), vr (some a0), vr (some a1)]) rfl ?_
      obtain ⟨t_392, k⟩ := k
      refine R_iald rfl (Or.inr t1) t_392 ?_
      refine R_ps 4 (pc2 := 1276) (L2 := [some (vr (some a0)), some (vr (some a1)), some (vr (some a2)), some (vr (some a3)), some (vr (some a4)), some (vi x5), none, none, none]) (st2 := [vi (x5 + 2), vr (some a0), vi (gi h a0 (Int32.toNatClampNeg (x5 + 1))), vr (some a1)]) rfl ?_
      obtain ⟨t_394, k⟩ := k
      refine R_iald rfl (Or.inr t1) t_394 ?_
      refine R_ps 1 (pc2 := 1278) (L2 := [some (vr (some a0)), some (vr (some a1)), some (vr (some a2)), some (vr (some a3)), some (vr (some a4)), some (vi x5), none, none, none]) (st2 := [vr (some a3), vi (gi h a0 (Int32.toNatClampNeg (x5 + 2))), vi (gi h a0 (Int32.toNatClampNeg (x5 + 1))), vr (some a1)]) rfl ?_
      refine R_cI (as := [vr (some a1), vi (gi h a0 (Int32.toNatClampNeg (x5 + 1))), vi (gi h a0 (Int32.toNatClampNeg (x5 + 2))), vr (some a3)]) rfl rfl ⟨Nat.le_of_ble_eq_true rfl, Nat.le_of_ble_eq_true rfl, rfl, (Or.inl rfl)⟩ rfl rfl k (fun x_397 h_396 k => ?_)
      refine R_ps 6 (pc2 := 1289) (L2 := [some (vr (some a0)), some (vr (some a1)), some (vr (some a2)), some (vr (some a3)), some (vr (some a4)), some (vi x5), some (vi x_397), none, none]) (st2 := [vi (x5 + 1), vr (some a0), vr (some a2)]) rfl ?_
      refine R_iald rfl (Or.inr t1) t_392 ?_
      refine R_ps 4 (pc2 := 1295) (L2 := [some (vr (some a0)), some (vr (some a1)), some (vr (some a2)), some (vr (some a3)), some (vr (some a4)), some (vi x5), some (vi x_397), none, none]) (st2 := [vi (x5 + 2), vr (some a0), vi (gi h_396 a0 (Int32.toNatClampNeg (x5 + 1))), vr (some a2)]) rfl ?_
      refine R_iald rfl (Or.inr t1) t_394 ?_
      refine R_cI (as := [vr (some a2), vi (gi h_396 a0 (Int32.toNatClampNeg (x5 + 1))), vi (gi h_396 a0 (Int32.toNatClampNeg (x5 + 2)))]) rfl rfl ⟨Nat.le_of_ble_eq_true rfl, Nat.le_of_ble_eq_true rfl, rfl, (Or.inr ⟨_, rfl, t3⟩)⟩ rfl rfl k (fun x_402 h_401 k => ?_)
      refine R_ps 2 (pc2 := 1302) (L2 := [some (vr (some a0)), some (vr (some a1)), some (vr (some a2)), some (vr (some a3)), some (vr (some a4)), some (vi x5), some (vi x_397), some (vi x_402), none]) (st2 := [vr (some a2)]) rfl ?_
      refine R_cI (as := [vr (some a2)]) rfl rfl ⟨Nat.le_of_ble_eq_true rfl, Nat.le_of_ble_eq_true rfl, rfl, (Or.inr ⟨_, rfl, t3⟩)⟩ rfl rfl k (fun x_405 h_404 k => ?_)
      refine R_ps 1 (pc2 := 1307) (L2 := [some (vr (some a0)), some (vr (some a1)), some (vr (some a2)), some (vr (some a3)), some (vr (some a4)), some (vi x5), some (vi x_397), some (vi x_402), none]) (st2 := [vi x_397, vi x_405]) rfl ?_
      refine R_if rfl (fun c_406 => ?_) (fun c_406 => ?_)
      · have k := k.1 c_406
        refine R_ps 1 (pc2 := 1314) (L2 := [some (vr (some a0)), some (vr (some a1)), some (vr (some a2)), some (vr (some a3)), some (vr (some a4)), some (vi x5), some (vi x_397), some (vi x_402), none]) (st2 := [vi x_397]) rfl ?_
        refine R_if0 rfl (fun c_407 => ?_) (fun c_407 => ?_)
        · have k := k.2 c_407
          refine R_ps 3 (pc2 := 28) (L2 := [some (vr (some a0)), some (vr (some a1)), some (vr (some a2)), some (vr (some a3)), some (vr (some a4)), some (vi (x5 + 5)), some (vi x_397), some (vi x_402), none]) (st2 := []) rfl ?_
          exact R_drop k (LE_of (L := [some (vr (some a0)), some (vr (some a1)), some (vr (some a2)), some (vr (some a3)), some (vr (some a4)), some (vi (x5 + 5)), none, none, none]) (L2 := [some (vr (some a0)), some (vr (some a1)), some (vr (some a2)), some (vr (some a3)), some (vr (some a4)), some (vi (x5 + 5)), some (vi x_397), some (vi x_402), none]) ⟨rfl, rfl, rfl, rfl, rfl, rfl, trivial⟩)
        · have k := k.1 (Classical.not_not.mp c_407)
          refine R_ps 2 (pc2 := 1319) (L2 := [some (vr (some a0)), some (vr (some a1)), some (vr (some a2)), some (vr (some a3)), some (vr (some a4)), some (vi x5), some (vi x_397), some (vi x_402), none]) (st2 := [vi 0, vr (some a3)]) rfl ?_
          obtain ⟨t_409, k⟩ := k
          refine R_lald rfl t4 t_409 ?_
          refine R_ps 3 (pc2 := 1324) (L2 := [some (vr (some a0)), some (vr (some a1)), some (vr (some a2)), some (vr (some a3)), some (vr (some a4)), some (vi x5), some (vi x_397), some (vi x_402), none]) (st2 := [vi (lg_cmp (gl h_404 a3 0) x_402.toInt64)]) rfl ?_
          refine R_if0 rfl (fun c_410 => ?_) (fun c_410 => ?_)
          · have k := k.1 c_410
            refine R_ps 3 (pc2 := 28) (L2 := [some (vr (some a0)), some (vr (some a1)), some (vr (some a2)), some (vr (some a3)), some (vr (some a4)), some (vi (x5 + 5)), some (vi x_397), some (vi x_402), none]) (st2 := []) rfl ?_
            exact R_drop k (LE_of (L := [some (vr (some a0)), some (vr (some a1)), some (vr (some a2)), some (vr (some a3)), some (vr (some a4)), some (vi (x5 + 5)), none, none, none]) (L2 := [some (vr (some a0)), some (vr (some a1)), some (vr (some a2)), some (vr (some a3)), some (vr (some a4)), some (vi (x5 + 5)), some (vi x_397), some (vi x_402), none]) ⟨rfl, rfl, rfl, rfl, rfl, rfl, trivial⟩)
          · have k := k.2 c_410
            refine R_ps 1 (pc2 := 1328) (L2 := [some (vr (some a0)), some (vr (some a1)), some (vr (some a2)), some (vr (some a3)), some (vr (some a4)), some (vi x5), some (vi x_397), some (vi x_402), none]) (st2 := [vi 0]) rfl ?_
            exact R_zret rfl rfl (Or.inl rfl) ⟨_, rfl, k⟩
      · have k := k.2 c_406
        refine R_ps 1 (pc2 := 1311) (L2 := [some (vr (some a0)), some (vr (some a1)), some (vr (some a2)), some (vr (some a3)), some (vr (some a4)), some (vi x5), some (vi x_397), some (vi x_402), none]) (st2 := [vi 0]) rfl ?_
        exact R_zret rfl rfl (Or.inl rfl) ⟨_, rfl, k⟩
    replace k := k.2 c_6
    refine ⟨fun c_6 => ?_, fun c_6 => ?_⟩
    · have k := k.1 c_6
      show WP T N _ 1332 _ _ _ _
      refine R_ps 5 (pc2 := 1338) (L2 := [some (vr (some a0)), some (vr (some a1)), some (vr (some a2)), some (vr (some a3)), some (vr (some a4)), some (vi x5), none, none, none]) (st2 := [vi (x5 + 1), vr (some a0), vr (some a1)]) rfl ?_
      obtain ⟨t_414, k⟩ := k
      refine R_iald rfl (Or.inr t1) t_414 ?_
      refine R_ps 4 (pc2 := 1344) (L2 := [some (vr (some a0)), some (vr (some a1)), some (vr (some a2)), some (vr (some a3)), some (vr (some a4)), some (vi x5), none, none, none]) (st2 := [vi (x5 + 2), vr (some a0), vi (gi h a0 (Int32.toNatClampNeg (x5 + 1))), vr (some a1)]) rfl ?_
      obtain ⟨t_416, k⟩ := k
      refine R_iald rfl (Or.inr t1) t_416 ?_
      refine R_ps 4 (pc2 := 1350) (L2 := [some (vr (some a0)), some (vr (some a1)), some (vr (some a2)), some (vr (some a3)), some (vr (some a4)), some (vi x5), none, none, none]) (st2 := [vi (x5 + 3), vr (some a0), vi (gi h a0 (Int32.toNatClampNeg (x5 + 2))), vi (gi h a0 (Int32.toNatClampNeg (x5 + 1))), vr (some a1)]) rfl ?_
      obtain ⟨t_418, k⟩ := k
      refine R_iald rfl (Or.inr t1) t_418 ?_
      refine R_ps 1 (pc2 := 1352) (L2 := [some (vr (some a0)), some (vr (some a1)), some (vr (some a2)), some (vr (some a3)), some (vr (some a4)), some (vi x5), none, none, none]) (st2 := [vr (some a3), vi (gi h a0 (Int32.toNatClampNeg (x5 + 3))), vi (gi h a0 (Int32.toNatClampNeg (x5 + 2))), vi (gi h a0 (Int32.toNatClampNeg (x5 + 1))), vr (some a1)]) rfl ?_
      refine R_cI (as := [vr (some a1), vi (gi h a0 (Int32.toNatClampNeg (x5 + 1))), vi (gi h a0 (Int32.toNatClampNeg (x5 + 2))), vi (gi h a0 (Int32.toNatClampNeg (x5 + 3))), vr (some a3)]) rfl rfl ⟨Nat.le_of_ble_eq_true rfl, Nat.le_of_ble_eq_true rfl, rfl, (Or.inl rfl)⟩ rfl rfl k (fun x_421 h_420 k => ?_)
      refine R_ps 6 (pc2 := 1363) (L2 := [some (vr (some a0)), some (vr (some a1)), some (vr (some a2)), some (vr (some a3)), some (vr (some a4)), some (vi x5), some (vi x_421), none, none]) (st2 := [vi (x5 + 1), vr (some a0), vr (some a2)]) rfl ?_
      refine R_iald rfl (Or.inr t1) t_414 ?_
      refine R_ps 4 (pc2 := 1369) (L2 := [some (vr (some a0)), some (vr (some a1)), some (vr (some a2)), some (vr (some a3)), some (vr (some a4)), some (vi x5), some (vi x_421), none, none]) (st2 := [vi (x5 + 2), vr (some a0), vi (gi h_420 a0 (Int32.toNatClampNeg (x5 + 1))), vr (some a2)]) rfl ?_
      refine R_iald rfl (Or.inr t1) t_416 ?_
      refine R_ps 4 (pc2 := 1375) (L2 := [some (vr (some a0)), some (vr (some a1)), some (vr (some a2)), some (vr (some a3)), some (vr (some a4)), some (vi x5), some (vi x_421), none, none]) (st2 := [vi (x5 + 3), vr (some a0), vi (gi h_420 a0 (Int32.toNatClampNeg (x5 + 2))), vi (gi h_420 a0 (Int32.toNatClampNeg (x5 + 1))), vr (some a2)]) rfl ?_
      refine R_iald rfl (Or.inr t1) t_418 ?_
      refine R_cI (as := [vr (some a2), vi (gi h_420 a0 (Int32.toNatClampNeg (x5 + 1))), vi (gi h_420 a0 (Int32.toNatClampNeg (x5 + 2))), vi (gi h_420 a0 (Int32.toNatClampNeg (x5 + 3)))]) rfl rfl ⟨Nat.le_of_ble_eq_true rfl, Nat.le_of_ble_eq_true rfl, rfl, (Or.inr ⟨_, rfl, t3⟩)⟩ rfl rfl k (fun x_427 h_426 k => ?_)
      refine R_ps 2 (pc2 := 1382) (L2 := [some (vr (some a0)), some (vr (some a1)), some (vr (some a2)), some (vr (some a3)), some (vr (some a4)), some (vi x5), some (vi x_421), some (vi x_427), none]) (st2 := [vr (some a2)]) rfl ?_
      refine R_cI (as := [vr (some a2)]) rfl rfl ⟨Nat.le_of_ble_eq_true rfl, Nat.le_of_ble_eq_true rfl, rfl, (Or.inr ⟨_, rfl, t3⟩)⟩ rfl rfl k (fun x_430 h_429 k => ?_)
      refine R_ps 1 (pc2 := 1387) (L2 := [some (vr (some a0)), some (vr (some a1)), some (vr (some a2)), some (vr (some a3)), some (vr (some a4)), some (vi x5), some (vi x_421), some (vi x_427), none]) (st2 := [vi x_421, vi x_430]) rfl ?_
      refine R_if rfl (fun c_431 => ?_) (fun c_431 => ?_)
      · have k := k.1 c_431
        refine R_ps 1 (pc2 := 1394) (L2 := [some (vr (some a0)), some (vr (some a1)), some (vr (some a2)), some (vr (some a3)), some (vr (some a4)), some (vi x5), some (vi x_421), some (vi x_427), none]) (st2 := [vi x_421]) rfl ?_
        refine R_if0 rfl (fun c_432 => ?_) (fun c_432 => ?_)
        · have k := k.2 c_432
          refine R_ps 3 (pc2 := 28) (L2 := [some (vr (some a0)), some (vr (some a1)), some (vr (some a2)), some (vr (some a3)), some (vr (some a4)), some (vi (x5 + 5)), some (vi x_421), some (vi x_427), none]) (st2 := []) rfl ?_
          exact R_drop k (LE_of (L := [some (vr (some a0)), some (vr (some a1)), some (vr (some a2)), some (vr (some a3)), some (vr (some a4)), some (vi (x5 + 5)), none, none, none]) (L2 := [some (vr (some a0)), some (vr (some a1)), some (vr (some a2)), some (vr (some a3)), some (vr (some a4)), some (vi (x5 + 5)), some (vi x_421), some (vi x_427), none]) ⟨rfl, rfl, rfl, rfl, rfl, rfl, trivial⟩)
        · have k := k.1 (Classical.not_not.mp c_432)
          refine R_ps 2 (pc2 := 1399) (L2 := [some (vr (some a0)), some (vr (some a1)), some (vr (some a2)), some (vr (some a3)), some (vr (some a4)), some (vi x5), some (vi x_421), some (vi x_427), none]) (st2 := [vi 0, vr (some a3)]) rfl ?_
          obtain ⟨t_434, k⟩ := k
          refine R_lald rfl t4 t_434 ?_
          refine R_ps 3 (pc2 := 1404) (L2 := [some (vr (some a0)), some (vr (some a1)), some (vr (some a2)), some (vr (some a3)), some (vr (some a4)), some (vi x5), some (vi x_421), some (vi x_427), none]) (st2 := [vi (lg_cmp (gl h_429 a3 0) x_427.toInt64)]) rfl ?_
          refine R_if0 rfl (fun c_435 => ?_) (fun c_435 => ?_)
          · have k := k.1 c_435
            refine R_ps 3 (pc2 := 28) (L2 := [some (vr (some a0)), some (vr (some a1)), some (vr (some a2)), some (vr (some a3)), some (vr (some a4)), some (vi (x5 + 5)), some (vi x_421), some (vi x_427), none]) (st2 := []) rfl ?_
            exact R_drop k (LE_of (L := [some (vr (some a0)), some (vr (some a1)), some (vr (some a2)), some (vr (some a3)), some (vr (some a4)), some (vi (x5 + 5)), none, none, none]) (L2 := [some (vr (some a0)), some (vr (some a1)), some (vr (some a2)), some (vr (some a3)), some (vr (some a4)), some (vi (x5 + 5)), some (vi x_421), some (vi x_427), none]) ⟨rfl, rfl, rfl, rfl, rfl, rfl, trivial⟩)
          · have k := k.2 c_435
            refine R_ps 1 (pc2 := 1408) (L2 := [some (vr (some a0)), some (vr (some a1)), some (vr (some a2)), some (vr (some a3)), some (vr (some a4)), some (vi x5), some (vi x_421), some (vi x_427), none]) (st2 := [vi 0]) rfl ?_
            exact R_zret rfl rfl (Or.inl rfl) ⟨_, rfl, k⟩
      · have k := k.2 c_431
        refine R_ps 1 (pc2 := 1391) (L2 := [some (vr (some a0)), some (vr (some a1)), some (vr (some a2)), some (vr (some a3)), some (vr (some a4)), some (vi x5), some (vi x_421), some (vi x_427), none]) (st2 := [vi 0]) rfl ?_
        exact R_zret rfl rfl (Or.inl rfl) ⟨_, rfl, k⟩
    replace k := k.2 c_6
    refine ⟨fun c_6 => ?_, fun c_6 => ?_⟩
    · have k := k.1 c_6
      show WP T N _ 1412 _ _ _ _
      refine R_ps 5 (pc2 := 1418) (L2 := [some (vr (some a0)), some (vr (some a1)), some (vr (some a2)), some (vr (some a3)), some (vr (some a4)), some (vi x5), none, none, none]) (st2 := [vi (x5 + 1), vr (some a0), vr (some a1)]) rfl ?_
      obtain ⟨t_439, k⟩ := k
      refine R_iald rfl (Or.inr t1) t_439 ?_
      refine R_ps 1 (pc2 := 1420) (L2 := [some (vr (some a0)), some (vr (some a1)), some (vr (some a2)), some (vr (some a3)), some (vr (some a4)), some (vi x5), none, none, none]) (st2 := [vr (some a3), vi (gi h a0 (Int32.toNatClampNeg (x5 + 1))), vr (some a1)]) rfl ?_
      refine R_cI (as := [vr (some a1), vi (gi h a0 (Int32.toNatClampNeg (x5 + 1))), vr (some a3)]) rfl rfl ⟨Nat.le_of_ble_eq_true rfl, Nat.le_of_ble_eq_true rfl, rfl, (Or.inl rfl)⟩ rfl rfl k (fun x_442 h_441 k => ?_)
      refine R_ps 6 (pc2 := 1431) (L2 := [some (vr (some a0)), some (vr (some a1)), some (vr (some a2)), some (vr (some a3)), some (vr (some a4)), some (vi x5), some (vi x_442), none, none]) (st2 := [vi (x5 + 1), vr (some a0), vr (some a2)]) rfl ?_
      refine R_iald rfl (Or.inr t1) t_439 ?_
      refine R_cI (as := [vr (some a2), vi (gi h_441 a0 (Int32.toNatClampNeg (x5 + 1)))]) rfl rfl ⟨Nat.le_of_ble_eq_true rfl, Nat.le_of_ble_eq_true rfl, rfl, (Or.inr ⟨_, rfl, t3⟩)⟩ rfl rfl k (fun x_446 h_445 k => ?_)
      refine R_ps 2 (pc2 := 1438) (L2 := [some (vr (some a0)), some (vr (some a1)), some (vr (some a2)), some (vr (some a3)), some (vr (some a4)), some (vi x5), some (vi x_442), some (vi x_446), none]) (st2 := [vr (some a2)]) rfl ?_
      refine R_cI (as := [vr (some a2)]) rfl rfl ⟨Nat.le_of_ble_eq_true rfl, Nat.le_of_ble_eq_true rfl, rfl, (Or.inr ⟨_, rfl, t3⟩)⟩ rfl rfl k (fun x_449 h_448 k => ?_)
      refine R_ps 1 (pc2 := 1443) (L2 := [some (vr (some a0)), some (vr (some a1)), some (vr (some a2)), some (vr (some a3)), some (vr (some a4)), some (vi x5), some (vi x_442), some (vi x_446), none]) (st2 := [vi x_442, vi x_449]) rfl ?_
      refine R_if rfl (fun c_450 => ?_) (fun c_450 => ?_)
      · have k := k.1 c_450
        refine R_ps 1 (pc2 := 1450) (L2 := [some (vr (some a0)), some (vr (some a1)), some (vr (some a2)), some (vr (some a3)), some (vr (some a4)), some (vi x5), some (vi x_442), some (vi x_446), none]) (st2 := [vi x_442]) rfl ?_
        refine R_if0 rfl (fun c_451 => ?_) (fun c_451 => ?_)
        · have k := k.2 c_451
          refine R_ps 3 (pc2 := 28) (L2 := [some (vr (some a0)), some (vr (some a1)), some (vr (some a2)), some (vr (some a3)), some (vr (some a4)), some (vi (x5 + 5)), some (vi x_442), some (vi x_446), none]) (st2 := []) rfl ?_
          exact R_drop k (LE_of (L := [some (vr (some a0)), some (vr (some a1)), some (vr (some a2)), some (vr (some a3)), some (vr (some a4)), some (vi (x5 + 5)), none, none, none]) (L2 := [some (vr (some a0)), some (vr (some a1)), some (vr (some a2)), some (vr (some a3)), some (vr (some a4)), some (vi (x5 + 5)), some (vi x_442), some (vi x_446), none]) ⟨rfl, rfl, rfl, rfl, rfl, rfl, trivial⟩)
        · have k := k.1 (Classical.not_not.mp c_451)
          refine R_ps 2 (pc2 := 1455) (L2 := [some (vr (some a0)), some (vr (some a1)), some (vr (some a2)), some (vr (some a3)), some (vr (some a4)), some (vi x5), some (vi x_442), some (vi x_446), none]) (st2 := [vi 0, vr (some a3)]) rfl ?_
          obtain ⟨t_453, k⟩ := k
          refine R_lald rfl t4 t_453 ?_
          refine R_ps 3 (pc2 := 1460) (L2 := [some (vr (some a0)), some (vr (some a1)), some (vr (some a2)), some (vr (some a3)), some (vr (some a4)), some (vi x5), some (vi x_442), some (vi x_446), none]) (st2 := [vi (lg_cmp (gl h_448 a3 0) x_446.toInt64)]) rfl ?_
          refine R_if0 rfl (fun c_454 => ?_) (fun c_454 => ?_)
          · have k := k.1 c_454
            refine R_ps 3 (pc2 := 28) (L2 := [some (vr (some a0)), some (vr (some a1)), some (vr (some a2)), some (vr (some a3)), some (vr (some a4)), some (vi (x5 + 5)), some (vi x_442), some (vi x_446), none]) (st2 := []) rfl ?_
            exact R_drop k (LE_of (L := [some (vr (some a0)), some (vr (some a1)), some (vr (some a2)), some (vr (some a3)), some (vr (some a4)), some (vi (x5 + 5)), none, none, none]) (L2 := [some (vr (some a0)), some (vr (some a1)), some (vr (some a2)), some (vr (some a3)), some (vr (some a4)), some (vi (x5 + 5)), some (vi x_442), some (vi x_446), none]) ⟨rfl, rfl, rfl, rfl, rfl, rfl, trivial⟩)
          · have k := k.2 c_454
            refine R_ps 1 (pc2 := 1464) (L2 := [some (vr (some a0)), some (vr (some a1)), some (vr (some a2)), some (vr (some a3)), some (vr (some a4)), some (vi x5), some (vi x_442), some (vi x_446), none]) (st2 := [vi 0]) rfl ?_
            exact R_zret rfl rfl (Or.inl rfl) ⟨_, rfl, k⟩
      · have k := k.2 c_450
        refine R_ps 1 (pc2 := 1447) (L2 := [some (vr (some a0)), some (vr (some a1)), some (vr (some a2)), some (vr (some a3)), some (vr (some a4)), some (vi x5), some (vi x_442), some (vi x_446), none]) (st2 := [vi 0]) rfl ?_
        exact R_zret rfl rfl (Or.inl rfl) ⟨_, rfl, k⟩
    replace k := k.2 c_6
    refine ⟨fun c_6 => ?_, fun c_6 => ?_⟩
    · have k := k.1 c_6
      show WP T N _ 1468 _ _ _ _
      refine R_ps 5 (pc2 := 1474) (L2 := [some (vr (some a0)), some (vr (some a1)), some (vr (some a2)), some (vr (some a3)), some (vr (some a4)), some (vi x5), none, none, none]) (st2 := [vi (x5 + 1), vr (some a0), vr (some a1)]) rfl ?_
      obtain ⟨t_458, k⟩ := k
      refine R_iald rfl (Or.inr t1) t_458 ?_
      refine R_ps 4 (pc2 := 1480) (L2 := [some (vr (some a0)), some (vr (some a1)), some (vr (some a2)), some (vr (some a3)), some (vr (some a4)), some (vi x5), none, none, none]) (st2 := [vi (x5 + 2), vr (some a0), vi (gi h a0 (Int32.toNatClampNeg (x5 + 1))), vr (some a1)]) rfl ?_
      obtain ⟨t_460, k⟩ := k
      refine R_iald rfl (Or.inr t1) t_460 ?_
      refine R_ps 1 (pc2 := 1482) (L2 := [some (vr (some a0)), some (vr (some a1)), some (vr (some a2)), some (vr (some a3)), some (vr (some a4)), some (vi x5), none, none, none]) (st2 := [vr (some a3), vi (gi h a0 (Int32.toNatClampNeg (x5 + 2))), vi (gi h a0 (Int32.toNatClampNeg (x5 + 1))), vr (some a1)]) rfl ?_
      refine R_cI (as := [vr (some a1), vi (gi h a0 (Int32.toNatClampNeg (x5 + 1))), vi (gi h a0 (Int32.toNatClampNeg (x5 + 2))), vr (some a3)]) rfl rfl ⟨Nat.le_of_ble_eq_true rfl, Nat.le_of_ble_eq_true rfl, rfl, (Or.inl rfl)⟩ rfl rfl k (fun x_463 h_462 k => ?_)
      refine R_ps 6 (pc2 := 1493) (L2 := [some (vr (some a0)), some (vr (some a1)), some (vr (some a2)), some (vr (some a3)), some (vr (some a4)), some (vi x5), some (vi x_463), none, none]) (st2 := [vi (x5 + 1), vr (some a0), vr (some a2)]) rfl ?_
      refine R_iald rfl (Or.inr t1) t_458 ?_
      refine R_ps 4 (pc2 := 1499) (L2 := [some (vr (some a0)), some (vr (some a1)), some (vr (some a2)), some (vr (some a3)), some (vr (some a4)), some (vi x5), some (vi x_463), none, none]) (st2 := [vi (x5 + 2), vr (some a0), vi (gi h_462 a0 (Int32.toNatClampNeg (x5 + 1))), vr (some a2)]) rfl ?_
      refine R_iald rfl (Or.inr t1) t_460 ?_
      refine R_cI (as := [vr (some a2), vi (gi h_462 a0 (Int32.toNatClampNeg (x5 + 1))), vi (gi h_462 a0 (Int32.toNatClampNeg (x5 + 2)))]) rfl rfl ⟨Nat.le_of_ble_eq_true rfl, Nat.le_of_ble_eq_true rfl, rfl, (Or.inr ⟨_, rfl, t3⟩)⟩ rfl rfl k (fun x_468 h_467 k => ?_)
      refine R_ps 2 (pc2 := 1506) (L2 := [some (vr (some a0)), some (vr (some a1)), some (vr (some a2)), some (vr (some a3)), some (vr (some a4)), some (vi x5), some (vi x_463), some (vi x_468), none]) (st2 := [vr (some a2)]) rfl ?_
      refine R_cI (as := [vr (some a2)]) rfl rfl ⟨Nat.le_of_ble_eq_true rfl, Nat.le_of_ble_eq_true rfl, rfl, (Or.inr ⟨_, rfl, t3⟩)⟩ rfl rfl k (fun x_471 h_470 k => ?_)
      refine R_ps 1 (pc2 := 1511) (L2 := [some (vr (some a0)), some (vr (some a1)), some (vr (some a2)), some (vr (some a3)), some (vr (some a4)), some (vi x5), some (vi x_463), some (vi x_468), none]) (st2 := [vi x_463, vi x_471]) rfl ?_
      refine R_if rfl (fun c_472 => ?_) (fun c_472 => ?_)
      · have k := k.1 c_472
        refine R_ps 1 (pc2 := 1518) (L2 := [some (vr (some a0)), some (vr (some a1)), some (vr (some a2)), some (vr (some a3)), some (vr (some a4)), some (vi x5), some (vi x_463), some (vi x_468), none]) (st2 := [vi x_463]) rfl ?_
        refine R_if0 rfl (fun c_473 => ?_) (fun c_473 => ?_)
        · have k := k.2 c_473
          refine R_ps 3 (pc2 := 28) (L2 := [some (vr (some a0)), some (vr (some a1)), some (vr (some a2)), some (vr (some a3)), some (vr (some a4)), some (vi (x5 + 5)), some (vi x_463), some (vi x_468), none]) (st2 := []) rfl ?_
          exact R_drop k (LE_of (L := [some (vr (some a0)), some (vr (some a1)), some (vr (some a2)), some (vr (some a3)), some (vr (some a4)), some (vi (x5 + 5)), none, none, none]) (L2 := [some (vr (some a0)), some (vr (some a1)), some (vr (some a2)), some (vr (some a3)), some (vr (some a4)), some (vi (x5 + 5)), some (vi x_463), some (vi x_468), none]) ⟨rfl, rfl, rfl, rfl, rfl, rfl, trivial⟩)
        · have k := k.1 (Classical.not_not.mp c_473)
          refine R_ps 2 (pc2 := 1523) (L2 := [some (vr (some a0)), some (vr (some a1)), some (vr (some a2)), some (vr (some a3)), some (vr (some a4)), some (vi x5), some (vi x_463), some (vi x_468), none]) (st2 := [vi 0, vr (some a3)]) rfl ?_
          obtain ⟨t_475, k⟩ := k
          refine R_lald rfl t4 t_475 ?_
          refine R_ps 3 (pc2 := 1528) (L2 := [some (vr (some a0)), some (vr (some a1)), some (vr (some a2)), some (vr (some a3)), some (vr (some a4)), some (vi x5), some (vi x_463), some (vi x_468), none]) (st2 := [vi (lg_cmp (gl h_470 a3 0) x_468.toInt64)]) rfl ?_
          refine R_if0 rfl (fun c_476 => ?_) (fun c_476 => ?_)
          · have k := k.1 c_476
            refine R_ps 3 (pc2 := 28) (L2 := [some (vr (some a0)), some (vr (some a1)), some (vr (some a2)), some (vr (some a3)), some (vr (some a4)), some (vi (x5 + 5)), some (vi x_463), some (vi x_468), none]) (st2 := []) rfl ?_
            exact R_drop k (LE_of (L := [some (vr (some a0)), some (vr (some a1)), some (vr (some a2)), some (vr (some a3)), some (vr (some a4)), some (vi (x5 + 5)), none, none, none]) (L2 := [some (vr (some a0)), some (vr (some a1)), some (vr (some a2)), some (vr (some a3)), some (vr (some a4)), some (vi (x5 + 5)), some (vi x_463), some (vi x_468), none]) ⟨rfl, rfl, rfl, rfl, rfl, rfl, trivial⟩)
          · have k := k.2 c_476
            refine R_ps 1 (pc2 := 1532) (L2 := [some (vr (some a0)), some (vr (some a1)), some (vr (some a2)), some (vr (some a3)), some (vr (some a4)), some (vi x5), some (vi x_463), some (vi x_468), none]) (st2 := [vi 0]) rfl ?_
            exact R_zret rfl rfl (Or.inl rfl) ⟨_, rfl, k⟩
      · have k := k.2 c_472
        refine R_ps 1 (pc2 := 1515) (L2 := [some (vr (some a0)), some (vr (some a1)), some (vr (some a2)), some (vr (some a3)), some (vr (some a4)), some (vi x5), some (vi x_463), some (vi x_468), none]) (st2 := [vi 0]) rfl ?_
        exact R_zret rfl rfl (Or.inl rfl) ⟨_, rfl, k⟩
    replace k := k.2 c_6
    refine ⟨fun c_6 => ?_, fun c_6 => ?_⟩
    · have k := k.1 c_6
      show WP T N _ 1536 _ _ _ _
      refine R_ps 1 (pc2 := 1537) (L2 := [some (vr (some a0)), some (vr (some a1)), some (vr (some a2)), some (vr (some a3)), some (vr (some a4)), some (vi x5), none, none, none]) (st2 := [vr (some a1)]) rfl ?_
      refine R_cI (as := [vr (some a1)]) rfl rfl ⟨Nat.le_of_ble_eq_true rfl, Nat.le_of_ble_eq_true rfl, rfl, (Or.inr ⟨_, rfl, t2⟩)⟩ rfl rfl k (fun x_481 h_480 k => ?_)
      refine R_ps 1 (pc2 := 1541) (L2 := [some (vr (some a0)), some (vr (some a1)), some (vr (some a2)), some (vr (some a3)), some (vr (some a4)), some (vi x5), none, none, none]) (st2 := [vr (some a2), vi x_481]) rfl ?_
      refine R_cI (as := [vr (some a2)]) rfl rfl ⟨Nat.le_of_ble_eq_true rfl, Nat.le_of_ble_eq_true rfl, rfl, (Or.inr ⟨_, rfl, t3⟩)⟩ rfl rfl k (fun x_484 h_483 k => ?_)
      refine R_if rfl (fun c_485 => ?_) (fun c_485 => ?_)
      · have k := k.1 c_485
        refine R_ps 2 (pc2 := 28) (L2 := [some (vr (some a0)), some (vr (some a1)), some (vr (some a2)), some (vr (some a3)), some (vr (some a4)), some (vi (x5 + 5)), none, none, none]) (st2 := []) rfl ?_
        exact k
      · have k := k.2 c_485
        refine R_ps 1 (pc2 := 1548) (L2 := [some (vr (some a0)), some (vr (some a1)), some (vr (some a2)), some (vr (some a3)), some (vr (some a4)), some (vi x5), none, none, none]) (st2 := [vi 0]) rfl ?_
        exact R_zret rfl rfl (Or.inl rfl) ⟨_, rfl, k⟩
    replace k := k.2 c_6
    refine ⟨fun c_6 => ?_, fun c_6 => ?_⟩
    · have k := k.1 c_6
      show WP T N _ 1549 _ _ _ _
      refine R_ps 1 (pc2 := 1550) (L2 := [some (vr (some a0)), some (vr (some a1)), some (vr (some a2)), some (vr (some a3)), some (vr (some a4)), some (vi x5), none, none, none]) (st2 := [vr (some a1)]) rfl ?_
      refine R_cI (as := [vr (some a1)]) rfl rfl ⟨Nat.le_of_ble_eq_true rfl, Nat.le_of_ble_eq_true rfl, rfl, (Or.inr ⟨_, rfl, t2⟩)⟩ rfl rfl k (fun x_489 h_488 k => ?_)
      refine R_ps 1 (pc2 := 1554) (L2 := [some (vr (some a0)), some (vr (some a1)), some (vr (some a2)), some (vr (some a3)), some (vr (some a4)), some (vi x5), none, none, none]) (st2 := [vr (some a2), vi x_489]) rfl ?_
      refine R_cI (as := [vr (some a2)]) rfl rfl ⟨Nat.le_of_ble_eq_true rfl, Nat.le_of_ble_eq_true rfl, rfl, (Or.inr ⟨_, rfl, t3⟩)⟩ rfl rfl k (fun x_492 h_491 k => ?_)
      refine R_if rfl (fun c_493 => ?_) (fun c_493 => ?_)
      · have k := k.1 c_493
        refine R_ps 2 (pc2 := 28) (L2 := [some (vr (some a0)), some (vr (some a1)), some (vr (some a2)), some (vr (some a3)), some (vr (some a4)), some (vi (x5 + 5)), none, none, none]) (st2 := []) rfl ?_
        exact k
      · have k := k.2 c_493
        refine R_ps 1 (pc2 := 1561) (L2 := [some (vr (some a0)), some (vr (some a1)), some (vr (some a2)), some (vr (some a3)), some (vr (some a4)), some (vi x5), none, none, none]) (st2 := [vi 0]) rfl ?_
        exact R_zret rfl rfl (Or.inl rfl) ⟨_, rfl, k⟩
    replace k := k.2 c_6
    refine ⟨fun c_6 => ?_, fun c_6 => ?_⟩
    · have k := k.1 c_6
      show WP T N _ 1562 _ _ _ _
      refine R_ps 5 (pc2 := 1568) (L2 := [some (vr (some a0)), some (vr (some a1)), some (vr (some a2)), some (vr (some a3)), some (vr (some a4)), some (vi x5), none, none, none]) (st2 := [vi (x5 + 1), vr (some a0), vr (some a1)]) rfl ?_
      obtain ⟨t_496, k⟩ := k
      refine R_iald rfl (Or.inr t1) t_496 ?_
      refine R_ps 1 (pc2 := 1570) (L2 := [some (vr (some a0)), some (vr (some a1)), some (vr (some a2)), some (vr (some a3)), some (vr (some a4)), some (vi x5), none, none, none]) (st2 := [vr (some a3), vi (gi h a0 (Int32.toNatClampNeg (x5 + 1))), vr (some a1)]) rfl ?_
      refine R_cI (as := [vr (some a1), vi (gi h a0 (Int32.toNatClampNeg (x5 + 1))), vr (some a3)]) rfl rfl ⟨Nat.le_of_ble_eq_true rfl, Nat.le_of_ble_eq_true rfl, rfl, (Or.inl rfl)⟩ rfl rfl k (fun x_499 h_498 k => ?_)
      refine R_ps 6 (pc2 := 1581) (L2 := [some (vr (some a0)), some (vr (some a1)), some (vr (some a2)), some (vr (some a3)), some (vr (some a4)), some (vi x5), some (vi x_499), none, none]) (st2 := [vi (x5 + 1), vr (some a0), vr (some a2)]) rfl ?_
      refine R_iald rfl (Or.inr t1) t_496 ?_
      refine R_cI (as := [vr (some a2), vi (gi h_498 a0 (Int32.toNatClampNeg (x5 + 1)))]) rfl rfl ⟨Nat.le_of_ble_eq_true rfl, Nat.le_of_ble_eq_true rfl, rfl, (Or.inr ⟨_, rfl, t3⟩)⟩ rfl rfl k (fun x_503 h_502 k => ?_)
      refine R_ps 2 (pc2 := 1588) (L2 := [some (vr (some a0)), some (vr (some a1)), some (vr (some a2)), some (vr (some a3)), some (vr (some a4)), some (vi x5), some (vi x_499), some (vi x_503), none]) (st2 := [vr (some a2)]) rfl ?_
      refine R_cI (as := [vr (some a2)]) rfl rfl ⟨Nat.le_of_ble_eq_true rfl, Nat.le_of_ble_eq_true rfl, rfl, (Or.inr ⟨_, rfl, t3⟩)⟩ rfl rfl k (fun x_506 h_505 k => ?_)
      refine R_ps 1 (pc2 := 1593) (L2 := [some (vr (some a0)), some (vr (some a1)), some (vr (some a2)), some (vr (some a3)), some (vr (some a4)), some (vi x5), some (vi x_499), some (vi x_503), none]) (st2 := [vi x_499, vi x_506]) rfl ?_
      refine R_if rfl (fun c_507 => ?_) (fun c_507 => ?_)
      · have k := k.1 c_507
        refine R_ps 1 (pc2 := 1600) (L2 := [some (vr (some a0)), some (vr (some a1)), some (vr (some a2)), some (vr (some a3)), some (vr (some a4)), some (vi x5), some (vi x_499), some (vi x_503), none]) (st2 := [vi x_499]) rfl ?_
        refine R_if0 rfl (fun c_508 => ?_) (fun c_508 => ?_)
        · have k := k.2 c_508
          refine R_ps 3 (pc2 := 28) (L2 := [some (vr (some a0)), some (vr (some a1)), some (vr (some a2)), some (vr (some a3)), some (vr (some a4)), some (vi (x5 + 5)), some (vi x_499), some (vi x_503), none]) (st2 := []) rfl ?_
          exact R_drop k (LE_of (L := [some (vr (some a0)), some (vr (some a1)), some (vr (some a2)), some (vr (some a3)), some (vr (some a4)), some (vi (x5 + 5)), none, none, none]) (L2 := [some (vr (some a0)), some (vr (some a1)), some (vr (some a2)), some (vr (some a3)), some (vr (some a4)), some (vi (x5 + 5)), some (vi x_499), some (vi x_503), none]) ⟨rfl, rfl, rfl, rfl, rfl, rfl, trivial⟩)
        · have k := k.1 (Classical.not_not.mp c_508)
          refine R_ps 2 (pc2 := 1605) (L2 := [some (vr (some a0)), some (vr (some a1)), some (vr (some a2)), some (vr (some a3)), some (vr (some a4)), some (vi x5), some (vi x_499), some (vi x_503), none]) (st2 := [vi 0, vr (some a3)]) rfl ?_
          obtain ⟨t_510, k⟩ := k
          refine R_lald rfl t4 t_510 ?_
          refine R_ps 3 (pc2 := 1610) (L2 := [some (vr (some a0)), some (vr (some a1)), some (vr (some a2)), some (vr (some a3)), some (vr (some a4)), some (vi x5), some (vi x_499), some (vi x_503), none]) (st2 := [vi (lg_cmp (gl h_505 a3 0) x_503.toInt64)]) rfl ?_
          refine R_if0 rfl (fun c_511 => ?_) (fun c_511 => ?_)
          · have k := k.1 c_511
            refine R_ps 3 (pc2 := 28) (L2 := [some (vr (some a0)), some (vr (some a1)), some (vr (some a2)), some (vr (some a3)), some (vr (some a4)), some (vi (x5 + 5)), some (vi x_499), some (vi x_503), none]) (st2 := []) rfl ?_
            exact R_drop k (LE_of (L := [some (vr (some a0)), some (vr (some a1)), some (vr (some a2)), some (vr (some a3)), some (vr (some a4)), some (vi (x5 + 5)), none, none, none]) (L2 := [some (vr (some a0)), some (vr (some a1)), some (vr (some a2)), some (vr (some a3)), some (vr (some a4)), some (vi (x5 + 5)), some (vi x_499), some (vi x_503), none]) ⟨rfl, rfl, rfl, rfl, rfl, rfl, trivial⟩)
          · have k := k.2 c_511
            refine R_ps 1 (pc2 := 1614) (L2 := [some (vr (some a0)), some (vr (some a1)), some (vr (some a2)), some (vr (some a3)), some (vr (some a4)), some (vi x5), some (vi x_499), some (vi x_503), none]) (st2 := [vi 0]) rfl ?_
            exact R_zret rfl rfl (Or.inl rfl) ⟨_, rfl, k⟩
      · have k := k.2 c_507
        refine R_ps 1 (pc2 := 1597) (L2 := [some (vr (some a0)), some (vr (some a1)), some (vr (some a2)), some (vr (some a3)), some (vr (some a4)), some (vi x5), some (vi x_499), some (vi x_503), none]) (st2 := [vi 0]) rfl ?_
        exact R_zret rfl rfl (Or.inl rfl) ⟨_, rfl, k⟩
    replace k := k.2 c_6
    refine ⟨fun c_6 => ?_, fun c_6 => ?_⟩
    · have k := k.1 c_6
      show WP T N _ 1618 _ _ _ _
      refine R_ps 1 (pc2 := 1619) (L2 := [some (vr (some a0)), some (vr (some a1)), some (vr (some a2)), some (vr (some a3)), some (vr (some a4)), some (vi x5), none, none, none]) (st2 := [vr (some a1)]) rfl ?_
      refine R_cI (as := [vr (some a1)]) rfl rfl ⟨Nat.le_of_ble_eq_true rfl, Nat.le_of_ble_eq_true rfl, rfl, (Or.inr ⟨_, rfl, t2⟩)⟩ rfl rfl k (fun x_516 h_515 k => ?_)
      refine R_ps 1 (pc2 := 1623) (L2 := [some (vr (some a0)), some (vr (some a1)), some (vr (some a2)), some (vr (some a3)), some (vr (some a4)), some (vi x5), none, none, none]) (st2 := [vr (some a2), vi x_516]) rfl ?_
      refine R_cI (as := [vr (some a2)]) rfl rfl ⟨Nat.le_of_ble_eq_true rfl, Nat.le_of_ble_eq_true rfl, rfl, (Or.inr ⟨_, rfl, t3⟩)⟩ rfl rfl k (fun x_519 h_518 k => ?_)
      refine R_if rfl (fun c_520 => ?_) (fun c_520 => ?_)
      · have k := k.1 c_520
        refine R_ps 2 (pc2 := 28) (L2 := [some (vr (some a0)), some (vr (some a1)), some (vr (some a2)), some (vr (some a3)), some (vr (some a4)), some (vi (x5 + 5)), none, none, none]) (st2 := []) rfl ?_
        exact k
      · have k := k.2 c_520
        refine R_ps 1 (pc2 := 1630) (L2 := [some (vr (some a0)), some (vr (some a1)), some (vr (some a2)), some (vr (some a3)), some (vr (some a4)), some (vi x5), none, none, none]) (st2 := [vi 0]) rfl ?_
        exact R_zret rfl rfl (Or.inl rfl) ⟨_, rfl, k⟩
    replace k := k.2 c_6
    refine ⟨fun c_6 => ?_, fun c_6 => ?_⟩
    · have k := k.1 c_6
      show WP T N _ 1631 _ _ _ _
      refine R_ps 2 (pc2 := 1633) (L2 := [some (vr (some a0)), some (vr (some a1)), some (vr (some a2)), some (vr (some a3)), some (vr (some a4)), some (vi x5), none, none, none]) (st2 := [vr (some a3), vr (some a1)]) rfl ?_
      refine R_cI (as := [vr (some a1), vr (some a3)]) rfl rfl ⟨Nat.le_of_ble_eq_true rfl, Nat.le_of_ble_eq_true rfl, rfl, (Or.inl rfl)⟩ rfl rfl k (fun x_524 h_523 k => ?_)
      refine R_ps 2 (pc2 := 1639) (L2 := [some (vr (some a0)), some (vr (some a1)), some (vr (some a2)), some (vr (some a3)), some (vr (some a4)), some (vi x5), some (vi x_524), none, none]) (st2 := [vr (some a2)]) rfl ?_
      refine R_cI (as := [vr (some a2)]) rfl rfl ⟨Nat.le_of_ble_eq_true rfl, Nat.le_of_ble_eq_true rfl, rfl, (Or.inr ⟨_, rfl, t3⟩)⟩ rfl rfl k (fun x_527 h_526 k => ?_)
      refine R_ps 2 (pc2 := 1645) (L2 := [some (vr (some a0)), some (vr (some a1)), some (vr (some a2)), some (vr (some a3)), some (vr (some a4)), some (vi x5), some (vi x_524), some (vi x_527), none]) (st2 := [vr (some a2)]) rfl ?_
      refine R_cI (as := [vr (some a2)]) rfl rfl ⟨Nat.le_of_ble_eq_true rfl, Nat.le_of_ble_eq_true rfl, rfl, (Or.inr ⟨_, rfl, t3⟩)⟩ rfl rfl k (fun x_530 h_529 k => ?_)
      refine R_ps 1 (pc2 := 1650) (L2 := [some (vr (some a0)), some (vr (some a1)), some (vr (some a2)), some (vr (some a3)), some (vr (some a4)), some (vi x5), some (vi x_524), some (vi x_527), none]) (st2 := [vi x_524, vi x_530]) rfl ?_
      refine R_if rfl (fun c_531 => ?_) (fun c_531 => ?_)
      · have k := k.1 c_531
        refine R_ps 1 (pc2 := 1657) (L2 := [some (vr (some a0)), some (vr (some a1)), some (vr (some a2)), some (vr (some a3)), some (vr (some a4)), some (vi x5), some (vi x_524), some (vi x_527), none]) (st2 := [vi x_524]) rfl ?_
        refine R_if0 rfl (fun c_532 => ?_) (fun c_532 => ?_)
        · have k := k.2 c_532
          refine R_ps 3 (pc2 := 28) (L2 := [some (vr (some a0)), some (vr (some a1)), some (vr (some a2)), some (vr (some a3)), some (vr (some a4)), some (vi (x5 + 5)), some (vi x_524), some (vi x_527), none]) (st2 := []) rfl ?_
          exact R_drop k (LE_of (L := [some (vr (some a0)), some (vr (some a1)), some (vr (some a2)), some (vr (some a3)), some (vr (some a4)), some (vi (x5 + 5)), none, none, none]) (L2 := [some (vr (some a0)), some (vr (some a1)), some (vr (some a2)), some (vr (some a3)), some (vr (some a4)), some (vi (x5 + 5)), some (vi x_524), some (vi x_527), none]) ⟨rfl, rfl, rfl, rfl, rfl, rfl, trivial⟩)
        · have k := k.1 (Classical.not_not.mp c_532)
          refine R_ps 2 (pc2 := 1662) (L2 := [some (vr (some a0)), some (vr (some a1)), some (vr (some a2)), some (vr (some a3)), some (vr (some a4)), some (vi x5), some (vi x_524), some (vi x_527), none]) (st2 := [vi 0, vr (some a3)]) rfl ?_
          obtain ⟨t_534, k⟩ := k
          refine R_lald rfl t4 t_534 ?_
          refine R_ps 3 (pc2 := 1667) (L2 := [some (vr (some a0)), some (vr (some a1)), some (vr (some a2)), some (vr (some a3)), some (vr (some a4)), some (vi x5), some (vi x_524), some (vi x_527), none]) (st2 := [vi (lg_cmp (gl h_529 a3 0) x_527.toInt64)]) rfl ?_
          refine R_if0 rfl (fun c_535 => ?_) (fun c_535 => ?_)
          · have k := k.1 c_535
            refine R_ps 3 (pc2 := 28) (L2 := [some (vr (some a0)), some (vr (some a1)), some (vr (some a2)), some (vr (some a3)), some (vr (some a4)), some (vi (x5 + 5)), some (vi x_524), some (vi x_527), none]) (st2 := []) rfl ?_
            exact R_drop k (LE_of (L := [some (vr (some a0)), some (vr (some a1)), some (vr (some a2)), some (vr (some a3)), some (vr (some a4)), some (vi (x5 + 5)), none, none, none]) (L2 := [some (vr (some a0)), some (vr (some a1)), some (vr (some a2)), some (vr (some a3)), some (vr (some a4)), some (vi (x5 + 5)), some (vi x_524), some (vi x_527), none]) ⟨rfl, rfl, rfl, rfl, rfl, rfl, trivial⟩)
          · have k := k.2 c_535
            refine R_ps 1 (pc2 := 1671) (L2 := [some (vr (some a0)), some (vr (some a1)), some (vr (some a2)), some (vr (some a3)), some (vr (some a4)), some (vi x5), some (vi x_524), some (vi x_527), none]) (st2 := [vi 0]) rfl ?_
            exact R_zret rfl rfl (Or.inl rfl) ⟨_, rfl, k⟩
      · have k := k.2 c_531
        refine R_ps 1 (pc2 := 1654) (L2 := [some (vr (some a0)), some (vr (some a1)), some (vr (some a2)), some (vr (some a3)), some (vr (some a4)), some (vi x5), some (vi x_524), some (vi x_527), none]) (st2 := [vi 0]) rfl ?_
        exact R_zret rfl rfl (Or.inl rfl) ⟨_, rfl, k⟩
    replace k := k.2 c_6
    refine ⟨fun c_6 => ?_, fun c_6 => ?_⟩
    · have k := k.1 c_6
      show WP T N _ 1675 _ _ _ _
      refine R_ps 5 (pc2 := 1681) (L2 := [some (vr (some a0)), some (vr (some a1)), some (vr (some a2)), some (vr (some a3)), some (vr (some a4)), some (vi x5), none, none, none]) (st2 := [vi (x5 + 1), vr (some a0), vr (some a1)]) rfl ?_
      obtain ⟨t_539, k⟩ := k
      refine R_iald rfl (Or.inr t1) t_539 ?_
      refine R_ps 1 (pc2 := 1683) (L2 := [some (vr (some a0)), some (vr (some a1)), some (vr (some a2)), some (vr (some a3)), some (vr (some a4)), some (vi x5), none, none, none]) (st2 := [vr (some a3), vi (gi h a0 (Int32.toNatClampNeg (x5 + 1))), vr (some a1)]) rfl ?_
      refine R_cI (as := [vr (some a1), vi (gi h a0 (Int32.toNatClampNeg (x5 + 1))), vr (some a3)]) rfl rfl ⟨Nat.le_of_ble_eq_true rfl, Nat.le_of_ble_eq_true rfl, rfl, (Or.inl rfl)⟩ rfl rfl k (fun x_542 h_541 k => ?_)
      refine R_ps 6 (pc2 := 1694) (L2 := [some (vr (some a0)), some (vr (some a1)), some (vr (some a2)), some (vr (some a3)), some (vr (some a4)), some (vi x5), some (vi x_542), none, none]) (st2 := [vi (x5 + 1), vr (some a0), vr (some a2)]) rfl ?_
      refine R_iald rfl (Or.inr t1) t_539 ?_
      refine R_cI (as := [vr (some a2), vi (gi h_541 a0 (Int32.toNatClampNeg (x5 + 1)))]) rfl rfl ⟨Nat.le_of_ble_eq_true rfl, Nat.le_of_ble_eq_true rfl, rfl, (Or.inr ⟨_, rfl, t3⟩)⟩ rfl rfl k (fun x_546 h_545 k => ?_)
      refine R_ps 2 (pc2 := 1701) (L2 := [some (vr (some a0)), some (vr (some a1)), some (vr (some a2)), some (vr (some a3)), some (vr (some a4)), some (vi x5), some (vi x_542), some (vi x_546), none]) (st2 := [vr (some a2)]) rfl ?_
      refine R_cI (as := [vr (some a2)]) rfl rfl ⟨Nat.le_of_ble_eq_true rfl, Nat.le_of_ble_eq_true rfl, rfl, (Or.inr ⟨_, rfl, t3⟩)⟩ rfl rfl k (fun x_549 h_548 k => ?_)
      refine R_ps 1 (pc2 := 1706) (L2 := [some (vr (some a0)), some (vr (some a1)), some (vr (some a2)), some (vr (some a3)), some (vr (some a4)), some (vi x5), some (vi x_542), some (vi x_546), none]) (st2 := [vi x_542, vi x_549]) rfl ?_
      refine R_if rfl (fun c_550 => ?_) (fun c_550 => ?_)
      · have k := k.1 c_550
        refine R_ps 1 (pc2 := 1713) (L2 := [some (vr (some a0)), some (vr (some a1)), some (vr (some a2)), some (vr (some a3)), some (vr (some a4)), some (vi x5), some (vi x_542), some (vi x_546), none]) (st2 := [vi x_542]) rfl ?_
        refine R_if0 rfl (fun c_551 => ?_) (fun c_551 => ?_)
        · have k := k.2 c_551
          refine R_ps 3 (pc2 := 28) (L2 := [some (vr (some a0)), some (vr (some a1)), some (vr (some a2)), some (vr (some a3)), some (vr (some a4)), some (vi (x5 + 5)), some (vi x_542), some (vi x_546), none]) (st2 := []) rfl ?_
          exact R_drop k (LE_of (L := [some (vr (some a0)), some (vr (some a1)), some (vr (some a2)), some (vr (some a3)), some (vr (some a4)), some (vi (x5 + 5)), none, none, none]) (L2 := [some (vr (some a0)), some (vr (some a1)), some (vr (some a2)), some (vr (some a3)), some (vr (some a4)), some (vi (x5 + 5)), some (vi x_542), some (vi x_546), none]) ⟨rfl, rfl, rfl, rfl, rfl, rfl, trivial⟩)
        · have k := k.1 (Classical.not_not.mp c_551)
          refine R_ps 2 (pc2 := 1718) (L2 := [some (vr (some a0)), some (vr (some a1)), some (vr (some a2)), some (vr (some a3)), some (vr (some a4)), some (vi x5), some (vi x_542), some (vi x_546), none]) (st2 := [vi 0, vr (some a3)]) rfl ?_
          obtain ⟨t_553, k⟩ := k
          refine R_lald rfl t4 t_553 ?_
          refine R_ps 3 (pc2 := 1723) (L2 := [some (vr (some a0)), some (vr (some a1)), some (vr (some a2)), some (vr (some a3)), some (vr (some a4)), some (vi x5), some (vi x_542), some (vi x_546), none]) (st2 := [vi (lg_cmp (gl h_548 a3 0) x_546.toInt64)]) rfl ?_
          refine R_if0 rfl (fun c_554 => ?_) (fun c_554 => ?_)
          · have k := k.1 c_554
            refine R_ps 3 (pc2 := 28) (L2 := [some (vr (some a0)), some (vr (some a1)), some (vr (some a2)), some (vr (some a3)), some (vr (some a4)), some (vi (x5 + 5)), some (vi x_542), some (vi x_546), none]) (st2 := []) rfl ?_
            exact R_drop k (LE_of (L := [some (vr (some a0)), some (vr (some a1)), some (vr (some a2)), some (vr (some a3)), some (vr (some a4)), some (vi (x5 + 5)), none, none, none]) (L2 := [some (vr (some a0)), some (vr (some a1)), some (vr (some a2)), some (vr (some a3)), some (vr (some a4)), some (vi (x5 + 5)), some (vi x_542), some (vi x_546), none]) ⟨rfl, rfl, rfl, rfl, rfl, rfl, trivial⟩)
          · have k := k.2 c_554
            refine R_ps 1 (pc2 := 1727) (L2 := [some (vr (some a0)), some (vr (some a1)), some (vr (some a2)), some (vr (some a3)), some (vr (some a4)), some (vi x5), some (vi x_542), some (vi x_546), none]) (st2 := [vi 0]) rfl ?_
            exact R_zret rfl rfl (Or.inl rfl) ⟨_, rfl, k⟩
      · have k := k.2 c_550
        refine R_ps 1 (pc2 := 1710) (L2 := [some (vr (some a0)), some (vr (some a1)), some (vr (some a2)), some (vr (some a3)), some (vr (some a4)), some (vi x5), some (vi x_542), some (vi x_546), none]) (st2 := [vi 0]) rfl ?_
        exact R_zret rfl rfl (Or.inl rfl) ⟨_, rfl, k⟩
    replace k := k.2 c_6
    refine ⟨fun c_6 => ?_, fun c_6 => ?_⟩
    · have k := k.1 c_6
      show WP T N _ 1731 _ _ _ _
      refine R_ps 5 (pc2 := 1737) (L2 := [some (vr (some a0)), some (vr (some a1)), some (vr (some a2)), some (vr (some a3)), some (vr (some a4)), some (vi x5), none, none, none]) (st2 := [vi (x5 + 1), vr (some a0), vr (some a1)]) rfl ?_
      obtain ⟨t_558, k⟩ := k
      refine R_iald rfl (Or.inr t1) t_558 ?_
      refine R_ps 4 (pc2 := 1743) (L2 := [some (vr (some a0)), some (vr (some a1)), some (vr (some a2)), some (vr (some a3)), some (vr (some a4)), some (vi x5), none, none, none]) (st2 := [vi (x5 + 2), vr (some a0), vi (gi h a0 (Int32.toNatClampNeg (x5 + 1))), vr (some a1)]) rfl ?_
      obtain ⟨t_560, k⟩ := k
      refine R_iald rfl (Or.inr t1) t_560 ?_
      refine R_ps 1 (pc2 := 1745) (L2 := [some (vr (some a0)), some (vr (some a1)), some (vr (some a2)), some (vr (some a3)), some (vr (some a4)), some (vi x5), none, none, none]) (st2 := [vr (some a3), vi (gi h a0 (Int32.toNatClampNeg (x5 + 2))), vi (gi h a0 (Int32.toNatClampNeg (x5 + 1))), vr (some a1)]) rfl ?_
      refine R_cI (as := [vr (some a1), vi (gi h a0 (Int32.toNatClampNeg (x5 + 1))), vi (gi h a0 (Int32.toNatClampNeg (x5 + 2))), vr (some a3)]) rfl rfl ⟨Nat.le_of_ble_eq_true rfl, Nat.le_of_ble_eq_true rfl, rfl, (Or.inl rfl)⟩ rfl rfl k (fun x_563 h_562 k => ?_)
      refine R_ps 6 (pc2 := 1756) (L2 := [some (vr (some a0)), some (vr (some a1)), some (vr (some a2)), some (vr (some a3)), some (vr (some a4)), some (vi x5), some (vi x_563), none, none]) (st2 := [vi (x5 + 1), vr (some a0), vr (some a2)]) rfl ?_
      refine R_iald rfl (Or.inr t1) t_558 ?_
      refine R_ps 4 (pc2 := 1762) (L2 := [some (vr (some a0)), some (vr (some a1)), some (vr (some a2)), some (vr (some a3)), some (vr (some a4)), some (vi x5), some (vi x_563), none, none]) (st2 := [vi (x5 + 2), vr (some a0), vi (gi h_562 a0 (Int32.toNatClampNeg (x5 + 1))), vr (some a2)]) rfl ?_
      refine R_iald rfl (Or.inr t1) t_560 ?_
      refine R_cI (as := [vr (some a2), vi (gi h_562 a0 (Int32.toNatClampNeg (x5 + 1))), vi (gi h_562 a0 (Int32.toNatClampNeg (x5 + 2)))]) rfl rfl ⟨Nat.le_of_ble_eq_true rfl, Nat.le_of_ble_eq_true rfl, rfl, (Or.inr ⟨_, rfl, t3⟩)⟩ rfl rfl k (fun x_568 h_567 k => ?_)
      refine R_ps 2 (pc2 := 1769) (L2 := [some (vr (some a0)), some (vr (some a1)), some (vr (some a2)), some (vr (some a3)), some (vr (some a4)), some (vi x5), some (vi x_563), some (vi x_568), none]) (st2 := [vr (some a2)]) rfl ?_
      refine R_cI (as := [vr (some a2)]) rfl rfl ⟨Nat.le_of_ble_eq_true rfl, Nat.le_of_ble_eq_true rfl, rfl, (Or.inr ⟨_, rfl, t3⟩)⟩ rfl rfl k (fun x_571 h_570 k => ?_)
      refine R_ps 1 (pc2 := 1774) (L2 := [some (vr (some a0)), some (vr (some a1)), some (vr (some a2)), some (vr (some a3)), some (vr (some a4)), some (vi x5), some (vi x_563), some (vi x_568), none]) (st2 := [vi x_563, vi x_571]) rfl ?_
      refine R_if rfl (fun c_572 => ?_) (fun c_572 => ?_)
      · have k := k.1 c_572
        refine R_ps 1 (pc2 := 1781) (L2 := [some (vr (some a0)), some (vr (some a1)), some (vr (some a2)), some (vr (some a3)), some (vr (some a4)), some (vi x5), some (vi x_563), some (vi x_568), none]) (st2 := [vi x_563]) rfl ?_
        refine R_if0 rfl (fun c_573 => ?_) (fun c_573 => ?_)
        · have k := k.2 c_573
          refine R_ps 3 (pc2 := 28) (L2 := [some (vr (some a0)), some (vr (some a1)), some (vr (some a2)), some (vr (some a3)), some (vr (some a4)), some (vi (x5 + 5)), some (vi x_563), some (vi x_568), none]) (st2 := []) rfl ?_
          exact R_drop k (LE_of (L := [some (vr (some a0)), some (vr (some a1)), some (vr (some a2)), some (vr (some a3)), some (vr (some a4)), some (vi (x5 + 5)), none, none, none]) (L2 := [some (vr (some a0)), some (vr (some a1)), some (vr (some a2)), some (vr (some a3)), some (vr (some a4)), some (vi (x5 + 5)), some (vi x_563), some (vi x_568), none]) ⟨rfl, rfl, rfl, rfl, rfl, rfl, trivial⟩)
        · have k := k.1 (Classical.not_not.mp c_573)
          refine R_ps 2 (pc2 := 1786) (L2 := [some (vr (some a0)), some (vr (some a1)), some (vr (some a2)), some (vr (some a3)), some (vr (some a4)), some (vi x5), some (vi x_563), some (vi x_568), none]) (st2 := [vi 0, vr (some a3)]) rfl ?_
          obtain ⟨t_575, k⟩ := k
          refine R_lald rfl t4 t_575 ?_
          refine R_ps 3 (pc2 := 1791) (L2 := [some (vr (some a0)), some (vr (some a1)), some (vr (some a2)), some (vr (some a3)), some (vr (some a4)), some (vi x5), some (vi x_563), some (vi x_568), none]) (st2 := [vi (lg_cmp (gl h_570 a3 0) x_568.toInt64)]) rfl ?_
          refine R_if0 rfl (fun c_576 => ?_) (fun c_576 => ?_)
          · have k := k.1 c_576
            refine R_ps 3 (pc2 := 28) (L2 := [some (vr (some a0)), some (vr (some a1)), some (vr (some a2)), some (vr (some a3)), some (vr (some a4)), some (vi (x5 + 5)), some (vi x_563), some (vi x_568), none]) (st2 := []) rfl ?_
            exact R_drop k (LE_of (L := [some (vr (some a0)), some (vr (some a1)), some (vr (some a2)), some (vr (some a3)), some (vr (some a4)), some (vi (x5 + 5)), none, none, none]) (L2 := [some (vr (some a0)), some (vr (some a1)), some (vr (some a2)), some (vr (some a3)), some (vr (some a4)), some (vi (x5 + 5)), some (vi x_563), some (vi x_568), none]) ⟨rfl, rfl, rfl, rfl, rfl, rfl, trivial⟩)
          · have k := k.2 c_576
            refine R_ps 1 (pc2 := 1795) (L2 := [some (vr (some a0)), some (vr (some a1)), some (vr (some a2)), some (vr (some a3)), some (vr (some a4)), some (vi x5), some (vi x_563), some (vi x_568), none]) (st2 := [vi 0]) rfl ?_
            exact R_zret rfl rfl (Or.inl rfl) ⟨_, rfl, k⟩
      · have k := k.2 c_572
        refine R_ps 1 (pc2 := 1778) (L2 := [some (vr (some a0)), some (vr (some a1)), some (vr (some a2)), some (vr (some a3)), some (vr (some a4)), some (vi x5), some (vi x_563), some (vi x_568), none]) (st2 := [vi 0]) rfl ?_
        exact R_zret rfl rfl (Or.inl rfl) ⟨_, rfl, k⟩
    replace k := k.2 c_6
    refine ⟨fun c_6 => ?_, fun c_6 => ?_⟩
    · have k := k.1 c_6
      show WP T N _ 1799 _ _ _ _
      refine R_ps 5 (pc2 := 1805) (L2 := [some (vr (some a0)), some (vr (some a1)), some (vr (some a2)), some (vr (some a3)), some (vr (some a4)), some (vi x5), none, none, none]) (st2 := [vi (x5 + 1), vr (some a0), vr (some a1)]) rfl ?_
      obtain ⟨t_580, k⟩ := k
      refine R_iald rfl (Or.inr t1) t_580 ?_
      refine R_if0 rfl (fun c_581 => ?_) (fun c_581 => ?_)
      · have k := k.1 c_581
        refine R_ps 1 (pc2 := 1814) (L2 := [some (vr (some a0)), some (vr (some a1)), some (vr (some a2)), some (vr (some a3)), some (vr (some a4)), some (vi x5), none, none, none]) (st2 := [vi 0, vr (some a1)]) rfl ?_
        refine R_cI (as := [vr (some a1), vi 0]) rfl rfl ⟨Nat.le_of_ble_eq_true rfl, Nat.le_of_ble_eq_true rfl, rfl, (Or.inr ⟨_, rfl, t2⟩)⟩ rfl rfl k (fun x_584 h_583 k => ?_)
        refine R_ps 5 (pc2 := 1823) (L2 := [some (vr (some a0)), some (vr (some a1)), some (vr (some a2)), some (vr (some a3)), some (vr (some a4)), some (vi x5), none, none, none]) (st2 := [vi (x5 + 1), vr (some a0), vr (some a2), vi x_584]) rfl ?_
        refine R_iald rfl (Or.inr t1) t_580 ?_
        refine R_if0 rfl (fun c_586 => ?_) (fun c_586 => ?_)
        · have k := k.1 c_586
          refine R_ps 1 (pc2 := 1832) (L2 := [some (vr (some a0)), some (vr (some a1)), some (vr (some a2)), some (vr (some a3)), some (vr (some a4)), some (vi x5), none, none, none]) (st2 := [vi 0, vr (some a2), vi x_584]) rfl ?_
          refine R_cI (as := [vr (some a2), vi 0]) rfl rfl ⟨Nat.le_of_ble_eq_true rfl, Nat.le_of_ble_eq_true rfl, rfl, (Or.inr ⟨_, rfl, t3⟩)⟩ rfl rfl k (fun x_589 h_588 k => ?_)
          refine R_if rfl (fun c_590 => ?_) (fun c_590 => ?_)
          · have k := k.1 c_590
            refine R_ps 2 (pc2 := 28) (L2 := [some (vr (some a0)), some (vr (some a1)), some (vr (some a2)), some (vr (some a3)), some (vr (some a4)), some (vi (x5 + 5)), none, none, none]) (st2 := []) rfl ?_
            exact k
          · have k := k.2 c_590
            refine R_ps 1 (pc2 := 1839) (L2 := [some (vr (some a0)), some (vr (some a1)), some (vr (some a2)), some (vr (some a3)), some (vr (some a4)), some (vi x5), none, none, none]) (st2 := [vi 0]) rfl ?_
            exact R_zret rfl rfl (Or.inl rfl) ⟨_, rfl, k⟩
        · have k := k.2 c_586
          refine R_ps 2 (pc2 := 1832) (L2 := [some (vr (some a0)), some (vr (some a1)), some (vr (some a2)), some (vr (some a3)), some (vr (some a4)), some (vi x5), none, none, none]) (st2 := [vi 1, vr (some a2), vi x_584]) rfl ?_
          refine R_cI (as := [vr (some a2), vi 1]) rfl rfl ⟨Nat.le_of_ble_eq_true rfl, Nat.le_of_ble_eq_true rfl, rfl, (Or.inr ⟨_, rfl, t3⟩)⟩ rfl rfl k (fun x_594 h_593 k => ?_)
          refine R_if rfl (fun c_595 => ?_) (fun c_595 => ?_)
          · have k := k.1 c_595
            refine R_ps 2 (pc2 := 28) (L2 := [some (vr (some a0)), some (vr (some a1)), some (vr (some a2)), some (vr (some a3)), some (vr (some a4)), some (vi (x5 + 5)), none, none, none]) (st2 := []) rfl ?_
            exact k
          · have k := k.2 c_595
            refine R_ps 1 (pc2 := 1839) (L2 := [some (vr (some a0)), some (vr (some a1)), some (vr (some a2)), some (vr (some a3)), some (vr (some a4)), some (vi x5), none, none, none]) (st2 := [vi 0]) rfl ?_
            exact R_zret rfl rfl (Or.inl rfl) ⟨_, rfl, k⟩
      · have k := k.2 c_581
        refine R_ps 2 (pc2 := 1814) (L2 := [some (vr (some a0)), some (vr (some a1)), some (vr (some a2)), some (vr (some a3)), some (vr (some a4)), some (vi x5), none, none, none]) (st2 := [vi 1, vr (some a1)]) rfl ?_
        refine R_cI (as := [vr (some a1), vi 1]) rfl rfl ⟨Nat.le_of_ble_eq_true rfl, Nat.le_of_ble_eq_true rfl, rfl, (Or.inr ⟨_, rfl, t2⟩)⟩ rfl rfl k (fun x_599 h_598 k => ?_)
        refine R_ps 5 (pc2 := 1823) (L2 := [some (vr (some a0)), some (vr (some a1)), some (vr (some a2)), some (vr (some a3)), some (vr (some a4)), some (vi x5), none, none, none]) (st2 := [vi (x5 + 1), vr (some a0), vr (some a2), vi x_599]) rfl ?_
        refine R_iald rfl (Or.inr t1) t_580 ?_
        refine R_if0 rfl (fun c_601 => ?_) (fun c_601 => ?_)
        · have k := k.1 c_601
          refine R_ps 1 (pc2 := 1832) (L2 := [some (vr (some a0)), some (vr (some a1)), some (vr (some a2)), some (vr (some a3)), some (vr (some a4)), some (vi x5), none, none, none]) (st2 := [vi 0, vr (some a2), vi x_599]) rfl ?_
          refine R_cI (as := [vr (some a2), vi 0]) rfl rfl ⟨Nat.le_of_ble_eq_true rfl, Nat.le_of_ble_eq_true rfl, rfl, (Or.inr ⟨_, rfl, t3⟩)⟩ rfl rfl k (fun x_604 h_603 k => ?_)
          refine R_if rfl (fun c_605 => ?_) (fun c_605 => ?_)
          · have k := k.1 c_605
            refine R_ps 2 (pc2 := 28) (L2 := [some (vr (some a0)), some (vr (some a1)), some (vr (some a2)), some (vr (some a3)), some (vr (some a4)), some (vi (x5 + 5)), none, none, none]) (st2 := []) rfl ?_
            exact k
          · have k := k.2 c_605
            refine R_ps 1 (pc2 := 1839) (L2 := [some (vr (some a0)), some (vr (some a1)), some (vr (some a2)), some (vr (some a3)), some (vr (some a4)), some (vi x5), none, none, none]) (st2 := [vi 0]) rfl ?_
            exact R_zret rfl rfl (Or.inl rfl) ⟨_, rfl, k⟩
        · have k := k.2 c_601
          refine R_ps 2 (pc2 := 1832) (L2 := [some (vr (some a0)), some (vr (some a1)), some (vr (some a2)), some (vr (some a3)), some (vr (some a4)), some (vi x5), none, none, none]) (st2 := [vi 1, vr (some a2), vi x_599]) rfl ?_
          refine R_cI (as := [vr (some a2), vi 1]) rfl rfl ⟨Nat.le_of_ble_eq_true rfl, Nat.le_of_ble_eq_true rfl, rfl, (Or.inr ⟨_, rfl, t3⟩)⟩ rfl rfl k (fun x_609 h_608 k => ?_)
          refine R_if rfl (fun c_610 => ?_) (fun c_610 => ?_)
          · have k := k.1 c_610
            refine R_ps 2 (pc2 := 28) (L2 := [some (vr (some a0)), some (vr (some a1)), some (vr (some a2)), some (vr (some a3)), some (vr (some a4)), some (vi (x5 + 5)), none, none, none]) (st2 := []) rfl ?_
            exact k
          · have k := k.2 c_610
            refine R_ps 1 (pc2 := 1839) (L2 := [some (vr (some a0)), some (vr (some a1)), some (vr (some a2)), some (vr (some a3)), some (vr (some a4)), some (vi x5), none, none, none]) (st2 := [vi 0]) rfl ?_
            exact R_zret rfl rfl (Or.inl rfl) ⟨_, rfl, k⟩
    replace k := k.2 c_6
    refine ⟨fun c_6 => ?_, fun c_6 => ?_⟩
    · have k := k.1 c_6
      show WP T N _ 1840 _ _ _ _
      refine R_ps 5 (pc2 := 1846) (L2 := [some (vr (some a0)), some (vr (some a1)), some (vr (some a2)), some (vr (some a3)), some (vr (some a4)), some (vi x5), none, none, none]) (st2 := [vi (x5 + 1), vr (some a0), vr (some a1)]) rfl ?_
      obtain ⟨t_613, k⟩ := k
      refine R_iald rfl (Or.inr t1) t_613 ?_
      refine R_ps 4 (pc2 := 1852) (L2 := [some (vr (some a0)), some (vr (some a1)), some (vr (some a2)), some (vr (some a3)), some (vr (some a4)), some (vi x5), none, none, none]) (st2 := [vi (x5 + 2), vr (some a0), vi (gi h a0 (Int32.toNatClampNeg (x5 + 1))), vr (some a1)]) rfl ?_
      obtain ⟨t_615, k⟩ := k
      refine R_iald rfl (Or.inr t1) t_615 ?_
      refine R_ps 1 (pc2 := 1854) (L2 := [some (vr (some a0)), some (vr (some a1)), some (vr (some a2)), some (vr (some a3)), some (vr (some a4)), some (vi x5), none, none, none]) (st2 := [vr (some a3), vi (gi h a0 (Int32.toNatClampNeg (x5 + 2))), vi (gi h a0 (Int32.toNatClampNeg (x5 + 1))), vr (some a1)]) rfl ?_
      refine R_cI (as := [vr (some a1), vi (gi h a0 (Int32.toNatClampNeg (x5 + 1))), vi (gi h a0 (Int32.toNatClampNeg (x5 + 2))), vr (some a3)]) rfl rfl ⟨Nat.le_of_ble_eq_true rfl, Nat.le_of_ble_eq_true rfl, rfl, (Or.inl rfl)⟩ rfl rfl k (fun x_618 h_617 k => ?_)
      refine R_ps 6 (pc2 := 1865) (L2 := [some (vr (some a0)), some (vr (some a1)), some (vr (some a2)), some (vr (some a3)), some (vr (some a4)), some (vi x5), some (vi x_618), none, none]) (st2 := [vi (x5 + 1), vr (some a0), vr (some a2)]) rfl ?_
      refine R_iald rfl (Or.inr t1) t_613 ?_
      refine R_ps 4 (pc2 := 1871) (L2 := [some (vr (some a0)), some (vr (some a1)), some (vr (some a2)), some (vr (some a3)), some (vr (some a4)), some (vi x5), some (vi x_618), none, none]) (st2 := [vi (x5 + 2), vr (some a0), vi (gi h_617 a0 (Int32.toNatClampNeg (x5 + 1))), vr (some a2)]) rfl ?_
      refine R_iald rfl (Or.inr t1) t_615 ?_
      refine R_cI (as := [vr (some a2), vi (gi h_617 a0 (Int32.toNatClampNeg (x5 + 1))), vi (gi h_617 a0 (Int32.toNatClampNeg (x5 + 2)))]) rfl rfl ⟨Nat.le_of_ble_eq_true rfl, Nat.le_of_ble_eq_true rfl, rfl, (Or.inr ⟨_, rfl, t3⟩)⟩ rfl rfl k (fun x_623 h_622 k => ?_)
      refine R_ps 2 (pc2 := 1878) (L2 := [some (vr (some a0)), some (vr (some a1)), some (vr (some a2)), some (vr (some a3)), some (vr (some a4)), some (vi x5), some (vi x_618), some (vi x_623), none]) (st2 := [vr (some a2)]) rfl ?_
      refine R_cI (as := [vr (some a2)]) rfl rfl ⟨Nat.le_of_ble_eq_true rfl, Nat.le_of_ble_eq_true rfl, rfl, (Or.inr ⟨_, rfl, t3⟩)⟩ rfl rfl k (fun x_626 h_625 k => ?_)
      refine R_ps 1 (pc2 := 1883) (L2 := [some (vr (some a0)), some (vr (some a1)), some (vr (some a2)), some (vr (some a3)), some (vr (some a4)), some (vi x5), some (vi x_618), some (vi x_623), none]) (st2 := [vi x_618, vi x_626]) rfl ?_
      refine R_if rfl (fun c_627 => ?_) (fun c_627 => ?_)
      · have k := k.1 c_627
        refine R_ps 1 (pc2 := 1890) (L2 := [some (vr (some a0)), some (vr (some a1)), some (vr (some a2)), some (vr (some a3)), some (vr (some a4)), some (vi x5), some (vi x_618), some (vi x_623), none]) (st2 := [vi x_618]) rfl ?_
        refine R_if0 rfl (fun c_628 => ?_) (fun c_628 => ?_)
        · have k := k.2 c_628
          refine R_ps 3 (pc2 := 28) (L2 := [some (vr (some a0)), some (vr (some a1)), some (vr (some a2)), some (vr (some a3)), some (vr (some a4)), some (vi (x5 + 5)), some (vi x_618), some (vi x_623), none]) (st2 := []) rfl ?_
          exact R_drop k (LE_of (L := [some (vr (some a0)), some (vr (some a1)), some (vr (some a2)), some (vr (some a3)), some (vr (some a4)), some (vi (x5 + 5)), none, none, none]) (L2 := [some (vr (some a0)), some (vr (some a1)), some (vr (some a2)), some (vr (some a3)), some (vr (some a4)), some (vi (x5 + 5)), some (vi x_618), some (vi x_623), none]) ⟨rfl, rfl, rfl, rfl, rfl, rfl, trivial⟩)
        · have k := k.1 (Classical.not_not.mp c_628)
          refine R_ps 2 (pc2 := 1895) (L2 := [some (vr (some a0)), some (vr (some a1)), some (vr (some a2)), some (vr (some a3)), some (vr (some a4)), some (vi x5), some (vi x_618), some (vi x_623), none]) (st2 := [vi 0, vr (some a3)]) rfl ?_
          obtain ⟨t_630, k⟩ := k
          refine R_lald rfl t4 t_630 ?_
          refine R_ps 3 (pc2 := 1900) (L2 := [some (vr (some a0)), some (vr (some a1)), some (vr (some a2)), some (vr (some a3)), some (vr (some a4)), some (vi x5), some (vi x_618), some (vi x_623), none]) (st2 := [vi (lg_cmp (gl h_625 a3 0) x_623.toInt64)]) rfl ?_
          refine R_if0 rfl (fun c_631 => ?_) (fun c_631 => ?_)
          · have k := k.1 c_631
            refine R_ps 3 (pc2 := 28) (L2 := [some (vr (some a0)), some (vr (some a1)), some (vr (some a2)), some (vr (some a3)), some (vr (some a4)), some (vi (x5 + 5)), some (vi x_618), some (vi x_623), none]) (st2 := []) rfl ?_
            exact R_drop k (LE_of (L := [some (vr (some a0)), some (vr (some a1)), some (vr (some a2)), some (vr (some a3)), some (vr (some a4)), some (vi (x5 + 5)), none, none, none]) (L2 := [some (vr (some a0)), some (vr (some a1)), some (vr (some a2)), some (vr (some a3)), some (vr (some a4)), some (vi (x5 + 5)), some (vi x_618), some (vi x_623), none]) ⟨rfl, rfl, rfl, rfl, rfl, rfl, trivial⟩)
          · have k := k.2 c_631
            refine R_ps 1 (pc2 := 1904) (L2 := [some (vr (some a0)), some (vr (some a1)), some (vr (some a2)), some (vr (some a3)), some (vr (some a4)), some (vi x5), some (vi x_618), some (vi x_623), none]) (st2 := [vi 0]) rfl ?_
            exact R_zret rfl rfl (Or.inl rfl) ⟨_, rfl, k⟩
      · have k := k.2 c_627
        refine R_ps 1 (pc2 := 1887) (L2 := [some (vr (some a0)), some (vr (some a1)), some (vr (some a2)), some (vr (some a3)), some (vr (some a4)), some (vi x5), some (vi x_618), some (vi x_623), none]) (st2 := [vi 0]) rfl ?_
        exact R_zret rfl rfl (Or.inl rfl) ⟨_, rfl, k⟩
    replace k := k.2 c_6
    refine ⟨fun c_6 => ?_, fun c_6 => ?_⟩
    · have k := k.1 c_6
      show WP T N _ 1908 _ _ _ _
      refine R_ps 5 (pc2 := 1914) (L2 := [some (vr (some a0)), some (vr (some a1)), some (vr (some a2)), some (vr (some a3)), some (vr (some a4)), some (vi x5), none, none, none]) (st2 := [vi (x5 + 1), vr (some a0), vr (some a1)]) rfl ?_
      obtain ⟨t_635, k⟩ := k
      refine R_iald rfl (Or.inr t1) t_635 ?_
      refine R_ps 4 (pc2 := 1920) (L2 := [some (vr (some a0)), some (vr (some a1)), some (vr (some a2)), some (vr (some a3)), some (vr (some a4)), some (vi x5), none, none, none]) (st2 := [vi (x5 + 2), vr (some a0), vi (gi h a0 (Int32.toNatClampNeg (x5 + 1))), vr (some a1)]) rfl ?_
      obtain ⟨t_637, k⟩ := k
      refine R_iald rfl (Or.inr t1) t_637 ?_
      refine R_ps 1 (pc2 := 1922) (L2 := [some (vr (some a0)), some (vr (some a1)), some (vr (some a2)), some (vr (some a3)), some (vr (some a4)), some (vi x5), none, none, none]) (st2 := [vr (some a3), vi (gi h a0 (Int32.toNatClampNeg (x5 + 2))), vi (gi h a0 (Int32.toNatClampNeg (x5 + 1))), vr (some a1)]) rfl ?_
      refine R_cI (as := [vr (some a1), vi (gi h a0 (Int32.toNatClampNeg (x5 + 1))), vi (gi h a0 (Int32.toNatClampNeg (x5 + 2))), vr (some a3)]) rfl rfl ⟨Nat.le_of_ble_eq_true rfl, Nat.le_of_ble_eq_true rfl, rfl, (Or.inl rfl)⟩ rfl rfl k (fun x_640 h_639 k => ?_)
      refine R_ps 6 (pc2 := 1933) (L2 := [some (vr (some a0)), some (vr (some a1)), some (vr (some a2)), some (vr (some a3)), some (vr (some a4)), some (vi x5), some (vi x_640), none, none]) (st2 := [vi (x5 + 1), vr (some a0), vr (some a2)]) rfl ?_
      refine R_iald rfl (Or.inr t1) t_635 ?_
      refine R_ps 4 (pc2 := 1939) (L2 := [some (vr (some a0)), some (vr (some a1)), some (vr (some a2)), some (vr (some a3)), some (vr (some a4)), some (vi x5), some (vi x_640), none, none]) (st2 := [vi (x5 + 2), vr (some a0), vi (gi h_639 a0 (Int32.toNatClampNeg (x5 + 1))), vr (some a2)]) rfl ?_
      refine R_iald rfl (Or.inr t1) t_637 ?_
      refine R_cI (as := [vr (some a2), vi (gi h_639 a0 (Int32.toNatClampNeg (x5 + 1))), vi (gi h_639 a0 (Int32.toNatClampNeg (x5 + 2)))]) rfl rfl ⟨Nat.le_of_ble_eq_true rfl, Nat.le_of_ble_eq_true rfl, rfl, (Or.inr ⟨_, rfl, t3⟩)⟩ rfl rfl k (fun x_645 h_644 k => ?_)
      refine R_ps 2 (pc2 := 1946) (L2 := [some (vr (some a0)), some (vr (some a1)), some (vr (some a2)), some (vr (some a3)), some (vr (some a4)), some (vi x5), some (vi x_640), some (vi x_645), none]) (st2 := [vr (some a2)]) rfl ?_
      refine R_cI (as := [vr (some a2)]) rfl rfl ⟨Nat.le_of_ble_eq_true rfl, Nat.le_of_ble_eq_true rfl, rfl, (Or.inr ⟨_, rfl, t3⟩)⟩ rfl rfl k (fun x_648 h_647 k => ?_)
      refine R_ps 1 (pc2 := 1951) (L2 := [some (vr (some a0)), some (vr (some a1)), some (vr (some a2)), some (vr (some a3)), some (vr (some a4)), some (vi x5), some (vi x_640), some (vi x_645), none]) (st2 := [vi x_640, vi x_648]) rfl ?_
      refine R_if rfl (fun c_649 => ?_) (fun c_649 => ?_)
      · have k := k.1 c_649
        refine R_ps 1 (pc2 := 1958) (L2 := [some (vr (some a0)), some (vr (some a1)), some (vr (some a2)), some (vr (some a3)), some (vr (some a4)), some (vi x5), some (vi x_640), some (vi x_645), none]) (st2 := [vi x_640]) rfl ?_
        refine R_if0 rfl (fun c_650 => ?_) (fun c_650 => ?_)
        · have k := k.2 c_650
          refine R_ps 3 (pc2 := 28) (L2 := [some (vr (some a0)), some (vr (some a1)), some (vr (some a2)), some (vr (some a3)), some (vr (some a4)), some (vi (x5 + 5)), some (vi x_640), some (vi x_645), none]) (st2 := []) rfl ?_
          exact R_drop k (LE_of (L := [some (vr (some a0)), some (vr (some a1)), some (vr (some a2)), some (vr (some a3)), some (vr (some a4)), some (vi (x5 + 5)), none, none, none]) (L2 := [some (vr (some a0)), some (vr (some a1)), some (vr (some a2)), some (vr (some a3)), some (vr (some a4)), some (vi (x5 + 5)), some (vi x_640), some (vi x_645), none]) ⟨rfl, rfl, rfl, rfl, rfl, rfl, trivial⟩)
        · have k := k.1 (Classical.not_not.mp c_650)
          refine R_ps 2 (pc2 := 1963) (L2 := [some (vr (some a0)), some (vr (some a1)), some (vr (some a2)), some (vr (some a3)), some (vr (some a4)), some (vi x5), some (vi x_640), some (vi x_645), none]) (st2 := [vi 0, vr (some a3)]) rfl ?_
          obtain ⟨t_652, k⟩ := k
          refine R_lald rfl t4 t_652 ?_
          refine R_ps 3 (pc2 := 1968) (L2 := [some (vr (some a0)), some (vr (some a1)), some (vr (some a2)), some (vr (some a3)), some (vr (some a4)), some (vi x5), some (vi x_640), some (vi x_645), none]) (st2 := [vi (lg_cmp (gl h_647 a3 0) x_645.toInt64)]) rfl ?_
          refine R_if0 rfl (fun c_653 => ?_) (fun c_653 => ?_)
          · have k := k.1 c_653
            refine R_ps 3 (pc2 := 28) (L2 := [some (vr (some a0)), some (vr (some a1)), some (vr (some a2)), some (vr (some a3)), some (vr (some a4)), some (vi (x5 + 5)), some (vi x_640), some (vi x_645), none]) (st2 := []) rfl ?_
            exact R_drop k (LE_of (L := [some (vr (some a0)), some (vr (some a1)), some (vr (some a2)), some (vr (some a3)), some (vr (some a4)), some (vi (x5 + 5)), none, none, none]) (L2 := [some (vr (some a0)), some (vr (some a1)), some (vr (some a2)), some (vr (some a3)), some (vr (some a4)), some (vi (x5 + 5)), some (vi x_640), some (vi x_645), none]) ⟨rfl, rfl, rfl, rfl, rfl, rfl, trivial⟩)
          · have k := k.2 c_653
            refine R_ps 1 (pc2 := 1972) (L2 := [some (vr (some a0)), some (vr (some a1)), some (vr (some a2)), some (vr (some a3)), some (vr (some a4)), some (vi x5), some (vi x_640), some (vi x_645), none]) (st2 := [vi 0]) rfl ?_
            exact R_zret rfl rfl (Or.inl rfl) ⟨_, rfl, k⟩
      · have k := k.2 c_649
        refine R_ps 1 (pc2 := 1955) (L2 := [some (vr (some a0)), some (vr (some a1)), some (vr (some a2)), some (vr (some a3)), some (vr (some a4)), some (vi x5), some (vi x_640), some (vi x_645), none]) (st2 := [vi 0]) rfl ?_
        exact R_zret rfl rfl (Or.inl rfl) ⟨_, rfl, k⟩
    replace k := k.2 c_6
    refine ⟨fun c_6 => ?_, fun c_6 => ?_⟩
    · have k := k.1 c_6
      show WP T N _ 1976 _ _ _ _
      refine R_ps 1 (pc2 := 1977) (L2 := [some (vr (some a0)), some (vr (some a1)), some (vr (some a2)), some (vr (some a3)), some (vr (some a4)), some (vi x5), none, none, none]) (st2 := [vr (some a1)]) rfl ?_
      refine R_cI (as := [vr (some a1)]) rfl rfl ⟨Nat.le_of_ble_eq_true rfl, Nat.le_of_ble_eq_true rfl, rfl, (Or.inr ⟨_, rfl, t2⟩)⟩ rfl rfl k (fun x_658 h_657 k => ?_)
      refine R_ps 1 (pc2 := 1981) (L2 := [some (vr (some a0)), some (vr (some a1)), some (vr (some a2)), some (vr (some a3)), some (vr (some a4)), some (vi x5), none, none, none]) (st2 := [vr (some a2), vi x_658]) rfl ?_
      refine R_cI (as := [vr (some a2)]) rfl rfl ⟨Nat.le_of_ble_eq_true rfl, Nat.le_of_ble_eq_true rfl, rfl, (Or.inr ⟨_, rfl, t3⟩)⟩ rfl rfl k (fun x_661 h_660 k => ?_)
      refine R_if rfl (fun c_662 => ?_) (fun c_662 => ?_)
      · have k := k.1 c_662
        refine R_ps 2 (pc2 := 28) (L2 := [some (vr (some a0)), some (vr (some a1)), some (vr (some a2)), some (vr (some a3)), some (vr (some a4)), some (vi (x5 + 5)), none, none, none]) (st2 := []) rfl ?_
        exact k
      · have k := k.2 c_662
        refine R_ps 1 (pc2 := 1988) (L2 := [some (vr (some a0)), some (vr (some a1)), some (vr (some a2)), some (vr (some a3)), some (vr (some a4)), some (vi x5), none, none, none]) (st2 := [vi 0]) rfl ?_
        exact R_zret rfl rfl (Or.inl rfl) ⟨_, rfl, k⟩
    replace k := k.2 c_6
    refine ⟨fun c_6 => ?_, fun c_6 => ?_⟩
    · have k := k.1 c_6
      show WP T N _ 1989 _ _ _ _
      refine R_ps 2 (pc2 := 1992) (L2 := [some (vr (some a0)), some (vr (some a1)), some (vr (some a2)), some (vr (some a3)), some (vr (some a4)), some (vi x5), none, none, none]) (st2 := [vr (some a4), vr (some a1)]) rfl ?_
      refine R_cI (as := [vr (some a1), vr (some a4)]) rfl rfl ⟨Nat.le_of_ble_eq_true rfl, Nat.le_of_ble_eq_true rfl, rfl, (Or.inl rfl)⟩ rfl rfl k (fun x_666 h_665 k => ?_)
      refine R_ps 2 (pc2 := 1998) (L2 := [some (vr (some a0)), some (vr (some a1)), some (vr (some a2)), some (vr (some a3)), some (vr (some a4)), some (vi x5), some (vi x_666), none, none]) (st2 := [vr (some a2)]) rfl ?_
      refine R_cD (as := [vr (some a2)]) rfl rfl ⟨Nat.le_of_ble_eq_true rfl, Nat.le_of_ble_eq_true rfl, rfl, (Or.inr ⟨_, rfl, t3⟩)⟩ rfl rfl k (fun x_669 h_668 k => ?_)
      refine R_ps 2 (pc2 := 2004) (L2 := [some (vr (some a0)), some (vr (some a1)), some (vr (some a2)), some (vr (some a3)), some (vr (some a4)), some (vi x5), some (vi x_666), some (vd x_669), none]) (st2 := [vr (some a2)]) rfl ?_
      refine R_cI (as := [vr (some a2)]) rfl rfl ⟨Nat.le_of_ble_eq_true rfl, Nat.le_of_ble_eq_true rfl, rfl, (Or.inr ⟨_, rfl, t3⟩)⟩ rfl rfl k (fun x_672 h_671 k => ?_)
      refine R_ps 1 (pc2 := 2009) (L2 := [some (vr (some a0)), some (vr (some a1)), some (vr (some a2)), some (vr (some a3)), some (vr (some a4)), some (vi x5), some (vi x_666), some (vd x_669), none]) (st2 := [vi x_666, vi x_672]) rfl ?_
      refine R_if rfl (fun c_673 => ?_) (fun c_673 => ?_)
      · have k := k.1 c_673
        refine R_ps 1 (pc2 := 2016) (L2 := [some (vr (some a0)), some (vr (some a1)), some (vr (some a2)), some (vr (some a3)), some (vr (some a4)), some (vi x5), some (vi x_666), some (vd x_669), none]) (st2 := [vi x_666]) rfl ?_
        refine R_if0 rfl (fun c_674 => ?_) (fun c_674 => ?_)
        · have k := k.2 c_674
          refine R_ps 3 (pc2 := 28) (L2 := [some (vr (some a0)), some (vr (some a1)), some (vr (some a2)), some (vr (some a3)), some (vr (some a4)), some (vi (x5 + 5)), some (vi x_666), some (vd x_669), none]) (st2 := []) rfl ?_
          exact R_drop k (LE_of (L := [some (vr (some a0)), some (vr (some a1)), some (vr (some a2)), some (vr (some a3)), some (vr (some a4)), some (vi (x5 + 5)), none, none, none]) (L2 := [some (vr (some a0)), some (vr (some a1)), some (vr (some a2)), some (vr (some a3)), some (vr (some a4)), some (vi (x5 + 5)), some (vi x_666), some (vd x_669), none]) ⟨rfl, rfl, rfl, rfl, rfl, rfl, trivial⟩)
        · have k := k.1 (Classical.not_not.mp c_674)
          refine R_ps 2 (pc2 := 2022) (L2 := [some (vr (some a0)), some (vr (some a1)), some (vr (some a2)), some (vr (some a3)), some (vr (some a4)), some (vi x5), some (vi x_666), some (vd x_669), none]) (st2 := [vi 0, vr (some a4)]) rfl ?_
          obtain ⟨t_676, k⟩ := k
          refine R_dald rfl t5 t_676 ?_
          refine R_ps 2 (pc2 := 2026) (L2 := [some (vr (some a0)), some (vr (some a1)), some (vr (some a2)), some (vr (some a3)), some (vr (some a4)), some (vi x5), some (vi x_666), some (vd x_669), none]) (st2 := [vi (Op.cmpValue (FP.dcmp (gd h_671 a4 0) x_669) .l)]) rfl ?_
          refine R_if0 rfl (fun c_677 => ?_) (fun c_677 => ?_)
          · have k := k.1 c_677
            refine R_ps 3 (pc2 := 28) (L2 := [some (vr (some a0)), some (vr (some a1)), some (vr (some a2)), some (vr (some a3)), some (vr (some a4)), some (vi (x5 + 5)), some (vi x_666), some (vd x_669), none]) (st2 := []) rfl ?_
            exact R_drop k (LE_of (L := [some (vr (some a0)), some (vr (some a1)), some (vr (some a2)), some (vr (some a3)), some (vr (some a4)), some (vi (x5 + 5)), none, none, none]) (L2 := [some (vr (some a0)), some (vr (some a1)), some (vr (some a2)), some (vr (some a3)), some (vr (some a4)), some (vi (x5 + 5)), some (vi x_666), some (vd x_669), none]) ⟨rfl, rfl, rfl, rfl, rfl, rfl, trivial⟩)
          · have k := k.2 c_677
            refine R_ps 2 (pc2 := 2032) (L2 := [some (vr (some a0)), some (vr (some a1)), some (vr (some a2)), some (vr (some a3)), some (vr (some a4)), some (vi x5), some (vi x_666), some (vd x_669), none]) (st2 := [vi 0, vr (some a4)]) rfl ?_
            refine R_dald rfl t5 t_676 ?_
            refine R_ps 2 (pc2 := 2036) (L2 := [some (vr (some a0)), some (vr (some a1)), some (vr (some a2)), some (vr (some a3)), some (vr (some a4)), some (vi x5), some (vi x_666), some (vd x_669), none]) (st2 := [vi 0, vr (some a4), vd (gd h_671 a4 0)]) rfl ?_
            refine R_dald rfl t5 t_676 ?_
            refine R_ps 1 (pc2 := 2038) (L2 := [some (vr (some a0)), some (vr (some a1)), some (vr (some a2)), some (vr (some a3)), some (vr (some a4)), some (vi x5), some (vi x_666), some (vd x_669), none]) (st2 := [vi (Op.cmpValue (FP.dcmp (gd h_671 a4 0) (gd h_671 a4 0)) .l)]) rfl ?_
            refine R_if0 rfl (fun c_680 => ?_) (fun c_680 => ?_)
            · have k := k.1 c_680
              refine R_ps 1 (pc2 := 2050) (L2 := [some (vr (some a0)), some (vr (some a1)), some (vr (some a2)), some (vr (some a3)), some (vr (some a4)), some (vi x5), some (vi x_666), some (vd x_669), none]) (st2 := [vi 0]) rfl ?_
              exact R_zret rfl rfl (Or.inl rfl) ⟨_, rfl, k⟩
            · have k := k.2 c_680
              refine R_ps 3 (pc2 := 2046) (L2 := [some (vr (some a0)), some (vr (some a1)), some (vr (some a2)), some (vr (some a3)), some (vr (some a4)), some (vi x5), some (vi x_666), some (vd x_669), none]) (st2 := [vi (Op.cmpValue (FP.dcmp x_669 x_669) .l)]) rfl ?_
              refine R_if0 rfl (fun c_682 => ?_) (fun c_682 => ?_)
              · have k := k.2 c_682
                refine R_ps 3 (pc2 := 28) (L2 := [some (vr (some a0)), some (vr (some a1)), some (vr (some a2)), some (vr (some a3)), some (vr (some a4)), some (vi (x5 + 5)), some (vi x_666), some (vd x_669), none]) (st2 := []) rfl ?_
                exact R_drop k (LE_of (L := [some (vr (some a0)), some (vr (some a1)), some (vr (some a2)), some (vr (some a3)), some (vr (some a4)), some (vi (x5 + 5)), none, none, none]) (L2 := [some (vr (some a0)), some (vr (some a1)), some (vr (some a2)), some (vr (some a3)), some (vr (some a4)), some (vi (x5 + 5)), some (vi x_666), some (vd x_669), none]) ⟨rfl, rfl, rfl, rfl, rfl, rfl, trivial⟩)
              · have k := k.1 (Classical.not_not.mp c_682)
                refine R_ps 1 (pc2 := 2050) (L2 := [some (vr (some a0)), some (vr (some a1)), some (vr (some a2)), some (vr (some a3)), some (vr (some a4)), some (vi x5), some (vi x_666), some (vd x_669), none]) (st2 := [vi 0]) rfl ?_
                exact R_zret rfl rfl (Or.inl rfl) ⟨_, rfl, k⟩
      · have k := k.2 c_673
        refine R_ps 1 (pc2 := 2013) (L2 := [some (vr (some a0)), some (vr (some a1)), some (vr (some a2)), some (vr (some a3)), some (vr (some a4)), some (vi x5), some (vi x_666), some (vd x_669), none]) (st2 := [vi 0]) rfl ?_
        exact R_zret rfl rfl (Or.inl rfl) ⟨_, rfl, k⟩
    replace k := k.2 c_6
    refine ⟨fun c_6 => ?_, fun c_6 => ?_⟩
    · have k := k.1 c_6
      show WP T N _ 2054 _ _ _ _
      refine R_ps 2 (pc2 := 2056) (L2 := [some (vr (some a0)), some (vr (some a1)), some (vr (some a2)), some (vr (some a3)), some (vr (some a4)), some (vi x5), none, none, none]) (st2 := [vr (some a3), vr (some a1)]) rfl ?_
      refine R_cI (as := [vr (some a1), vr (some a3)]) rfl rfl ⟨Nat.le_of_ble_eq_true rfl, Nat.le_of_ble_eq_true rfl, rfl, (Or.inl rfl)⟩ rfl rfl k (fun x_687 h_686 k => ?_)
      refine R_ps 2 (pc2 := 2062) (L2 := [some (vr (some a0)), some (vr (some a1)), some (vr (some a2)), some (vr (some a3)), some (vr (some a4)), some (vi x5), some (vi x_687), none, none]) (st2 := [vr (some a2)]) rfl ?_
      refine R_cI (as := [vr (some a2)]) rfl rfl ⟨Nat.le_of_ble_eq_true rfl, Nat.le_of_ble_eq_true rfl, rfl, (Or.inr ⟨_, rfl, t3⟩)⟩ rfl rfl k (fun x_690 h_689 k => ?_)
      refine R_ps 2 (pc2 := 2068) (L2 := [some (vr (some a0)), some (vr (some a1)), some (vr (some a2)), some (vr (some a3)), some (vr (some a4)), some (vi x5), some (vi x_687), some (vi x_690), none]) (st2 := [vr (some a2)]) rfl ?_
      refine R_cI (as := [vr (some a2)]) rfl rfl ⟨Nat.le_of_ble_eq_true rfl, Nat.le_of_ble_eq_true rfl, rfl, (Or.inr ⟨_, rfl, t3⟩)⟩ rfl rfl k (fun x_693 h_692 k => ?_)
      refine R_ps 1 (pc2 := 2073) (L2 := [some (vr (some a0)), some (vr (some a1)), some (vr (some a2)), some (vr (some a3)), some (vr (some a4)), some (vi x5), some (vi x_687), some (vi x_690), none]) (st2 := [vi x_687, vi x_693]) rfl ?_
      refine R_if rfl (fun c_694 => ?_) (fun c_694 => ?_)
      · have k := k.1 c_694
        refine R_ps 1 (pc2 := 2080) (L2 := [some (vr (some a0)), some (vr (some a1)), some (vr (some a2)), some (vr (some a3)), some (vr (some a4)), some (vi x5), some (vi x_687), some (vi x_690), none]) (st2 := [vi x_687]) rfl ?_
        refine R_if0 rfl (fun c_695 => ?_) (fun c_695 => ?_)
        · have k := k.2 c_695
          refine R_ps 3 (pc2 := 28) (L2 := [some (vr (some a0)), some (vr (some a1)), some (vr (some a2)), some (vr (some a3)), some (vr (some a4)), some (vi (x5 + 5)), some (vi x_687), some (vi x_690), none]) (st2 := []) rfl ?_
          exact R_drop k (LE_of (L := [some (vr (some a0)), some (vr (some a1)), some (vr (some a2)), some (vr (some a3)), some (vr (some a4)), some (vi (x5 + 5)), none, none, none]) (L2 := [some (vr (some a0)), some (vr (some a1)), some (vr (some a2)), some (vr (some a3)), some (vr (some a4)), some (vi (x5 + 5)), some (vi x_687), some (vi x_690), none]) ⟨rfl, rfl, rfl, rfl, rfl, rfl, trivial⟩)
        · have k := k.1 (Classical.not_not.mp c_695)
          refine R_ps 2 (pc2 := 2085) (L2 := [some (vr (some a0)), some (vr (some a1)), some (vr (some a2)), some (vr (some a3)), some (vr (some a4)), some (vi x5), some (vi x_687), some (vi x_690), none]) (st2 := [vi 0, vr (some a3)]) rfl ?_
          obtain ⟨t_697, k⟩ := k
          refine R_lald rfl t4 t_697 ?_
          refine R_ps 3 (pc2 := 2090) (L2 := [some (vr (some a0)), some (vr (some a1)), some (vr (some a2)), some (vr (some a3)), some (vr (some a4)), some (vi x5), some (vi x_687), some (vi x_690), none]) (st2 := [vi (lg_cmp (gl h_692 a3 0) x_690.toInt64)]) rfl ?_
          refine R_if0 rfl (fun c_698 => ?_) (fun c_698 => ?_)
          · have k := k.1 c_698
            refine R_ps 3 (pc2 := 28) (L2 := [some (vr (some a0)), some (vr (some a1)), some (vr (some a2)), some (vr (some a3)), some (vr (some a4)), some (vi (x5 + 5)), some (vi x_687), some (vi x_690), none]) (st2 := []) rfl ?_
            exact R_drop k (LE_of (L := [some (vr (some a0)), some (vr (some a1)), some (vr (some a2)), some (vr (some a3)), some (vr (some a4)), some (vi (x5 + 5)), none, none, none]) (L2 := [some (vr (some a0)), some (vr (some a1)), some (vr (some a2)), some (vr (some a3)), some (vr (some a4)), some (vi (x5 + 5)), some (vi x_687), some (vi x_690), none]) ⟨rfl, rfl, rfl, rfl, rfl, rfl, trivial⟩)
          · have k := k.2 c_698
            refine R_ps 1 (pc2 := 2094) (L2 := [some (vr (some a0)), some (vr (some a1)), some (vr (some a2)), some (vr (some a3)), some (vr (some a4)), some (vi x5), some (vi x_687), some (vi x_690), none]) (st2 := [vi 0]) rfl ?_
            exact R_zret rfl rfl (Or.inl rfl) ⟨_, rfl, k⟩
      · have k := k.2 c_694
        refine R_ps 1 (pc2 := 2077) (L2 := [some (vr (some a0)), some (vr (some a1)), some (vr (some a2)), some (vr (some a3)), some (vr (some a4)), some (vi x5), some (vi x_687), some (vi x_690), none]) (st2 := [vi 0]) rfl ?_
        exact R_zret rfl rfl (Or.inl rfl) ⟨_, rfl, k⟩
    replace k := k.2 c_6
    refine ⟨fun c_6 => ?_, fun c_6 => ?_⟩
    · have k := k.1 c_6
      show WP T N _ 2098 _ _ _ _
      refine R_ps 5 (pc2 := 2104) (L2 := [some (vr (some a0)), some (vr (some a1)), some (vr (some a2)), some (vr (some a3)), some (vr (some a4)), some (vi x5), none, none, none]) (st2 := [vi (x5 + 1), vr (some a0), vr (some a1)]) rfl ?_
      obtain ⟨t_702, k⟩ := k
      refine R_iald rfl (Or.inr t1) t_702 ?_
      refine R_ps 2 (pc2 := 2107) (L2 := [some (vr (some a0)), some (vr (some a1)), some (vr (some a2)), some (vr (some a3)), some (vr (some a4)), some (vi x5), none, none, none]) (st2 := [vr (some a3), vi (((gi h a0 (Int32.toNatClampNeg (x5 + 1))).toUInt32 % 65536).toInt32), vr (some a1)]) rfl ?_
      refine R_cI (as := [vr (some a1), vi (((gi h a0 (Int32.toNatClampNeg (x5 + 1))).toUInt32 % 65536).toInt32), vr (some a3)]) rfl rfl ⟨Nat.le_of_ble_eq_true rfl, Nat.le_of_ble_eq_true rfl, rfl, (Or.inl rfl)⟩ rfl rfl k (fun x_705 h_704 k => ?_)
      refine R_ps 6 (pc2 := 2118) (L2 := [some (vr (some a0)), some (vr (some a1)), some (vr (some a2)), some (vr (some a3)), some (vr (some a4)), some (vi x5), some (vi x_705), none, none]) (st2 := [vi (x5 + 1), vr (some a0), vr (some a2)]) rfl ?_
      refine R_iald rfl (Or.inr t1) t_702 ?_
      refine R_ps 1 (pc2 := 2120) (L2 := [some (vr (some a0)), some (vr (some a1)), some (vr (some a2)), some (vr (some a3)), some (vr (some a4)), some (vi x5), some (vi x_705), none, none]) (st2 := [vi (((gi h_704 a0 (Int32.toNatClampNeg (x5 + 1))).toUInt32 % 65536).toInt32), vr (some a2)]) rfl ?_
      refine R_cI (as := [vr (some a2), vi (((gi h_704 a0 (Int32.toNatClampNeg (x5 + 1))).toUInt32 % 65536).toInt32)]) rfl rfl ⟨Nat.le_of_ble_eq_true rfl, Nat.le_of_ble_eq_true rfl, rfl, (Or.inr ⟨_, rfl, t3⟩)⟩ rfl rfl k (fun x_709 h_708 k => ?_)
      refine R_ps 2 (pc2 := 2126) (L2 := [some (vr (some a0)), some (vr (some a1)), some (vr (some a2)), some (vr (some a3)), some (vr (some a4)), some (vi x5), some (vi x_705), some (vi x_709), none]) (st2 := [vr (some a2)]) rfl ?_
      refine R_cI (as := [vr (some a2)]) rfl rfl ⟨Nat.le_of_ble_eq_true rfl, Nat.le_of_ble_eq_true rfl, rfl, (Or.inr ⟨_, rfl, t3⟩)⟩ rfl rfl k (fun x_712 h_711 k => ?_)
      refine R_ps 1 (pc2 := 2131) (L2 := [some (vr (some a0)), some (vr (some a1)), some (vr (some a2)), some (vr (some a3)), some (vr (some a4)), some (vi x5), some (vi x_705), some (vi x_709), none]) (st2 := [vi x_705, vi x_712]) rfl ?_
      refine R_if rfl (fun c_713 => ?_) (fun c_713 => ?_)
      · have k := k.1 c_713
        refine R_ps 1 (pc2 := 2138) (L2 := [some (vr (some a0)), some (vr (some a1)), some (vr (some a2)), some (vr (some a3)), some (vr (some a4)), some (vi x5), some (vi x_705), some (vi x_709), none]) (st2 := [vi x_705]) rfl ?_
        refine R_if0 rfl (fun c_714 => ?_) (fun c_714 => ?_)
        · have k := k.2 c_714
          refine R_ps 3 (pc2 := 28) (L2 := [some (vr (some a0)), some (vr (some a1)), some (vr (some a2)), some (vr (some a3)), some (vr (some a4)), some (vi (x5 + 5)), some (vi x_705), some (vi x_709), none]) (st2 := []) rfl ?_
          exact R_drop k (LE_of (L := [some (vr (some a0)), some (vr (some a1)), some (vr (some a2)), some (vr (some a3)), some (vr (some a4)), some (vi (x5 + 5)), none, none, none]) (L2 := [some (vr (some a0)), some (vr (some a1)), some (vr (some a2)), some (vr (some a3)), some (vr (some a4)), some (vi (x5 + 5)), some (vi x_705), some (vi x_709), none]) ⟨rfl, rfl, rfl, rfl, rfl, rfl, trivial⟩)
        · have k := k.1 (Classical.not_not.mp c_714)
          refine R_ps 2 (pc2 := 2143) (L2 := [some (vr (some a0)), some (vr (some a1)), some (vr (some a2)), some (vr (some a3)), some (vr (some a4)), some (vi x5), some (vi x_705), some (vi x_709), none]) (st2 := [vi 0, vr (some a3)]) rfl ?_
          obtain ⟨t_716, k⟩ := k
          refine R_lald rfl t4 t_716 ?_
          refine R_ps 3 (pc2 := 2148) (L2 := [some (vr (some a0)), some (vr (some a1)), some (vr (some a2)), some (vr (some a3)), some (vr (some a4)), some (vi x5), some (vi x_705), some (vi x_709), none]) (st2 := [vi (lg_cmp (gl h_711 a3 0) x_709.toInt64)]) rfl ?_
          refine R_if0 rfl (fun c_717 => ?_) (fun c_717 => ?_)
          · have k := k.1 c_717
            refine R_ps 3 (pc2 := 28) (L2 := [some (vr (some a0)), some (vr (some a1)), some (vr (some a2)), some (vr (some a3)), some (vr (some a4)), some (vi (x5 + 5)), some (vi x_705), some (vi x_709), none]) (st2 := []) rfl ?_
            exact R_drop k (LE_of (L := [some (vr (some a0)), some (vr (some a1)), some (vr (some a2)), some (vr (some a3)), some (vr (some a4)), some (vi (x5 + 5)), none, none, none]) (L2 := [some (vr (some a0)), some (vr (some a1)), some (vr (some a2)), some (vr (some a3)), some (vr (some a4)), some (vi (x5 + 5)), some (vi x_705), some (vi x_709), none]) ⟨rfl, rfl, rfl, rfl, rfl, rfl, trivial⟩)
          · have k := k.2 c_717
            refine R_ps 1 (pc2 := 2152) (L2 := [some (vr (some a0)), some (vr (some a1)), some (vr (some a2)), some (vr (some a3)), some (vr (some a4)), some (vi x5), some (vi x_705), some (vi x_709), none]) (st2 := [vi 0]) rfl ?_
            exact R_zret rfl rfl (Or.inl rfl) ⟨_, rfl, k⟩
      · have k := k.2 c_713
        refine R_ps 1 (pc2 := 2135) (L2 := [some (vr (some a0)), some (vr (some a1)), some (vr (some a2)), some (vr (some a3)), some (vr (some a4)), some (vi x5), some (vi x_705), some (vi x_709), none]) (st2 := [vi 0]) rfl ?_
        exact R_zret rfl rfl (Or.inl rfl) ⟨_, rfl, k⟩
    replace k := k.2 c_6
    refine ⟨fun c_6 => ?_, fun c_6 => ?_⟩
    · have k := k.1 c_6
      show WP T N _ 2156 _ _ _ _
      refine R_ps 2 (pc2 := 2158) (L2 := [some (vr (some a0)), some (vr (some a1)), some (vr (some a2)), some (vr (some a3)), some (vr (some a4)), some (vi x5), none, none, none]) (st2 := [vr (some a3), vr (some a1)]) rfl ?_
      refine R_cI (as := [vr (some a1), vr (some a3)]) rfl rfl ⟨Nat.le_of_ble_eq_true rfl, Nat.le_of_ble_eq_true rfl, rfl, (Or.inl rfl)⟩ rfl rfl k (fun x_722 h_721 k => ?_)
      refine R_ps 2 (pc2 := 2164) (L2 := [some (vr (some a0)), some (vr (some a1)), some (vr (some a2)), some (vr (some a3)), some (vr (some a4)), some (vi x5), some (vi x_722), none, none]) (st2 := [vr (some a2)]) rfl ?_
      refine R_cI (as := [vr (some a2)]) rfl rfl ⟨Nat.le_of_ble_eq_true rfl, Nat.le_of_ble_eq_true rfl, rfl, (Or.inr ⟨_, rfl, t3⟩)⟩ rfl rfl k (fun x_725 h_724 k => ?_)
      refine R_ps 2 (pc2 := 2170) (L2 := [some (vr (some a0)), some (vr (some a1)), some (vr (some a2)), some (vr (some a3)), some (vr (some a4)), some (vi x5), some (vi x_722), some (vi x_725), none]) (st2 := [vr (some a2)]) rfl ?_
      refine R_cI (as := [vr (some a2)]) rfl rfl ⟨Nat.le_of_ble_eq_true rfl, Nat.le_of_ble_eq_true rfl, rfl, (Or.inr ⟨_, rfl, t3⟩)⟩ rfl rfl k (fun x_728 h_727 k => ?_)
      refine R_ps 1 (pc2 := 2175) (L2 := [some (vr (some a0)), some (vr (some a1)), some (vr (some a2)), some (vr (some a3)), some (vr (some a4)), some (vi x5), some (vi x_722), some (vi x_725), none]) (st2 := [vi x_722, vi x_728]) rfl ?_
      refine R_if rfl (fun c_729 => ?_) (fun c_729 => ?_)
      · have k := k.1 c_729
        refine R_ps 1 (pc2 := 2182) (L2 := [some (vr (some a0)), some (vr (some a1)), some (vr (some a2)), some (vr (some a3)), some (vr (some a4)), some (vi x5), some (vi x_722), some (vi x_725), none]) (st2 := [vi x_722]) rfl ?_
        refine R_if0 rfl (fun c_730 => ?_) (fun c_730 => ?_)
        · have k := k.2 c_730
          refine R_ps 3 (pc2 := 28) (L2 := [some (vr (some a0)), some (vr (some a1)), some (vr (some a2)), some (vr (some a3)), some (vr (some a4)), some (vi (x5 + 5)), some (vi x_722), some (vi x_725), none]) (st2 := []) rfl ?_
          exact R_drop k (LE_of (L := [some (vr (some a0)), some (vr (some a1)), some (vr (some a2)), some (vr (some a3)), some (vr (some a4)), some (vi (x5 + 5)), none, none, none]) (L2 := [some (vr (some a0)), some (vr (some a1)), some (vr (some a2)), some (vr (some a3)), some (vr (some a4)), some (vi (x5 + 5)), some (vi x_722), some (vi x_725), none]) ⟨rfl, rfl, rfl, rfl, rfl, rfl, trivial⟩)
        · have k := k.1 (Classical.not_not.mp c_730)
          refine R_ps 2 (pc2 := 2187) (L2 := [some (vr (some a0)), some (vr (some a1)), some (vr (some a2)), some (vr (some a3)), some (vr (some a4)), some (vi x5), some (vi x_722), some (vi x_725), none]) (st2 := [vi 0, vr (some a3)]) rfl ?_
          obtain ⟨t_732, k⟩ := k
          refine R_lald rfl t4 t_732 ?_
          refine R_ps 3 (pc2 := 2192) (L2 := [some (vr (some a0)), some (vr (some a1)), some (vr (some a2)), some (vr (some a3)), some (vr (some a4)), some (vi x5), some (vi x_722), some (vi x_725), none]) (st2 := [vi (lg_cmp (gl h_727 a3 0) x_725.toInt64)]) rfl ?_
          refine R_if0 rfl (fun c_733 => ?_) (fun c_733 => ?_)
          · have k := k.1 c_733
            refine R_ps 3 (pc2 := 28) (L2 := [some (vr (some a0)), some (vr (some a1)), some (vr (some a2)), some (vr (some a3)), some (vr (some a4)), some (vi (x5 + 5)), some (vi x_722), some (vi x_725), none]) (st2 := []) rfl ?_
            exact R_drop k (LE_of (L := [some (vr (some a0)), some (vr (some a1)), some (vr (some a2)), some (vr (some a3)), some (vr (some a4)), some (vi (x5 + 5)), none, none, none]) (L2 := [some (vr (some a0)), some (vr (some a1)), some (vr (some a2)), some (vr (some a3)), some (vr (some a4)), some (vi (x5 + 5)), some (vi x_722), some (vi x_725), none]) ⟨rfl, rfl, rfl, rfl, rfl, rfl, trivial⟩)
          · have k := k.2 c_733
            refine R_ps 1 (pc2 := 2196) (L2 := [some (vr (some a0)), some (vr (some a1)), some (vr (some a2)), some (vr (some a3)), some (vr (some a4)), some (vi x5), some (vi x_722), some (vi x_725), none]) (st2 := [vi 0]) rfl ?_
            exact R_zret rfl rfl (Or.inl rfl) ⟨_, rfl, k⟩
      · have k := k.2 c_729
        refine R_ps 1 (pc2 := 2179) (L2 := [some (vr (some a0)), some (vr (some a1)), some (vr (some a2)), some (vr (some a3)), some (vr (some a4)), some (vi x5), some (vi x_722), some (vi x_725), none]) (st2 := [vi 0]) rfl ?_
        exact R_zret rfl rfl (Or.inl rfl) ⟨_, rfl, k⟩
    replace k := k.2 c_6
    refine ⟨fun c_6 => ?_, fun c_6 => ?_⟩
    · have k := k.1 c_6
      show WP T N _ 2200 _ _ _ _
      refine R_ps 2 (pc2 := 2202) (L2 := [some (vr (some a0)), some (vr (some a1)), some (vr (some a2)), some (vr (some a3)), some (vr (some a4)), some (vi x5), none, none, none]) (st2 := [vr (some a3), vr (some a1)]) rfl ?_
      refine R_cI (as := [vr (some a1), vr (some a3)]) rfl rfl ⟨Nat.le_of_ble_eq_true rfl, Nat.le_of_ble_eq_true rfl, rfl, (Or.inl rfl)⟩ rfl rfl k (fun x_738 h_737 k => ?_)
      refine R_ps 2 (pc2 := 2208) (L2 := [some (vr (some a0)), some (vr (some a1)), some (vr (some a2)), some (vr (some a3)), some (vr (some a4)), some (vi x5), some (vi x_738), none, none]) (st2 := [vr (some a2)]) rfl ?_
      refine R_cI (as := [vr (some a2)]) rfl rfl ⟨Nat.le_of_ble_eq_true rfl, Nat.le_of_ble_eq_true rfl, rfl, (Or.inr ⟨_, rfl, t3⟩)⟩ rfl rfl k (fun x_741 h_740 k => ?_)
      refine R_ps 2 (pc2 := 2214) (L2 := [some (vr (some a0)), some (vr (some a1)), some (vr (some a2)), some (vr (some a3)), some (vr (some a4)), some (vi x5), some (vi x_738), some (vi x_741), none]) (st2 := [vr (some a2)]) rfl ?_
      refine R_cI (as := [vr (some a2)]) rfl rfl ⟨Nat.le_of_ble_eq_true rfl, Nat.le_of_ble_eq_true rfl, rfl, (Or.inr ⟨_, rfl, t3⟩)⟩ rfl rfl k (fun x_744 h_743 k => ?_)
      refine R_ps 1 (pc2 := 2219) (L2 := [some (vr (some a0)), some (vr (some a1)), some (vr (some a2)), some (vr (some a3)), some (vr (some a4)), some (vi x5), some (vi x_738), some (vi x_741), none]) (st2 := [vi x_738, vi x_744]) rfl ?_
      refine R_if rfl (fun c_745 => ?_) (fun c_745 => ?_)
      · have k := k.1 c_745
        refine R_ps 1 (pc2 := 2226) (L2 := [some (vr (some a0)), some (vr (some a1)), some (vr (some a2)), some (vr (some a3)), some (vr (some a4)), some (vi x5), some (vi x_738), some (vi x_741), none]) (st2 := [vi x_738]) rfl ?_
        refine R_if0 rfl (fun c_746 => ?_) (fun c_746 => ?_)
        · have k := k.2 c_746
          refine R_ps 3 (pc2 := 28) (L2 := [some (vr (some a0)), some (vr (some a1)), some (vr (some a2)), some (vr (some a3)), some (vr (some a4)), some (vi (x5 + 5)), some (vi x_738), some (vi x_741), none]) (st2 := []) rfl ?_
          exact R_drop k (LE_of (L := [some (vr (some a0)), some (vr (some a1)), some (vr (some a2)), some (vr (some a3)), some (vr (some a4)), some (vi (x5 + 5)), none, none, none]) (L2 := [some (vr (some a0)), some (vr (some a1)), some (vr (some a2)), some (vr (some a3)), some (vr (some a4)), some (vi (x5 + 5)), some (vi x_738), some (vi x_741), none]) ⟨rfl, rfl, rfl, rfl, rfl, rfl, trivial⟩)
        · have k := k.1 (Classical.not_not.mp c_746)
          refine R_ps 2 (pc2 := 2231) (L2 := [some (vr (some a0)), some (vr (some a1)), some (vr (some a2)), some (vr (some a3)), some (vr (some a4)), some (vi x5), some (vi x_738), some (vi x_741), none]) (st2 := [vi 0, vr (some a3)]) rfl ?_
          obtain ⟨t_748, k⟩ := k
          refine R_lald rfl t4 t_748 ?_
          refine R_ps 3 (pc2 := 2236) (L2 := [some (vr (some a0)), some (vr (some a1)), some (vr (some a2)), some (vr (some a3)), some (vr (some a4)), some (vi x5), some (vi x_738), some (vi x_741), none]) (st2 := [vi (lg_cmp (gl h_743 a3 0) x_741.toInt64)]) rfl ?_
          refine R_if0 rfl (fun c_749 => ?_) (fun c_749 => ?_)
          · have k := k.1 c_749
            refine R_ps 3 (pc2 := 28) (L2 := [some (vr (some a0)), some (vr (some a1)), some (vr (some a2)), some (vr (some a3)), some (vr (some a4)), some (vi (x5 + 5)), some (vi x_738), some (vi x_741), none]) (st2 := []) rfl ?_
            exact R_drop k (LE_of (L := [some (vr (some a0)), some (vr (some a1)), some (vr (some a2)), some (vr (some a3)), some (vr (some a4)), some (vi (x5 + 5)), none, none, none]) (L2 := [some (vr (some a0)), some (vr (some a1)), some (vr (some a2)), some (vr (some a3)), some (vr (some a4)), some (vi (x5 + 5)), some (vi x_738), some (vi x_741), none]) ⟨rfl, rfl, rfl, rfl, rfl, rfl, trivial⟩)
          · have k := k.2 c_749
            refine R_ps 1 (pc2 := 2240) (L2 := [some (vr (some a0)), some (vr (some a1)), some (vr (some a2)), some (vr (some a3)), some (vr (some a4)), some (vi x5), some (vi x_738), some (vi x_741), none]) (st2 := [vi 0]) rfl ?_
            exact R_zret rfl rfl (Or.inl rfl) ⟨_, rfl, k⟩
      · have k := k.2 c_745
        refine R_ps 1 (pc2 := 2223) (L2 := [some (vr (some a0)), some (vr (some a1)), some (vr (some a2)), some (vr (some a3)), some (vr (some a4)), some (vi x5), some (vi x_738), some (vi x_741), none]) (st2 := [vi 0]) rfl ?_
        exact R_zret rfl rfl (Or.inl rfl) ⟨_, rfl, k⟩
    replace k := k.2 c_6
    refine ⟨fun c_6 => ?_, fun c_6 => ?_⟩
    · have k := k.1 c_6
      show WP T N _ 2244 _ _ _ _
      refine R_ps 5 (pc2 := 2250) (L2 := [some (vr (some a0)), some (vr (some a1)), some (vr (some a2)), some (vr (some a3)), some (vr (some a4)), some (vi x5), none, none, none]) (st2 := [vi (x5 + 1), vr (some a0), vr (some a1)]) rfl ?_
      obtain ⟨t_753, k⟩ := k
      refine R_iald rfl (Or.inr t1) t_753 ?_
      refine R_ps 4 (pc2 := 2256) (L2 := [some (vr (some a0)), some (vr (some a1)), some (vr (some a2)), some (vr (some a3)), some (vr (some a4)), some (vi x5), none, none, none]) (st2 := [vi (x5 + 2), vr (some a0), vi (gi h a0 (Int32.toNatClampNeg (x5 + 1))), vr (some a1)]) rfl ?_
      obtain ⟨t_755, k⟩ := k
      refine R_iald rfl (Or.inr t1) t_755 ?_
      refine R_ps 1 (pc2 := 2258) (L2 := [some (vr (some a0)), some (vr (some a1)), some (vr (some a2)), some (vr (some a3)), some (vr (some a4)), some (vi x5), none, none, none]) (st2 := [vr (some a3), vi (gi h a0 (Int32.toNatClampNeg (x5 + 2))), vi (gi h a0 (Int32.toNatClampNeg (x5 + 1))), vr (some a1)]) rfl ?_
      refine R_cI (as := [vr (some a1), vi (gi h a0 (Int32.toNatClampNeg (x5 + 1))), vi (gi h a0 (Int32.toNatClampNeg (x5 + 2))), vr (some a3)]) rfl rfl ⟨Nat.le_of_ble_eq_true rfl, Nat.le_of_ble_eq_true rfl, rfl, (Or.inl rfl)⟩ rfl rfl k (fun x_758 h_757 k => ?_)
      refine R_ps 6 (pc2 := 2269) (L2 := [some (vr (some a0)), some (vr (some a1)), some (vr (some a2)), some (vr (some a3)), some (vr (some a4)), some (vi x5), some (vi x_758), none, none]) (st2 := [vi (x5 + 1), vr (some a0), vr (some a2)]) rfl ?_
      refine R_iald rfl (Or.inr t1) t_753 ?_
      refine R_ps 4 (pc2 := 2275) (L2 := [some (vr (some a0)), some (vr (some a1)), some (vr (some a2)), some (vr (some a3)), some (vr (some a4)), some (vi x5), some (vi x_758), none, none]) (st2 := [vi (x5 + 2), vr (some a0), vi (gi h_757 a0 (Int32.toNatClampNeg (x5 + 1))), vr (some a2)]) rfl ?_
      refine R_iald rfl (Or.inr t1) t_755 ?_
      refine R_cI (as := [vr (some a2), vi (gi h_757 a0 (Int32.toNatClampNeg (x5 + 1))), vi (gi h_757 a0 (Int32.toNatClampNeg (x5 + 2)))]) rfl rfl ⟨Nat.le_of_ble_eq_true rfl, Nat.le_of_ble_eq_true rfl, rfl, (Or.inr ⟨_, rfl, t3⟩)⟩ rfl rfl k (fun x_763 h_762 k => ?_)
      refine R_ps 2 (pc2 := 2282) (L2 := [some (vr (some a0)), some (vr (some a1)), some (vr (some a2)), some (vr (some a3)), some (vr (some a4)), some (vi x5), some (vi x_758), some (vi x_763), none]) (st2 := [vr (some a2)]) rfl ?_
      refine R_cI (as := [vr (some a2)]) rfl rfl ⟨Nat.le_of_ble_eq_true rfl, Nat.le_of_ble_eq_true rfl, rfl, (Or.inr ⟨_, rfl, t3⟩)⟩ rfl rfl k (fun x_766 h_765 k => ?_)
      refine R_ps 1 (pc2 := 2287) (L2 := [some (vr (some a0)), some (vr (some a1)), some (vr (some a2)), some (vr (some a3)), some (vr (some a4)), some (vi x5), some (vi x_758), some (vi x_763), none]) (st2 := [vi x_758, vi x_766]) rfl ?_
      refine R_if rfl (fun c_767 => ?_) (fun c_767 => ?_)
      · have k := k.1 c_767
        refine R_ps 1 (pc2 := 2294) (L2 := [some (vr (some a0)), some (vr (some a1)), some (vr (some a2)), some (vr (some a3)), some (vr (some a4)), some (vi x5), some (vi x_758), some (vi x_763), none]) (st2 := [vi x_758]) rfl ?_
        refine R_if0 rfl (fun c_768 => ?_) (fun c_768 => ?_)
        · have k := k.2 c_768
          refine R_ps 3 (pc2 := 28) (L2 := [some (vr (some a0)), some (vr (some a1)), some (vr (some a2)), some (vr (some a3)), some (vr (some a4)), some (vi (x5 + 5)), some (vi x_758), some (vi x_763), none]) (st2 := []) rfl ?_
          exact R_drop k (LE_of (L := [some (vr (some a0)), some (vr (some a1)), some (vr (some a2)), some (vr (some a3)), some (vr (some a4)), some (vi (x5 + 5)), none, none, none]) (L2 := [some (vr (some a0)), some (vr (some a1)), some (vr (some a2)), some (vr (some a3)), some (vr (some a4)), some (vi (x5 + 5)), some (vi x_758), some (vi x_763), none]) ⟨rfl, rfl, rfl, rfl, rfl, rfl, trivial⟩)
        · have k := k.1 (Classical.not_not.mp c_768)
          refine R_ps 2 (pc2 := 2299) (L2 := [some (vr (some a0)), some (vr (some a1)), some (vr (some a2)), some (vr (some a3)), some (vr (some a4)), some (vi x5), some (vi x_758), some (vi x_763), none]) (st2 := [vi 0, vr (some a3)]) rfl ?_
          obtain ⟨t_770, k⟩ := k
          refine R_lald rfl t4 t_770 ?_
          refine R_ps 3 (pc2 := 2304) (L2 := [some (vr (some a0)), some (vr (some a1)), some (vr (some a2)), some (vr (some a3)), some (vr (some a4)), some (vi x5), some (vi x_758), some (vi x_763), none]) (st2 := [vi (lg_cmp (gl h_765 a3 0) x_763.toInt64)]) rfl ?_
          refine R_if0 rfl (fun c_771 => ?_) (fun c_771 => ?_)
          · have k := k.1 c_771
            refine R_ps 3 (pc2 := 28) (L2 := [some (vr (some a0)), some (vr (some a1)), some (vr (some a2)), some (vr (some a3)), some (vr (some a4)), some (vi (x5 + 5)), some (vi x_758), some (vi x_763), none]) (st2 := []) rfl ?_
            exact R_drop k (LE_of (L := [some (vr (some a0)), some (vr (some a1)), some (vr (some a2)), some (vr (some a3)), some (vr (some a4)), some (vi (x5 + 5)), none, none, none]) (L2 := [some (vr (some a0)), some (vr (some a1)), some (vr (some a2)), some (vr (some a3)), some (vr (some a4)), some (vi (x5 + 5)), some (vi x_758), some (vi x_763), none]) ⟨rfl, rfl, rfl, rfl, rfl, rfl, trivial⟩)
          · have k := k.2 c_771
            refine R_ps 1 (pc2 := 2308) (L2 := [some (vr (some a0)), some (vr (some a1)), some (vr (some a2)), some (vr (some a3)), some (vr (some a4)), some (vi x5), some (vi x_758), some (vi x_763), none]) (st2 := [vi 0]) rfl ?_
            exact R_zret rfl rfl (Or.inl rfl) ⟨_, rfl, k⟩
      · have k := k.2 c_767
        refine R_ps 1 (pc2 := 2291) (L2 := [some (vr (some a0)), some (vr (some a1)), some (vr (some a2)), some (vr (some a3)), some (vr (some a4)), some (vi x5), some (vi x_758), some (vi x_763), none]) (st2 := [vi 0]) rfl ?_
        exact R_zret rfl rfl (Or.inl rfl) ⟨_, rfl, k⟩
    replace k := k.2 c_6
    refine ⟨fun c_6 => ?_, fun c_6 => ?_⟩
    · have k := k.1 c_6
      show WP T N _ 2312 _ _ _ _
      refine R_ps 2 (pc2 := 2314) (L2 := [some (vr (some a0)), some (vr (some a1)), some (vr (some a2)), some (vr (some a3)), some (vr (some a4)), some (vi x5), none, none, none]) (st2 := [vr (some a3), vr (some a1)]) rfl ?_
      refine R_cI (as := [vr (some a1), vr (some a3)]) rfl rfl ⟨Nat.le_of_ble_eq_true rfl, Nat.le_of_ble_eq_true rfl, rfl, (Or.inl rfl)⟩ rfl rfl k (fun x_776 h_775 k => ?_)
      refine R_ps 2 (pc2 := 2320) (L2 := [some (vr (some a0)), some (vr (some a1)), some (vr (some a2)), some (vr (some a3)), some (vr (some a4)), some (vi x5), some (vi x_776), none, none]) (st2 := [vr (some a2)]) rfl ?_
      refine R_cI (as := [vr (some a2)]) rfl rfl ⟨Nat.le_of_ble_eq_true rfl, Nat.le_of_ble_eq_true rfl, rfl, (Or.inr ⟨_, rfl, t3⟩)⟩ rfl rfl k (fun x_779 h_778 k => ?_)
      refine R_ps 2 (pc2 := 2326) (L2 := [some (vr (some a0)), some (vr (some a1)), some (vr (some a2)), some (vr (some a3)), some (vr (some a4)), some (vi x5), some (vi x_776), some (vi x_779), none]) (st2 := [vr (some a2)]) rfl ?_
      refine R_cI (as := [vr (some a2)]) rfl rfl ⟨Nat.le_of_ble_eq_true rfl, Nat.le_of_ble_eq_true rfl, rfl, (Or.inr ⟨_, rfl, t3⟩)⟩ rfl rfl k (fun x_782 h_781 k => ?_)
      refine R_ps 1 (pc2 := 2331) (L2 := [some (vr (some a0)), some (vr (some a1)), some (vr (some a2)), some (vr (some a3)), some (vr (some a4)), some (vi x5), some (vi x_776), some (vi x_779), none]) (st2 := [vi x_776, vi x_782]) rfl ?_
      refine R_if rfl (fun c_783 => ?_) (fun c_783 => ?_)
      · have k := k.1 c_783
        refine R_ps 1 (pc2 := 2338) (L2 := [some (vr (some a0)), some (vr (some a1)), some (vr (some a2)), some (vr (some a3)), some (vr (some a4)), some (vi x5), some (vi x_776), some (vi x_779), none]) (st2 := [vi x_776]) rfl ?_
        refine R_if0 rfl (fun c_784 => ?_) (fun c_784 => ?_)
        · have k := k.2 c_784
          refine R_ps 3 (pc2 := 28) (L2 := [some (vr (some a0)), some (vr (some a1)), some (vr (some a2)), some (vr (some a3)), some (vr (some a4)), some (vi (x5 + 5)), some (vi x_776), some (vi x_779), none]) (st2 := []) rfl ?_
          exact R_drop k (LE_of (L := [some (vr (some a0)), some (vr (some a1)), some (vr (some a2)), some (vr (some a3)), some (vr (some a4)), some (vi (x5 + 5)), none, none, none]) (L2 := [some (vr (some a0)), some (vr (some a1)), some (vr (some a2)), some (vr (some a3)), some (vr (some a4)), some (vi (x5 + 5)), some (vi x_776), some (vi x_779), none]) ⟨rfl, rfl, rfl, rfl, rfl, rfl, trivial⟩)
        · have k := k.1 (Classical.not_not.mp c_784)
          refine R_ps 2 (pc2 := 2343) (L2 := [some (vr (some a0)), some (vr (some a1)), some (vr (some a2)), some (vr (some a3)), some (vr (some a4)), some (vi x5), some (vi x_776), some (vi x_779), none]) (st2 := [vi 0, vr (some a3)]) rfl ?_
          obtain ⟨t_786, k⟩ := k
          refine R_lald rfl t4 t_786 ?_
          refine R_ps 3 (pc2 := 2348) (L2 := [some (vr (some a0)), some (vr (some a1)), some (vr (some a2)), some (vr (some a3)), some (vr (some a4)), some (vi x5), some (vi x_776), some (vi x_779), none]) (st2 := [vi (lg_cmp (gl h_781 a3 0) x_779.toInt64)]) rfl ?_
          refine R_if0 rfl (fun c_787 => ?_) (fun c_787 => ?_)
          · have k := k.1 c_787
            refine R_ps 3 (pc2 := 28) (L2 := [some (vr (some a0)), some (vr (some a1)), some (vr (some a2)), some (vr (some a3)), some (vr (some a4)), some (vi (x5 + 5)), some (vi x_776), some (vi x_779), none]) (st2 := []) rfl ?_
            exact R_drop k (LE_of (L := [some (vr (some a0)), some (vr (some a1)), some (vr (some a2)), some (vr (some a3)), some (vr (some a4)), some (vi (x5 + 5)), none, none, none]) (L2 := [some (vr (some a0)), some (vr (some a1)), some (vr (some a2)), some (vr (some a3)), some (vr (some a4)), some (vi (x5 + 5)), some (vi x_776), some (vi x_779), none]) ⟨rfl, rfl, rfl, rfl, rfl, rfl, trivial⟩)
          · have k := k.2 c_787
            refine R_ps 1 (pc2 := 2352) (L2 := [some (vr (some a0)), some (vr (some a1)), some (vr (some a2)), some (vr (some a3)), some (vr (some a4)), some (vi x5), some (vi x_776), some (vi x_779), none]) (st2 := [vi 0]) rfl ?_
            exact R_zret rfl rfl (Or.inl rfl) ⟨_, rfl, k⟩
      · have k := k.2 c_783
        refine R_ps 1 (pc2 := 2335) (L2 := [some (vr (some a0)), some (vr (some a1)), some (vr (some a2)), some (vr (some a3)), some (vr (some a4)), some (vi x5), some (vi x_776), some (vi x_779), none]) (st2 := [vi 0]) rfl ?_
        exact R_zret rfl rfl (Or.inl rfl) ⟨_, rfl, k⟩
    replace k := k.2 c_6
    refine ⟨fun c_6 => ?_, fun c_6 => ?_⟩
    · have k := k.1 c_6
      show WP T N _ 2356 _ _ _ _
      refine R_ps 1 (pc2 := 2357) (L2 := [some (vr (some a0)), some (vr (some a1)), some (vr (some a2)), some (vr (some a3)), some (vr (some a4)), some (vi x5), none, none, none]) (st2 := [vr (some a1)]) rfl ?_
      refine R_cI (as := [vr (some a1)]) rfl rfl ⟨Nat.le_of_ble_eq_true rfl, Nat.le_of_ble_eq_true rfl, rfl, (Or.inr ⟨_, rfl, t2⟩)⟩ rfl rfl k (fun x_792 h_791 k => ?_)
      refine R_ps 1 (pc2 := 2361) (L2 := [some (vr (some a0)), some (vr (some a1)), some (vr (some a2)), some (vr (some a3)), some (vr (some a4)), some (vi x5), none, none, none]) (st2 := [vr (some a2), vi x_792]) rfl ?_
      refine R_cI (as := [vr (some a2)]) rfl rfl ⟨Nat.le_of_ble_eq_true rfl, Nat.le_of_ble_eq_true rfl, rfl, (Or.inr ⟨_, rfl, t3⟩)⟩ rfl rfl k (fun x_795 h_794 k => ?_)
      refine R_if rfl (fun c_796 => ?_) (fun c_796 => ?_)
      · have k := k.1 c_796
        refine R_ps 2 (pc2 := 28) (L2 := [some (vr (some a0)), some (vr (some a1)), some (vr (some a2)), some (vr (some a3)), some (vr (some a4)), some (vi (x5 + 5)), none, none, none]) (st2 := []) rfl ?_
        exact k
      · have k := k.2 c_796
        refine R_ps 1 (pc2 := 2368) (L2 := [some (vr (some a0)), some (vr (some a1)), some (vr (some a2)), some (vr (some a3)), some (vr (some a4)), some (vi x5), none, none, none]) (st2 := [vi 0]) rfl ?_
        exact R_zret rfl rfl (Or.inl rfl) ⟨_, rfl, k⟩
    replace k := k.2 c_6
    refine ⟨fun c_6 => ?_, fun c_6 => ?_⟩
    · have k := k.1 c_6
      show WP T N _ 2369 _ _ _ _
      refine R_ps 2 (pc2 := 2371) (L2 := [some (vr (some a0)), some (vr (some a1)), some (vr (some a2)), some (vr (some a3)), some (vr (some a4)), some (vi x5), none, none, none]) (st2 := [vr (some a3), vr (some a1)]) rfl ?_
      refine R_cI (as := [vr (some a1), vr (some a3)]) rfl rfl ⟨Nat.le_of_ble_eq_true rfl, Nat.le_of_ble_eq_true rfl, rfl, (Or.inl rfl)⟩ rfl rfl k (fun x_800 h_799 k => ?_)
      refine R_ps 2 (pc2 := 2377) (L2 := [some (vr (some a0)), some (vr (some a1)), some (vr (some a2)), some (vr (some a3)), some (vr (some a4)), some (vi x5), some (vi x_800), none, none]) (st2 := [vr (some a2)]) rfl ?_
      refine R_cI (as := [vr (some a2)]) rfl rfl ⟨Nat.le_of_ble_eq_true rfl, Nat.le_of_ble_eq_true rfl, rfl, (Or.inr ⟨_, rfl, t3⟩)⟩ rfl rfl k (fun x_803 h_802 k => ?_)
      refine R_ps 2 (pc2 := 2383) (L2 := [some (vr (some a0)), some (vr (some a1)), some (vr (some a2)), some (vr (some a3)), some (vr (some a4)), some (vi x5), some (vi x_800), some (vi x_803), none]) (st2 := [vr (some a2)]) rfl ?_
      refine R_cI (as := [vr (some a2)]) rfl rfl ⟨Nat.le_of_ble_eq_true rfl, Nat.le_of_ble_eq_true rfl, rfl, (Or.inr ⟨_, rfl, t3⟩)⟩ rfl rfl k (fun x_806 h_805 k => ?_)
      refine R_ps 1 (pc2 := 2388) (L2 := [some (vr (some a0)), some (vr (some a1)), some (vr (some a2)), some (vr (some a3)), some (vr (some a4)), some (vi x5), some (vi x_800), some (vi x_803), none]) (st2 := [vi x_800, vi x_806]) rfl ?_
      refine R_if rfl (fun c_807 => ?_) (fun c_807 => ?_)
      · have k := k.1 c_807
        refine R_ps 1 (pc2 := 2395) (L2 := [some (vr (some a0)), some (vr (some a1)), some (vr (some a2)), some (vr (some a3)), some (vr (some a4)), some (vi x5), some (vi x_800), some (vi x_803), none]) (st2 := [vi x_800]) rfl ?_
        refine R_if0 rfl (fun c_808 => ?_) (fun c_808 => ?_)
        · have k := k.2 c_808
          refine R_ps 3 (pc2 := 28) (L2 := [some (vr (some a0)), some (vr (some a1)), some (vr (some a2)), some (vr (some a3)), some (vr (some a4)), some (vi (x5 + 5)), some (vi x_800), some (vi x_803), none]) (st2 := []) rfl ?_
          exact R_drop k (LE_of (L := [some (vr (some a0)), some (vr (some a1)), some (vr (some a2)), some (vr (some a3)), some (vr (some a4)), some (vi (x5 + 5)), none, none, none]) (L2 := [some (vr (some a0)), some (vr (some a1)), some (vr (some a2)), some (vr (some a3)), some (vr (some a4)), some (vi (x5 + 5)), some (vi x_800), some (vi x_803), none]) ⟨rfl, rfl, rfl, rfl, rfl, rfl, trivial⟩)
        · have k := k.1 (Classical.not_not.mp c_808)
          refine R_ps 2 (pc2 := 2400) (L2 := [some (vr (some a0)), some (vr (some a1)), some (vr (some a2)), some (vr (some a3)), some (vr (some a4)), some (vi x5), some (vi x_800), some (vi x_803), none]) (st2 := [vi 0, vr (some a3)]) rfl ?_
          obtain ⟨t_810, k⟩ := k
          refine R_lald rfl t4 t_810 ?_
          refine R_ps 3 (pc2 := 2405) (L2 := [some (vr (some a0)), some (vr (some a1)), some (vr (some a2)), some (vr (some a3)), some (vr (some a4)), some (vi x5), some (vi x_800), some (vi x_803), none]) (st2 := [vi (lg_cmp (gl h_805 a3 0) x_803.toInt64)]) rfl ?_
          refine R_if0 rfl (fun c_811 => ?_) (fun c_811 => ?_)
          · have k := k.1 c_811
            refine R_ps 3 (pc2 := 28) (L2 := [some (vr (some a0)), some (vr (some a1)), some (vr (some a2)), some (vr (some a3)), some (vr (some a4)), some (vi (x5 + 5)), some (vi x_800), some (vi x_803), none]) (st2 := []) rfl ?_
            exact R_drop k (LE_of (L := [some (vr (some a0)), some (vr (some a1)), some (vr (some a2)), some (vr (some a3)), some (vr (some a4)), some (vi (x5 + 5)), none, none, none]) (L2 := [some (vr (some a0)), some (vr (some a1)), some (vr (some a2)), some (vr (some a3)), some (vr (some a4)), some (vi (x5 + 5)), some (vi x_800), some (vi x_803), none]) ⟨rfl, rfl, rfl, rfl, rfl, rfl, trivial⟩)
          · have k := k.2 c_811
            refine R_ps 1 (pc2 := 2409) (L2 := [some (vr (some a0)), some (vr (some a1)), some (vr (some a2)), some (vr (some a3)), some (vr (some a4)), some (vi x5), some (vi x_800), some (vi x_803), none]) (st2 := [vi 0]) rfl ?_
            exact R_zret rfl rfl (Or.inl rfl) ⟨_, rfl, k⟩
      · have k := k.2 c_807
        refine R_ps 1 (pc2 := 2392) (L2 := [some (vr (some a0)), some (vr (some a1)), some (vr (some a2)), some (vr (some a3)), some (vr (some a4)), some (vi x5), some (vi x_800), some (vi x_803), none]) (st2 := [vi 0]) rfl ?_
        exact R_zret rfl rfl (Or.inl rfl) ⟨_, rfl, k⟩
    replace k := k.2 c_6
    show WP T N _ 2413 _ _ _ _
    refine R_ps 2 (pc2 := 28) (L2 := [some (vr (some a0)), some (vr (some a1)), some (vr (some a2)), some (vr (some a3)), some (vr (some a4)), some (vi (x5 + 5)), none, none, none]) (st2 := []) rfl ?_
    exact k
