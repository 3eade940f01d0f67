/-! WHAT IS TO BE SHOWN OF EACH METHOD, by program (gen_z.py): 255 to 289 -/
/-- DroneCorridorsLaw.addNode -/
theorem z255 {T N : Nat → Nat} {h : PH} {a0 : Nat} {x1 : Int} {a2 : Nat} {K : Int → PH → Prop} (t0 : T a0 = 11) (t1 : T a2 = 24) (r1 : In x1) (k : (CALL T N 106 [vr (some a0), vi (J x1)] h (fun o_3 h_2 => (∃ x_4, o_3 = .inl (some (vi (J x_4))) ∧ In x_4 ∧ ((0 ≤ (0 : Int) ∧ (0 : Int) < (N a2 : Int) ∧ (0 : Int) < 2147483648) ∧ ∀ h_7, h_7 = sL h_2 a2 (Int.toNat 0) ((J x_4).toInt64) → K 0 h_7)) ∨ (o_3 = .inr 0 ∧ (K 1 h_2))))) : ZI T N 255 [vr (some a0), vi (J x1), vr (some a2)] h K := by
  show WP T N 255 0 [some (vr (some a0)), some (vi (J x1)), some (vr (some a2)), none] [] h _
  refine R_ps 4 (pc2 := 4) (L2 := [some (vr (some a0)), some (vi (J x1)), some (vr (some a2)), none]) (st2 := [vi (J x1), vr (some a0), vi (J 0), vr (some a2)]) rfl ?_
  refine R_cX (as := [vr (some a0), vi (J x1)]) rfl rfl ⟨Nat.le_of_ble_eq_true rfl, Nat.le_of_ble_eq_true rfl, rfl, (Or.inr ⟨_, rfl, t0⟩)⟩ rfl rfl k (fun o_3 h_2 k => ?_)
  rcases k with ⟨x_4, rfl, r_5, k⟩ | ⟨rfl, k⟩
  · show WP T N _ 7 _ _ _ _
    refine R_ps 1 (pc2 := 8) (L2 := [some (vr (some a0)), some (vi (J x1)), some (vr (some a2)), none]) (st2 := [vl ((J x_4).toInt64), vi (J 0), vr (some a2)]) rfl ?_
    obtain ⟨t_9, k⟩ := k
    refine R_zlast (i := 0) rfl t1 t_9  ?_
    show WP T N _ _ _ _ (sL h_2 a2 (Int.toNat 0) ((J x_4).toInt64)) _
    generalize e_8 : sL h_2 a2 (Int.toNat 0) ((J x_4).toInt64) = h_7
    replace k := k h_7 e_8.symm
    refine R_ps 2 (pc2 := 16) (L2 := [some (vr (some a0)), some (vi (J x1)), some (vr (some a2)), none]) (st2 := [vi (J 0)]) rfl ?_
    exact R_iret rfl rfl (R_zr (x := 0) (K := K) (by decide) k)
  · show WP T N _ 13 [some (vr (some a0)), some (vi (J x1)), some (vr (some a2)), none] [] _ _
    refine R_ps 1 (pc2 := 14) (L2 := [some (vr (some a0)), some (vi (J x1)), some (vr (some a2)), none]) (st2 := [vi (J 1)]) rfl ?_
    exact R_iret rfl rfl (R_zr (x := 1) (K := K) (by decide) k)
/-- DroneCorridorsLaw.addCorridor -/
theorem z256 {T N : Nat → Nat} {h : PH} {a0 : Nat} {x1 : Int} {x2 : Int} {x3 : Int} {x4 : Int} {a5 : Nat} {K : Int → PH → Prop} (t0 : T a0 = 11) (t1 : T a5 = 24) (r1 : In x1) (r2 : In x2) (r3 : In x3) (r4 : In x4) (k : (CALL T N 107 [vr (some a0), vi (J x1), vi (J x2), vi (J x3), vi (J x4)] h (fun o_3 h_2 => (∃ x_4, o_3 = .inl (some (vi (J x_4))) ∧ In x_4 ∧ ((0 ≤ (0 : Int) ∧ (0 : Int) < (N a5 : Int) ∧ (0 : Int) < 2147483648) ∧ ∀ h_7, h_7 = sL h_2 a5 (Int.toNat 0) ((J x_4).toInt64) → K 0 h_7)) ∨ (o_3 = .inr 2 ∧ (K 1 h_2)) ∨ (o_3 = .inr 1 ∧ (K 2 h_2)) ∨ (o_3 = .inr 0 ∧ (K 3 h_2))))) : ZI T N 256 [vr (some a0), vi (J x1), vi (J x2), vi (J x3), vi (J x4), vr (some a5)] h K := by
  show WP T N 256 0 [some (vr (some a0)), some (vi (J x1)), some (vi (J x2)), some (vi (J x3)), some (vi (J x4)), some (vr (some a5)), none] [] h _
  refine R_ps 7 (pc2 := 9) (L2 := [some (vr (some a0)), some (vi (J x1)), some (vi (J x2)), some (vi (J x3)), some (vi (J x4)), some (vr (some a5)), none]) (st2 := [vi (J x4), vi (J x3), vi (J x2), vi (J x1), vr (some a0), vi (J 0), vr (some a5)]) rfl ?_
  refine R_cX (as := [vr (some a0), vi (J x1), vi (J x2), vi (J x3), vi (J x4)]) rfl rfl ⟨Nat.le_of_ble_eq_true rfl, Nat.le_of_ble_eq_true rfl, rfl, (Or.inr ⟨_, rfl, t0⟩)⟩ rfl rfl k (fun o_3 h_2 k => ?_)
  rcases k with ⟨x_4, rfl, r_5, k⟩ | ⟨rfl, k⟩ | ⟨rfl, k⟩ | ⟨rfl, k⟩
  · show WP T N _ 12 _ _ _ _
    refine R_ps 1 (pc2 := 13) (L2 := [some (vr (some a0)), some (vi (J x1)), some (vi (J x2)), some (vi (J x3)), some (vi (J x4)), some (vr (some a5)), none]) (st2 := [vl ((J x_4).toInt64), vi (J 0), vr (some a5)]) rfl ?_
    obtain ⟨t_9, k⟩ := k
    refine R_zlast (i := 0) rfl t1 t_9  ?_
    show WP T N _ _ _ _ (sL h_2 a5 (Int.toNat 0) ((J x_4).toInt64)) _
    generalize e_8 : sL h_2 a5 (Int.toNat 0) ((J x_4).toInt64) = h_7
    replace k := k h_7 e_8.symm
    refine R_ps 2 (pc2 := 30) (L2 := [some (vr (some a0)), some (vi (J x1)), some (vi (J x2)), some (vi (J x3)), some (vi (J x4)), some (vr (some a5)), none]) (st2 := [vi (J 0)]) rfl ?_
    exact R_iret rfl rfl (R_zr (x := 0) (K := K) (by decide) k)
  · show WP T N _ 19 [some (vr (some a0)), some (vi (J x1)), some (vi (J x2)), some (vi (J x3)), some (vi (J x4)), some (vr (some a5)), none] [] _ _
    refine R_ps 1 (pc2 := 20) (L2 := [some (vr (some a0)), some (vi (J x1)), some (vi (J x2)), some (vi (J x3)), some (vi (J x4)), some (vr (some a5)), none]) (st2 := [vi (J 1)]) rfl ?_
    exact R_iret rfl rfl (R_zr (x := 1) (K := K) (by decide) k)
  · show WP T N _ 23 [some (vr (some a0)), some (vi (J x1)), some (vi (J x2)), some (vi (J x3)), some (vi (J x4)), some (vr (some a5)), none] [] _ _
    refine R_ps 1 (pc2 := 24) (L2 := [some (vr (some a0)), some (vi (J x1)), some (vi (J x2)), some (vi (J x3)), some (vi (J x4)), some (vr (some a5)), none]) (st2 := [vi (J 2)]) rfl ?_
    exact R_iret rfl rfl (R_zr (x := 2) (K := K) (by decide) k)
  · show WP T N _ 27 [some (vr (some a0)), some (vi (J x1)), some (vi (J x2)), some (vi (J x3)), some (vi (J x4)), some (vr (some a5)), none] [] _ _
    refine R_ps 1 (pc2 := 28) (L2 := [some (vr (some a0)), some (vi (J x1)), some (vi (J x2)), some (vi (J x3)), some (vi (J x4)), some (vr (some a5)), none]) (st2 := [vi (J 3)]) rfl ?_
    exact R_iret rfl rfl (R_zr (x := 3) (K := K) (by decide) k)
/-- DroneCorridorsLaw.setWind -/
theorem z257 {T N : Nat → Nat} {h : PH} {a0 : Nat} {x1 : Int} {x2 : Int} {a3 : Nat} {K : Int → PH → Prop} (t0 : T a0 = 11) (t1 : T a3 = 24) (r1 : In x1) (r2 : In x2) (k : (CALL T N 108 [vr (some a0), vi (J x1), vi (J x2)] h (fun o_3 h_2 => (∃ x_4, o_3 = .inl (some (vi (J x_4))) ∧ In x_4 ∧ ((0 ≤ (0 : Int) ∧ (0 : Int) < (N a3 : Int) ∧ (0 : Int) < 2147483648) ∧ ∀ h_7, h_7 = sL h_2 a3 (Int.toNat 0) ((J x_4).toInt64) → K 0 h_7)) ∨ (o_3 = .inr 2 ∧ (K 1 h_2)) ∨ (o_3 = .inr 1 ∧ (K 2 h_2))))) : ZI T N 257 [vr (some a0), vi (J x1), vi (J x2), vr (some a3)] h K := by
  show WP T N 257 0 [some (vr (some a0)), some (vi (J x1)), some (vi (J x2)), some (vr (some a3)), none] [] h _
  refine R_ps 5 (pc2 := 5) (L2 := [some (vr (some a0)), some (vi (J x1)), some (vi (J x2)), some (vr (some a3)), none]) (st2 := [vi (J x2), vi (J x1), vr (some a0), vi (J 0), vr (some a3)]) rfl ?_
  refine R_cX (as := [vr (some a0), vi (J x1), vi (J x2)]) rfl rfl ⟨Nat.le_of_ble_eq_true rfl, Nat.le_of_ble_eq_true rfl, rfl, (Or.inr ⟨_, rfl, t0⟩)⟩ rfl rfl k (fun o_3 h_2 k => ?_)
  rcases k with ⟨x_4, rfl, r_5, k⟩ | ⟨rfl, k⟩ | ⟨rfl, k⟩
  · show WP T N _ 8 _ _ _ _
    refine R_ps 1 (pc2 := 9) (L2 := [some (vr (some a0)), some (vi (J x1)), some (vi (J x2)), some (vr (some a3)), none]) (st2 := [vl ((J x_4).toInt64), vi (J 0), vr (some a3)]) rfl ?_
    obtain ⟨t_9, k⟩ := k
    refine R_zlast (i := 0) rfl t1 t_9  ?_
    show WP T N _ _ _ _ (sL h_2 a3 (Int.toNat 0) ((J x_4).toInt64)) _
    generalize e_8 : sL h_2 a3 (Int.toNat 0) ((J x_4).toInt64) = h_7
    replace k := k h_7 e_8.symm
    refine R_ps 2 (pc2 := 22) (L2 := [some (vr (some a0)), some (vi (J x1)), some (vi (J x2)), some (vr (some a3)), none]) (st2 := [vi (J 0)]) rfl ?_
    exact R_iret rfl rfl (R_zr (x := 0) (K := K) (by decide) k)
  · show WP T N _ 15 [some (vr (some a0)), some (vi (J x1)), some (vi (J x2)), some (vr (some a3)), none] [] _ _
    refine R_ps 1 (pc2 := 16) (L2 := [some (vr (some a0)), some (vi (J x1)), some (vi (J x2)), some (vr (some a3)), none]) (st2 := [vi (J 1)]) rfl ?_
    exact R_iret rfl rfl (R_zr (x := 1) (K := K) (by decide) k)
  · show WP T N _ 19 [some (vr (some a0)), some (vi (J x1)), some (vi (J x2)), some (vr (some a3)), none] [] _ _
    refine R_ps 1 (pc2 := 20) (L2 := [some (vr (some a0)), some (vi (J x1)), some (vi (J x2)), some (vr (some a3)), none]) (st2 := [vi (J 2)]) rfl ?_
    exact R_iret rfl rfl (R_zr (x := 2) (K := K) (by decide) k)
/-- DroneCorridorsLaw.addFence -/
theorem z258 {T N : Nat → Nat} {h : PH} {a0 : Nat} {x1 : Int} {x2 : Int} {x3 : Int} {x4 : Int} {a5 : Nat} {K : Int → PH → Prop} (t0 : T a0 = 11) (t1 : T a5 = 24) (r1 : In x1) (r2 : In x2) (r3 : In x3) (r4 : In x4) (k : (CALL T N 109 [vr (some a0), vi (J x1), vi (J x2), vi (J x3), vi (J x4)] h (fun o_3 h_2 => (∃ x_4, o_3 = .inl (some (vi (J x_4))) ∧ In x_4 ∧ ((0 ≤ (0 : Int) ∧ (0 : Int) < (N a5 : Int) ∧ (0 : Int) < 2147483648) ∧ ∀ h_7, h_7 = sL h_2 a5 (Int.toNat 0) ((J x_4).toInt64) → K 0 h_7)) ∨ (o_3 = .inr 2 ∧ (K 1 h_2)) ∨ (o_3 = .inr 1 ∧ (K 2 h_2)) ∨ (o_3 = .inr 0 ∧ (K 3 h_2))))) : ZI T N 258 [vr (some a0), vi (J x1), vi (J x2), vi (J x3), vi (J x4), vr (some a5)] h K := by
  show WP T N 258 0 [some (vr (some a0)), some (vi (J x1)), some (vi (J x2)), some (vi (J x3)), some (vi (J x4)), some (vr (some a5)), none] [] h _
  refine R_ps 7 (pc2 := 9) (L2 := [some (vr (some a0)), some (vi (J x1)), some (vi (J x2)), some (vi (J x3)), some (vi (J x4)), some (vr (some a5)), none]) (st2 := [vi (J x4), vi (J x3), vi (J x2), vi (J x1), vr (some a0), vi (J 0), vr (some a5)]) rfl ?_
  refine R_cX (as := [vr (some a0), vi (J x1), vi (J x2), vi (J x3), vi (J x4)]) rfl rfl ⟨Nat.le_of_ble_eq_true rfl, Nat.le_of_ble_eq_true rfl, rfl, (Or.inr ⟨_, rfl, t0⟩)⟩ rfl rfl k (fun o_3 h_2 k => ?_)
  rcases k with ⟨x_4, rfl, r_5, k⟩ | ⟨rfl, k⟩ | ⟨rfl, k⟩ | ⟨rfl, k⟩
  · show WP T N _ 12 _ _ _ _
    refine R_ps 1 (pc2 := 13) (L2 := [some (vr (some a0)), some (vi (J x1)), some (vi (J x2)), some (vi (J x3)), some (vi (J x4)), some (vr (some a5)), none]) (st2 := [vl ((J x_4).toInt64), vi (J 0), vr (some a5)]) rfl ?_
    obtain ⟨t_9, k⟩ := k
    refine R_zlast (i := 0) rfl t1 t_9  ?_
    show WP T N _ _ _ _ (sL h_2 a5 (Int.toNat 0) ((J x_4).toInt64)) _
    generalize e_8 : sL h_2 a5 (Int.toNat 0) ((J x_4).toInt64) = h_7
    replace k := k h_7 e_8.symm
    refine R_ps 2 (pc2 := 30) (L2 := [some (vr (some a0)), some (vi (J x1)), some (vi (J x2)), some (vi (J x3)), some (vi (J x4)), some (vr (some a5)), none]) (st2 := [vi (J 0)]) rfl ?_
    exact R_iret rfl rfl (R_zr (x := 0) (K := K) (by decide) k)
  · show WP T N _ 19 [some (vr (some a0)), some (vi (J x1)), some (vi (J x2)), some (vi (J x3)), some (vi (J x4)), some (vr (some a5)), none] [] _ _
    refine R_ps 1 (pc2 := 20) (L2 := [some (vr (some a0)), some (vi (J x1)), some (vi (J x2)), some (vi (J x3)), some (vi (J x4)), some (vr (some a5)), none]) (st2 := [vi (J 1)]) rfl ?_
    exact R_iret rfl rfl (R_zr (x := 1) (K := K) (by decide) k)
  · show WP T N _ 23 [some (vr (some a0)), some (vi (J x1)), some (vi (J x2)), some (vi (J x3)), some (vi (J x4)), some (vr (some a5)), none] [] _ _
    refine R_ps 1 (pc2 := 24) (L2 := [some (vr (some a0)), some (vi (J x1)), some (vi (J x2)), some (vi (J x3)), some (vi (J x4)), some (vr (some a5)), none]) (st2 := [vi (J 2)]) rfl ?_
    exact R_iret rfl rfl (R_zr (x := 2) (K := K) (by decide) k)
  · show WP T N _ 27 [some (vr (some a0)), some (vi (J x1)), some (vi (J x2)), some (vi (J x3)), some (vi (J x4)), some (vr (some a5)), none] [] _ _
    refine R_ps 1 (pc2 := 28) (L2 := [some (vr (some a0)), some (vi (J x1)), some (vi (J x2)), some (vi (J x3)), some (vi (J x4)), some (vr (some a5)), none]) (st2 := [vi (J 3)]) rfl ?_
    exact R_iret rfl rfl (R_zr (x := 3) (K := K) (by decide) k)
/-- DroneCorridorsLaw.removeFence -/
theorem z259 {T N : Nat → Nat} {h : PH} {a0 : Nat} {x1 : Int} {a2 : Nat} {K : Int → PH → Prop} (t0 : T a0 = 11) (t1 : T a2 = 24) (r1 : In x1) (k : (CALL T N 110 [vr (some a0), vi (J x1)] h (fun o_3 h_2 => (∃ x_4, o_3 = .inl (some (vi (J x_4))) ∧ In x_4 ∧ ((0 ≤ (0 : Int) ∧ (0 : Int) < (N a2 : Int) ∧ (0 : Int) < 2147483648) ∧ ∀ h_7, h_7 = sL h_2 a2 (Int.toNat 0) ((J x_4).toInt64) → K 0 h_7)) ∨ (o_3 = .inr 2 ∧ (K 1 h_2))))) : ZI T N 259 [vr (some a0), vi (J x1), vr (some a2)] h K := by
  show WP T N 259 0 [some (vr (some a0)), some (vi (J x1)), some (vr (some a2)), none] [] h _
  refine R_ps 4 (pc2 := 4) (L2 := [some (vr (some a0)), some (vi (J x1)), some (vr (some a2)), none]) (st2 := [vi (J x1), vr (some a0), vi (J 0), vr (some a2)]) rfl ?_
  refine R_cX (as := [vr (some a0), vi (J x1)]) rfl rfl ⟨Nat.le_of_ble_eq_true rfl, Nat.le_of_ble_eq_true rfl, rfl, (Or.inr ⟨_, rfl, t0⟩)⟩ rfl rfl k (fun o_3 h_2 k => ?_)
  rcases k with ⟨x_4, rfl, r_5, k⟩ | ⟨rfl, k⟩
  · show WP T N _ 7 _ _ _ _
    refine R_ps 1 (pc2 := 8) (L2 := [some (vr (some a0)), some (vi (J x1)), some (vr (some a2)), none]) (st2 := [vl ((J x_4).toInt64), vi (J 0), vr (some a2)]) rfl ?_
    obtain ⟨t_9, k⟩ := k
    refine R_zlast (i := 0) rfl t1 t_9  ?_
    show WP T N _ _ _ _ (sL h_2 a2 (Int.toNat 0) ((J x_4).toInt64)) _
    generalize e_8 : sL h_2 a2 (Int.toNat 0) ((J x_4).toInt64) = h_7
    replace k := k h_7 e_8.symm
    refine R_ps 2 (pc2 := 16) (L2 := [some (vr (some a0)), some (vi (J x1)), some (vr (some a2)), none]) (st2 := [vi (J 0)]) rfl ?_
    exact R_iret rfl rfl (R_zr (x := 0) (K := K) (by decide) k)
  · show WP T N _ 13 [some (vr (some a0)), some (vi (J x1)), some (vr (some a2)), none] [] _ _
    refine R_ps 1 (pc2 := 14) (L2 := [some (vr (some a0)), some (vi (J x1)), some (vr (some a2)), none]) (st2 := [vi (J 1)]) rfl ?_
    exact R_iret rfl rfl (R_zr (x := 1) (K := K) (by decide) k)
/-- DroneCorridorsLaw.fence -/
theorem z260 {T N : Nat → Nat} {h : PH} {a0 : Nat} {x1 : Int} {x2 : Int} {a3 : Nat} {K : Int → PH → Prop} (t0 : T a0 = 11) (t1 : T a3 = 24) (r1 : In x1) (r2 : In x2) (k : (CALL T N 111 [vr (some a0), vi (J x1), vi (J x2)] h (fun o_3 h_2 => (∃ x_4, o_3 = .inl (some (vi (J x_4))) ∧ In x_4 ∧ ((0 ≤ (0 : Int) ∧ (0 : Int) < (N a3 : Int) ∧ (0 : Int) < 2147483648) ∧ ∀ h_7, h_7 = sL h_2 a3 (Int.toNat 0) ((J x_4).toInt64) → K 0 h_7)) ∨ (o_3 = .inr 2 ∧ (K 1 h_2)) ∨ (o_3 = .inr 1 ∧ (K 2 h_2))))) : ZI T N 260 [vr (some a0), vi (J x1), vi (J x2), vr (some a3)] h K := by
  show WP T N 260 0 [some (vr (some a0)), some (vi (J x1)), some (vi (J x2)), some (vr (some a3)), none] [] h _
  refine R_ps 5 (pc2 := 5) (L2 := [some (vr (some a0)), some (vi (J x1)), some (vi (J x2)), some (vr (some a3)), none]) (st2 := [vi (J x2), vi (J x1), vr (some a0), vi (J 0), vr (some a3)]) rfl ?_
  refine R_cX (as := [vr (some a0), vi (J x1), vi (J x2)]) rfl rfl ⟨Nat.le_of_ble_eq_true rfl, Nat.le_of_ble_eq_true rfl, rfl, (Or.inr ⟨_, rfl, t0⟩)⟩ rfl rfl k (fun o_3 h_2 k => ?_)
  rcases k with ⟨x_4, rfl, r_5, k⟩ | ⟨rfl, k⟩ | ⟨rfl, k⟩
  · show WP T N _ 8 _ _ _ _
    refine R_ps 1 (pc2 := 9) (L2 := [some (vr (some a0)), some (vi (J x1)), some (vi (J x2)), some (vr (some a3)), none]) (st2 := [vl ((J x_4).toInt64), vi (J 0), vr (some a3)]) rfl ?_
    obtain ⟨t_9, k⟩ := k
    refine R_zlast (i := 0) rfl t1 t_9  ?_
    show WP T N _ _ _ _ (sL h_2 a3 (Int.toNat 0) ((J x_4).toInt64)) _
    generalize e_8 : sL h_2 a3 (Int.toNat 0) ((J x_4).toInt64) = h_7
    replace k := k h_7 e_8.symm
    refine R_ps 2 (pc2 := 22) (L2 := [some (vr (some a0)), some (vi (J x1)), some (vi (J x2)), some (vr (some a3)), none]) (st2 := [vi (J 0)]) rfl ?_
    exact R_iret rfl rfl (R_zr (x := 0) (K := K) (by decide) k)
  · show WP T N _ 15 [some (vr (some a0)), some (vi (J x1)), some (vi (J x2)), some (vr (some a3)), none] [] _ _
    refine R_ps 1 (pc2 := 16) (L2 := [some (vr (some a0)), some (vi (J x1)), some (vi (J x2)), some (vr (some a3)), none]) (st2 := [vi (J 1)]) rfl ?_
    exact R_iret rfl rfl (R_zr (x := 1) (K := K) (by decide) k)
  · show WP T N _ 19 [some (vr (some a0)), some (vi (J x1)), some (vi (J x2)), some (vr (some a3)), none] [] _ _
    refine R_ps 1 (pc2 := 20) (L2 := [some (vr (some a0)), some (vi (J x1)), some (vi (J x2)), some (vr (some a3)), none]) (st2 := [vi (J 2)]) rfl ?_
    exact R_iret rfl rfl (R_zr (x := 2) (K := K) (by decide) k)
/-- DroneCorridorsLaw.corridor -/
theorem z261 {T N : Nat → Nat} {h : PH} {a0 : Nat} {x1 : Int} {x2 : Int} {a3 : Nat} {K : Int → PH → Prop} (t0 : T a0 = 11) (t1 : T a3 = 24) (r1 : In x1) (r2 : In x2) (k : (CALL T N 112 [vr (some a0), vi (J x1), vi (J x2)] h (fun o_3 h_2 => (∃ x_4, o_3 = .inl (some (vi (J x_4))) ∧ In x_4 ∧ ((0 ≤ (0 : Int) ∧ (0 : Int) < (N a3 : Int) ∧ (0 : Int) < 2147483648) ∧ ∀ h_7, h_7 = sL h_2 a3 (Int.toNat 0) ((J x_4).toInt64) → K 0 h_7)) ∨ (o_3 = .inr 2 ∧ (K 1 h_2)) ∨ (o_3 = .inr 1 ∧ (K 2 h_2))))) : ZI T N 261 [vr (some a0), vi (J x1), vi (J x2), vr (some a3)] h K := by
  show WP T N 261 0 [some (vr (some a0)), some (vi (J x1)), some (vi (J x2)), some (vr (some a3)), none] [] h _
  refine R_ps 5 (pc2 := 5) (L2 := [some (vr (some a0)), some (vi (J x1)), some (vi (J x2)), some (vr (some a3)), none]) (st2 := [vi (J x2), vi (J x1), vr (some a0), vi (J 0), vr (some a3)]) rfl ?_
  refine R_cX (as := [vr (some a0), vi (J x1), vi (J x2)]) rfl rfl ⟨Nat.le_of_ble_eq_true rfl, Nat.le_of_ble_eq_true rfl, rfl, (Or.inr ⟨_, rfl, t0⟩)⟩ rfl rfl k (fun o_3 h_2 k => ?_)
  rcases k with ⟨x_4, rfl, r_5, k⟩ | ⟨rfl, k⟩ | ⟨rfl, k⟩
  · show WP T N _ 8 _ _ _ _
    refine R_ps 1 (pc2 := 9) (L2 := [some (vr (some a0)), some (vi (J x1)), some (vi (J x2)), some (vr (some a3)), none]) (st2 := [vl ((J x_4).toInt64), vi (J 0), vr (some a3)]) rfl ?_
    obtain ⟨t_9, k⟩ := k
    refine R_zlast (i := 0) rfl t1 t_9  ?_
    show WP T N _ _ _ _ (sL h_2 a3 (Int.toNat 0) ((J x_4).toInt64)) _
    generalize e_8 : sL h_2 a3 (Int.toNat 0) ((J x_4).toInt64) = h_7
    replace k := k h_7 e_8.symm
    refine R_ps 2 (pc2 := 22) (L2 := [some (vr (some a0)), some (vi (J x1)), some (vi (J x2)), some (vr (some a3)), none]) (st2 := [vi (J 0)]) rfl ?_
    exact R_iret rfl rfl (R_zr (x := 0) (K := K) (by decide) k)
  · show WP T N _ 15 [some (vr (some a0)), some (vi (J x1)), some (vi (J x2)), some (vr (some a3)), none] [] _ _
    refine R_ps 1 (pc2 := 16) (L2 := [some (vr (some a0)), some (vi (J x1)), some (vi (J x2)), some (vr (some a3)), none]) (st2 := [vi (J 1)]) rfl ?_
    exact R_iret rfl rfl (R_zr (x := 1) (K := K) (by decide) k)
  · show WP T N _ 19 [some (vr (some a0)), some (vi (J x1)), some (vi (J x2)), some (vr (some a3)), none] [] _ _
    refine R_ps 1 (pc2 := 20) (L2 := [some (vr (some a0)), some (vi (J x1)), some (vi (J x2)), some (vr (some a3)), none]) (st2 := [vi (J 2)]) rfl ?_
    exact R_iret rfl rfl (R_zr (x := 2) (K := K) (by decide) k)
/-- DroneCorridorsLaw.isPad -/
theorem z262 {T N : Nat → Nat} {h : PH} {a0 : Nat} {x1 : Int} {a2 : Nat} {K : Int → PH → Prop} (t0 : T a0 = 11) (t1 : T a2 = 24) (r1 : In x1) (k : (CALL T N 113 [vr (some a0), vi (J x1)] h (fun o_3 h_2 => (∃ x_4, o_3 = .inl (some (vi (J x_4))) ∧ In x_4 ∧ (((x_4 = 0 → ((0 ≤ (0 : Int) ∧ (0 : Int) < (N a2 : Int) ∧ (0 : Int) < 2147483648) ∧ ∀ h_8, h_8 = sL h_2 a2 (Int.toNat 0) 0 → K 0 h_8)) ∧ (¬ (x_4 = 0) → ((0 ≤ (0 : Int) ∧ (0 : Int) < (N a2 : Int) ∧ (0 : Int) < 2147483648) ∧ ∀ h_13, h_13 = sL h_2 a2 (Int.toNat 0) 1 → K 0 h_13))))) ∨ (o_3 = .inr 2 ∧ (K 1 h_2))))) : ZI T N 262 [vr (some a0), vi (J x1), vr (some a2)] h K := by
  show WP T N 262 0 [some (vr (some a0)), some (vi (J x1)), some (vr (some a2)), none] [] h _
  refine R_ps 4 (pc2 := 4) (L2 := [some (vr (some a0)), some (vi (J x1)), some (vr (some a2)), none]) (st2 := [vi (J x1), vr (some a0), vi (J 0), vr (some a2)]) rfl ?_
  refine R_cX (as := [vr (some a0), vi (J x1)]) rfl rfl ⟨Nat.le_of_ble_eq_true rfl, Nat.le_of_ble_eq_true rfl, rfl, (Or.inr ⟨_, rfl, t0⟩)⟩ rfl rfl k (fun o_3 h_2 k => ?_)
  rcases k with ⟨x_4, rfl, r_5, k⟩ | ⟨rfl, k⟩
  · show WP T N _ 7 _ _ _ _
    refine R_zif0 (x := x_4) rfl r_5 (fun c_6 => ?_) (fun c_6 => ?_)
    · have k := k.1 c_6
      refine R_ps 1 (pc2 := 15) (L2 := [some (vr (some a0)), some (vi (J x1)), some (vr (some a2)), none]) (st2 := [vl 0, vi (J 0), vr (some a2)]) rfl ?_
      obtain ⟨t_10, k⟩ := k
      refine R_zlast (i := 0) rfl t1 t_10  ?_
      show WP T N _ _ _ _ (sL h_2 a2 (Int.toNat 0) 0) _
      generalize e_9 : sL h_2 a2 (Int.toNat 0) 0 = h_8
      replace k := k h_8 e_9.symm
      refine R_ps 2 (pc2 := 23) (L2 := [some (vr (some a0)), some (vi (J x1)), some (vr (some a2)), none]) (st2 := [vi (J 0)]) rfl ?_
      exact R_iret rfl rfl (R_zr (x := 0) (K := K) (by decide) k)
    · have k := k.2 c_6
      refine R_ps 2 (pc2 := 15) (L2 := [some (vr (some a0)), some (vi (J x1)), some (vr (some a2)), none]) (st2 := [vl 1, vi (J 0), vr (some a2)]) rfl ?_
      obtain ⟨t_15, k⟩ := k
      refine R_zlast (i := 0) rfl t1 t_15  ?_
      show WP T N _ _ _ _ (sL h_2 a2 (Int.toNat 0) 1) _
      generalize e_14 : sL h_2 a2 (Int.toNat 0) 1 = h_13
      replace k := k h_13 e_14.symm
      refine R_ps 2 (pc2 := 23) (L2 := [some (vr (some a0)), some (vi (J x1)), some (vr (some a2)), none]) (st2 := [vi (J 0)]) rfl ?_
      exact R_iret rfl rfl (R_zr (x := 0) (K := K) (by decide) k)
  · show WP T N _ 20 [some (vr (some a0)), some (vi (J x1)), some (vr (some a2)), none] [] _ _
    refine R_ps 1 (pc2 := 21) (L2 := [some (vr (some a0)), some (vi (J x1)), some (vr (some a2)), none]) (st2 := [vi (J 1)]) rfl ?_
    exact R_iret rfl rfl (R_zr (x := 1) (K := K) (by decide) k)
/-- DroneCorridorsLaw.reserve -/
theorem z263 {T N : Nat → Nat} {h : PH} {a0 : Nat} {x1 : Int} {a2 : Nat} {K : Int → PH → Prop} (t0 : T a0 = 11) (t1 : T a2 = 24) (r1 : In x1) (k : (CALL T N 114 [vr (some a0), vi (J x1)] h (fun o_3 h_2 => (∃ x_4, o_3 = .inl (some (vi (J x_4))) ∧ In x_4 ∧ ((0 ≤ (0 : Int) ∧ (0 : Int) < (N a2 : Int) ∧ (0 : Int) < 2147483648) ∧ ∀ h_7, h_7 = sL h_2 a2 (Int.toNat 0) ((J x_4).toInt64) → K 0 h_7)) ∨ (o_3 = .inr 2 ∧ (K 1 h_2)) ∨ (o_3 = .inr 5 ∧ (K 2 h_2))))) : ZI T N 263 [vr (some a0), vi (J x1), vr (some a2)] h K := by
  show WP T N 263 0 [some (vr (some a0)), some (vi (J x1)), some (vr (some a2)), none] [] h _
  refine R_ps 4 (pc2 := 4) (L2 := [some (vr (some a0)), some (vi (J x1)), some (vr (some a2)), none]) (st2 := [vi (J x1), vr (some a0), vi (J 0), vr (some a2)]) rfl ?_
  refine R_cX (as := [vr (some a0), vi (J x1)]) rfl rfl ⟨Nat.le_of_ble_eq_true rfl, Nat.le_of_ble_eq_true rfl, rfl, (Or.inr ⟨_, rfl, t0⟩)⟩ rfl rfl k (fun o_3 h_2 k => ?_)
  rcases k with ⟨x_4, rfl, r_5, k⟩ | ⟨rfl, k⟩ | ⟨rfl, k⟩
  · show WP T N _ 7 _ _ _ _
    refine R_ps 1 (pc2 := 8) (L2 := [some (vr (some a0)), some (vi (J x1)), some (vr (some a2)), none]) (st2 := [vl ((J x_4).toInt64), vi (J 0), vr (some a2)]) rfl ?_
    obtain ⟨t_9, k⟩ := k
    refine R_zlast (i := 0) rfl t1 t_9  ?_
    show WP T N _ _ _ _ (sL h_2 a2 (Int.toNat 0) ((J x_4).toInt64)) _
    generalize e_8 : sL h_2 a2 (Int.toNat 0) ((J x_4).toInt64) = h_7
    replace k := k h_7 e_8.symm
    refine R_ps 2 (pc2 := 19) (L2 := [some (vr (some a0)), some (vi (J x1)), some (vr (some a2)), none]) (st2 := [vi (J 0)]) rfl ?_
    exact R_iret rfl rfl (R_zr (x := 0) (K := K) (by decide) k)
  · show WP T N _ 13 [some (vr (some a0)), some (vi (J x1)), some (vr (some a2)), none] [] _ _
    refine R_ps 1 (pc2 := 14) (L2 := [some (vr (some a0)), some (vi (J x1)), some (vr (some a2)), none]) (st2 := [vi (J 1)]) rfl ?_
    exact R_iret rfl rfl (R_zr (x := 1) (K := K) (by decide) k)
  · show WP T N _ 16 [some (vr (some a0)), some (vi (J x1)), some (vr (some a2)), none] [] _ _
    refine R_ps 1 (pc2 := 17) (L2 := [some (vr (some a0)), some (vi (J x1)), some (vr (some a2)), none]) (st2 := [vi (J 2)]) rfl ?_
    exact R_iret rfl rfl (R_zr (x := 2) (K := K) (by decide) k)
/-- DroneCorridorsLaw.ticksBetween -/
theorem z264 {T N : Nat → Nat} {h : PH} {a0 : Nat} {x1 : Int} {x2 : Int} {a3 : Nat} {K : Int → PH → Prop} (t0 : T a0 = 11) (t1 : T a3 = 24) (r1 : In x1) (r2 : In x2) (k : (CALL T N 115 [vr (some a0), vi (J x1), vi (J x2)] h (fun o_3 h_2 => (∃ x_4, o_3 = .inl (some (vi (J x_4))) ∧ In x_4 ∧ ((0 ≤ (0 : Int) ∧ (0 : Int) < (N a3 : Int) ∧ (0 : Int) < 2147483648) ∧ ∀ h_7, h_7 = sL h_2 a3 (Int.toNat 0) ((J x_4).toInt64) → K 0 h_7)) ∨ (o_3 = .inr 2 ∧ (K 1 h_2)) ∨ (o_3 = .inr 5 ∧ (K 2 h_2))))) : ZI T N 264 [vr (some a0), vi (J x1), vi (J x2), vr (some a3)] h K := by
  show WP T N 264 0 [some (vr (some a0)), some (vi (J x1)), some (vi (J x2)), some (vr (some a3)), none] [] h _
  refine R_ps 5 (pc2 := 5) (L2 := [some (vr (some a0)), some (vi (J x1)), some (vi (J x2)), some (vr (some a3)), none]) (st2 := [vi (J x2), vi (J x1), vr (some a0), vi (J 0), vr (some a3)]) rfl ?_
  refine R_cX (as := [vr (some a0), vi (J x1), vi (J x2)]) rfl rfl ⟨Nat.le_of_ble_eq_true rfl, Nat.le_of_ble_eq_true rfl, rfl, (Or.inr ⟨_, rfl, t0⟩)⟩ rfl rfl k (fun o_3 h_2 k => ?_)
  rcases k with ⟨x_4, rfl, r_5, k⟩ | ⟨rfl, k⟩ | ⟨rfl, k⟩
  · show WP T N _ 8 _ _ _ _
    refine R_ps 1 (pc2 := 9) (L2 := [some (vr (some a0)), some (vi (J x1)), some (vi (J x2)), some (vr (some a3)), none]) (st2 := [vl ((J x_4).toInt64), vi (J 0), vr (some a3)]) rfl ?_
    obtain ⟨t_9, k⟩ := k
    refine R_zlast (i := 0) rfl t1 t_9  ?_
    show WP T N _ _ _ _ (sL h_2 a3 (Int.toNat 0) ((J x_4).toInt64)) _
    generalize e_8 : sL h_2 a3 (Int.toNat 0) ((J x_4).toInt64) = h_7
    replace k := k h_7 e_8.symm
    refine R_ps 2 (pc2 := 22) (L2 := [some (vr (some a0)), some (vi (J x1)), some (vi (J x2)), some (vr (some a3)), none]) (st2 := [vi (J 0)]) rfl ?_
    exact R_iret rfl rfl (R_zr (x := 0) (K := K) (by decide) k)
  · show WP T N _ 15 [some (vr (some a0)), some (vi (J x1)), some (vi (J x2)), some (vr (some a3)), none] [] _ _
    refine R_ps 1 (pc2 := 16) (L2 := [some (vr (some a0)), some (vi (J x1)), some (vi (J x2)), some (vr (some a3)), none]) (st2 := [vi (J 1)]) rfl ?_
    exact R_iret rfl rfl (R_zr (x := 1) (K := K) (by decide) k)
  · show WP T N _ 19 [some (vr (some a0)), some (vi (J x1)), some (vi (J x2)), some (vr (some a3)), none] [] _ _
    refine R_ps 1 (pc2 := 20) (L2 := [some (vr (some a0)), some (vi (J x1)), some (vi (J x2)), some (vr (some a3)), none]) (st2 := [vi (J 2)]) rfl ?_
    exact R_iret rfl rfl (R_zr (x := 2) (K := K) (by decide) k)
/-- DroneCorridorsLaw.count -/
theorem z265 {T N : Nat → Nat} {h : PH} {a0 : Nat} {x1 : Int} {a2 : Nat} {K : Int → PH → Prop} (t0 : T a0 = 11) (t1 : T a2 = 24) (r1 : In x1) (k : (CALL T N 116 [vr (some a0), vi (J x1)] h (fun o_3 h_2 => (∃ x_4, o_3 = .inl (some (vi (J x_4))) ∧ In x_4 ∧ ((0 ≤ (0 : Int) ∧ (0 : Int) < (N a2 : Int) ∧ (0 : Int) < 2147483648) ∧ ∀ h_7, h_7 = sL h_2 a2 (Int.toNat 0) ((J x_4).toInt64) → K 0 h_7)) ∨ (o_3 = .inr 1 ∧ (K 1 h_2))))) : ZI T N 265 [vr (some a0), vi (J x1), vr (some a2)] h K := by
  show WP T N 265 0 [some (vr (some a0)), some (vi (J x1)), some (vr (some a2)), none] [] h _
  refine R_ps 4 (pc2 := 4) (L2 := [some (vr (some a0)), some (vi (J x1)), some (vr (some a2)), none]) (st2 := [vi (J x1), vr (some a0), vi (J 0), vr (some a2)]) rfl ?_
  refine R_cX (as := [vr (some a0), vi (J x1)]) rfl rfl ⟨Nat.le_of_ble_eq_true rfl, Nat.le_of_ble_eq_true rfl, rfl, (Or.inr ⟨_, rfl, t0⟩)⟩ rfl rfl k (fun o_3 h_2 k => ?_)
  rcases k with ⟨x_4, rfl, r_5, k⟩ | ⟨rfl, k⟩
  · show WP T N _ 7 _ _ _ _
    refine R_ps 1 (pc2 := 8) (L2 := [some (vr (some a0)), some (vi (J x1)), some (vr (some a2)), none]) (st2 := [vl ((J x_4).toInt64), vi (J 0), vr (some a2)]) rfl ?_
    obtain ⟨t_9, k⟩ := k
    refine R_zlast (i := 0) rfl t1 t_9  ?_
    show WP T N _ _ _ _ (sL h_2 a2 (Int.toNat 0) ((J x_4).toInt64)) _
    generalize e_8 : sL h_2 a2 (Int.toNat 0) ((J x_4).toInt64) = h_7
    replace k := k h_7 e_8.symm
    refine R_ps 2 (pc2 := 16) (L2 := [some (vr (some a0)), some (vi (J x1)), some (vr (some a2)), none]) (st2 := [vi (J 0)]) rfl ?_
    exact R_iret rfl rfl (R_zr (x := 0) (K := K) (by decide) k)
  · show WP T N _ 13 [some (vr (some a0)), some (vi (J x1)), some (vr (some a2)), none] [] _ _
    refine R_ps 1 (pc2 := 14) (L2 := [some (vr (some a0)), some (vi (J x1)), some (vr (some a2)), none]) (st2 := [vi (J 1)]) rfl ?_
    exact R_iret rfl rfl (R_zr (x := 1) (K := K) (by decide) k)
/-- DroneCorridorsLaw.addDrone -/
theorem z266 {T N : Nat → Nat} {h : PH} {a0 : Nat} {x1 : Int} {x2 : Int} {a3 : Nat} {K : Int → PH → Prop} (t0 : T a0 = 11) (t1 : T a3 = 24) (r1 : In x1) (r2 : In x2) (k : (CALL T N 117 [vr (some a0), vi (J x1), vi (J x2)] h (fun o_3 h_2 => (∃ x_4, o_3 = .inl (some (vi (J x_4))) ∧ In x_4 ∧ ((0 ≤ (0 : Int) ∧ (0 : Int) < (N a3 : Int) ∧ (0 : Int) < 2147483648) ∧ ∀ h_7, h_7 = sL h_2 a3 (Int.toNat 0) ((J x_4).toInt64) → K 0 h_7)) ∨ (o_3 = .inr 2 ∧ (K 1 h_2)) ∨ (o_3 = .inr 1 ∧ (K 2 h_2)) ∨ (o_3 = .inr 0 ∧ (K 3 h_2))))) : ZI T N 266 [vr (some a0), vi (J x1), vi (J x2), vr (some a3)] h K := by
  show WP T N 266 0 [some (vr (some a0)), some (vi (J x1)), some (vi (J x2)), some (vr (some a3)), none] [] h _
  refine R_ps 5 (pc2 := 5) (L2 := [some (vr (some a0)), some (vi (J x1)), some (vi (J x2)), some (vr (some a3)), none]) (st2 := [vi (J x2), vi (J x1), vr (some a0), vi (J 0), vr (some a3)]) rfl ?_
  refine R_cX (as := [vr (some a0), vi (J x1), vi (J x2)]) rfl rfl ⟨Nat.le_of_ble_eq_true rfl, Nat.le_of_ble_eq_true rfl, rfl, (Or.inr ⟨_, rfl, t0⟩)⟩ rfl rfl k (fun o_3 h_2 k => ?_)
  rcases k with ⟨x_4, rfl, r_5, k⟩ | ⟨rfl, k⟩ | ⟨rfl, k⟩ | ⟨rfl, k⟩
  · show WP T N _ 8 _ _ _ _
    refine R_ps 1 (pc2 := 9) (L2 := [some (vr (some a0)), some (vi (J x1)), some (vi (J x2)), some (vr (some a3)), none]) (st2 := [vl ((J x_4).toInt64), vi (J 0), vr (some a3)]) rfl ?_
    obtain ⟨t_9, k⟩ := k
    refine R_zlast (i := 0) rfl t1 t_9  ?_
    show WP T N _ _ _ _ (sL h_2 a3 (Int.toNat 0) ((J x_4).toInt64)) _
    generalize e_8 : sL h_2 a3 (Int.toNat 0) ((J x_4).toInt64) = h_7
    replace k := k h_7 e_8.symm
    refine R_ps 2 (pc2 := 26) (L2 := [some (vr (some a0)), some (vi (J x1)), some (vi (J x2)), some (vr (some a3)), none]) (st2 := [vi (J 0)]) rfl ?_
    exact R_iret rfl rfl (R_zr (x := 0) (K := K) (by decide) k)
  · show WP T N _ 15 [some (vr (some a0)), some (vi (J x1)), some (vi (J x2)), some (vr (some a3)), none] [] _ _
    refine R_ps 1 (pc2 := 16) (L2 := [some (vr (some a0)), some (vi (J x1)), some (vi (J x2)), some (vr (some a3)), none]) (st2 := [vi (J 1)]) rfl ?_
    exact R_iret rfl rfl (R_zr (x := 1) (K := K) (by decide) k)
  · show WP T N _ 19 [some (vr (some a0)), some (vi (J x1)), some (vi (J x2)), some (vr (some a3)), none] [] _ _
    refine R_ps 1 (pc2 := 20) (L2 := [some (vr (some a0)), some (vi (J x1)), some (vi (J x2)), some (vr (some a3)), none]) (st2 := [vi (J 2)]) rfl ?_
    exact R_iret rfl rfl (R_zr (x := 2) (K := K) (by decide) k)
  · show WP T N _ 23 [some (vr (some a0)), some (vi (J x1)), some (vi (J x2)), some (vr (some a3)), none] [] _ _
    refine R_ps 1 (pc2 := 24) (L2 := [some (vr (some a0)), some (vi (J x1)), some (vi (J x2)), some (vr (some a3)), none]) (st2 := [vi (J 3)]) rfl ?_
    exact R_iret rfl rfl (R_zr (x := 3) (K := K) (by decide) k)
/-- DroneCorridorsLaw.drone -/
theorem z267 {T N : Nat → Nat} {h : PH} {a0 : Nat} {x1 : Int} {x2 : Int} {a3 : Nat} {K : Int → PH → Prop} (t0 : T a0 = 11) (t1 : T a3 = 24) (r1 : In x1) (r2 : In x2) (k : (CALL T N 118 [vr (some a0), vi (J x1), vi (J x2)] h (fun o_3 h_2 => (∃ x_4, o_3 = .inl (some (vi (J x_4))) ∧ In x_4 ∧ ((0 ≤ (0 : Int) ∧ (0 : Int) < (N a3 : Int) ∧ (0 : Int) < 2147483648) ∧ ∀ h_7, h_7 = sL h_2 a3 (Int.toNat 0) ((J x_4).toInt64) → K 0 h_7)) ∨ (o_3 = .inr 2 ∧ (K 1 h_2)) ∨ (o_3 = .inr 1 ∧ (K 2 h_2))))) : ZI T N 267 [vr (some a0), vi (J x1), vi (J x2), vr (some a3)] h K := by
  show WP T N 267 0 [some (vr (some a0)), some (vi (J x1)), some (vi (J x2)), some (vr (some a3)), none] [] h _
  refine R_ps 5 (pc2 := 5) (L2 := [some (vr (some a0)), some (vi (J x1)), some (vi (J x2)), some (vr (some a3)), none]) (st2 := [vi (J x2), vi (J x1), vr (some a0), vi (J 0), vr (some a3)]) rfl ?_
  refine R_cX (as := [vr (some a0), vi (J x1), vi (J x2)]) rfl rfl ⟨Nat.le_of_ble_eq_true rfl, Nat.le_of_ble_eq_true rfl, rfl, (Or.inr ⟨_, rfl, t0⟩)⟩ rfl rfl k (fun o_3 h_2 k => ?_)
  rcases k with ⟨x_4, rfl, r_5, k⟩ | ⟨rfl, k⟩ | ⟨rfl, k⟩
  · show WP T N _ 8 _ _ _ _
    refine R_ps 1 (pc2 := 9) (L2 := [some (vr (some a0)), some (vi (J x1)), some (vi (J x2)), some (vr (some a3)), none]) (st2 := [vl ((J x_4).toInt64), vi (J 0), vr (some a3)]) rfl ?_
    obtain ⟨t_9, k⟩ := k
    refine R_zlast (i := 0) rfl t1 t_9  ?_
    show WP T N _ _ _ _ (sL h_2 a3 (Int.toNat 0) ((J x_4).toInt64)) _
    generalize e_8 : sL h_2 a3 (Int.toNat 0) ((J x_4).toInt64) = h_7
    replace k := k h_7 e_8.symm
    refine R_ps 2 (pc2 := 22) (L2 := [some (vr (some a0)), some (vi (J x1)), some (vi (J x2)), some (vr (some a3)), none]) (st2 := [vi (J 0)]) rfl ?_
    exact R_iret rfl rfl (R_zr (x := 0) (K := K) (by decide) k)
  · show WP T N _ 15 [some (vr (some a0)), some (vi (J x1)), some (vi (J x2)), some (vr (some a3)), none] [] _ _
    refine R_ps 1 (pc2 := 16) (L2 := [some (vr (some a0)), some (vi (J x1)), some (vi (J x2)), some (vr (some a3)), none]) (st2 := [vi (J 1)]) rfl ?_
    exact R_iret rfl rfl (R_zr (x := 1) (K := K) (by decide) k)
  · show WP T N _ 19 [some (vr (some a0)), some (vi (J x1)), some (vi (J x2)), some (vr (some a3)), none] [] _ _
    refine R_ps 1 (pc2 := 20) (L2 := [some (vr (some a0)), some (vi (J x1)), some (vi (J x2)), some (vr (some a3)), none]) (st2 := [vi (J 2)]) rfl ?_
    exact R_iret rfl rfl (R_zr (x := 2) (K := K) (by decide) k)
/-- DroneCorridorsLaw.plan -/
theorem z268 {T N : Nat → Nat} {h : PH} {a0 : Nat} {x1 : Int} {x2 : Int} {a3 : Nat} {K : Int → PH → Prop} (t0 : T a0 = 11) (t1 : T a3 = 24) (r1 : In x1) (r2 : In x2) (k : (CALL T N 119 [vr (some a0), vi (J x1), vi (J x2)] h (fun o_3 h_2 => (∃ x_4, o_3 = .inl (some (vi (J x_4))) ∧ In x_4 ∧ ((0 ≤ (0 : Int) ∧ (0 : Int) < (N a3 : Int) ∧ (0 : Int) < 2147483648) ∧ ∀ h_7, h_7 = sL h_2 a3 (Int.toNat 0) ((J x_4).toInt64) → K 0 h_7)) ∨ (o_3 = .inr 2 ∧ (K 1 h_2)) ∨ (o_3 = .inr 4 ∧ (K 2 h_2))))) : ZI T N 268 [vr (some a0), vi (J x1), vi (J x2), vr (some a3)] h K := by
  show WP T N 268 0 [some (vr (some a0)), some (vi (J x1)), some (vi (J x2)), some (vr (some a3)), none] [] h _
  refine R_ps 5 (pc2 := 5) (L2 := [some (vr (some a0)), some (vi (J x1)), some (vi (J x2)), some (vr (some a3)), none]) (st2 := [vi (J x2), vi (J x1), vr (some a0), vi (J 0), vr (some a3)]) rfl ?_
  refine R_cX (as := [vr (some a0), vi (J x1), vi (J x2)]) rfl rfl ⟨Nat.le_of_ble_eq_true rfl, Nat.le_of_ble_eq_true rfl, rfl, (Or.inr ⟨_, rfl, t0⟩)⟩ rfl rfl k (fun o_3 h_2 k => ?_)
  rcases k with ⟨x_4, rfl, r_5, k⟩ | ⟨rfl, k⟩ | ⟨rfl, k⟩
  · show WP T N _ 8 _ _ _ _
    refine R_ps 1 (pc2 := 9) (L2 := [some (vr (some a0)), some (vi (J x1)), some (vi (J x2)), some (vr (some a3)), none]) (st2 := [vl ((J x_4).toInt64), vi (J 0), vr (some a3)]) rfl ?_
    obtain ⟨t_9, k⟩ := k
    refine R_zlast (i := 0) rfl t1 t_9  ?_
    show WP T N _ _ _ _ (sL h_2 a3 (Int.toNat 0) ((J x_4).toInt64)) _
    generalize e_8 : sL h_2 a3 (Int.toNat 0) ((J x_4).toInt64) = h_7
    replace k := k h_7 e_8.symm
    refine R_ps 2 (pc2 := 22) (L2 := [some (vr (some a0)), some (vi (J x1)), some (vi (J x2)), some (vr (some a3)), none]) (st2 := [vi (J 0)]) rfl ?_
    exact R_iret rfl rfl (R_zr (x := 0) (K := K) (by decide) k)
  · show WP T N _ 15 [some (vr (some a0)), some (vi (J x1)), some (vi (J x2)), some (vr (some a3)), none] [] _ _
    refine R_ps 1 (pc2 := 16) (L2 := [some (vr (some a0)), some (vi (J x1)), some (vi (J x2)), some (vr (some a3)), none]) (st2 := [vi (J 1)]) rfl ?_
    exact R_iret rfl rfl (R_zr (x := 1) (K := K) (by decide) k)
  · show WP T N _ 19 [some (vr (some a0)), some (vi (J x1)), some (vi (J x2)), some (vr (some a3)), none] [] _ _
    refine R_ps 1 (pc2 := 20) (L2 := [some (vr (some a0)), some (vi (J x1)), some (vi (J x2)), some (vr (some a3)), none]) (st2 := [vi (J 2)]) rfl ?_
    exact R_iret rfl rfl (R_zr (x := 2) (K := K) (by decide) k)
/-- DroneCorridorsLaw.arrival -/
theorem z269 {T N : Nat → Nat} {h : PH} {a0 : Nat} {x1 : Int} {x2 : Int} {a3 : Nat} {K : Int → PH → Prop} (t0 : T a0 = 11) (t1 : T a3 = 24) (r1 : In x1) (r2 : In x2) (k : (CALL T N 120 [vr (some a0), vi (J x1), vi (J x2)] h (fun o_3 h_2 => (∃ x_4, o_3 = .inl (some (vi (J x_4))) ∧ In x_4 ∧ ((0 ≤ (0 : Int) ∧ (0 : Int) < (N a3 : Int) ∧ (0 : Int) < 2147483648) ∧ ∀ h_7, h_7 = sL h_2 a3 (Int.toNat 0) ((J x_4).toInt64) → K 0 h_7)) ∨ (o_3 = .inr 2 ∧ (K 1 h_2)) ∨ (o_3 = .inr 5 ∧ (K 2 h_2))))) : ZI T N 269 [vr (some a0), vi (J x1), vi (J x2), vr (some a3)] h K := by
  show WP T N 269 0 [some (vr (some a0)), some (vi (J x1)), some (vi (J x2)), some (vr (some a3)), none] [] h _
  refine R_ps 5 (pc2 := 5) (L2 := [some (vr (some a0)), some (vi (J x1)), some (vi (J x2)), some (vr (some a3)), none]) (st2 := [vi (J x2), vi (J x1), vr (some a0), vi (J 0), vr (some a3)]) rfl ?_
  refine R_cX (as := [vr (some a0), vi (J x1), vi (J x2)]) rfl rfl ⟨Nat.le_of_ble_eq_true rfl, Nat.le_of_ble_eq_true rfl, rfl, (Or.inr ⟨_, rfl, t0⟩)⟩ rfl rfl k (fun o_3 h_2 k => ?_)
  rcases k with ⟨x_4, rfl, r_5, k⟩ | ⟨rfl, k⟩ | ⟨rfl, k⟩
  · show WP T N _ 8 _ _ _ _
    refine R_ps 1 (pc2 := 9) (L2 := [some (vr (some a0)), some (vi (J x1)), some (vi (J x2)), some (vr (some a3)), none]) (st2 := [vl ((J x_4).toInt64), vi (J 0), vr (some a3)]) rfl ?_
    obtain ⟨t_9, k⟩ := k
    refine R_zlast (i := 0) rfl t1 t_9  ?_
    show WP T N _ _ _ _ (sL h_2 a3 (Int.toNat 0) ((J x_4).toInt64)) _
    generalize e_8 : sL h_2 a3 (Int.toNat 0) ((J x_4).toInt64) = h_7
    replace k := k h_7 e_8.symm
    refine R_ps 2 (pc2 := 22) (L2 := [some (vr (some a0)), some (vi (J x1)), some (vi (J x2)), some (vr (some a3)), none]) (st2 := [vi (J 0)]) rfl ?_
    exact R_iret rfl rfl (R_zr (x := 0) (K := K) (by decide) k)
  · show WP T N _ 15 [some (vr (some a0)), some (vi (J x1)), some (vi (J x2)), some (vr (some a3)), none] [] _ _
    refine R_ps 1 (pc2 := 16) (L2 := [some (vr (some a0)), some (vi (J x1)), some (vi (J x2)), some (vr (some a3)), none]) (st2 := [vi (J 1)]) rfl ?_
    exact R_iret rfl rfl (R_zr (x := 1) (K := K) (by decide) k)
  · show WP T N _ 19 [some (vr (some a0)), some (vi (J x1)), some (vi (J x2)), some (vr (some a3)), none] [] _ _
    refine R_ps 1 (pc2 := 20) (L2 := [some (vr (some a0)), some (vi (J x1)), some (vi (J x2)), some (vr (some a3)), none]) (st2 := [vi (J 2)]) rfl ?_
    exact R_iret rfl rfl (R_zr (x := 2) (K := K) (by decide) k)
/-- DroneCorridorsLaw.planEnergy -/
theorem z270 {T N : Nat → Nat} {h : PH} {a0 : Nat} {x1 : Int} {x2 : Int} {a3 : Nat} {K : Int → PH → Prop} (t0 : T a0 = 11) (t1 : T a3 = 24) (r1 : In x1) (r2 : In x2) (k : (CALL T N 121 [vr (some a0), vi (J x1), vi (J x2)] h (fun o_3 h_2 => (∃ x_4, o_3 = .inl (some (vi (J x_4))) ∧ In x_4 ∧ ((0 ≤ (0 : Int) ∧ (0 : Int) < (N a3 : Int) ∧ (0 : Int) < 2147483648) ∧ ∀ h_7, h_7 = sL h_2 a3 (Int.toNat 0) ((J x_4).toInt64) → K 0 h_7)) ∨ (o_3 = .inr 2 ∧ (K 1 h_2)) ∨ (o_3 = .inr 5 ∧ (K 2 h_2))))) : ZI T N 270 [vr (some a0), vi (J x1), vi (J x2), vr (some a3)] h K := by
  show WP T N 270 0 [some (vr (some a0)), some (vi (J x1)), some (vi (J x2)), some (vr (some a3)), none] [] h _
  refine R_ps 5 (pc2 := 5) (L2 := [some (vr (some a0)), some (vi (J x1)), some (vi (J x2)), some (vr (some a3)), none]) (st2 := [vi (J x2), vi (J x1), vr (some a0), vi (J 0), vr (some a3)]) rfl ?_
  refine R_cX (as := [vr (some a0), vi (J x1), vi (J x2)]) rfl rfl ⟨Nat.le_of_ble_eq_true rfl, Nat.le_of_ble_eq_true rfl, rfl, (Or.inr ⟨_, rfl, t0⟩)⟩ rfl rfl k (fun o_3 h_2 k => ?_)
  rcases k with ⟨x_4, rfl, r_5, k⟩ | ⟨rfl, k⟩ | ⟨rfl, k⟩
  · show WP T N _ 8 _ _ _ _
    refine R_ps 1 (pc2 := 9) (L2 := [some (vr (some a0)), some (vi (J x1)), some (vi (J x2)), some (vr (some a3)), none]) (st2 := [vl ((J x_4).toInt64), vi (J 0), vr (some a3)]) rfl ?_
    obtain ⟨t_9, k⟩ := k
    refine R_zlast (i := 0) rfl t1 t_9  ?_
    show WP T N _ _ _ _ (sL h_2 a3 (Int.toNat 0) ((J x_4).toInt64)) _
    generalize e_8 : sL h_2 a3 (Int.toNat 0) ((J x_4).toInt64) = h_7
    replace k := k h_7 e_8.symm
    refine R_ps 2 (pc2 := 22) (L2 := [some (vr (some a0)), some (vi (J x1)), some (vi (J x2)), some (vr (some a3)), none]) (st2 := [vi (J 0)]) rfl ?_
    exact R_iret rfl rfl (R_zr (x := 0) (K := K) (by decide) k)
  · show WP T N _ 15 [some (vr (some a0)), some (vi (J x1)), some (vi (J x2)), some (vr (some a3)), none] [] _ _
    refine R_ps 1 (pc2 := 16) (L2 := [some (vr (some a0)), some (vi (J x1)), some (vi (J x2)), some (vr (some a3)), none]) (st2 := [vi (J 1)]) rfl ?_
    exact R_iret rfl rfl (R_zr (x := 1) (K := K) (by decide) k)
  · show WP T N _ 19 [some (vr (some a0)), some (vi (J x1)), some (vi (J x2)), some (vr (some a3)), none] [] _ _
    refine R_ps 1 (pc2 := 20) (L2 := [some (vr (some a0)), some (vi (J x1)), some (vi (J x2)), some (vr (some a3)), none]) (st2 := [vi (J 2)]) rfl ?_
    exact R_iret rfl rfl (R_zr (x := 2) (K := K) (by decide) k)
/-- DroneCorridorsLaw.leg -/
theorem z271 {T N : Nat → Nat} {h : PH} {a0 : Nat} {x1 : Int} {x2 : Int} {x3 : Int} {a4 : Nat} {K : Int → PH → Prop} (t0 : T a0 = 11) (t1 : T a4 = 24) (r1 : In x1) (r2 : In x2) (r3 : In x3) (k : (CALL T N 122 [vr (some a0), vi (J x1), vi (J x2), vi (J x3)] h (fun o_3 h_2 => (∃ x_4, o_3 = .inl (some (vi (J x_4))) ∧ In x_4 ∧ ((0 ≤ (0 : Int) ∧ (0 : Int) < (N a4 : Int) ∧ (0 : Int) < 2147483648) ∧ ∀ h_7, h_7 = sL h_2 a4 (Int.toNat 0) ((J x_4).toInt64) → K 0 h_7)) ∨ (o_3 = .inr 2 ∧ (K 1 h_2)) ∨ (o_3 = .inr 1 ∧ (K 2 h_2))))) : ZI T N 271 [vr (some a0), vi (J x1), vi (J x2), vi (J x3), vr (some a4)] h K := by
  show WP T N 271 0 [some (vr (some a0)), some (vi (J x1)), some (vi (J x2)), some (vi (J x3)), some (vr (some a4)), none] [] h _
  refine R_ps 6 (pc2 := 7) (L2 := [some (vr (some a0)), some (vi (J x1)), some (vi (J x2)), some (vi (J x3)), some (vr (some a4)), none]) (st2 := [vi (J x3), vi (J x2), vi (J x1), vr (some a0), vi (J 0), vr (some a4)]) rfl ?_
  refine R_cX (as := [vr (some a0), vi (J x1), vi (J x2), vi (J x3)]) rfl rfl ⟨Nat.le_of_ble_eq_true rfl, Nat.le_of_ble_eq_true rfl, rfl, (Or.inr ⟨_, rfl, t0⟩)⟩ rfl rfl k (fun o_3 h_2 k => ?_)
  rcases k with ⟨x_4, rfl, r_5, k⟩ | ⟨rfl, k⟩ | ⟨rfl, k⟩
  · show WP T N _ 10 _ _ _ _
    refine R_ps 1 (pc2 := 11) (L2 := [some (vr (some a0)), some (vi (J x1)), some (vi (J x2)), some (vi (J x3)), some (vr (some a4)), none]) (st2 := [vl ((J x_4).toInt64), vi (J 0), vr (some a4)]) rfl ?_
    obtain ⟨t_9, k⟩ := k
    refine R_zlast (i := 0) rfl t1 t_9  ?_
    show WP T N _ _ _ _ (sL h_2 a4 (Int.toNat 0) ((J x_4).toInt64)) _
    generalize e_8 : sL h_2 a4 (Int.toNat 0) ((J x_4).toInt64) = h_7
    replace k := k h_7 e_8.symm
    refine R_ps 2 (pc2 := 24) (L2 := [some (vr (some a0)), some (vi (J x1)), some (vi (J x2)), some (vi (J x3)), some (vr (some a4)), none]) (st2 := [vi (J 0)]) rfl ?_
    exact R_iret rfl rfl (R_zr (x := 0) (K := K) (by decide) k)
  · show WP T N _ 17 [some (vr (some a0)), some (vi (J x1)), some (vi (J x2)), some (vi (J x3)), some (vr (some a4)), none] [] _ _
    refine R_ps 1 (pc2 := 18) (L2 := [some (vr (some a0)), some (vi (J x1)), some (vi (J x2)), some (vi (J x3)), some (vr (some a4)), none]) (st2 := [vi (J 1)]) rfl ?_
    exact R_iret rfl rfl (R_zr (x := 1) (K := K) (by decide) k)
  · show WP T N _ 21 [some (vr (some a0)), some (vi (J x1)), some (vi (J x2)), some (vi (J x3)), some (vr (some a4)), none] [] _ _
    refine R_ps 1 (pc2 := 22) (L2 := [some (vr (some a0)), some (vi (J x1)), some (vi (J x2)), some (vi (J x3)), some (vr (some a4)), none]) (st2 := [vi (J 2)]) rfl ?_
    exact R_iret rfl rfl (R_zr (x := 2) (K := K) (by decide) k)
/-- DroneCorridorsLaw.cancel -/
theorem z272 {T N : Nat → Nat} {h : PH} {a0 : Nat} {x1 : Int} {a2 : Nat} {K : Int → PH → Prop} (t0 : T a0 = 11) (t1 : T a2 = 24) (r1 : In x1) (k : (CALL T N 123 [vr (some a0), vi (J x1)] h (fun o_3 h_2 => (∃ x_4, o_3 = .inl (some (vi (J x_4))) ∧ In x_4 ∧ ((0 ≤ (0 : Int) ∧ (0 : Int) < (N a2 : Int) ∧ (0 : Int) < 2147483648) ∧ ∀ h_7, h_7 = sL h_2 a2 (Int.toNat 0) ((J x_4).toInt64) → K 0 h_7)) ∨ (o_3 = .inr 2 ∧ (K 1 h_2))))) : ZI T N 272 [vr (some a0), vi (J x1), vr (some a2)] h K := by
  show WP T N 272 0 [some (vr (some a0)), some (vi (J x1)), some (vr (some a2)), none] [] h _
  refine R_ps 4 (pc2 := 4) (L2 := [some (vr (some a0)), some (vi (J x1)), some (vr (some a2)), none]) (st2 := [vi (J x1), vr (some a0), vi (J 0), vr (some a2)]) rfl ?_
  refine R_cX (as := [vr (some a0), vi (J x1)]) rfl rfl ⟨Nat.le_of_ble_eq_true rfl, Nat.le_of_ble_eq_true rfl, rfl, (Or.inr ⟨_, rfl, t0⟩)⟩ rfl rfl k (fun o_3 h_2 k => ?_)
  rcases k with ⟨x_4, rfl, r_5, k⟩ | ⟨rfl, k⟩
  · show WP T N _ 7 _ _ _ _
    refine R_ps 1 (pc2 := 8) (L2 := [some (vr (some a0)), some (vi (J x1)), some (vr (some a2)), none]) (st2 := [vl ((J x_4).toInt64), vi (J 0), vr (some a2)]) rfl ?_
    obtain ⟨t_9, k⟩ := k
    refine R_zlast (i := 0) rfl t1 t_9  ?_
    show WP T N _ _ _ _ (sL h_2 a2 (Int.toNat 0) ((J x_4).toInt64)) _
    generalize e_8 : sL h_2 a2 (Int.toNat 0) ((J x_4).toInt64) = h_7
    replace k := k h_7 e_8.symm
    refine R_ps 2 (pc2 := 16) (L2 := [some (vr (some a0)), some (vi (J x1)), some (vr (some a2)), none]) (st2 := [vi (J 0)]) rfl ?_
    exact R_iret rfl rfl (R_zr (x := 0) (K := K) (by decide) k)
  · show WP T N _ 13 [some (vr (some a0)), some (vi (J x1)), some (vr (some a2)), none] [] _ _
    refine R_ps 1 (pc2 := 14) (L2 := [some (vr (some a0)), some (vi (J x1)), some (vr (some a2)), none]) (st2 := [vi (J 1)]) rfl ?_
    exact R_iret rfl rfl (R_zr (x := 1) (K := K) (by decide) k)
/-- DroneCorridorsLaw.drain -/
theorem z273 {T N : Nat → Nat} {h : PH} {a0 : Nat} {x1 : Int} {x2 : Int} {a3 : Nat} {K : Int → PH → Prop} (t0 : T a0 = 11) (t1 : T a3 = 24) (r1 : In x1) (r2 : In x2) (k : (CALL T N 124 [vr (some a0), vi (J x1), vi (J x2)] h (fun o_3 h_2 => (∃ x_4, o_3 = .inl (some (vi (J x_4))) ∧ In x_4 ∧ ((0 ≤ (0 : Int) ∧ (0 : Int) < (N a3 : Int) ∧ (0 : Int) < 2147483648) ∧ ∀ h_7, h_7 = sL h_2 a3 (Int.toNat 0) ((J x_4).toInt64) → K 0 h_7)) ∨ (o_3 = .inr 2 ∧ (K 1 h_2)) ∨ (o_3 = .inr 1 ∧ (K 2 h_2)) ∨ (o_3 = .inr 0 ∧ (K 3 h_2))))) : ZI T N 273 [vr (some a0), vi (J x1), vi (J x2), vr (some a3)] h K := by
  show WP T N 273 0 [some (vr (some a0)), some (vi (J x1)), some (vi (J x2)), some (vr (some a3)), none] [] h _
  refine R_ps 5 (pc2 := 5) (L2 := [some (vr (some a0)), some (vi (J x1)), some (vi (J x2)), some (vr (some a3)), none]) (st2 := [vi (J x2), vi (J x1), vr (some a0), vi (J 0), vr (some a3)]) rfl ?_
  refine R_cX (as := [vr (some a0), vi (J x1), vi (J x2)]) rfl rfl ⟨Nat.le_of_ble_eq_true rfl, Nat.le_of_ble_eq_true rfl, rfl, (Or.inr ⟨_, rfl, t0⟩)⟩ rfl rfl k (fun o_3 h_2 k => ?_)
  rcases k with ⟨x_4, rfl, r_5, k⟩ | ⟨rfl, k⟩ | ⟨rfl, k⟩ | ⟨rfl, k⟩
  · show WP T N _ 8 _ _ _ _
    refine R_ps 1 (pc2 := 9) (L2 := [some (vr (some a0)), some (vi (J x1)), some (vi (J x2)), some (vr (some a3)), none]) (st2 := [vl ((J x_4).toInt64), vi (J 0), vr (some a3)]) rfl ?_
    obtain ⟨t_9, k⟩ := k
    refine R_zlast (i := 0) rfl t1 t_9  ?_
    show WP T N _ _ _ _ (sL h_2 a3 (Int.toNat 0) ((J x_4).toInt64)) _
    generalize e_8 : sL h_2 a3 (Int.toNat 0) ((J x_4).toInt64) = h_7
    replace k := k h_7 e_8.symm
    refine R_ps 2 (pc2 := 26) (L2 := [some (vr (some a0)), some (vi (J x1)), some (vi (J x2)), some (vr (some a3)), none]) (st2 := [vi (J 0)]) rfl ?_
    exact R_iret rfl rfl (R_zr (x := 0) (K := K) (by decide) k)
  · show WP T N _ 15 [some (vr (some a0)), some (vi (J x1)), some (vi (J x2)), some (vr (some a3)), none] [] _ _
    refine R_ps 1 (pc2 := 16) (L2 := [some (vr (some a0)), some (vi (J x1)), some (vi (J x2)), some (vr (some a3)), none]) (st2 := [vi (J 1)]) rfl ?_
    exact R_iret rfl rfl (R_zr (x := 1) (K := K) (by decide) k)
  · show WP T N _ 19 [some (vr (some a0)), some (vi (J x1)), some (vi (J x2)), some (vr (some a3)), none] [] _ _
    refine R_ps 1 (pc2 := 20) (L2 := [some (vr (some a0)), some (vi (J x1)), some (vi (J x2)), some (vr (some a3)), none]) (st2 := [vi (J 2)]) rfl ?_
    exact R_iret rfl rfl (R_zr (x := 2) (K := K) (by decide) k)
  · show WP T N _ 23 [some (vr (some a0)), some (vi (J x1)), some (vi (J x2)), some (vr (some a3)), none] [] _ _
    refine R_ps 1 (pc2 := 24) (L2 := [some (vr (some a0)), some (vi (J x1)), some (vi (J x2)), some (vr (some a3)), none]) (st2 := [vi (J 3)]) rfl ?_
    exact R_iret rfl rfl (R_zr (x := 3) (K := K) (by decide) k)
/-- DroneCorridorsLaw.nearestPad -/
theorem z274 {T N : Nat → Nat} {h : PH} {a0 : Nat} {x1 : Int} {a2 : Nat} {K : Int → PH → Prop} (t0 : T a0 = 11) (t1 : T a2 = 24) (r1 : In x1) (k : (CALL T N 127 [vr (some a0), vi (J x1)] h (fun o_3 h_2 => (∃ x_4, o_3 = .inl (some (vi (J x_4))) ∧ In x_4 ∧ ((0 ≤ (0 : Int) ∧ (0 : Int) < (N a2 : Int) ∧ (0 : Int) < 2147483648) ∧ ∀ h_7, h_7 = sL h_2 a2 (Int.toNat 0) ((J x_4).toInt64) → K 0 h_7)) ∨ (o_3 = .inr 2 ∧ (K 1 h_2)) ∨ (o_3 = .inr 5 ∧ (K 2 h_2))))) : ZI T N 274 [vr (some a0), vi (J x1), vr (some a2)] h K := by
  show WP T N 274 0 [some (vr (some a0)), some (vi (J x1)), some (vr (some a2)), none] [] h _
  refine R_ps 4 (pc2 := 4) (L2 := [some (vr (some a0)), some (vi (J x1)), some (vr (some a2)), none]) (st2 := [vi (J x1), vr (some a0), vi (J 0), vr (some a2)]) rfl ?_
  refine R_cX (as := [vr (some a0), vi (J x1)]) rfl rfl ⟨Nat.le_of_ble_eq_true rfl, Nat.le_of_ble_eq_true rfl, rfl, (Or.inr ⟨_, rfl, t0⟩)⟩ rfl rfl k (fun o_3 h_2 k => ?_)
  rcases k with ⟨x_4, rfl, r_5, k⟩ | ⟨rfl, k⟩ | ⟨rfl, k⟩
  · show WP T N _ 7 _ _ _ _
    refine R_ps 1 (pc2 := 8) (L2 := [some (vr (some a0)), some (vi (J x1)), some (vr (some a2)), none]) (st2 := [vl ((J x_4).toInt64), vi (J 0), vr (some a2)]) rfl ?_
    obtain ⟨t_9, k⟩ := k
    refine R_zlast (i := 0) rfl t1 t_9  ?_
    show WP T N _ _ _ _ (sL h_2 a2 (Int.toNat 0) ((J x_4).toInt64)) _
    generalize e_8 : sL h_2 a2 (Int.toNat 0) ((J x_4).toInt64) = h_7
    replace k := k h_7 e_8.symm
    refine R_ps 2 (pc2 := 19) (L2 := [some (vr (some a0)), some (vi (J x1)), some (vr (some a2)), none]) (st2 := [vi (J 0)]) rfl ?_
    exact R_iret rfl rfl (R_zr (x := 0) (K := K) (by decide) k)
  · show WP T N _ 13 [some (vr (some a0)), some (vi (J x1)), some (vr (some a2)), none] [] _ _
    refine R_ps 1 (pc2 := 14) (L2 := [some (vr (some a0)), some (vi (J x1)), some (vr (some a2)), none]) (st2 := [vi (J 1)]) rfl ?_
    exact R_iret rfl rfl (R_zr (x := 1) (K := K) (by decide) k)
  · show WP T N _ 16 [some (vr (some a0)), some (vi (J x1)), some (vr (some a2)), none] [] _ _
    refine R_ps 1 (pc2 := 17) (L2 := [some (vr (some a0)), some (vi (J x1)), some (vr (some a2)), none]) (st2 := [vi (J 2)]) rfl ?_
    exact R_iret rfl rfl (R_zr (x := 2) (K := K) (by decide) k)
/-- DroneCorridorsLaw.reason -/
theorem z275 {T N : Nat → Nat} {h : PH} {a0 : Nat} {a1 : Nat} {K : Int → PH → Prop} (t0 : T a0 = 11) (t1 : T a1 = 24) (k : (CALL T N 129 [vr (some a0)] h (fun o_3 h_2 => (∃ x_4, o_3 = .inl (some (vi (J x_4))) ∧ In x_4 ∧ ((0 ≤ (0 : Int) ∧ (0 : Int) < (N a1 : Int) ∧ (0 : Int) < 2147483648) ∧ ∀ h_7, h_7 = sL h_2 a1 (Int.toNat 0) ((J x_4).toInt64) → K 0 h_7)) ∨ (o_3 = .inr 5 ∧ (K 1 h_2))))) : ZI T N 275 [vr (some a0), vr (some a1)] h K := by
  show WP T N 275 0 [some (vr (some a0)), some (vr (some a1)), none] [] h _
  refine R_ps 3 (pc2 := 3) (L2 := [some (vr (some a0)), some (vr (some a1)), none]) (st2 := [vr (some a0), vi (J 0), vr (some a1)]) rfl ?_
  refine R_cX (as := [vr (some a0)]) rfl rfl ⟨Nat.le_of_ble_eq_true rfl, Nat.le_of_ble_eq_true rfl, rfl, (Or.inr ⟨_, rfl, t0⟩)⟩ rfl rfl k (fun o_3 h_2 k => ?_)
  rcases k with ⟨x_4, rfl, r_5, k⟩ | ⟨rfl, k⟩
  · show WP T N _ 6 _ _ _ _
    refine R_ps 1 (pc2 := 7) (L2 := [some (vr (some a0)), some (vr (some a1)), none]) (st2 := [vl ((J x_4).toInt64), vi (J 0), vr (some a1)]) rfl ?_
    obtain ⟨t_9, k⟩ := k
    refine R_zlast (i := 0) rfl t1 t_9  ?_
    show WP T N _ _ _ _ (sL h_2 a1 (Int.toNat 0) ((J x_4).toInt64)) _
    generalize e_8 : sL h_2 a1 (Int.toNat 0) ((J x_4).toInt64) = h_7
    replace k := k h_7 e_8.symm
    refine R_ps 2 (pc2 := 15) (L2 := [some (vr (some a0)), some (vr (some a1)), none]) (st2 := [vi (J 0)]) rfl ?_
    exact R_iret rfl rfl (R_zr (x := 0) (K := K) (by decide) k)
  · show WP T N _ 12 [some (vr (some a0)), some (vr (some a1)), none] [] _ _
    refine R_ps 1 (pc2 := 13) (L2 := [some (vr (some a0)), some (vr (some a1)), none]) (st2 := [vi (J 1)]) rfl ?_
    exact R_iret rfl rfl (R_zr (x := 1) (K := K) (by decide) k)
/-- DroneCorridorsLaw.advance -/
theorem z276 {T N : Nat → Nat} {h : PH} {a0 : Nat} {x1 : Int} {a2 : Nat} {K : Int → PH → Prop} (t0 : T a0 = 11) (t1 : T a2 = 24) (r1 : In x1) (k : (CALL T N 130 [vr (some a0), vi (J x1)] h (fun o_3 h_2 => (∃ x_4, o_3 = .inl (some (vi (J x_4))) ∧ In x_4 ∧ ((0 ≤ (0 : Int) ∧ (0 : Int) < (N a2 : Int) ∧ (0 : Int) < 2147483648) ∧ ∀ h_7, h_7 = sL h_2 a2 (Int.toNat 0) ((J x_4).toInt64) → K 0 h_7)) ∨ (o_3 = .inr 1 ∧ (K 1 h_2)) ∨ (o_3 = .inr 0 ∧ (K 2 h_2))))) : ZI T N 276 [vr (some a0), vi (J x1), vr (some a2)] h K := by
  show WP T N 276 0 [some (vr (some a0)), some (vi (J x1)), some (vr (some a2)), none] [] h _
  refine R_ps 4 (pc2 := 4) (L2 := [some (vr (some a0)), some (vi (J x1)), some (vr (some a2)), none]) (st2 := [vi (J x1), vr (some a0), vi (J 0), vr (some a2)]) rfl ?_
  refine R_cX (as := [vr (some a0), vi (J x1)]) rfl rfl ⟨Nat.le_of_ble_eq_true rfl, Nat.le_of_ble_eq_true rfl, rfl, (Or.inr ⟨_, rfl, t0⟩)⟩ rfl rfl k (fun o_3 h_2 k => ?_)
  rcases k with ⟨x_4, rfl, r_5, k⟩ | ⟨rfl, k⟩ | ⟨rfl, k⟩
  · show WP T N _ 7 _ _ _ _
    refine R_ps 1 (pc2 := 8) (L2 := [some (vr (some a0)), some (vi (J x1)), some (vr (some a2)), none]) (st2 := [vl ((J x_4).toInt64), vi (J 0), vr (some a2)]) rfl ?_
    obtain ⟨t_9, k⟩ := k
    refine R_zlast (i := 0) rfl t1 t_9  ?_
    show WP T N _ _ _ _ (sL h_2 a2 (Int.toNat 0) ((J x_4).toInt64)) _
    generalize e_8 : sL h_2 a2 (Int.toNat 0) ((J x_4).toInt64) = h_7
    replace k := k h_7 e_8.symm
    refine R_ps 2 (pc2 := 19) (L2 := [some (vr (some a0)), some (vi (J x1)), some (vr (some a2)), none]) (st2 := [vi (J 0)]) rfl ?_
    exact R_iret rfl rfl (R_zr (x := 0) (K := K) (by decide) k)
  · show WP T N _ 13 [some (vr (some a0)), some (vi (J x1)), some (vr (some a2)), none] [] _ _
    refine R_ps 1 (pc2 := 14) (L2 := [some (vr (some a0)), some (vi (J x1)), some (vr (some a2)), none]) (st2 := [vi (J 1)]) rfl ?_
    exact R_iret rfl rfl (R_zr (x := 1) (K := K) (by decide) k)
  · show WP T N _ 16 [some (vr (some a0)), some (vi (J x1)), some (vr (some a2)), none] [] _ _
    refine R_ps 1 (pc2 := 17) (L2 := [some (vr (some a0)), some (vi (J x1)), some (vr (some a2)), none]) (st2 := [vi (J 2)]) rfl ?_
    exact R_iret rfl rfl (R_zr (x := 2) (K := K) (by decide) k)
/-- DroneCorridorsLaw.placeAfter -/
theorem z277 {T N : Nat → Nat} {h : PH} {a0 : Nat} {x1 : Int} {x2 : Int} {a3 : Nat} {K : Int → PH → Prop} (t0 : T a0 = 11) (t1 : T a3 = 24) (r1 : In x1) (r2 : In x2) (k : (CALL T N 131 [vr (some a0), vi (J x1), vi (J x2)] h (fun o_3 h_2 => (∃ x_4, o_3 = .inl (some (vi (J x_4))) ∧ In x_4 ∧ ((0 ≤ (0 : Int) ∧ (0 : Int) < (N a3 : Int) ∧ (0 : Int) < 2147483648) ∧ ∀ h_7, h_7 = sL h_2 a3 (Int.toNat 0) ((J x_4).toInt64) → K 0 h_7)) ∨ (o_3 = .inr 2 ∧ (K 1 h_2)) ∨ (o_3 = .inr 1 ∧ (K 2 h_2))))) : ZI T N 277 [vr (some a0), vi (J x1), vi (J x2), vr (some a3)] h K := by
  show WP T N 277 0 [some (vr (some a0)), some (vi (J x1)), some (vi (J x2)), some (vr (some a3)), none] [] h _
  refine R_ps 5 (pc2 := 5) (L2 := [some (vr (some a0)), some (vi (J x1)), some (vi (J x2)), some (vr (some a3)), none]) (st2 := [vi (J x2), vi (J x1), vr (some a0), vi (J 0), vr (some a3)]) rfl ?_
  refine R_cX (as := [vr (some a0), vi (J x1), vi (J x2)]) rfl rfl ⟨Nat.le_of_ble_eq_true rfl, Nat.le_of_ble_eq_true rfl, rfl, (Or.inr ⟨_, rfl, t0⟩)⟩ rfl rfl k (fun o_3 h_2 k => ?_)
  rcases k with ⟨x_4, rfl, r_5, k⟩ | ⟨rfl, k⟩ | ⟨rfl, k⟩
  · show WP T N _ 8 _ _ _ _
    refine R_ps 1 (pc2 := 9) (L2 := [some (vr (some a0)), some (vi (J x1)), some (vi (J x2)), some (vr (some a3)), none]) (st2 := [vl ((J x_4).toInt64), vi (J 0), vr (some a3)]) rfl ?_
    obtain ⟨t_9, k⟩ := k
    refine R_zlast (i := 0) rfl t1 t_9  ?_
    show WP T N _ _ _ _ (sL h_2 a3 (Int.toNat 0) ((J x_4).toInt64)) _
    generalize e_8 : sL h_2 a3 (Int.toNat 0) ((J x_4).toInt64) = h_7
    replace k := k h_7 e_8.symm
    refine R_ps 2 (pc2 := 22) (L2 := [some (vr (some a0)), some (vi (J x1)), some (vi (J x2)), some (vr (some a3)), none]) (st2 := [vi (J 0)]) rfl ?_
    exact R_iret rfl rfl (R_zr (x := 0) (K := K) (by decide) k)
  · show WP T N _ 15 [some (vr (some a0)), some (vi (J x1)), some (vi (J x2)), some (vr (some a3)), none] [] _ _
    refine R_ps 1 (pc2 := 16) (L2 := [some (vr (some a0)), some (vi (J x1)), some (vi (J x2)), some (vr (some a3)), none]) (st2 := [vi (J 1)]) rfl ?_
    exact R_iret rfl rfl (R_zr (x := 1) (K := K) (by decide) k)
  · show WP T N _ 19 [some (vr (some a0)), some (vi (J x1)), some (vi (J x2)), some (vr (some a3)), none] [] _ _
    refine R_ps 1 (pc2 := 20) (L2 := [some (vr (some a0)), some (vi (J x1)), some (vi (J x2)), some (vr (some a3)), none]) (st2 := [vi (J 2)]) rfl ?_
    exact R_iret rfl rfl (R_zr (x := 2) (K := K) (by decide) k)
/-- DroneCorridorsLaw.uses -/
theorem z278 {T N : Nat → Nat} {h : PH} {a0 : Nat} {x1 : Int} {x2 : Int} {a3 : Nat} {K : Int → PH → Prop} (t0 : T a0 = 11) (t1 : T a3 = 24) (r1 : In x1) (r2 : In x2) (k : (CALL T N 133 [vr (some a0), vi (J x1), vi (J x2)] h (fun o_3 h_2 => (∃ x_4, o_3 = .inl (some (vi (J x_4))) ∧ In x_4 ∧ ((0 ≤ (0 : Int) ∧ (0 : Int) < (N a3 : Int) ∧ (0 : Int) < 2147483648) ∧ ∀ h_7, h_7 = sL h_2 a3 (Int.toNat 0) ((J x_4).toInt64) → K 0 h_7)) ∨ (o_3 = .inr 2 ∧ (K 1 h_2)) ∨ (o_3 = .inr 1 ∧ (K 2 h_2))))) : ZI T N 278 [vr (some a0), vi (J x1), vi (J x2), vr (some a3)] h K := by
  show WP T N 278 0 [some (vr (some a0)), some (vi (J x1)), some (vi (J x2)), some (vr (some a3)), none] [] h _
  refine R_ps 5 (pc2 := 5) (L2 := [some (vr (some a0)), some (vi (J x1)), some (vi (J x2)), some (vr (some a3)), none]) (st2 := [vi (J x2), vi (J x1), vr (some a0), vi (J 0), vr (some a3)]) rfl ?_
  refine R_cX (as := [vr (some a0), vi (J x1), vi (J x2)]) rfl rfl ⟨Nat.le_of_ble_eq_true rfl, Nat.le_of_ble_eq_true rfl, rfl, (Or.inr ⟨_, rfl, t0⟩)⟩ rfl rfl k (fun o_3 h_2 k => ?_)
  rcases k with ⟨x_4, rfl, r_5, k⟩ | ⟨rfl, k⟩ | ⟨rfl, k⟩
  · show WP T N _ 8 _ _ _ _
    refine R_ps 1 (pc2 := 9) (L2 := [some (vr (some a0)), some (vi (J x1)), some (vi (J x2)), some (vr (some a3)), none]) (st2 := [vl ((J x_4).toInt64), vi (J 0), vr (some a3)]) rfl ?_
    obtain ⟨t_9, k⟩ := k
    refine R_zlast (i := 0) rfl t1 t_9  ?_
    show WP T N _ _ _ _ (sL h_2 a3 (Int.toNat 0) ((J x_4).toInt64)) _
    generalize e_8 : sL h_2 a3 (Int.toNat 0) ((J x_4).toInt64) = h_7
    replace k := k h_7 e_8.symm
    refine R_ps 2 (pc2 := 22) (L2 := [some (vr (some a0)), some (vi (J x1)), some (vi (J x2)), some (vr (some a3)), none]) (st2 := [vi (J 0)]) rfl ?_
    exact R_iret rfl rfl (R_zr (x := 0) (K := K) (by decide) k)
  · show WP T N _ 15 [some (vr (some a0)), some (vi (J x1)), some (vi (J x2)), some (vr (some a3)), none] [] _ _
    refine R_ps 1 (pc2 := 16) (L2 := [some (vr (some a0)), some (vi (J x1)), some (vi (J x2)), some (vr (some a3)), none]) (st2 := [vi (J 1)]) rfl ?_
    exact R_iret rfl rfl (R_zr (x := 1) (K := K) (by decide) k)
  · show WP T N _ 19 [some (vr (some a0)), some (vi (J x1)), some (vi (J x2)), some (vr (some a3)), none] [] _ _
    refine R_ps 1 (pc2 := 20) (L2 := [some (vr (some a0)), some (vi (J x1)), some (vi (J x2)), some (vr (some a3)), none]) (st2 := [vi (J 2)]) rfl ?_
    exact R_iret rfl rfl (R_zr (x := 2) (K := K) (by decide) k)
/-- DroneCorridorsLaw.account -/
theorem z279 {T N : Nat → Nat} {h : PH} {a0 : Nat} {x1 : Int} {x2 : Int} {a3 : Nat} {K : Int → PH → Prop} (t0 : T a0 = 11) (t1 : T a3 = 24) (r1 : In x1) (r2 : In x2) (k : (CALL T N 134 [vr (some a0), vi (J x1), vi (J x2)] h (fun o_3 h_2 => (∃ x_4, o_3 = .inl (some (vi (J x_4))) ∧ In x_4 ∧ ((0 ≤ (0 : Int) ∧ (0 : Int) < (N a3 : Int) ∧ (0 : Int) < 2147483648) ∧ ∀ h_7, h_7 = sL h_2 a3 (Int.toNat 0) ((J x_4).toInt64) → K 0 h_7)) ∨ (o_3 = .inr 2 ∧ (K 1 h_2)) ∨ (o_3 = .inr 1 ∧ (K 2 h_2))))) : ZI T N 279 [vr (some a0), vi (J x1), vi (J x2), vr (some a3)] h K := by
  show WP T N 279 0 [some (vr (some a0)), some (vi (J x1)), some (vi (J x2)), some (vr (some a3)), none] [] h _
  refine R_ps 5 (pc2 := 5) (L2 := [some (vr (some a0)), some (vi (J x1)), some (vi (J x2)), some (vr (some a3)), none]) (st2 := [vi (J x2), vi (J x1), vr (some a0), vi (J 0), vr (some a3)]) rfl ?_
  refine R_cX (as := [vr (some a0), vi (J x1), vi (J x2)]) rfl rfl ⟨Nat.le_of_ble_eq_true rfl, Nat.le_of_ble_eq_true rfl, rfl, (Or.inr ⟨_, rfl, t0⟩)⟩ rfl rfl k (fun o_3 h_2 k => ?_)
  rcases k with ⟨x_4, rfl, r_5, k⟩ | ⟨rfl, k⟩ | ⟨rfl, k⟩
  · show WP T N _ 8 _ _ _ _
    refine R_ps 1 (pc2 := 9) (L2 := [some (vr (some a0)), some (vi (J x1)), some (vi (J x2)), some (vr (some a3)), none]) (st2 := [vl ((J x_4).toInt64), vi (J 0), vr (some a3)]) rfl ?_
    obtain ⟨t_9, k⟩ := k
    refine R_zlast (i := 0) rfl t1 t_9  ?_
    show WP T N _ _ _ _ (sL h_2 a3 (Int.toNat 0) ((J x_4).toInt64)) _
    generalize e_8 : sL h_2 a3 (Int.toNat 0) ((J x_4).toInt64) = h_7
    replace k := k h_7 e_8.symm
    refine R_ps 2 (pc2 := 22) (L2 := [some (vr (some a0)), some (vi (J x1)), some (vi (J x2)), some (vr (some a3)), none]) (st2 := [vi (J 0)]) rfl ?_
    exact R_iret rfl rfl (R_zr (x := 0) (K := K) (by decide) k)
  · show WP T N _ 15 [some (vr (some a0)), some (vi (J x1)), some (vi (J x2)), some (vr (some a3)), none] [] _ _
    refine R_ps 1 (pc2 := 16) (L2 := [some (vr (some a0)), some (vi (J x1)), some (vi (J x2)), some (vr (some a3)), none]) (st2 := [vi (J 1)]) rfl ?_
    exact R_iret rfl rfl (R_zr (x := 1) (K := K) (by decide) k)
  · show WP T N _ 19 [some (vr (some a0)), some (vi (J x1)), some (vi (J x2)), some (vr (some a3)), none] [] _ _
    refine R_ps 1 (pc2 := 20) (L2 := [some (vr (some a0)), some (vi (J x1)), some (vi (J x2)), some (vr (some a3)), none]) (st2 := [vi (J 2)]) rfl ?_
    exact R_iret rfl rfl (R_zr (x := 2) (K := K) (by decide) k)
/-- DroneCorridorsLaw.flyingShare -/
theorem z280 {T N : Nat → Nat} {h : PH} {a0 : Nat} {a1 : Nat} {K : Int → PH → Prop} (t0 : T a0 = 11) (t1 : T a1 = 25) (k : (CALL T N 136 [vr (some a0)] h (fun o_3 h_2 => (∃ x_4, o_3 = .inl (some (vd x_4)) ∧ ((0 ≤ (0 : Int) ∧ (0 : Int) < (N a1 : Int) ∧ (0 : Int) < 2147483648) ∧ ∀ h_6, h_6 = sd h_2 a1 (Int.toNat 0) x_4 → K 0 h_6)) ∨ (o_3 = .inr 3 ∧ (K 1 h_2))))) : ZI T N 280 [vr (some a0), vr (some a1)] h K := by
  show WP T N 280 0 [some (vr (some a0)), some (vr (some a1)), none] [] h _
  refine R_ps 3 (pc2 := 3) (L2 := [some (vr (some a0)), some (vr (some a1)), none]) (st2 := [vr (some a0), vi (J 0), vr (some a1)]) rfl ?_
  refine R_cX (as := [vr (some a0)]) rfl rfl ⟨Nat.le_of_ble_eq_true rfl, Nat.le_of_ble_eq_true rfl, rfl, (Or.inr ⟨_, rfl, t0⟩)⟩ rfl rfl k (fun o_3 h_2 k => ?_)
  rcases k with ⟨x_4, rfl, k⟩ | ⟨rfl, k⟩
  · show WP T N _ 6 _ _ _ _
    obtain ⟨t_8, k⟩ := k
    refine R_zdast (i := 0) rfl t1 t_8  ?_
    show WP T N _ _ _ _ (sd h_2 a1 (Int.toNat 0) x_4) _
    generalize e_7 : sd h_2 a1 (Int.toNat 0) x_4 = h_6
    replace k := k h_6 e_7.symm
    refine R_ps 2 (pc2 := 14) (L2 := [some (vr (some a0)), some (vr (some a1)), none]) (st2 := [vi (J 0)]) rfl ?_
    exact R_iret rfl rfl (R_zr (x := 0) (K := K) (by decide) k)
  · show WP T N _ 11 [some (vr (some a0)), some (vr (some a1)), none] [] _ _
    refine R_ps 1 (pc2 := 12) (L2 := [some (vr (some a0)), some (vr (some a1)), none]) (st2 := [vi (J 1)]) rfl ?_
    exact R_iret rfl rfl (R_zr (x := 1) (K := K) (by decide) k)
/-- DroneCorridorsLaw.busiest -/
theorem z281 {T N : Nat → Nat} {h : PH} {a0 : Nat} {a1 : Nat} {K : Int → PH → Prop} (t0 : T a0 = 11) (t1 : T a1 = 24) (k : (CALL T N 137 [vr (some a0)] h (fun o_3 h_2 => (∃ x_4, o_3 = .inl (some (vi (J x_4))) ∧ In x_4 ∧ ((0 ≤ (0 : Int) ∧ (0 : Int) < (N a1 : Int) ∧ (0 : Int) < 2147483648) ∧ ∀ h_7, h_7 = sL h_2 a1 (Int.toNat 0) ((J x_4).toInt64) → K 0 h_7)) ∨ (o_3 = .inr 5 ∧ (K 1 h_2))))) : ZI T N 281 [vr (some a0), vr (some a1)] h K := by
  show WP T N 281 0 [some (vr (some a0)), some (vr (some a1)), none] [] h _
  refine R_ps 3 (pc2 := 3) (L2 := [some (vr (some a0)), some (vr (some a1)), none]) (st2 := [vr (some a0), vi (J 0), vr (some a1)]) rfl ?_
  refine R_cX (as := [vr (some a0)]) rfl rfl ⟨Nat.le_of_ble_eq_true rfl, Nat.le_of_ble_eq_true rfl, rfl, (Or.inr ⟨_, rfl, t0⟩)⟩ rfl rfl k (fun o_3 h_2 k => ?_)
  rcases k with ⟨x_4, rfl, r_5, k⟩ | ⟨rfl, k⟩
  · show WP T N _ 6 _ _ _ _
    refine R_ps 1 (pc2 := 7) (L2 := [some (vr (some a0)), some (vr (some a1)), none]) (st2 := [vl ((J x_4).toInt64), vi (J 0), vr (some a1)]) rfl ?_
    obtain ⟨t_9, k⟩ := k
    refine R_zlast (i := 0) rfl t1 t_9  ?_
    show WP T N _ _ _ _ (sL h_2 a1 (Int.toNat 0) ((J x_4).toInt64)) _
    generalize e_8 : sL h_2 a1 (Int.toNat 0) ((J x_4).toInt64) = h_7
    replace k := k h_7 e_8.symm
    refine R_ps 2 (pc2 := 15) (L2 := [some (vr (some a0)), some (vr (some a1)), none]) (st2 := [vi (J 0)]) rfl ?_
    exact R_iret rfl rfl (R_zr (x := 0) (K := K) (by decide) k)
  · show WP T N _ 12 [some (vr (some a0)), some (vr (some a1)), none] [] _ _
    refine R_ps 1 (pc2 := 13) (L2 := [some (vr (some a0)), some (vr (some a1)), none]) (st2 := [vi (J 1)]) rfl ?_
    exact R_iret rfl rfl (R_zr (x := 1) (K := K) (by decide) k)
/-- DroneCorridorsLaw.append -/
theorem z282 {T N : Nat → Nat} {h : PH} {a0 : Nat} {x1 : Int} {a2 : Nat} {K : Int → PH → Prop} (t0 : T a0 = 11) (t1 : T a2 = 24) (r1 : In x1) (k : (CALL T N 138 [vr (some a0), vi (J x1)] h (fun o_3 h_2 => (∃ x_4, o_3 = .inl (some (vi (J x_4))) ∧ In x_4 ∧ ((0 ≤ (0 : Int) ∧ (0 : Int) < (N a2 : Int) ∧ (0 : Int) < 2147483648) ∧ ∀ h_7, h_7 = sL h_2 a2 (Int.toNat 0) ((J x_4).toInt64) → K 0 h_7)) ∨ (o_3 = .inr 1 ∧ (K 1 h_2)) ∨ (o_3 = .inr 0 ∧ (K 2 h_2))))) : ZI T N 282 [vr (some a0), vi (J x1), vr (some a2)] h K := by
  show WP T N 282 0 [some (vr (some a0)), some (vi (J x1)), some (vr (some a2)), none] [] h _
  refine R_ps 4 (pc2 := 4) (L2 := [some (vr (some a0)), some (vi (J x1)), some (vr (some a2)), none]) (st2 := [vi (J x1), vr (some a0), vi (J 0), vr (some a2)]) rfl ?_
  refine R_cX (as := [vr (some a0), vi (J x1)]) rfl rfl ⟨Nat.le_of_ble_eq_true rfl, Nat.le_of_ble_eq_true rfl, rfl, (Or.inr ⟨_, rfl, t0⟩)⟩ rfl rfl k (fun o_3 h_2 k => ?_)
  rcases k with ⟨x_4, rfl, r_5, k⟩ | ⟨rfl, k⟩ | ⟨rfl, k⟩
  · show WP T N _ 7 _ _ _ _
    refine R_ps 1 (pc2 := 8) (L2 := [some (vr (some a0)), some (vi (J x1)), some (vr (some a2)), none]) (st2 := [vl ((J x_4).toInt64), vi (J 0), vr (some a2)]) rfl ?_
    obtain ⟨t_9, k⟩ := k
    refine R_zlast (i := 0) rfl t1 t_9  ?_
    show WP T N _ _ _ _ (sL h_2 a2 (Int.toNat 0) ((J x_4).toInt64)) _
    generalize e_8 : sL h_2 a2 (Int.toNat 0) ((J x_4).toInt64) = h_7
    replace k := k h_7 e_8.symm
    refine R_ps 2 (pc2 := 19) (L2 := [some (vr (some a0)), some (vi (J x1)), some (vr (some a2)), none]) (st2 := [vi (J 0)]) rfl ?_
    exact R_iret rfl rfl (R_zr (x := 0) (K := K) (by decide) k)
  · show WP T N _ 13 [some (vr (some a0)), some (vi (J x1)), some (vr (some a2)), none] [] _ _
    refine R_ps 1 (pc2 := 14) (L2 := [some (vr (some a0)), some (vi (J x1)), some (vr (some a2)), none]) (st2 := [vi (J 1)]) rfl ?_
    exact R_iret rfl rfl (R_zr (x := 1) (K := K) (by decide) k)
  · show WP T N _ 16 [some (vr (some a0)), some (vi (J x1)), some (vr (some a2)), none] [] _ _
    refine R_ps 1 (pc2 := 17) (L2 := [some (vr (some a0)), some (vi (J x1)), some (vr (some a2)), none]) (st2 := [vi (J 2)]) rfl ?_
    exact R_iret rfl rfl (R_zr (x := 2) (K := K) (by decide) k)
/-- DroneCorridorsLaw.read -/
theorem z283 {T N : Nat → Nat} {h : PH} {a0 : Nat} {a1 : Nat} {K : Int → PH → Prop} (t0 : T a0 = 11) (t1 : T a1 = 24) (k : (CALL T N 139 [vr (some a0)] h (fun o_3 h_2 => (∃ x_4, o_3 = .inl (some (vi (J x_4))) ∧ In x_4 ∧ ((0 ≤ (0 : Int) ∧ (0 : Int) < (N a1 : Int) ∧ (0 : Int) < 2147483648) ∧ ∀ h_7, h_7 = sL h_2 a1 (Int.toNat 0) ((J x_4).toInt64) → K 0 h_7)) ∨ (o_3 = .inr 1 ∧ (K 1 h_2)) ∨ (o_3 = .inr 0 ∧ (K 2 h_2))))) : ZI T N 283 [vr (some a0), vr (some a1)] h K := by
  show WP T N 283 0 [some (vr (some a0)), some (vr (some a1)), none] [] h _
  refine R_ps 3 (pc2 := 3) (L2 := [some (vr (some a0)), some (vr (some a1)), none]) (st2 := [vr (some a0), vi (J 0), vr (some a1)]) rfl ?_
  refine R_cX (as := [vr (some a0)]) rfl rfl ⟨Nat.le_of_ble_eq_true rfl, Nat.le_of_ble_eq_true rfl, rfl, (Or.inr ⟨_, rfl, t0⟩)⟩ rfl rfl k (fun o_3 h_2 k => ?_)
  rcases k with ⟨x_4, rfl, r_5, k⟩ | ⟨rfl, k⟩ | ⟨rfl, k⟩
  · show WP T N _ 6 _ _ _ _
    refine R_ps 1 (pc2 := 7) (L2 := [some (vr (some a0)), some (vr (some a1)), none]) (st2 := [vl ((J x_4).toInt64), vi (J 0), vr (some a1)]) rfl ?_
    obtain ⟨t_9, k⟩ := k
    refine R_zlast (i := 0) rfl t1 t_9  ?_
    show WP T N _ _ _ _ (sL h_2 a1 (Int.toNat 0) ((J x_4).toInt64)) _
    generalize e_8 : sL h_2 a1 (Int.toNat 0) ((J x_4).toInt64) = h_7
    replace k := k h_7 e_8.symm
    refine R_ps 2 (pc2 := 18) (L2 := [some (vr (some a0)), some (vr (some a1)), none]) (st2 := [vi (J 0)]) rfl ?_
    exact R_iret rfl rfl (R_zr (x := 0) (K := K) (by decide) k)
  · show WP T N _ 12 [some (vr (some a0)), some (vr (some a1)), none] [] _ _
    refine R_ps 1 (pc2 := 13) (L2 := [some (vr (some a0)), some (vr (some a1)), none]) (st2 := [vi (J 1)]) rfl ?_
    exact R_iret rfl rfl (R_zr (x := 1) (K := K) (by decide) k)
  · show WP T N _ 15 [some (vr (some a0)), some (vr (some a1)), none] [] _ _
    refine R_ps 1 (pc2 := 16) (L2 := [some (vr (some a0)), some (vr (some a1)), none]) (st2 := [vi (J 2)]) rfl ?_
    exact R_iret rfl rfl (R_zr (x := 2) (K := K) (by decide) k)
/-- DroneCorridorsLaw.errorPosition -/
theorem z284 {T N : Nat → Nat} {h : PH} {a0 : Nat} {a1 : Nat} {K : Int → PH → Prop} (t0 : T a0 = 11) (t1 : T a1 = 24) (k : (CALL T N 140 [vr (some a0)] h (fun o_3 h_2 => (∃ x_4, o_3 = .inl (some (vi (J x_4))) ∧ In x_4 ∧ ((0 ≤ (0 : Int) ∧ (0 : Int) < (N a1 : Int) ∧ (0 : Int) < 2147483648) ∧ ∀ h_7, h_7 = sL h_2 a1 (Int.toNat 0) ((J x_4).toInt64) → K 0 h_7)) ∨ (o_3 = .inr 5 ∧ (K 1 h_2))))) : ZI T N 284 [vr (some a0), vr (some a1)] h K := by
  show WP T N 284 0 [some (vr (some a0)), some (vr (some a1)), none] [] h _
  refine R_ps 3 (pc2 := 3) (L2 := [some (vr (some a0)), some (vr (some a1)), none]) (st2 := [vr (some a0), vi (J 0), vr (some a1)]) rfl ?_
  refine R_cX (as := [vr (some a0)]) rfl rfl ⟨Nat.le_of_ble_eq_true rfl, Nat.le_of_ble_eq_true rfl, rfl, (Or.inr ⟨_, rfl, t0⟩)⟩ rfl rfl k (fun o_3 h_2 k => ?_)
  rcases k with ⟨x_4, rfl, r_5, k⟩ | ⟨rfl, k⟩
  · show WP T N _ 6 _ _ _ _
    refine R_ps 1 (pc2 := 7) (L2 := [some (vr (some a0)), some (vr (some a1)), none]) (st2 := [vl ((J x_4).toInt64), vi (J 0), vr (some a1)]) rfl ?_
    obtain ⟨t_9, k⟩ := k
    refine R_zlast (i := 0) rfl t1 t_9  ?_
    show WP T N _ _ _ _ (sL h_2 a1 (Int.toNat 0) ((J x_4).toInt64)) _
    generalize e_8 : sL h_2 a1 (Int.toNat 0) ((J x_4).toInt64) = h_7
    replace k := k h_7 e_8.symm
    refine R_ps 2 (pc2 := 15) (L2 := [some (vr (some a0)), some (vr (some a1)), none]) (st2 := [vi (J 0)]) rfl ?_
    exact R_iret rfl rfl (R_zr (x := 0) (K := K) (by decide) k)
  · show WP T N _ 12 [some (vr (some a0)), some (vr (some a1)), none] [] _ _
    refine R_ps 1 (pc2 := 13) (L2 := [some (vr (some a0)), some (vr (some a1)), none]) (st2 := [vi (J 1)]) rfl ?_
    exact R_iret rfl rfl (R_zr (x := 1) (K := K) (by decide) k)
/-- DroneCorridorsLaw.describe -/
theorem z285 {T N : Nat → Nat} {h : PH} {a0 : Nat} {x1 : Int} {x2 : Int} {a3 : Nat} {K : Int → PH → Prop} (t0 : T a0 = 11) (t1 : T a3 = 24) (r1 : In x1) (r2 : In x2) (k : (CALL T N 141 [vr (some a0), vi (J x1), vi (J x2)] h (fun o_3 h_2 => (∃ x_4, o_3 = .inl (some (vi (J x_4))) ∧ In x_4 ∧ ((0 ≤ (0 : Int) ∧ (0 : Int) < (N a3 : Int) ∧ (0 : Int) < 2147483648) ∧ ∀ h_7, h_7 = sL h_2 a3 (Int.toNat 0) ((J x_4).toInt64) → K 0 h_7)) ∨ (o_3 = .inr 2 ∧ (K 1 h_2)) ∨ (o_3 = .inr 5 ∧ (K 2 h_2))))) : ZI T N 285 [vr (some a0), vi (J x1), vi (J x2), vr (some a3)] h K := by
  show WP T N 285 0 [some (vr (some a0)), some (vi (J x1)), some (vi (J x2)), some (vr (some a3)), none] [] h _
  refine R_ps 5 (pc2 := 5) (L2 := [some (vr (some a0)), some (vi (J x1)), some (vi (J x2)), some (vr (some a3)), none]) (st2 := [vi (J x2), vi (J x1), vr (some a0), vi (J 0), vr (some a3)]) rfl ?_
  refine R_cX (as := [vr (some a0), vi (J x1), vi (J x2)]) rfl rfl ⟨Nat.le_of_ble_eq_true rfl, Nat.le_of_ble_eq_true rfl, rfl, (Or.inr ⟨_, rfl, t0⟩)⟩ rfl rfl k (fun o_3 h_2 k => ?_)
  rcases k with ⟨x_4, rfl, r_5, k⟩ | ⟨rfl, k⟩ | ⟨rfl, k⟩
  · show WP T N _ 8 _ _ _ _
    refine R_ps 1 (pc2 := 9) (L2 := [some (vr (some a0)), some (vi (J x1)), some (vi (J x2)), some (vr (some a3)), none]) (st2 := [vl ((J x_4).toInt64), vi (J 0), vr (some a3)]) rfl ?_
    obtain ⟨t_9, k⟩ := k
    refine R_zlast (i := 0) rfl t1 t_9  ?_
    show WP T N _ _ _ _ (sL h_2 a3 (Int.toNat 0) ((J x_4).toInt64)) _
    generalize e_8 : sL h_2 a3 (Int.toNat 0) ((J x_4).toInt64) = h_7
    replace k := k h_7 e_8.symm
    refine R_ps 2 (pc2 := 22) (L2 := [some (vr (some a0)), some (vi (J x1)), some (vi (J x2)), some (vr (some a3)), none]) (st2 := [vi (J 0)]) rfl ?_
    exact R_iret rfl rfl (R_zr (x := 0) (K := K) (by decide) k)
  · show WP T N _ 15 [some (vr (some a0)), some (vi (J x1)), some (vi (J x2)), some (vr (some a3)), none] [] _ _
    refine R_ps 1 (pc2 := 16) (L2 := [some (vr (some a0)), some (vi (J x1)), some (vi (J x2)), some (vr (some a3)), none]) (st2 := [vi (J 1)]) rfl ?_
    exact R_iret rfl rfl (R_zr (x := 1) (K := K) (by decide) k)
  · show WP T N _ 19 [some (vr (some a0)), some (vi (J x1)), some (vi (J x2)), some (vr (some a3)), none] [] _ _
    refine R_ps 1 (pc2 := 20) (L2 := [some (vr (some a0)), some (vi (J x1)), some (vi (J x2)), some (vr (some a3)), none]) (st2 := [vi (J 2)]) rfl ?_
    exact R_iret rfl rfl (R_zr (x := 2) (K := K) (by decide) k)
/-- DroneCorridorsLaw.undo -/
theorem z286 {T N : Nat → Nat} {h : PH} {a0 : Nat} {a1 : Nat} {K : Int → PH → Prop} (t0 : T a0 = 11) (t1 : T a1 = 24) (k : (CALL T N 142 [vr (some a0)] h (fun o_3 h_2 => (∃ x_4, o_3 = .inl (some (vi (J x_4))) ∧ In x_4 ∧ ((0 ≤ (0 : Int) ∧ (0 : Int) < (N a1 : Int) ∧ (0 : Int) < 2147483648) ∧ ∀ h_7, h_7 = sL h_2 a1 (Int.toNat 0) ((J x_4).toInt64) → K 0 h_7)) ∨ (o_3 = .inr 5 ∧ (K 1 h_2))))) : ZI T N 286 [vr (some a0), vr (some a1)] h K := by
  show WP T N 286 0 [some (vr (some a0)), some (vr (some a1)), none] [] h _
  refine R_ps 3 (pc2 := 3) (L2 := [some (vr (some a0)), some (vr (some a1)), none]) (st2 := [vr (some a0), vi (J 0), vr (some a1)]) rfl ?_
  refine R_cX (as := [vr (some a0)]) rfl rfl ⟨Nat.le_of_ble_eq_true rfl, Nat.le_of_ble_eq_true rfl, rfl, (Or.inr ⟨_, rfl, t0⟩)⟩ rfl rfl k (fun o_3 h_2 k => ?_)
  rcases k with ⟨x_4, rfl, r_5, k⟩ | ⟨rfl, k⟩
  · show WP T N _ 6 _ _ _ _
    refine R_ps 1 (pc2 := 7) (L2 := [some (vr (some a0)), some (vr (some a1)), none]) (st2 := [vl ((J x_4).toInt64), vi (J 0), vr (some a1)]) rfl ?_
    obtain ⟨t_9, k⟩ := k
    refine R_zlast (i := 0) rfl t1 t_9  ?_
    show WP T N _ _ _ _ (sL h_2 a1 (Int.toNat 0) ((J x_4).toInt64)) _
    generalize e_8 : sL h_2 a1 (Int.toNat 0) ((J x_4).toInt64) = h_7
    replace k := k h_7 e_8.symm
    refine R_ps 2 (pc2 := 15) (L2 := [some (vr (some a0)), some (vr (some a1)), none]) (st2 := [vi (J 0)]) rfl ?_
    exact R_iret rfl rfl (R_zr (x := 0) (K := K) (by decide) k)
  · show WP T N _ 12 [some (vr (some a0)), some (vr (some a1)), none] [] _ _
    refine R_ps 1 (pc2 := 13) (L2 := [some (vr (some a0)), some (vr (some a1)), none]) (st2 := [vi (J 1)]) rfl ?_
    exact R_iret rfl rfl (R_zr (x := 1) (K := K) (by decide) k)
/-- DroneCorridorsLaw.restore -/
theorem z287 {T N : Nat → Nat} {h : PH} {a0 : Nat} {a1 : Nat} {K : Int → PH → Prop} (t0 : T a0 = 11) (t1 : T a1 = 24) (k : (CALL T N 144 [vr (some a0)] h (fun o_3 h_2 => (∃ x_4, o_3 = .inl (some (vi (J x_4))) ∧ In x_4 ∧ ((0 ≤ (0 : Int) ∧ (0 : Int) < (N a1 : Int) ∧ (0 : Int) < 2147483648) ∧ ∀ h_7, h_7 = sL h_2 a1 (Int.toNat 0) ((J x_4).toInt64) → K 0 h_7)) ∨ (o_3 = .inr 0 ∧ (K 1 h_2))))) : ZI T N 287 [vr (some a0), vr (some a1)] h K := by
  show WP T N 287 0 [some (vr (some a0)), some (vr (some a1)), none] [] h _
  refine R_ps 3 (pc2 := 3) (L2 := [some (vr (some a0)), some (vr (some a1)), none]) (st2 := [vr (some a0), vi (J 0), vr (some a1)]) rfl ?_
  refine R_cX (as := [vr (some a0)]) rfl rfl ⟨Nat.le_of_ble_eq_true rfl, Nat.le_of_ble_eq_true rfl, rfl, (Or.inr ⟨_, rfl, t0⟩)⟩ rfl rfl k (fun o_3 h_2 k => ?_)
  rcases k with ⟨x_4, rfl, r_5, k⟩ | ⟨rfl, k⟩
  · show WP T N _ 6 _ _ _ _
    refine R_ps 1 (pc2 := 7) (L2 := [some (vr (some a0)), some (vr (some a1)), none]) (st2 := [vl ((J x_4).toInt64), vi (J 0), vr (some a1)]) rfl ?_
    obtain ⟨t_9, k⟩ := k
    refine R_zlast (i := 0) rfl t1 t_9  ?_
    show WP T N _ _ _ _ (sL h_2 a1 (Int.toNat 0) ((J x_4).toInt64)) _
    generalize e_8 : sL h_2 a1 (Int.toNat 0) ((J x_4).toInt64) = h_7
    replace k := k h_7 e_8.symm
    refine R_ps 2 (pc2 := 15) (L2 := [some (vr (some a0)), some (vr (some a1)), none]) (st2 := [vi (J 0)]) rfl ?_
    exact R_iret rfl rfl (R_zr (x := 0) (K := K) (by decide) k)
  · show WP T N _ 12 [some (vr (some a0)), some (vr (some a1)), none] [] _ _
    refine R_ps 1 (pc2 := 13) (L2 := [some (vr (some a0)), some (vr (some a1)), none]) (st2 := [vi (J 1)]) rfl ?_
    exact R_iret rfl rfl (R_zr (x := 1) (K := K) (by decide) k)
/-- DroneCorridorsLaw.law -/
theorem z288 {T N : Nat → Nat} {h : PH} {a0 : Nat} {K : Int → PH → Prop} (k : (T (nx h) = 11 ∧ ∀ a_2 h_3, a_2 = nx h → h_3 = grow h 10 → CV T N 104 [vr (some a_2)] h_3 (fun h_8 => (T (nx h_8) = 12 ∧ ∀ a_11 h_12, a_11 = nx h_8 → h_12 = grow h_8 30 → CV T N 155 [vr (some a_11)] h_12 (fun h_17 => ((T (nx h_17) = 24 ∧ 1 = (N (nx h_17) : Int) ∧ N (nx h_17) ≤ 65536) ∧ ∀ a_20 h_21, a_20 = nx h_17 → h_21 = grow h_17 (N (nx h_17)) → (T (nx h_21) = 25 ∧ 1 = (N (nx h_21) : Int) ∧ N (nx h_21) ≤ 65536) ∧ ∀ a_26 h_27, a_26 = nx h_21 → h_27 = grow h_21 (N (nx h_21)) → ZW T N 288 28 [some (vr (some a0)), some (vr (some a_2)), some (vr (some a_11)), some (vr (some a_20)), some (vr (some a_26)), some (vi (J 0)), none, none, none] [] h_27 K)))))) : ZI T N 288 [vr (some a0)] h K := by
  show WP T N 288 0 [some (vr (some a0)), none, none, none, none, none, none, none, none] [] h _
  obtain ⟨t_6, k⟩ := k
  refine R_new rfl ⟨by decide, t_6⟩ ?_
  show WP T N _ _ _ _ (grow h 10) _
  generalize e_4 : nx h = a_2
  generalize e_5 : grow h 10 = h_3
  replace k := k a_2 h_3 e_4.symm e_5.symm
  refine R_ps 1 (pc2 := 4) (L2 := [some (vr (some a0)), none, none, none, none, none, none, none, none]) (st2 := [vr (some a_2), vr (some a_2)]) rfl ?_
  refine R_cV (as := [vr (some a_2)]) rfl rfl ⟨Nat.le_of_ble_eq_true rfl, Nat.le_of_ble_eq_true rfl, rfl, (Or.inr ⟨_, rfl, (e_4 ▸ t_6)⟩)⟩ rfl rfl k (fun h_8 k => ?_)
  refine R_ps 1 (pc2 := 8) (L2 := [some (vr (some a0)), some (vr (some a_2)), none, none, none, none, none, none, none]) (st2 := []) rfl ?_
  obtain ⟨t_15, k⟩ := k
  refine R_new rfl ⟨by decide, t_15⟩ ?_
  show WP T N _ _ _ _ (grow h_8 30) _
  generalize e_13 : nx h_8 = a_11
  generalize e_14 : grow h_8 30 = h_12
  replace k := k a_11 h_12 e_13.symm e_14.symm
  refine R_ps 1 (pc2 := 12) (L2 := [some (vr (some a0)), some (vr (some a_2)), none, none, none, none, none, none, none]) (st2 := [vr (some a_11), vr (some a_11)]) rfl ?_
  refine R_cV (as := [vr (some a_11)]) rfl rfl ⟨Nat.le_of_ble_eq_true rfl, Nat.le_of_ble_eq_true rfl, rfl, (Or.inr ⟨_, rfl, (e_13 ▸ t_15)⟩)⟩ rfl rfl k (fun h_17 k => ?_)
  refine R_ps 2 (pc2 := 17) (L2 := [some (vr (some a0)), some (vr (some a_2)), some (vr (some a_11)), none, none, none, none, none, none]) (st2 := [vi (J 1)]) rfl ?_
  obtain ⟨t_24, k⟩ := k
  refine R_znewa (n := 1) rfl t_24 ?_
  generalize e_23 : grow h_17 (N (nx h_17)) = h_21
  generalize e_22 : nx h_17 = a_20
  replace k := k a_20 h_21 e_22.symm e_23.symm
  refine R_ps 2 (pc2 := 21) (L2 := [some (vr (some a0)), some (vr (some a_2)), some (vr (some a_11)), some (vr (some a_20)), none, none, none, none, none]) (st2 := [vi (J 1)]) rfl ?_
  obtain ⟨t_30, k⟩ := k
  refine R_znewa (n := 1) rfl t_30 ?_
  generalize e_29 : grow h_21 (N (nx h_21)) = h_27
  generalize e_28 : nx h_21 = a_26
  replace k := k a_26 h_27 e_28.symm e_29.symm
  refine R_ps 3 (pc2 := 28) (L2 := [some (vr (some a0)), some (vr (some a_2)), some (vr (some a_11)), some (vr (some a_20)), some (vr (some a_26)), some (vi (J 0)), none, none, none]) (st2 := []) rfl ?_
  exact k
theorem z288_28 {T N : Nat → Nat} {h : PH} {a0 : Nat} {a1 : Nat} {a2 : Nat} {a3 : Nat} {a4 : Nat} {x5 : Int} {K : Int → PH → Prop} (t0 : 21 ≤ T a0) (t1 : T a0 = 21) (t2 : T a1 = 11) (t3 : T a2 = 12) (t4 : T a3 = 24) (t5 : T a4 = 25) (r5 : In x5) (k : (In ((N a0 : Int) - 5) ∧ ((((N a0 : Int) - 5) < x5 → (K 1 h)) ∧ (¬ (((N a0 : Int) - 5) < x5) → ((0 ≤ x5 ∧ x5 < (N a0 : Int) ∧ x5 < 2147483648) ∧ (((zand (ai h a0 x5) 63) = 0 → (ZI T N 105 [vr (some a1)] h (fun x_10 h_9 => (ZI T N 170 [vr (some a2)] h_9 (fun x_14 h_13 => (((x_10 = x_14 → (ZW T N 288 28 [some (vr (some a0)), some (vr (some a1)), some (vr (some a2)), some (vr (some a3)), some (vr (some a4)), some (vi (J (x5 + 5))), none, none, none] [] h_13 K)) ∧ (¬ (x_10 = x_14) → (K 0 h_13))))))))) ∧ (¬ ((zand (ai h a0 x5) 63) = 0) → (((zand (ai h a0 x5) 63) = 1 → ((0 ≤ (x5 + 1) ∧ (x5 + 1) < (N a0 : Int) ∧ (x5 + 1) < 2147483648) ∧ (((ai h a0 (x5 + 1)) = 0 → (ZI T N 255 [vr (some a1), vi (J 0), vr (some a3)] h (fun x_23 h_22 => ((((ai h_22 a0 (x5 + 1)) = 0 → (ZI T N 172 [vr (some a2), vi (J 0)] h_22 (fun x_29 h_28 => (ZI T N 156 [vr (some a2)] h_28 (fun x_33 h_32 => (((x_33 = x_23 → (((x_23 = 0 → ((0 ≤ (0 : Int) ∧ (0 : Int) < (N a3 : Int) ∧ (0 : Int) < 2147483648) ∧ (((zlc (gl h_32 a3 (Int.toNat 0)) ((J x_29).toInt64)) = 0 → (ZW T N 288 28 [some (vr (some a0)), some (vr (some a1)), some (vr (some a2)), some (vr (some a3)), some (vr (some a4)), some (vi (J (x5 + 5))), none, none, none] [] h_32 K)) ∧ (¬ ((zlc (gl h_32 a3 (Int.toNat 0)) ((J x_29).toInt64)) = 0) → (K 0 h_32))))) ∧ (¬ (x_23 = 0) → (ZW T N 288 28 [some (vr (some a0)), some (vr (some a1)), some (vr (some a2)), some (vr (some a3)), some (vr (some a4)), some (vi (J (x5 + 5))), none, none, none] [] h_32 K))))) ∧ (¬ (x_33 = x_23) → (K 0 h_32))))))))) ∧ (¬ ((ai h_22 a0 (x5 + 1)) = 0) → (ZI T N 172 [vr (some a2), vi (J 1)] h_22 (fun x_44 h_43 => (ZI T N 156 [vr (some a2)] h_43 (fun x_48 h_47 => (((x_48 = x_23 → (((x_23 = 0 → ((0 ≤ (0 : Int) ∧ (0 : Int) < (N a3 : Int) ∧ (0 : Int) < 2147483648) ∧ (((zlc (gl h_47 a3 (Int.toNat 0)) ((J x_44).toInt64)) = 0 → (ZW T N 288 28 [some (vr (some a0)), some (vr (some a1)), some (vr (some a2)), some (vr (some a3)), some (vr (some a4)), some (vi (J (x5 + 5))), none, none, none] [] h_47 K)) ∧ (¬ ((zlc (gl h_47 a3 (Int.toNat 0)) ((J x_44).toInt64)) = 0) → (K 0 h_47))))) ∧ (¬ (x_23 = 0) → (ZW T N 288 28 [some (vr (some a0)), some (vr (some a1)), some (vr (some a2)), some (vr (some a3)), some (vr (some a4)), some (vi (J (x5 + 5))), none, none, none] [] h_47 K))))) ∧ (¬ (x_48 = x_23) → (K 0 h_47)))))))))))))) ∧ (¬ ((ai h a0 (x5 + 1)) = 0) → (ZI T N 255 [vr (some a1), vi (J 1), vr (some a3)] h (fun x_59 h_58 => ((((ai h_58 a0 (x5 + 1)) = 0 → (ZI T N 172 [vr (some a2), vi (J 0)] h_58 (fun x_65 h_64 => (ZI T N 156 [vr (some a2)] h_64 (fun x_69 h_68 => (((x_69 = x_59 → (((x_59 = 0 → ((0 ≤ (0 : Int) ∧ (0 : Int) < (N a3 : Int) ∧ (0 : Int) < 2147483648) ∧ (((zlc (gl h_68 a3 (Int.toNat 0)) ((J x_65).toInt64)) = 0 → (ZW T N 288 28 [some (vr (some a0)), some (vr (some a1)), some (vr (some a2)), some (vr (some a3)), some (vr (some a4)), some (vi (J (x5 + 5))), none, none, none] [] h_68 K)) ∧ (¬ ((zlc (gl h_68 a3 (Int.toNat 0)) ((J x_65).toInt64)) = 0) → (K 0 h_68))))) ∧ (¬ (x_59 = 0) → (ZW T N 288 28 [some (vr (some a0)), some (vr (some a1)), some (vr (some a2)), some (vr (some a3)), some (vr (some a4)), some (vi (J (x5 + 5))), none, none, none] [] h_68 K))))) ∧ (¬ (x_69 = x_59) → (K 0 h_68))))))))) ∧ (¬ ((ai h_58 a0 (x5 + 1)) = 0) → (ZI T N 172 [vr (some a2), vi (J 1)] h_58 (fun x_80 h_79 => (ZI T N 156 [vr (some a2)] h_79 (fun x_84 h_83 => (((x_84 = x_59 → (((x_59 = 0 → ((0 ≤ (0 : Int) ∧ (0 : Int) < (N a3 : Int) ∧ (0 : Int) < 2147483648) ∧ (((zlc (gl h_83 a3 (Int.toNat 0)) ((J x_80).toInt64)) = 0 → (ZW T N 288 28 [some (vr (some a0)), some (vr (some a1)), some (vr (some a2)), some (vr (some a3)), some (vr (some a4)), some (vi (J (x5 + 5))), none, none, none] [] h_83 K)) ∧ (¬ ((zlc (gl h_83 a3 (Int.toNat 0)) ((J x_80).toInt64)) = 0) → (K 0 h_83))))) ∧ (¬ (x_59 = 0) → (ZW T N 288 28 [some (vr (some a0)), some (vr (some a1)), some (vr (some a2)), some (vr (some a3)), some (vr (some a4)), some (vi (J (x5 + 5))), none, none, none] [] h_83 K))))) ∧ (¬ (x_84 = x_59) → (K 0 h_83))))))))))))))))) ∧ (¬ ((zand (ai h a0 x5) 63) = 1) → (((zand (ai h a0 x5) 63) = 2 → ((0 ≤ (x5 + 1) ∧ (x5 + 1) < (N a0 : Int) ∧ (x5 + 1) < 2147483648) ∧ (0 ≤ (x5 + 2) ∧ (x5 + 2) < (N a0 : Int) ∧ (x5 + 2) < 2147483648) ∧ (0 ≤ (x5 + 3) ∧ (x5 + 3) < (N a0 : Int) ∧ (x5 + 3) < 2147483648) ∧ (0 ≤ (x5 + 4) ∧ (x5 + 4) < (N a0 : Int) ∧ (x5 + 4) < 2147483648) ∧ ZI T N 256 [vr (some a1), vi (J (ai h a0 (x5 + 1))), vi (J (ai h a0 (x5 + 2))), vi (J (ai h a0 (x5 + 3))), vi (J (ai h a0 (x5 + 4))), vr (some a3)] h (fun x_103 h_102 => (ZI T N 175 [vr (some a2), vi (J (ai h_102 a0 (x5 + 1))), vi (J (ai h_102 a0 (x5 + 2))), vi (J (ai h_102 a0 (x5 + 3))), vi (J (ai h_102 a0 (x5 + 4)))] h_102 (fun x_111 h_110 => (ZI T N 156 [vr (some a2)] h_110 (fun x_115 h_114 => (((x_115 = x_103 → (((x_103 = 0 → ((0 ≤ (0 : Int) ∧ (0 : Int) < (N a3 : Int) ∧ (0 : Int) < 2147483648) ∧ (((zlc (gl h_114 a3 (Int.toNat 0)) ((J x_111).toInt64)) = 0 → (ZW T N 288 28 [some (vr (some a0)), some (vr (some a1)), some (vr (some a2)), some (vr (some a3)), some (vr (some a4)), some (vi (J (x5 + 5))), none, none, none] [] h_114 K)) ∧ (¬ ((zlc (gl h_114 a3 (Int.toNat 0)) ((J x_111).toInt64)) = 0) → (K 0 h_114))))) ∧ (¬ (x_103 = 0) → (ZW T N 288 28 [some (vr (some a0)), some (vr (some a1)), some (vr (some a2)), some (vr (some a3)), some (vr (some a4)), some (vi (J (x5 + 5))), none, none, none] [] h_114 K))))) ∧ (¬ (x_115 = x_103) → (K 0 h_114))))))))))) ∧ (¬ ((zand (ai h a0 x5) 63) = 2) → (((zand (ai h a0 x5) 63) = 3 → ((0 ≤ (x5 + 1) ∧ (x5 + 1) < (N a0 : Int) ∧ (x5 + 1) < 2147483648) ∧ (0 ≤ (x5 + 2) ∧ (x5 + 2) < (N a0 : Int) ∧ (x5 + 2) < 2147483648) ∧ ZI T N 257 [vr (some a1), vi (J (ai h a0 (x5 + 1))), vi (J (ai h a0 (x5 + 2))), vr (some a3)] h (fun x_130 h_129 => (ZI T N 176 [vr (some a2), vi (J (ai h_129 a0 (x5 + 1))), vi (J (ai h_129 a0 (x5 + 2)))] h_129 (fun x_136 h_135 => (ZI T N 156 [vr (some a2)] h_135 (fun x_140 h_139 => (((x_140 = x_130 → (((x_130 = 0 → ((0 ≤ (0 : Int) ∧ (0 : Int) < (N a3 : Int) ∧ (0 : Int) < 2147483648) ∧ (((zlc (gl h_139 a3 (Int.toNat 0)) ((J x_136).toInt64)) = 0 → (ZW T N 288 28 [some (vr (some a0)), some (vr (some a1)), some (vr (some a2)), some (vr (some a3)), some (vr (some a4)), some (vi (J (x5 + 5))), none, none, none] [] h_139 K)) ∧ (¬ ((zlc (gl h_139 a3 (Int.toNat 0)) ((J x_136).toInt64)) = 0) → (K 0 h_139))))) ∧ (¬ (x_130 = 0) → (ZW T N 288 28 [some (vr (some a0)), some (vr (some a1)), some (vr (some a2)), some (vr (some a3)), some (vr (some a4)), some (vi (J (x5 + 5))), none, none, none] [] h_139 K))))) ∧ (¬ (x_140 = x_130) → (K 0 h_139))))))))))) ∧ (¬ ((zand (ai h a0 x5) 63) = 3) → (((zand (ai h a0 x5) 63) = 4 → ((0 ≤ (x5 + 1) ∧ (x5 + 1) < (N a0 : Int) ∧ (x5 + 1) < 2147483648) ∧ (0 ≤ (x5 + 2) ∧ (x5 + 2) < (N a0 : Int) ∧ (x5 + 2) < 2147483648) ∧ (0 ≤ (x5 + 3) ∧ (x5 + 3) < (N a0 : Int) ∧ (x5 + 3) < 2147483648) ∧ (0 ≤ (x5 + 4) ∧ (x5 + 4) < (N a0 : Int) ∧ (x5 + 4) < 2147483648) ∧ ZI T N 258 [vr (some a1), vi (J (ai h a0 (x5 + 1))), vi (J (ai h a0 (x5 + 2))), vi (J (ai h a0 (x5 + 3))), vi (J (ai h a0 (x5 + 4))), vr (some a3)] h (fun x_159 h_158 => (ZI T N 177 [vr (some a2), vi (J (ai h_158 a0 (x5 + 1))), vi (J (ai h_158 a0 (x5 + 2))), vi (J (ai h_158 a0 (x5 + 3))), vi (J (ai h_158 a0 (x5 + 4)))] h_158 (fun x_167 h_166 => (ZI T N 156 [vr (some a2)] h_166 (fun x_171 h_170 => (((x_171 = x_159 → (((x_159 = 0 → ((0 ≤ (0 : Int) ∧ (0 : Int) < (N a3 : Int) ∧ (0 : Int) < 2147483648) ∧ (((zlc (gl h_170 a3 (Int.toNat 0)) ((J x_167).toInt64)) = 0 → (ZW T N 288 28 [some (vr (some a0)), some (vr (some a1)), some (vr (some a2)), some (vr (some a3)), some (vr (some a4)), some (vi (J (x5 + 5))), none, none, none] [] h_170 K)) ∧ (¬ ((zlc (gl h_170 a3 (Int.toNat 0)) ((J x_167).toInt64)) = 0) → (K 0 h_170))))) ∧ (¬ (x_159 = 0) → (ZW T N 288 28 [some (vr (some a0)), some (vr (some a1)), some (vr (some a2)), some (vr (some a3)), some (vr (some a4)), some (vi (J (x5 + 5))), none, none, none] [] h_170 K))))) ∧ (¬ (x_171 = x_159) → (K 0 h_170))))))))))) ∧ (¬ ((zand (ai h a0 x5) 63) = 4) → (((zand (ai h a0 x5) 63) = 5 → ((0 ≤ (x5 + 1) ∧ (x5 + 1) < (N a0 : Int) ∧ (x5 + 1) < 2147483648) ∧ ZI T N 259 [vr (some a1), vi (J (ai h a0 (x5 + 1))), vr (some a3)] h (fun x_184 h_183 => (ZI T N 178 [vr (some a2), vi (J (ai h_183 a0 (x5 + 1)))] h_183 (fun x_189 h_188 => (ZI T N 156 [vr (some a2)] h_188 (fun x_193 h_192 => (((x_193 = x_184 → (((x_184 = 0 → ((0 ≤ (0 : Int) ∧ (0 : Int) < (N a3 : Int) ∧ (0 : Int) < 2147483648) ∧ (((zlc (gl h_192 a3 (Int.toNat 0)) ((J x_189).toInt64)) = 0 → (ZW T N 288 28 [some (vr (some a0)), some (vr (some a1)), some (vr (some a2)), some (vr (some a3)), some (vr (some a4)), some (vi (J (x5 + 5))), none, none, none] [] h_192 K)) ∧ (¬ ((zlc (gl h_192 a3 (Int.toNat 0)) ((J x_189).toInt64)) = 0) → (K 0 h_192))))) ∧ (¬ (x_184 = 0) → (ZW T N 288 28 [some (vr (some a0)), some (vr (some a1)), some (vr (some a2)), some (vr (some a3)), some (vr (some a4)), some (vi (J (x5 + 5))), none, none, none] [] h_192 K))))) ∧ (¬ (x_193 = x_184) → (K 0 h_192))))))))))) ∧ (¬ ((zand (ai h a0 x5) 63) = 5) → (((zand (ai h a0 x5) 63) = 6 → ((0 ≤ (x5 + 1) ∧ (x5 + 1) < (N a0 : Int) ∧ (x5 + 1) < 2147483648) ∧ (0 ≤ (x5 + 2) ∧ (x5 + 2) < (N a0 : Int) ∧ (x5 + 2) < 2147483648) ∧ ZI T N 260 [vr (some a1), vi (J (ai h a0 (x5 + 1))), vi (J (ai h a0 (x5 + 2))), vr (some a3)] h (fun x_208 h_207 => (ZI T N 179 [vr (some a2), vi (J (ai h_207 a0 (x5 + 1))), vi (J (ai h_207 a0 (x5 + 2)))] h_207 (fun x_214 h_213 => (ZI T N 156 [vr (some a2)] h_213 (fun x_218 h_217 => (((x_218 = x_208 → (((x_208 = 0 → ((0 ≤ (0 : Int) ∧ (0 : Int) < (N a3 : Int) ∧ (0 : Int) < 2147483648) ∧ (((zlc (gl h_217 a3 (Int.toNat 0)) ((J x_214).toInt64)) = 0 → (ZW T N 288 28 [some (vr (some a0)), some (vr (some a1)), some (vr (some a2)), some (vr (some a3)), some (vr (some a4)), some (vi (J (x5 + 5))), none, none, none] [] h_217 K)) ∧ (¬ ((zlc (gl h_217 a3 (Int.toNat 0)) ((J x_214).toInt64)) = 0) → (K 0 h_217))))) ∧ (¬ (x_208 = 0) → (ZW T N 288 28 [some (vr (some a0)), some (vr (some a1)), some (vr (some a2)), some (vr (some a3)), some (vr (some a4)), some (vi (J (x5 + 5))), none, none, none] [] h_217 K))))) ∧ (¬ (x_218 = x_208) → (K 0 h_217))))))))))) ∧ (¬ ((zand (ai h a0 x5) 63) = 6) → (((zand (ai h a0 x5) 63) = 7 → ((0 ≤ (x5 + 1) ∧ (x5 + 1) < (N a0 : Int) ∧ (x5 + 1) < 2147483648) ∧ (0 ≤ (x5 + 2) ∧ (x5 + 2) < (N a0 : Int) ∧ (x5 + 2) < 2147483648) ∧ ZI T N 261 [vr (some a1), vi (J (ai h a0 (x5 + 1))), vi (J (ai h a0 (x5 + 2))), vr (some a3)] h (fun x_233 h_232 => (ZI T N 180 [vr (some a2), vi (J (ai h_232 a0 (x5 + 1))), vi (J (ai h_232 a0 (x5 + 2)))] h_232 (fun x_239 h_238 => (ZI T N 156 [vr (some a2)] h_238 (fun x_243 h_242 => (((x_243 = x_233 → (((x_233 = 0 → ((0 ≤ (0 : Int) ∧ (0 : Int) < (N a3 : Int) ∧ (0 : Int) < 2147483648) ∧ (((zlc (gl h_242 a3 (Int.toNat 0)) ((J x_239).toInt64)) = 0 → (ZW T N 288 28 [some (vr (some a0)), some (vr (some a1)), some (vr (some a2)), some (vr (some a3)), some (vr (some a4)), some (vi (J (x5 + 5))), none, none, none] [] h_242 K)) ∧ (¬ ((zlc (gl h_242 a3 (Int.toNat 0)) ((J x_239).toInt64)) = 0) → (K 0 h_242))))) ∧ (¬ (x_233 = 0) → (ZW T N 288 28 [some (vr (some a0)), some (vr (some a1)), some (vr (some a2)), some (vr (some a3)), some (vr (some a4)), some (vi (J (x5 + 5))), none, none, none] [] h_242 K))))) ∧ (¬ (x_243 = x_233) → (K 0 h_242))))))))))) ∧ (¬ ((zand (ai h a0 x5) 63) = 7) → (((zand (ai h a0 x5) 63) = 8 → ((0 ≤ (x5 + 1) ∧ (x5 + 1) < (N a0 : Int) ∧ (x5 + 1) < 2147483648) ∧ ZI T N 262 [vr (some a1), vi (J (ai h a0 (x5 + 1))), vr (some a3)] h (fun x_256 h_255 => (ZI T N 181 [vr (some a2), vi (J (ai h_255 a0 (x5 + 1)))] h_255 (fun x_261 h_260 => (ZI T N 156 [vr (some a2)] h_260 (fun x_265 h_264 => (((x_265 = x_256 → (((x_256 = 0 → ((0 ≤ (0 : Int) ∧ (0 : Int) < (N a3 : Int) ∧ (0 : Int) < 2147483648) ∧ ((x_261 = 0 → ((((zlc (gl h_264 a3 (Int.toNat 0)) 0) = 0 → (ZW T N 288 28 [some (vr (some a0)), some (vr (some a1)), some (vr (some a2)), some (vr (some a3)), some (vr (some a4)), some (vi (J (x5 + 5))), none, none, none] [] h_264 K)) ∧ (¬ ((zlc (gl h_264 a3 (Int.toNat 0)) 0) = 0) → (K 0 h_264))))) ∧ (¬ (x_261 = 0) → ((((zlc (gl h_264 a3 (Int.toNat 0)) 1) = 0 → (ZW T N 288 28 [some (vr (some a0)), some (vr (some a1)), some (vr (some a2)), some (vr (some a3)), some (vr (some a4)), some (vi (J (x5 + 5))), none, none, none] [] h_264 K)) ∧ (¬ ((zlc (gl h_264 a3 (Int.toNat 0)) 1) = 0) → (K 0 h_264)))))))) ∧ (¬ (x_256 = 0) → (ZW T N 288 28 [some (vr (some a0)), some (vr (some a1)), some (vr (some a2)), some (vr (some a3)), some (vr (some a4)), some (vi (J (x5 + 5))), none, none, none] [] h_264 K))))) ∧ (¬ (x_265 = x_256) → (K 0 h_264))))))))))) ∧ (¬ ((zand (ai h a0 x5) 63) = 8) → (((zand (ai h a0 x5) 63) = 9 → ((0 ≤ (x5 + 1) ∧ (x5 + 1) < (N a0 : Int) ∧ (x5 + 1) < 2147483648) ∧ ZI T N 263 [vr (some a1), vi (J (ai h a0 (x5 + 1))), vr (some a3)] h (fun x_281 h_280 => (ZI T N 183 [vr (some a2), vi (J (ai h_280 a0 (x5 + 1)))] h_280 (fun x_286 h_285 => (ZI T N 156 [vr (some a2)] h_285 (fun x_290 h_289 => (((x_290 = x_281 → (((x_281 = 0 → ((0 ≤ (0 : Int) ∧ (0 : Int) < (N a3 : Int) ∧ (0 : Int) < 2147483648) ∧ (((zlc (gl h_289 a3 (Int.toNat 0)) ((J x_286).toInt64)) = 0 → (ZW T N 288 28 [some (vr (some a0)), some (vr (some a1)), some (vr (some a2)), some (vr (some a3)), some (vr (some a4)), some (vi (J (x5 + 5))), none, none, none] [] h_289 K)) ∧ (¬ ((zlc (gl h_289 a3 (Int.toNat 0)) ((J x_286).toInt64)) = 0) → (K 0 h_289))))) ∧ (¬ (x_281 = 0) → (ZW T N 288 28 [some (vr (some a0)), some (vr (some a1)), some (vr (some a2)), some (vr (some a3)), some (vr (some a4)), some (vi (J (x5 + 5))), none, none, none] [] h_289 K))))) ∧ (¬ (x_290 = x_281) → (K 0 h_289))))))))))) ∧ (¬ ((zand (ai h a0 x5) 63) = 9) → (((zand (ai h a0 x5) 63) = 10 → ((0 ≤ (x5 + 1) ∧ (x5 + 1) < (N a0 : Int) ∧ (x5 + 1) < 2147483648) ∧ (0 ≤ (x5 + 2) ∧ (x5 + 2) < (N a0 : Int) ∧ (x5 + 2) < 2147483648) ∧ ZI T N 264 [vr (some a1), vi (J (ai h a0 (x5 + 1))), vi (J (ai h a0 (x5 + 2))), vr (some a3)] h (fun x_305 h_304 => (ZI T N 184 [vr (some a2), vi (J (ai h_304 a0 (x5 + 1))), vi (J (ai h_304 a0 (x5 + 2)))] h_304 (fun x_311 h_310 => (ZI T N 156 [vr (some a2)] h_310 (fun x_315 h_314 => (((x_315 = x_305 → (((x_305 = 0 → ((0 ≤ (0 : Int) ∧ (0 : Int) < (N a3 : Int) ∧ (0 : Int) < 2147483648) ∧ (((zlc (gl h_314 a3 (Int.toNat 0)) ((J x_311).toInt64)) = 0 → (ZW T N 288 28 [some (vr (some a0)), some (vr (some a1)), some (vr (some a2)), some (vr (some a3)), some (vr (some a4)), some (vi (J (x5 + 5))), none, none, none] [] h_314 K)) ∧ (¬ ((zlc (gl h_314 a3 (Int.toNat 0)) ((J x_311).toInt64)) = 0) → (K 0 h_314))))) ∧ (¬ (x_305 = 0) → (ZW T N 288 28 [some (vr (some a0)), some (vr (some a1)), some (vr (some a2)), some (vr (some a3)), some (vr (some a4)), some (vi (J (x5 + 5))), none, none, none] [] h_314 K))))) ∧ (¬ (x_315 = x_305) → (K 0 h_314))))))))))) ∧ (¬ ((zand (ai h a0 x5) 63) = 10) → (((zand (ai h a0 x5) 63) = 11 → ((0 ≤ (x5 + 1) ∧ (x5 + 1) < (N a0 : Int) ∧ (x5 + 1) < 2147483648) ∧ ZI T N 265 [vr (some a1), vi (J (ai h a0 (x5 + 1))), vr (some a3)] h (fun x_328 h_327 => (ZI T N 185 [vr (some a2), vi (J (ai h_327 a0 (x5 + 1)))] h_327 (fun x_333 h_332 => (ZI T N 156 [vr (some a2)] h_332 (fun x_337 h_336 => (((x_337 = x_328 → (((x_328 = 0 → ((0 ≤ (0 : Int) ∧ (0 : Int) < (N a3 : Int) ∧ (0 : Int) < 2147483648) ∧ (((zlc (gl h_336 a3 (Int.toNat 0)) ((J x_333).toInt64)) = 0 → (ZW T N 288 28 [some (vr (some a0)), some (vr (some a1)), some (vr (some a2)), some (vr (some a3)), some (vr (some a4)), some (vi (J (x5 + 5))), none, none, none] [] h_336 K)) ∧ (¬ ((zlc (gl h_336 a3 (Int.toNat 0)) ((J x_333).toInt64)) = 0) → (K 0 h_336))))) ∧ (¬ (x_328 = 0) → (ZW T N 288 28 [some (vr (some a0)), some (vr (some a1)), some (vr (some a2)), some (vr (some a3)), some (vr (some a4)), some (vi (J (x5 + 5))), none, none, none] [] h_336 K))))) ∧ (¬ (x_337 = x_328) → (K 0 h_336))))))))))) ∧ (¬ ((zand (ai h a0 x5) 63) = 11) → (((zand (ai h a0 x5) 63) = 12 → ((0 ≤ (x5 + 1) ∧ (x5 + 1) < (N a0 : Int) ∧ (x5 + 1) < 2147483648) ∧ (0 ≤ (x5 + 2) ∧ (x5 + 2) < (N a0 : Int) ∧ (x5 + 2) < 2147483648) ∧ ZI T N 266 [vr (some a1), vi (J (ai h a0 (x5 + 1))), vi (J (ai h a0 (x5 + 2))), vr (some a3)] h (fun x_352 h_351 => (ZI T N 196 [vr (some a2), vi (J (ai h_351 a0 (x5 + 1))), vi (J (ai h_351 a0 (x5 + 2)))] h_351 (fun x_358 h_357 => (ZI T N 156 [vr (some a2)] h_357 (fun x_362 h_361 => (((x_362 = x_352 → (((x_352 = 0 → ((0 ≤ (0 : Int) ∧ (0 : Int) < (N a3 : Int) ∧ (0 : Int) < 2147483648) ∧ (((zlc (gl h_361 a3 (Int.toNat 0)) ((J x_358).toInt64)) = 0 → (ZW T N 288 28 [some (vr (some a0)), some (vr (some a1)), some (vr (some a2)), some (vr (some a3)), some (vr (some a4)), some (vi (J (x5 + 5))), none, none, none] [] h_361 K)) ∧ (¬ ((zlc (gl h_361 a3 (Int.toNat 0)) ((J x_358).toInt64)) = 0) → (K 0 h_361))))) ∧ (¬ (x_352 = 0) → (ZW T N 288 28 [some (vr (some a0)), some (vr (some a1)), some (vr (some a2)), some (vr (some a3)), some (vr (some a4)), some (vi (J (x5 + 5))), none, none, none] [] h_361 K))))) ∧ (¬ (x_362 = x_352) → (K 0 h_361))))))))))) ∧ (¬ ((zand (ai h a0 x5) 63) = 12) → (((zand (ai h a0 x5) 63) = 13 → ((0 ≤ (x5 + 1) ∧ (x5 + 1) < (N a0 : Int) ∧ (x5 + 1) < 2147483648) ∧ (0 ≤ (x5 + 2) ∧ (x5 + 2) < (N a0 : Int) ∧ (x5 + 2) < 2147483648) ∧ ZI T N 267 [vr (some a1), vi (J (ai h a0 (x5 + 1))), vi (J (ai h a0 (x5 + 2))), vr (some a3)] h (fun x_377 h_376 => (ZI T N 197 [vr (some a2), vi (J (ai h_376 a0 (x5 + 1))), vi (J (ai h_376 a0 (x5 + 2)))] h_376 (fun x_383 h_382 => (ZI T N 156 [vr (some a2)] h_382 (fun x_387 h_386 => (((x_387 = x_377 → (((x_377 = 0 → ((0 ≤ (0 : Int) ∧ (0 : Int) < (N a3 : Int) ∧ (0 : Int) < 2147483648) ∧ (((zlc (gl h_386 a3 (Int.toNat 0)) ((J x_383).toInt64)) = 0 → (ZW T N 288 28 [some (vr (some a0)), some (vr (some a1)), some (vr (some a2)), some (vr (some a3)), some (vr (some a4)), some (vi (J (x5 + 5))), none, none, none] [] h_386 K)) ∧ (¬ ((zlc (gl h_386 a3 (Int.toNat 0)) ((J x_383).toInt64)) = 0) → (K 0 h_386))))) ∧ (¬ (x_377 = 0) → (ZW T N 288 28 [some (vr (some a0)), some (vr (some a1)), some (vr (some a2)), some (vr (some a3)), some (vr (some a4)), some (vi (J (x5 + 5))), none, none, none] [] h_386 K))))) ∧ (¬ (x_387 = x_377) → (K 0 h_386))))))))))) ∧ (¬ ((zand (ai h a0 x5) 63) = 13) → (((zand (ai h a0 x5) 63) = 14 → ((0 ≤ (x5 + 1) ∧ (x5 + 1) < (N a0 : Int) ∧ (x5 + 1) < 2147483648) ∧ (0 ≤ (x5 + 2) ∧ (x5 + 2) < (N a0 : Int) ∧ (x5 + 2) < 2147483648) ∧ ZI T N 268 [vr (some a1), vi (J (ai h a0 (x5 + 1))), vi (J (ai h a0 (x5 + 2))), vr (some a3)] h (fun x_402 h_401 => (ZI T N 215 [vr (some a2), vi (J (ai h_401 a0 (x5 + 1))), vi (J (ai h_401 a0 (x5 + 2)))] h_401 (fun x_408 h_407 => (ZI T N 156 [vr (some a2)] h_407 (fun x_412 h_411 => (((x_412 = x_402 → (((x_402 = 0 → ((0 ≤ (0 : Int) ∧ (0 : Int) < (N a3 : Int) ∧ (0 : Int) < 2147483648) ∧ (((zlc (gl h_411 a3 (Int.toNat 0)) ((J x_408).toInt64)) = 0 → (ZW T N 288 28 [some (vr (some a0)), some (vr (some a1)), some (vr (some a2)), some (vr (some a3)), some (vr (some a4)), some (vi (J (x5 + 5))), none, none, none] [] h_411 K)) ∧ (¬ ((zlc (gl h_411 a3 (Int.toNat 0)) ((J x_408).toInt64)) = 0) → (K 0 h_411))))) ∧ (¬ (x_402 = 0) → (ZW T N 288 28 [some (vr (some a0)), some (vr (some a1)), some (vr (some a2)), some (vr (some a3)), some (vr (some a4)), some (vi (J (x5 + 5))), none, none, none] [] h_411 K))))) ∧ (¬ (x_412 = x_402) → (K 0 h_411))))))))))) ∧ (¬ ((zand (ai h a0 x5) 63) = 14) → (((zand (ai h a0 x5) 63) = 15 → ((0 ≤ (x5 + 1) ∧ (x5 + 1) < (N a0 : Int) ∧ (x5 + 1) < 2147483648) ∧ (0 ≤ (x5 + 2) ∧ (x5 + 2) < (N a0 : Int) ∧ (x5 + 2) < 2147483648) ∧ ZI T N 269 [vr (some a1), vi (J (ai h a0 (x5 + 1))), vi (J (ai h a0 (x5 + 2))), vr (some a3)] h (fun x_427 h_426 => (ZI T N 217 [vr (some a2), vi (J (ai h_426 a0 (x5 + 1))), vi (J (ai h_426 a0 (x5 + 2)))] h_426 (fun x_433 h_432 => (ZI T N 156 [vr (some a2)] h_432 (fun x_437 h_436 => (((x_437 = x_427 → (((x_427 = 0 → ((0 ≤ (0 : Int) ∧ (0 : Int) < (N a3 : Int) ∧ (0 : Int) < 2147483648) ∧ (((zlc (gl h_436 a3 (Int.toNat 0)) ((J x_433).toInt64)) = 0 → (ZW T N 288 28 [some (vr (some a0)), some (vr (some a1)), some (vr (some a2)), some (vr (some a3)), some (vr (some a4)), some (vi (J (x5 + 5))), none, none, none] [] h_436 K)) ∧ (¬ ((zlc (gl h_436 a3 (Int.toNat 0)) ((J x_433).toInt64)) = 0) → (K 0 h_436))))) ∧ (¬ (x_427 = 0) → (ZW T N 288 28 [some (vr (some a0)), some (vr (some a1)), some (vr (some a2)), some (vr (some a3)), some (vr (some a4)), some (vi (J (x5 + 5))), none, none, none] [] h_436 K))))) ∧ (¬ (x_437 = x_427) → (K 0 h_436))))))))))) ∧ (¬ ((zand (ai h a0 x5) 63) = 15) → (((zand (ai h a0 x5) 63) = 16 → ((0 ≤ (x5 + 1) ∧ (x5 + 1) < (N a0 : Int) ∧ (x5 + 1) < 2147483648) ∧ (0 ≤ (x5 + 2) ∧ (x5 + 2) < (N a0 : Int) ∧ (x5 + 2) < 2147483648) ∧ ZI T N 270 [vr (some a1), vi (J (ai h a0 (x5 + 1))), vi (J (ai h a0 (x5 + 2))), vr (some a3)] h (fun x_452 h_451 => (ZI T N 218 [vr (some a2), vi (J (ai h_451 a0 (x5 + 1))), vi (J (ai h_451 a0 (x5 + 2)))] h_451 (fun x_458 h_457 => (ZI T N 156 [vr (some a2)] h_457 (fun x_462 h_461 => (((x_462 = x_452 → (((x_452 = 0 → ((0 ≤ (0 : Int) ∧ (0 : Int) < (N a3 : Int) ∧ (0 : Int) < 2147483648) ∧ (((zlc (gl h_461 a3 (Int.toNat 0)) ((J x_458).toInt64)) = 0 → (ZW T N 288 28 [some (vr (some a0)), some (vr (some a1)), some (vr (some a2)), some (vr (some a3)), some (vr (some a4)), some (vi (J (x5 + 5))), none, none, none] [] h_461 K)) ∧ (¬ ((zlc (gl h_461 a3 (Int.toNat 0)) ((J x_458).toInt64)) = 0) → (K 0 h_461))))) ∧ (¬ (x_452 = 0) → (ZW T N 288 28 [some (vr (some a0)), some (vr (some a1)), some (vr (some a2)), some (vr (some a3)), some (vr (some a4)), some (vi (J (x5 + 5))), none, none, none] [] h_461 K))))) ∧ (¬ (x_462 = x_452) → (K 0 h_461))))))))))) ∧ (¬ ((zand (ai h a0 x5) 63) = 16) → (((zand (ai h a0 x5) 63) = 17 → ((0 ≤ (x5 + 1) ∧ (x5 + 1) < (N a0 : Int) ∧ (x5 + 1) < 2147483648) ∧ (0 ≤ (x5 + 2) ∧ (x5 + 2) < (N a0 : Int) ∧ (x5 + 2) < 2147483648) ∧ (0 ≤ (x5 + 3) ∧ (x5 + 3) < (N a0 : Int) ∧ (x5 + 3) < 2147483648) ∧ ZI T N 271 [vr (some a1), vi (J (ai h a0 (x5 + 1))), vi (J (ai h a0 (x5 + 2))), vi (J (ai h a0 (x5 + 3))), vr (some a3)] h (fun x_479 h_478 => (ZI T N 198 [vr (some a2), vi (J (ai h_478 a0 (x5 + 1))), vi (J (ai h_478 a0 (x5 + 2))), vi (J (ai h_478 a0 (x5 + 3)))] h_478 (fun x_486 h_485 => (ZI T N 156 [vr (some a2)] h_485 (fun x_490 h_489 => (((x_490 = x_479 → (((x_479 = 0 → ((0 ≤ (0 : Int) ∧ (0 : Int) < (N a3 : Int) ∧ (0 : Int) < 2147483648) ∧ (((zlc (gl h_489 a3 (Int.toNat 0)) ((J x_486).toInt64)) = 0 → (ZW T N 288 28 [some (vr (some a0)), some (vr (some a1)), some (vr (some a2)), some (vr (some a3)), some (vr (some a4)), some (vi (J (x5 + 5))), none, none, none] [] h_489 K)) ∧ (¬ ((zlc (gl h_489 a3 (Int.toNat 0)) ((J x_486).toInt64)) = 0) → (K 0 h_489))))) ∧ (¬ (x_479 = 0) → (ZW T N 288 28 [some (vr (some a0)), some (vr (some a1)), some (vr (some a2)), some (vr (some a3)), some (vr (some a4)), some (vi (J (x5 + 5))), none, none, none] [] h_489 K))))) ∧ (¬ (x_490 = x_479) → (K 0 h_489))))))))))) ∧ (¬ ((zand (ai h a0 x5) 63) = 17) → (((zand (ai h a0 x5) 63) = 18 → ((0 ≤ (x5 + 1) ∧ (x5 + 1) < (N a0 : Int) ∧ (x5 + 1) < 2147483648) ∧ ZI T N 272 [vr (some a1), vi (J (ai h a0 (x5 + 1))), vr (some a3)] h (fun x_503 h_502 => (ZI T N 219 [vr (some a2), vi (J (ai h_502 a0 (x5 + 1)))] h_502 (fun x_508 h_507 => (ZI T N 156 [vr (some a2)] h_507 (fun x_512 h_511 => (((x_512 = x_503 → (((x_503 = 0 → ((0 ≤ (0 : Int) ∧ (0 : Int) < (N a3 : Int) ∧ (0 : Int) < 2147483648) ∧ (((zlc (gl h_511 a3 (Int.toNat 0)) ((J x_508).toInt64)) = 0 → (ZW T N 288 28 [some (vr (some a0)), some (vr (some a1)), some (vr (some a2)), some (vr (some a3)), some (vr (some a4)), some (vi (J (x5 + 5))), none, none, none] [] h_511 K)) ∧ (¬ ((zlc (gl h_511 a3 (Int.toNat 0)) ((J x_508).toInt64)) = 0) → (K 0 h_511))))) ∧ (¬ (x_503 = 0) → (ZW T N 288 28 [some (vr (some a0)), some (vr (some a1)), some (vr (some a2)), some (vr (some a3)), some (vr (some a4)), some (vi (J (x5 + 5))), none, none, none] [] h_511 K))))) ∧ (¬ (x_512 = x_503) → (K 0 h_511))))))))))) ∧ (¬ ((zand (ai h a0 x5) 63) = 18) → (((zand (ai h a0 x5) 63) = 19 → ((0 ≤ (x5 + 1) ∧ (x5 + 1) < (N a0 : Int) ∧ (x5 + 1) < 2147483648) ∧ (0 ≤ (x5 + 2) ∧ (x5 + 2) < (N a0 : Int) ∧ (x5 + 2) < 2147483648) ∧ ZI T N 273 [vr (some a1), vi (J (ai h a0 (x5 + 1))), vi (J (ai h a0 (x5 + 2))), vr (some a3)] h (fun x_527 h_526 => (ZI T N 221 [vr (some a2), vi (J (ai h_526 a0 (x5 + 1))), vi (J (ai h_526 a0 (x5 + 2)))] h_526 (fun x_533 h_532 => (ZI T N 156 [vr (some a2)] h_532 (fun x_537 h_536 => (((x_537 = x_527 → (((x_527 = 0 → ((0 ≤ (0 : Int) ∧ (0 : Int) < (N a3 : Int) ∧ (0 : Int) < 2147483648) ∧ (((zlc (gl h_536 a3 (Int.toNat 0)) ((J x_533).toInt64)) = 0 → (ZW T N 288 28 [some (vr (some a0)), some (vr (some a1)), some (vr (some a2)), some (vr (some a3)), some (vr (some a4)), some (vi (J (x5 + 5))), none, none, none] [] h_536 K)) ∧ (¬ ((zlc (gl h_536 a3 (Int.toNat 0)) ((J x_533).toInt64)) = 0) → (K 0 h_536))))) ∧ (¬ (x_527 = 0) → (ZW T N 288 28 [some (vr (some a0)), some (vr (some a1)), some (vr (some a2)), some (vr (some a3)), some (vr (some a4)), some (vi (J (x5 + 5))), none, none, none] [] h_536 K))))) ∧ (¬ (x_537 = x_527) → (K 0 h_536))))))))))) ∧ (¬ ((zand (ai h a0 x5) 63) = 19) → (((zand (ai h a0 x5) 63) = 20 → (ZI T N 125 [vr (some a1)] h (fun x_548 h_547 => (ZI T N 201 [vr (some a2)] h_547 (fun x_552 h_551 => (((x_548 = x_552 → (ZW T N 288 28 [some (vr (some a0)), some (vr (some a1)), some (vr (some a2)), some (vr (some a3)), some (vr (some a4)), some (vi (J (x5 + 5))), none, none, none] [] h_551 K)) ∧ (¬ (x_548 = x_552) → (K 0 h_551))))))))) ∧ (¬ ((zand (ai h a0 x5) 63) = 20) → (((zand (ai h a0 x5) 63) = 21 → (ZI T N 126 [vr (some a1)] h (fun x_558 h_557 => (ZI T N 223 [vr (some a2)] h_557 (fun x_562 h_561 => (((x_558 = x_562 → (ZW T N 288 28 [some (vr (some a0)), some (vr (some a1)), some (vr (some a2)), some (vr (some a3)), some (vr (some a4)), some (vi (J (x5 + 5))), none, none, none] [] h_561 K)) ∧ (¬ (x_558 = x_562) → (K 0 h_561))))))))) ∧ (¬ ((zand (ai h a0 x5) 63) = 21) → (((zand (ai h a0 x5) 63) = 22 → ((0 ≤ (x5 + 1) ∧ (x5 + 1) < (N a0 : Int) ∧ (x5 + 1) < 2147483648) ∧ ZI T N 274 [vr (some a1), vi (J (ai h a0 (x5 + 1))), vr (some a3)] h (fun x_570 h_569 => (ZI T N 224 [vr (some a2), vi (J (ai h_569 a0 (x5 + 1)))] h_569 (fun x_575 h_574 => (ZI T N 156 [vr (some a2)] h_574 (fun x_579 h_578 => (((x_579 = x_570 → (((x_570 = 0 → ((0 ≤ (0 : Int) ∧ (0 : Int) < (N a3 : Int) ∧ (0 : Int) < 2147483648) ∧ (((zlc (gl h_578 a3 (Int.toNat 0)) ((J x_575).toInt64)) = 0 → (ZW T N 288 28 [some (vr (some a0)), some (vr (some a1)), some (vr (some a2)), some (vr (some a3)), some (vr (some a4)), some (vi (J (x5 + 5))), none, none, none] [] h_578 K)) ∧ (¬ ((zlc (gl h_578 a3 (Int.toNat 0)) ((J x_575).toInt64)) = 0) → (K 0 h_578))))) ∧ (¬ (x_570 = 0) → (ZW T N 288 28 [some (vr (some a0)), some (vr (some a1)), some (vr (some a2)), some (vr (some a3)), some (vr (some a4)), some (vi (J (x5 + 5))), none, none, none] [] h_578 K))))) ∧ (¬ (x_579 = x_570) → (K 0 h_578))))))))))) ∧ (¬ ((zand (ai h a0 x5) 63) = 22) → (((zand (ai h a0 x5) 63) = 23 → (ZI T N 128 [vr (some a1)] h (fun x_590 h_589 => (ZI T N 225 [vr (some a2)] h_589 (fun x_594 h_593 => (((x_590 = x_594 → (ZW T N 288 28 [some (vr (some a0)), some (vr (some a1)), some (vr (some a2)), some (vr (some a3)), some (vr (some a4)), some (vi (J (x5 + 5))), none, none, none] [] h_593 K)) ∧ (¬ (x_590 = x_594) → (K 0 h_593))))))))) ∧ (¬ ((zand (ai h a0 x5) 63) = 23) → (((zand (ai h a0 x5) 63) = 24 → (ZI T N 275 [vr (some a1), vr (some a3)] h (fun x_600 h_599 => (ZI T N 226 [vr (some a2)] h_599 (fun x_604 h_603 => (ZI T N 156 [vr (some a2)] h_603 (fun x_608 h_607 => (((x_608 = x_600 → (((x_600 = 0 → ((0 ≤ (0 : Int) ∧ (0 : Int) < (N a3 : Int) ∧ (0 : Int) < 2147483648) ∧ (((zlc (gl h_607 a3 (Int.toNat 0)) ((J x_604).toInt64)) = 0 → (ZW T N 288 28 [some (vr (some a0)), some (vr (some a1)), some (vr (some a2)), some (vr (some a3)), some (vr (some a4)), some (vi (J (x5 + 5))), none, none, none] [] h_607 K)) ∧ (¬ ((zlc (gl h_607 a3 (Int.toNat 0)) ((J x_604).toInt64)) = 0) → (K 0 h_607))))) ∧ (¬ (x_600 = 0) → (ZW T N 288 28 [some (vr (some a0)), some (vr (some a1)), some (vr (some a2)), some (vr (some a3)), some (vr (some a4)), some (vi (J (x5 + 5))), none, none, none] [] h_607 K))))) ∧ (¬ (x_608 = x_600) → (K 0 h_607))))))))))) ∧ (¬ ((zand (ai h a0 x5) 63) = 24) → (((zand (ai h a0 x5) 63) = 25 → ((0 ≤ (x5 + 1) ∧ (x5 + 1) < (N a0 : Int) ∧ (x5 + 1) < 2147483648) ∧ ZI T N 276 [vr (some a1), vi (J (ai h a0 (x5 + 1))), vr (some a3)] h (fun x_621 h_620 => (ZI T N 232 [vr (some a2), vi (J (ai h_620 a0 (x5 + 1)))] h_620 (fun x_626 h_625 => (ZI T N 156 [vr (some a2)] h_625 (fun x_630 h_629 => (((x_630 = x_621 → (((x_621 = 0 → ((0 ≤ (0 : Int) ∧ (0 : Int) < (N a3 : Int) ∧ (0 : Int) < 2147483648) ∧ (((zlc (gl h_629 a3 (Int.toNat 0)) ((J x_626).toInt64)) = 0 → (ZW T N 288 28 [some (vr (some a0)), some (vr (some a1)), some (vr (some a2)), some (vr (some a3)), some (vr (some a4)), some (vi (J (x5 + 5))), none, none, none] [] h_629 K)) ∧ (¬ ((zlc (gl h_629 a3 (Int.toNat 0)) ((J x_626).toInt64)) = 0) → (K 0 h_629))))) ∧ (¬ (x_621 = 0) → (ZW T N 288 28 [some (vr (some a0)), some (vr (some a1)), some (vr (some a2)), some (vr (some a3)), some (vr (some a4)), some (vi (J (x5 + 5))), none, none, none] [] h_629 K))))) ∧ (¬ (x_630 = x_621) → (K 0 h_629))))))))))) ∧ (¬ ((zand (ai h a0 x5) 63) = 25) → (((zand (ai h a0 x5) 63) = 26 → ((0 ≤ (x5 + 1) ∧ (x5 + 1) < (N a0 : Int) ∧ (x5 + 1) < 2147483648) ∧ (0 ≤ (x5 + 2) ∧ (x5 + 2) < (N a0 : Int) ∧ (x5 + 2) < 2147483648) ∧ ZI T N 277 [vr (some a1), vi (J (ai h a0 (x5 + 1))), vi (J (ai h a0 (x5 + 2))), vr (some a3)] h (fun x_645 h_644 => (ZI T N 233 [vr (some a2), vi (J (ai h_644 a0 (x5 + 1))), vi (J (ai h_644 a0 (x5 + 2)))] h_644 (fun x_651 h_650 => (ZI T N 156 [vr (some a2)] h_650 (fun x_655 h_654 => (((x_655 = x_645 → (((x_645 = 0 → ((0 ≤ (0 : Int) ∧ (0 : Int) < (N a3 : Int) ∧ (0 : Int) < 2147483648) ∧ (((zlc (gl h_654 a3 (Int.toNat 0)) ((J x_651).toInt64)) = 0 → (ZW T N 288 28 [some (vr (some a0)), some (vr (some a1)), some (vr (some a2)), some (vr (some a3)), some (vr (some a4)), some (vi (J (x5 + 5))), none, none, none] [] h_654 K)) ∧ (¬ ((zlc (gl h_654 a3 (Int.toNat 0)) ((J x_651).toInt64)) = 0) → (K 0 h_654))))) ∧ (¬ (x_645 = 0) → (ZW T N 288 28 [some (vr (some a0)), some (vr (some a1)), some (vr (some a2)), some (vr (some a3)), some (vr (some a4)), some (vi (J (x5 + 5))), none, none, none] [] h_654 K))))) ∧ (¬ (x_655 = x_645) → (K 0 h_654))))))))))) ∧ (¬ ((zand (ai h a0 x5) 63) = 26) → (((zand (ai h a0 x5) 63) = 27 → ((0 ≤ (x5 + 1) ∧ (x5 + 1) < (N a0 : Int) ∧ (x5 + 1) < 2147483648) ∧ (((ai h a0 (x5 + 1)) = 0 → (ZI T N 132 [vr (some a1), vi (J 0)] h (fun x_669 h_668 => ((((ai h_668 a0 (x5 + 1)) = 0 → (ZI T N 234 [vr (some a2), vi (J 0)] h_668 (fun x_675 h_674 => (((x_669 = x_675 → (ZW T N 288 28 [some (vr (some a0)), some (vr (some a1)), some (vr (some a2)), some (vr (some a3)), some (vr (some a4)), some (vi (J (x5 + 5))), none, none, none] [] h_674 K)) ∧ (¬ (x_669 = x_675) → (K 0 h_674))))))) ∧ (¬ ((ai h_668 a0 (x5 + 1)) = 0) → (ZI T N 234 [vr (some a2), vi (J 1)] h_668 (fun x_681 h_680 => (((x_669 = x_681 → (ZW T N 288 28 [some (vr (some a0)), some (vr (some a1)), some (vr (some a2)), some (vr (some a3)), some (vr (some a4)), some (vi (J (x5 + 5))), none, none, none] [] h_680 K)) ∧ (¬ (x_669 = x_681) → (K 0 h_680)))))))))))) ∧ (¬ ((ai h a0 (x5 + 1)) = 0) → (ZI T N 132 [vr (some a1), vi (J 1)] h (fun x_687 h_686 => ((((ai h_686 a0 (x5 + 1)) = 0 → (ZI T N 234 [vr (some a2), vi (J 0)] h_686 (fun x_693 h_692 => (((x_687 = x_693 → (ZW T N 288 28 [some (vr (some a0)), some (vr (some a1)), some (vr (some a2)), some (vr (some a3)), some (vr (some a4)), some (vi (J (x5 + 5))), none, none, none] [] h_692 K)) ∧ (¬ (x_687 = x_693) → (K 0 h_692))))))) ∧ (¬ ((ai h_686 a0 (x5 + 1)) = 0) → (ZI T N 234 [vr (some a2), vi (J 1)] h_686 (fun x_699 h_698 => (((x_687 = x_699 → (ZW T N 288 28 [some (vr (some a0)), some (vr (some a1)), some (vr (some a2)), some (vr (some a3)), some (vr (some a4)), some (vi (J (x5 + 5))), none, none, none] [] h_698 K)) ∧ (¬ (x_687 = x_699) → (K 0 h_698))))))))))))))) ∧ (¬ ((zand (ai h a0 x5) 63) = 27) → (((zand (ai h a0 x5) 63) = 28 → ((0 ≤ (x5 + 1) ∧ (x5 + 1) < (N a0 : Int) ∧ (x5 + 1) < 2147483648) ∧ (0 ≤ (x5 + 2) ∧ (x5 + 2) < (N a0 : Int) ∧ (x5 + 2) < 2147483648) ∧ ZI T N 278 [vr (some a1), vi (J (ai h a0 (x5 + 1))), vi (J (ai h a0 (x5 + 2))), vr (some a3)] h (fun x_709 h_708 => (ZI T N 235 [vr (some a2), vi (J (ai h_708 a0 (x5 + 1))), vi (J (ai h_708 a0 (x5 + 2)))] h_708 (fun x_715 h_714 => (ZI T N 156 [vr (some a2)] h_714 (fun x_719 h_718 => (((x_719 = x_709 → (((x_709 = 0 → ((0 ≤ (0 : Int) ∧ (0 : Int) < (N a3 : Int) ∧ (0 : Int) < 2147483648) ∧ (((zlc (gl h_718 a3 (Int.toNat 0)) ((J x_715).toInt64)) = 0 → (ZW T N 288 28 [some (vr (some a0)), some (vr (some a1)), some (vr (some a2)), some (vr (some a3)), some (vr (some a4)), some (vi (J (x5 + 5))), none, none, none] [] h_718 K)) ∧ (¬ ((zlc (gl h_718 a3 (Int.toNat 0)) ((J x_715).toInt64)) = 0) → (K 0 h_718))))) ∧ (¬ (x_709 = 0) → (ZW T N 288 28 [some (vr (some a0)), some (vr (some a1)), some (vr (some a2)), some (vr (some a3)), some (vr (some a4)), some (vi (J (x5 + 5))), none, none, none] [] h_718 K))))) ∧ (¬ (x_719 = x_709) → (K 0 h_718))))))))))) ∧ (¬ ((zand (ai h a0 x5) 63) = 28) → (((zand (ai h a0 x5) 63) = 29 → ((0 ≤ (x5 + 1) ∧ (x5 + 1) < (N a0 : Int) ∧ (x5 + 1) < 2147483648) ∧ (0 ≤ (x5 + 2) ∧ (x5 + 2) < (N a0 : Int) ∧ (x5 + 2) < 2147483648) ∧ ZI T N 279 [vr (some a1), vi (J (ai h a0 (x5 + 1))), vi (J (ai h a0 (x5 + 2))), vr (some a3)] h (fun x_734 h_733 => (ZI T N 236 [vr (some a2), vi (J (ai h_733 a0 (x5 + 1))), vi (J (ai h_733 a0 (x5 + 2)))] h_733 (fun x_740 h_739 => (ZI T N 156 [vr (some a2)] h_739 (fun x_744 h_743 => (((x_744 = x_734 → (((x_734 = 0 → ((0 ≤ (0 : Int) ∧ (0 : Int) < (N a3 : Int) ∧ (0 : Int) < 2147483648) ∧ (((zlc (gl h_743 a3 (Int.toNat 0)) ((J x_740).toInt64)) = 0 → (ZW T N 288 28 [some (vr (some a0)), some (vr (some a1)), some (vr (some a2)), some (vr (some a3)), some (vr (some a4)), some (vi (J (x5 + 5))), none, none, none] [] h_743 K)) ∧ (¬ ((zlc (gl h_743 a3 (Int.toNat 0)) ((J x_740).toInt64)) = 0) → (K 0 h_743))))) ∧ (¬ (x_734 = 0) → (ZW T N 288 28 [some (vr (some a0)), some (vr (some a1)), some (vr (some a2)), some (vr (some a3)), some (vr (some a4)), some (vi (J (x5 + 5))), none, none, none] [] h_743 K))))) ∧ (¬ (x_744 = x_734) → (K 0 h_743))))))))))) ∧ (¬ ((zand (ai h a0 x5) 63) = 29) → (((zand (ai h a0 x5) 63) = 30 → (ZI T N 135 [vr (some a1)] h (fun x_755 h_754 => (ZI T N 237 [vr (some a2)] h_754 (fun x_759 h_758 => (((x_755 = x_759 → (ZW T N 288 28 [some (vr (some a0)), some (vr (some a1)), some (vr (some a2)), some (vr (some a3)), some (vr (some a4)), some (vi (J (x5 + 5))), none, none, none] [] h_758 K)) ∧ (¬ (x_755 = x_759) → (K 0 h_758))))))))) ∧ (¬ ((zand (ai h a0 x5) 63) = 30) → (((zand (ai h a0 x5) 63) = 31 → (ZI T N 280 [vr (some a1), vr (some a4)] h (fun x_765 h_764 => (CD T N 239 [vr (some a2)] h_764 (fun x_769 h_768 => (ZI T N 156 [vr (some a2)] h_768 (fun x_772 h_771 => (((x_772 = x_765 → (((x_765 = 0 → ((0 ≤ (0 : Int) ∧ (0 : Int) < (N a4 : Int) ∧ (0 : Int) < 2147483648) ∧ (((Int32.toInt (Op.cmpValue (FP.dcmp (gd h_771 a4 (Int.toNat 0)) x_769) .l)) = 0 → (ZW T N 288 28 [some (vr (some a0)), some (vr (some a1)), some (vr (some a2)), some (vr (some a3)), some (vr (some a4)), some (vi (J (x5 + 5))), none, none, none] [] h_771 K)) ∧ (¬ ((Int32.toInt (Op.cmpValue (FP.dcmp (gd h_771 a4 (Int.toNat 0)) x_769) .l)) = 0) → ((((Int32.toInt (Op.cmpValue (FP.dcmp (gd h_771 a4 (Int.toNat 0)) (gd h_771 a4 (Int.toNat 0))) .l)) = 0 → (K 0 h_771)) ∧ (¬ ((Int32.toInt (Op.cmpValue (FP.dcmp (gd h_771 a4 (Int.toNat 0)) (gd h_771 a4 (Int.toNat 0))) .l)) = 0) → ((((Int32.toInt (Op.cmpValue (FP.dcmp x_769 x_769) .l)) = 0 → (K 0 h_771)) ∧ (¬ ((Int32.toInt (Op.cmpValue (FP.dcmp x_769 x_769) .l)) = 0) → (ZW T N 288 28 [some (vr (some a0)), some (vr (some a1)), some (vr (some a2)), some (vr (some a3)), some (vr (some a4)), some (vi (J (x5 + 5))), none, none, none] [] h_771 K))))))))))) ∧ (¬ (x_765 = 0) → (ZW T N 288 28 [some (vr (some a0)), some (vr (some a1)), some (vr (some a2)), some (vr (some a3)), some (vr (some a4)), some (vi (J (x5 + 5))), none, none, none] [] h_771 K))))) ∧ (¬ (x_772 = x_765) → (K 0 h_771))))))))))) ∧ (¬ ((zand (ai h a0 x5) 63) = 31) → (((zand (ai h a0 x5) 63) = 32 → (ZI T N 281 [vr (some a1), vr (some a3)] h (fun x_788 h_787 => (ZI T N 240 [vr (some a2)] h_787 (fun x_792 h_791 => (ZI T N 156 [vr (some a2)] h_791 (fun x_796 h_795 => (((x_796 = x_788 → (((x_788 = 0 → ((0 ≤ (0 : Int) ∧ (0 : Int) < (N a3 : Int) ∧ (0 : Int) < 2147483648) ∧ (((zlc (gl h_795 a3 (Int.toNat 0)) ((J x_792).toInt64)) = 0 → (ZW T N 288 28 [some (vr (some a0)), some (vr (some a1)), some (vr (some a2)), some (vr (some a3)), some (vr (some a4)), some (vi (J (x5 + 5))), none, none, none] [] h_795 K)) ∧ (¬ ((zlc (gl h_795 a3 (Int.toNat 0)) ((J x_792).toInt64)) = 0) → (K 0 h_795))))) ∧ (¬ (x_788 = 0) → (ZW T N 288 28 [some (vr (some a0)), some (vr (some a1)), some (vr (some a2)), some (vr (some a3)), some (vr (some a4)), some (vi (J (x5 + 5))), none, none, none] [] h_795 K))))) ∧ (¬ (x_796 = x_788) → (K 0 h_795))))))))))) ∧ (¬ ((zand (ai h a0 x5) 63) = 32) → (((zand (ai h a0 x5) 63) = 33 → ((0 ≤ (x5 + 1) ∧ (x5 + 1) < (N a0 : Int) ∧ (x5 + 1) < 2147483648) ∧ ZI T N 282 [vr (some a1), vi (J (zchr (ai h a0 (x5 + 1)))), vr (some a3)] h (fun x_809 h_808 => (ZI T N 241 [vr (some a2), vi (J (zchr (ai h_808 a0 (x5 + 1))))] h_808 (fun x_814 h_813 => (ZI T N 156 [vr (some a2)] h_813 (fun x_818 h_817 => (((x_818 = x_809 → (((x_809 = 0 → ((0 ≤ (0 : Int) ∧ (0 : Int) < (N a3 : Int) ∧ (0 : Int) < 2147483648) ∧ (((zlc (gl h_817 a3 (Int.toNat 0)) ((J x_814).toInt64)) = 0 → (ZW T N 288 28 [some (vr (some a0)), some (vr (some a1)), some (vr (some a2)), some (vr (some a3)), some (vr (some a4)), some (vi (J (x5 + 5))), none, none, none] [] h_817 K)) ∧ (¬ ((zlc (gl h_817 a3 (Int.toNat 0)) ((J x_814).toInt64)) = 0) → (K 0 h_817))))) ∧ (¬ (x_809 = 0) → (ZW T N 288 28 [some (vr (some a0)), some (vr (some a1)), some (vr (some a2)), some (vr (some a3)), some (vr (some a4)), some (vi (J (x5 + 5))), none, none, none] [] h_817 K))))) ∧ (¬ (x_818 = x_809) → (K 0 h_817))))))))))) ∧ (¬ ((zand (ai h a0 x5) 63) = 33) → (((zand (ai h a0 x5) 63) = 34 → (ZI T N 283 [vr (some a1), vr (some a3)] h (fun x_829 h_828 => (ZI T N 247 [vr (some a2)] h_828 (fun x_833 h_832 => (ZI T N 156 [vr (some a2)] h_832 (fun x_837 h_836 => (((x_837 = x_829 → (((x_829 = 0 → ((0 ≤ (0 : Int) ∧ (0 : Int) < (N a3 : Int) ∧ (0 : Int) < 2147483648) ∧ (((zlc (gl h_836 a3 (Int.toNat 0)) ((J x_833).toInt64)) = 0 → (ZW T N 288 28 [some (vr (some a0)), some (vr (some a1)), some (vr (some a2)), some (vr (some a3)), some (vr (some a4)), some (vi (J (x5 + 5))), none, none, none] [] h_836 K)) ∧ (¬ ((zlc (gl h_836 a3 (Int.toNat 0)) ((J x_833).toInt64)) = 0) → (K 0 h_836))))) ∧ (¬ (x_829 = 0) → (ZW T N 288 28 [some (vr (some a0)), some (vr (some a1)), some (vr (some a2)), some (vr (some a3)), some (vr (some a4)), some (vi (J (x5 + 5))), none, none, none] [] h_836 K))))) ∧ (¬ (x_837 = x_829) → (K 0 h_836))))))))))) ∧ (¬ ((zand (ai h a0 x5) 63) = 34) → (((zand (ai h a0 x5) 63) = 35 → (ZI T N 284 [vr (some a1), vr (some a3)] h (fun x_848 h_847 => (ZI T N 248 [vr (some a2)] h_847 (fun x_852 h_851 => (ZI T N 156 [vr (some a2)] h_851 (fun x_856 h_855 => (((x_856 = x_848 → (((x_848 = 0 → ((0 ≤ (0 : Int) ∧ (0 : Int) < (N a3 : Int) ∧ (0 : Int) < 2147483648) ∧ (((zlc (gl h_855 a3 (Int.toNat 0)) ((J x_852).toInt64)) = 0 → (ZW T N 288 28 [some (vr (some a0)), some (vr (some a1)), some (vr (some a2)), some (vr (some a3)), some (vr (some a4)), some (vi (J (x5 + 5))), none, none, none] [] h_855 K)) ∧ (¬ ((zlc (gl h_855 a3 (Int.toNat 0)) ((J x_852).toInt64)) = 0) → (K 0 h_855))))) ∧ (¬ (x_848 = 0) → (ZW T N 288 28 [some (vr (some a0)), some (vr (some a1)), some (vr (some a2)), some (vr (some a3)), some (vr (some a4)), some (vi (J (x5 + 5))), none, none, none] [] h_855 K))))) ∧ (¬ (x_856 = x_848) → (K 0 h_855))))))))))) ∧ (¬ ((zand (ai h a0 x5) 63) = 35) → (((zand (ai h a0 x5) 63) = 36 → ((0 ≤ (x5 + 1) ∧ (x5 + 1) < (N a0 : Int) ∧ (x5 + 1) < 2147483648) ∧ (0 ≤ (x5 + 2) ∧ (x5 + 2) < (N a0 : Int) ∧ (x5 + 2) < 2147483648) ∧ ZI T N 285 [vr (some a1), vi (J (ai h a0 (x5 + 1))), vi (J (ai h a0 (x5 + 2))), vr (some a3)] h (fun x_871 h_870 => (ZI T N 249 [vr (some a2), vi (J (ai h_870 a0 (x5 + 1))), vi (J (ai h_870 a0 (x5 + 2)))] h_870 (fun x_877 h_876 => (ZI T N 156 [vr (some a2)] h_876 (fun x_881 h_880 => (((x_881 = x_871 → (((x_871 = 0 → ((0 ≤ (0 : Int) ∧ (0 : Int) < (N a3 : Int) ∧ (0 : Int) < 2147483648) ∧ (((zlc (gl h_880 a3 (Int.toNat 0)) ((J x_877).toInt64)) = 0 → (ZW T N 288 28 [some (vr (some a0)), some (vr (some a1)), some (vr (some a2)), some (vr (some a3)), some (vr (some a4)), some (vi (J (x5 + 5))), none, none, none] [] h_880 K)) ∧ (¬ ((zlc (gl h_880 a3 (Int.toNat 0)) ((J x_877).toInt64)) = 0) → (K 0 h_880))))) ∧ (¬ (x_871 = 0) → (ZW T N 288 28 [some (vr (some a0)), some (vr (some a1)), some (vr (some a2)), some (vr (some a3)), some (vr (some a4)), some (vi (J (x5 + 5))), none, none, none] [] h_880 K))))) ∧ (¬ (x_881 = x_871) → (K 0 h_880))))))))))) ∧ (¬ ((zand (ai h a0 x5) 63) = 36) → (((zand (ai h a0 x5) 63) = 37 → (ZI T N 286 [vr (some a1), vr (some a3)] h (fun x_892 h_891 => (ZI T N 250 [vr (some a2)] h_891 (fun x_896 h_895 => (ZI T N 156 [vr (some a2)] h_895 (fun x_900 h_899 => (((x_900 = x_892 → (((x_892 = 0 → ((0 ≤ (0 : Int) ∧ (0 : Int) < (N a3 : Int) ∧ (0 : Int) < 2147483648) ∧ (((zlc (gl h_899 a3 (Int.toNat 0)) ((J x_896).toInt64)) = 0 → (ZW T N 288 28 [some (vr (some a0)), some (vr (some a1)), some (vr (some a2)), some (vr (some a3)), some (vr (some a4)), some (vi (J (x5 + 5))), none, none, none] [] h_899 K)) ∧ (¬ ((zlc (gl h_899 a3 (Int.toNat 0)) ((J x_896).toInt64)) = 0) → (K 0 h_899))))) ∧ (¬ (x_892 = 0) → (ZW T N 288 28 [some (vr (some a0)), some (vr (some a1)), some (vr (some a2)), some (vr (some a3)), some (vr (some a4)), some (vi (J (x5 + 5))), none, none, none] [] h_899 K))))) ∧ (¬ (x_900 = x_892) → (K 0 h_899))))))))))) ∧ (¬ ((zand (ai h a0 x5) 63) = 37) → (((zand (ai h a0 x5) 63) = 38 → (ZI T N 143 [vr (some a1)] h (fun x_911 h_910 => (ZI T N 251 [vr (some a2)] h_910 (fun x_915 h_914 => (((x_911 = x_915 → (ZW T N 288 28 [some (vr (some a0)), some (vr (some a1)), some (vr (some a2)), some (vr (some a3)), some (vr (some a4)), some (vi (J (x5 + 5))), none, none, none] [] h_914 K)) ∧ (¬ (x_911 = x_915) → (K 0 h_914))))))))) ∧ (¬ ((zand (ai h a0 x5) 63) = 38) → (((zand (ai h a0 x5) 63) = 39 → (ZI T N 287 [vr (some a1), vr (some a3)] h (fun x_921 h_920 => (ZI T N 252 [vr (some a2)] h_920 (fun x_925 h_924 => (ZI T N 156 [vr (some a2)] h_924 (fun x_929 h_928 => (((x_929 = x_921 → (((x_921 = 0 → ((0 ≤ (0 : Int) ∧ (0 : Int) < (N a3 : Int) ∧ (0 : Int) < 2147483648) ∧ (((zlc (gl h_928 a3 (Int.toNat 0)) ((J x_925).toInt64)) = 0 → (ZW T N 288 28 [some (vr (some a0)), some (vr (some a1)), some (vr (some a2)), some (vr (some a3)), some (vr (some a4)), some (vi (J (x5 + 5))), none, none, none] [] h_928 K)) ∧ (¬ ((zlc (gl h_928 a3 (Int.toNat 0)) ((J x_925).toInt64)) = 0) → (K 0 h_928))))) ∧ (¬ (x_921 = 0) → (ZW T N 288 28 [some (vr (some a0)), some (vr (some a1)), some (vr (some a2)), some (vr (some a3)), some (vr (some a4)), some (vi (J (x5 + 5))), none, none, none] [] h_928 K))))) ∧ (¬ (x_929 = x_921) → (K 0 h_928))))))))))) ∧ (¬ ((zand (ai h a0 x5) 63) = 39) → (ZW T N 288 28 [some (vr (some a0)), some (vr (some a1)), some (vr (some a2)), some (vr (some a3)), some (vr (some a4)), some (vi (J (x5 + 5))), none, none, none] [] h K)))))))))))))))))))))))))))))))))))))))))))))))))))))))))))))))))))))))))))))))))))))) : ZW T N 288 28 [some (vr (some a0)), some (vr (some a1)), some (vr (some a2)), some (vr (some a3)), some (vr (some a4)), some (vi (J x5)), none, none, none] [] h K := by
  show WP T N 288 28 [some (vr (some a0)), some (vr (some a1)), some (vr (some a2)), some (vr (some a3)), some (vr (some a4)), some (vi (J x5)), none, none, none] [] h _
  refine R_ps 2 (pc2 := 31) (L2 := [some (vr (some a0)), some (vr (some a1)), some (vr (some a2)), some (vr (some a3)), some (vr (some a4)), some (vi (J x5)), none, none, none]) (st2 := [vr (some a0), vi (J x5)]) rfl ?_
  refine R_zalen rfl t0 ?_
  refine R_ps 2 (pc2 := 34) (L2 := [some (vr (some a0)), some (vr (some a1)), some (vr (some a2)), some (vr (some a3)), some (vr (some a4)), some (vi (J x5)), none, none, none]) (st2 := [vi ((J (N a0 : Int)) - (J 5)), vi (J x5)]) rfl ?_
  rw [show ((J (N a0 : Int)) - (J 5)) = J ((N a0 : Int) - 5) from J_sub' rfl rfl]
  obtain ⟨t_3, k⟩ := k
  refine R_zif (x := x5) (z := (N a0 : Int) - 5) rfl r5 t_3 (fun c_2 => ?_) (fun c_2 => ?_)
  · have k := k.1 c_2
    refine R_ps 1 (pc2 := 2420) (L2 := [some (vr (some a0)), some (vr (some a1)), some (vr (some a2)), some (vr (some a3)), some (vr (some a4)), some (vi (J x5)), none, none, none]) (st2 := [vi (J 1)]) rfl ?_
    exact R_zzret (x := 1) rfl rfl (Or.inr rfl) (R_zr (x := 1) (K := K) (by decide) k)
  · have k := k.2 c_2
    refine R_ps 2 (pc2 := 40) (L2 := [some (vr (some a0)), some (vr (some a1)), some (vr (some a2)), some (vr (some a3)), some (vr (some a4)), some (vi (J x5)), none, none, none]) (st2 := [vi (J x5), vr (some a0)]) rfl ?_
    obtain ⟨t_6, k⟩ := k
    refine R_ziald (i := x5) rfl (Or.inr t1) t_6 ?_
    refine R_ps 2 (pc2 := 44) (L2 := [some (vr (some a0)), some (vr (some a1)), some (vr (some a2)), some (vr (some a3)), some (vr (some a4)), some (vi (J x5)), none, none, none]) (st2 := [vi ((J (ai h a0 x5)) &&& (J 63))]) rfl ?_
    rw [show ((J (ai h a0 x5)) &&& (J 63)) = J (zand (ai h a0 x5) 63) from J_and' rfl rfl]
    refine R_ztsw (x := zand (ai h a0 x5) 63) rfl rfl (zand_in _ _) ?_
    refine ⟨fun c_7 => ?_, fun c_7 => ?_⟩
    · have k := k.1 c_7
      show WP T N _ 220 _ _ _ _
      refine R_ps 1 (pc2 := 221) (L2 := [some (vr (some a0)), some (vr (some a1)), some (vr (some a2)), some (vr (some a3)), some (vr (some a4)), some (vi (J x5)), none, none, none]) (st2 := [vr (some a1)]) rfl ?_
      refine R_zcI (as := [vr (some a1)]) rfl rfl ⟨Nat.le_of_ble_eq_true rfl, Nat.le_of_ble_eq_true rfl, rfl, (Or.inr ⟨_, rfl, t2⟩)⟩ rfl rfl k (fun x_10 h_9 r_11 k => ?_)
      refine R_ps 1 (pc2 := 225) (L2 := [some (vr (some a0)), some (vr (some a1)), some (vr (some a2)), some (vr (some a3)), some (vr (some a4)), some (vi (J x5)), none, none, none]) (st2 := [vr (some a2), vi (J x_10)]) rfl ?_
      refine R_zcI (as := [vr (some a2)]) rfl rfl ⟨Nat.le_of_ble_eq_true rfl, Nat.le_of_ble_eq_true rfl, rfl, (Or.inr ⟨_, rfl, t3⟩)⟩ rfl rfl k (fun x_14 h_13 r_15 k => ?_)
      refine R_zif (x := x_10) (z := x_14) rfl r_11 r_15 (fun c_16 => ?_) (fun c_16 => ?_)
      · have k := k.1 c_16
        refine R_ps 2 (pc2 := 28) (L2 := [some (vr (some a0)), some (vr (some a1)), some (vr (some a2)), some (vr (some a3)), some (vr (some a4)), some (vi ((J x5) + J 5)), none, none, none]) (st2 := []) rfl ?_
        rw [show ((J x5) + J 5) = J (x5 + 5) from J_add' rfl rfl]
        exact k
      · have k := k.2 c_16
        refine R_ps 1 (pc2 := 232) (L2 := [some (vr (some a0)), some (vr (some a1)), some (vr (some a2)), some (vr (some a3)), some (vr (some a4)), some (vi (J x5)), none, none, none]) (st2 := [vi (J 0)]) rfl ?_
        exact R_zzret (x := 0) rfl rfl (Or.inl rfl) (R_zr (x := 0) (K := K) (by decide) k)
    replace k := k.2 c_7
    refine ⟨fun c_7 => ?_, fun c_7 => ?_⟩
    · have k := k.1 c_7
      show WP T N _ 233 _ _ _ _
      refine R_ps 5 (pc2 := 239) (L2 := [some (vr (some a0)), some (vr (some a1)), some (vr (some a2)), some (vr (some a3)), some (vr (some a4)), some (vi (J x5)), none, none, none]) (st2 := [vi ((J x5) + (J 1)), vr (some a0), vr (some a1)]) rfl ?_
      rw [show ((J x5) + (J 1)) = J (x5 + 1) from J_add' rfl rfl]
      obtain ⟨t_19, k⟩ := k
      refine R_ziald (i := x5 + 1) rfl (Or.inr t1) t_19 ?_
      refine R_zif0 (x := ai h a0 (x5 + 1)) rfl (ai_in _ _ _) (fun c_20 => ?_) (fun c_20 => ?_)
      · have k := k.1 c_20
        refine R_ps 2 (pc2 := 249) (L2 := [some (vr (some a0)), some (vr (some a1)), some (vr (some a2)), some (vr (some a3)), some (vr (some a4)), some (vi (J x5)), none, none, none]) (st2 := [vr (some a3), vi (J 0), vr (some a1)]) rfl ?_
        refine R_zcI (as := [vr (some a1), vi (J 0), vr (some a3)]) rfl rfl ⟨Nat.le_of_ble_eq_true rfl, Nat.le_of_ble_eq_true rfl, rfl, (Or.inl rfl)⟩ rfl rfl k (fun x_23 h_22 r_24 k => ?_)
        refine R_ps 6 (pc2 := 260) (L2 := [some (vr (some a0)), some (vr (some a1)), some (vr (some a2)), some (vr (some a3)), some (vr (some a4)), some (vi (J x5)), some (vi (J x_23)), none, none]) (st2 := [vi ((J x5) + (J 1)), vr (some a0), vr (some a2)]) rfl ?_
        rw [show ((J x5) + (J 1)) = J (x5 + 1) from J_add' rfl rfl]
        refine R_ziald (i := x5 + 1) rfl (Or.inr t1) t_19 ?_
        refine R_zif0 (x := ai h_22 a0 (x5 + 1)) rfl (ai_in _ _ _) (fun c_26 => ?_) (fun c_26 => ?_)
        · have k := k.1 c_26
          refine R_ps 1 (pc2 := 269) (L2 := [some (vr (some a0)), some (vr (some a1)), some (vr (some a2)), some (vr (some a3)), some (vr (some a4)), some (vi (J x5)), some (vi (J x_23)), none, none]) (st2 := [vi (J 0), vr (some a2)]) rfl ?_
          refine R_zcI (as := [vr (some a2), vi (J 0)]) rfl rfl ⟨Nat.le_of_ble_eq_true rfl, Nat.le_of_ble_eq_true rfl, rfl, (Or.inr ⟨_, rfl, t3⟩)⟩ rfl rfl k (fun x_29 h_28 r_30 k => ?_)
          refine R_ps 2 (pc2 := 275) (L2 := [some (vr (some a0)), some (vr (some a1)), some (vr (some a2)), some (vr (some a3)), some (vr (some a4)), some (vi (J x5)), some (vi (J x_23)), some (vi (J x_29)), none]) (st2 := [vr (some a2)]) rfl ?_
          refine R_zcI (as := [vr (some a2)]) rfl rfl ⟨Nat.le_of_ble_eq_true rfl, Nat.le_of_ble_eq_true rfl, rfl, (Or.inr ⟨_, rfl, t3⟩)⟩ rfl rfl k (fun x_33 h_32 r_34 k => ?_)
          refine R_ps 1 (pc2 := 280) (L2 := [some (vr (some a0)), some (vr (some a1)), some (vr (some a2)), some (vr (some a3)), some (vr (some a4)), some (vi (J x5)), some (vi (J x_23)), some (vi (J x_29)), none]) (st2 := [vi (J x_23), vi (J x_33)]) rfl ?_
          refine R_zif (x := x_33) (z := x_23) rfl r_34 r_24 (fun c_35 => ?_) (fun c_35 => ?_)
          · have k := k.1 c_35
            refine R_ps 1 (pc2 := 287) (L2 := [some (vr (some a0)), some (vr (some a1)), some (vr (some a2)), some (vr (some a3)), some (vr (some a4)), some (vi (J x5)), some (vi (J x_23)), some (vi (J x_29)), none]) (st2 := [vi (J x_23)]) rfl ?_
            refine R_zif0 (x := x_23) rfl r_24 (fun c_36 => ?_) (fun c_36 => ?_)
            · have k := k.2 c_36
              refine R_ps 3 (pc2 := 28) (L2 := [some (vr (some a0)), some (vr (some a1)), some (vr (some a2)), some (vr (some a3)), some (vr (some a4)), some (vi ((J x5) + J 5)), some (vi (J x_23)), some (vi (J x_29)), none]) (st2 := []) rfl ?_
              rw [show ((J x5) + J 5) = J (x5 + 5) from J_add' rfl rfl]
              exact R_drop k (LE_of (L := [some (vr (some a0)), some (vr (some a1)), some (vr (some a2)), some (vr (some a3)), some (vr (some a4)), some (vi (J (x5 + 5))), none, none, none]) (L2 := [some (vr (some a0)), some (vr (some a1)), some (vr (some a2)), some (vr (some a3)), some (vr (some a4)), some (vi (J (x5 + 5))), some (vi (J x_23)), some (vi (J x_29)), none]) ⟨rfl, rfl, rfl, rfl, rfl, rfl, trivial⟩)
            · have k := k.1 (Classical.not_not.mp c_36)
              refine R_ps 2 (pc2 := 292) (L2 := [some (vr (some a0)), some (vr (some a1)), some (vr (some a2)), some (vr (some a3)), some (vr (some a4)), some (vi (J x5)), some (vi (J x_23)), some (vi (J x_29)), none]) (st2 := [vi (J 0), vr (some a3)]) rfl ?_
              obtain ⟨t_38, k⟩ := k
              refine R_zlald (i := 0) rfl t4 t_38 ?_
              refine R_ps 3 (pc2 := 297) (L2 := [some (vr (some a0)), some (vr (some a1)), some (vr (some a2)), some (vr (some a3)), some (vr (some a4)), some (vi (J x5)), some (vi (J x_23)), some (vi (J x_29)), none]) (st2 := [vi (lg_cmp (gl h_32 a3 (Int.toNat 0)) ((J x_29).toInt64))]) rfl ?_
              rw [show (lg_cmp (gl h_32 a3 (Int.toNat 0)) ((J x_29).toInt64)) = J (zlc (gl h_32 a3 (Int.toNat 0)) ((J x_29).toInt64)) from J_lc']
              refine R_zif0 (x := zlc (gl h_32 a3 (Int.toNat 0)) ((J x_29).toInt64)) rfl (zlc_in _ _) (fun c_39 => ?_) (fun c_39 => ?_)
              · have k := k.1 c_39
                refine R_ps 3 (pc2 := 28) (L2 := [some (vr (some a0)), some (vr (some a1)), some (vr (some a2)), some (vr (some a3)), some (vr (some a4)), some (vi ((J x5) + J 5)), some (vi (J x_23)), some (vi (J x_29)), none]) (st2 := []) rfl ?_
                rw [show ((J x5) + J 5) = J (x5 + 5) from J_add' rfl rfl]
                exact R_drop k (LE_of (L := [some (vr (some a0)), some (vr (some a1)), some (vr (some a2)), some (vr (some a3)), some (vr (some a4)), some (vi (J (x5 + 5))), none, none, none]) (L2 := [some (vr (some a0)), some (vr (some a1)), some (vr (some a2)), some (vr (some a3)), some (vr (some a4)), some (vi (J (x5 + 5))), some (vi (J x_23)), some (vi (J x_29)), none]) ⟨rfl, rfl, rfl, rfl, rfl, rfl, trivial⟩)
              · have k := k.2 c_39
                refine R_ps 1 (pc2 := 301) (L2 := [some (vr (some a0)), some (vr (some a1)), some (vr (some a2)), some (vr (some a3)), some (vr (some a4)), some (vi (J x5)), some (vi (J x_23)), some (vi (J x_29)), none]) (st2 := [vi (J 0)]) rfl ?_
                exact R_zzret (x := 0) rfl rfl (Or.inl rfl) (R_zr (x := 0) (K := K) (by decide) k)
          · have k := k.2 c_35
            refine R_ps 1 (pc2 := 284) (L2 := [some (vr (some a0)), some (vr (some a1)), some (vr (some a2)), some (vr (some a3)), some (vr (some a4)), some (vi (J x5)), some (vi (J x_23)), some (vi (J x_29)), none]) (st2 := [vi (J 0)]) rfl ?_
            exact R_zzret (x := 0) rfl rfl (Or.inl rfl) (R_zr (x := 0) (K := K) (by decide) k)
        · have k := k.2 c_26
          refine R_ps 2 (pc2 := 269) (L2 := [some (vr (some a0)), some (vr (some a1)), some (vr (some a2)), some (vr (some a3)), some (vr (some a4)), some (vi (J x5)), some (vi (J x_23)), none, none]) (st2 := [vi (J 1), vr (some a2)]) rfl ?_
          refine R_zcI (as := [vr (some a2), vi (J 1)]) rfl rfl ⟨Nat.le_of_ble_eq_true rfl, Nat.le_of_ble_eq_true rfl, rfl, (Or.inr ⟨_, rfl, t3⟩)⟩ rfl rfl k (fun x_44 h_43 r_45 k => ?_)
          refine R_ps 2 (pc2 := 275) (L2 := [some (vr (some a0)), some (vr (some a1)), some (vr (some a2)), some (vr (some a3)), some (vr (some a4)), some (vi (J x5)), some (vi (J x_23)), some (vi (J x_44)), none]) (st2 := [vr (some a2)]) rfl ?_
          refine R_zcI (as := [vr (some a2)]) rfl rfl ⟨Nat.le_of_ble_eq_true rfl, Nat.le_of_ble_eq_true rfl, rfl, (Or.inr ⟨_, rfl, t3⟩)⟩ rfl rfl k (fun x_48 h_47 r_49 k => ?_)
          refine R_ps 1 (pc2 := 280) (L2 := [some (vr (some a0)), some (vr (some a1)), some (vr (some a2)), some (vr (some a3)), some (vr (some a4)), some (vi (J x5)), some (vi (J x_23)), some (vi (J x_44)), none]) (st2 := [vi (J x_23), vi (J x_48)]) rfl ?_
          refine R_zif (x := x_48) (z := x_23) rfl r_49 r_24 (fun c_50 => ?_) (fun c_50 => ?_)
          · have k := k.1 c_50
            refine R_ps 1 (pc2 := 287) (L2 := [some (vr (some a0)), some (vr (some a1)), some (vr (some a2)), some (vr (some a3)), some (vr (some a4)), some (vi (J x5)), some (vi (J x_23)), some (vi (J x_44)), none]) (st2 := [vi (J x_23)]) rfl ?_
            refine R_zif0 (x := x_23) rfl r_24 (fun c_51 => ?_) (fun c_51 => ?_)
            · have k := k.2 c_51
              refine R_ps 3 (pc2 := 28) (L2 := [some (vr (some a0)), some (vr (some a1)), some (vr (some a2)), some (vr (some a3)), some (vr (some a4)), some (vi ((J x5) + J 5)), some (vi (J x_23)), some (vi (J x_44)), none]) (st2 := []) rfl ?_
              rw [show ((J x5) + J 5) = J (x5 + 5) from J_add' rfl rfl]
              exact R_drop k (LE_of (L := [some (vr (some a0)), some (vr (some a1)), some (vr (some a2)), some (vr (some a3)), some (vr (some a4)), some (vi (J (x5 + 5))), none, none, none]) (L2 := [some (vr (some a0)), some (vr (some a1)), some (vr (some a2)), some (vr (some a3)), some (vr (some a4)), some (vi (J (x5 + 5))), some (vi (J x_23)), some (vi (J x_44)), none]) ⟨rfl, rfl, rfl, rfl, rfl, rfl, trivial⟩)
            · have k := k.1 (Classical.not_not.mp c_51)
              refine R_ps 2 (pc2 := 292) (L2 := [some (vr (some a0)), some (vr (some a1)), some (vr (some a2)), some (vr (some a3)), some (vr (some a4)), some (vi (J x5)), some (vi (J x_23)), some (vi (J x_44)), none]) (st2 := [vi (J 0), vr (some a3)]) rfl ?_
              obtain ⟨t_53, k⟩ := k
              refine R_zlald (i := 0) rfl t4 t_53 ?_
              refine R_ps 3 (pc2 := 297) (L2 := [some (vr (some a0)), some (vr (some a1)), some (vr (some a2)), some (vr (some a3)), some (vr (some a4)), some (vi (J x5)), some (vi (J x_23)), some (vi (J x_44)), none]) (st2 := [vi (lg_cmp (gl h_47 a3 (Int.toNat 0)) ((J x_44).toInt64))]) rfl ?_
              rw [show (lg_cmp (gl h_47 a3 (Int.toNat 0)) ((J x_44).toInt64)) = J (zlc (gl h_47 a3 (Int.toNat 0)) ((J x_44).toInt64)) from J_lc']
              refine R_zif0 (x := zlc (gl h_47 a3 (Int.toNat 0)) ((J x_44).toInt64)) rfl (zlc_in _ _) (fun c_54 => ?_) (fun c_54 => ?_)
              · have k := k.1 c_54
                refine R_ps 3 (pc2 := 28) (L2 := [some (vr (some a0)), some (vr (some a1)), some (vr (some a2)), some (vr (some a3)), some (vr (some a4)), some (vi ((J x5) + J 5)), some (vi (J x_23)), some (vi (J x_44)), none]) (st2 := []) rfl ?_
                rw [show ((J x5) + J 5) = J (x5 + 5) from J_add' rfl rfl]
                exact R_drop k (LE_of (L := [some (vr (some a0)), some (vr (some a1)), some (vr (some a2)), some (vr (some a3)), some (vr (some a4)), some (vi (J (x5 + 5))), none, none, none]) (L2 := [some (vr (some a0)), some (vr (some a1)), some (vr (some a2)), some (vr (some a3)), some (vr (some a4)), some (vi (J (x5 + 5))), some (vi (J x_23)), some (vi (J x_44)), none]) ⟨rfl, rfl, rfl, rfl, rfl, rfl, trivial⟩)
              · have k := k.2 c_54
                refine R_ps 1 (pc2 := 301) (L2 := [some (vr (some a0)), some (vr (some a1)), some (vr (some a2)), some (vr (some a3)), some (vr (some a4)), some (vi (J x5)), some (vi (J x_23)), some (vi (J x_44)), none]) (st2 := [vi (J 0)]) rfl ?_
                exact R_zzret (x := 0) rfl rfl (Or.inl rfl) (R_zr (x := 0) (K := K) (by decide) k)
          · have k := k.2 c_50
            refine R_ps 1 (pc2 := 284) (L2 := [some (vr (some a0)), some (vr (some a1)), some (vr (some a2)), some (vr (some a3)), some (vr (some a4)), some (vi (J x5)), some (vi (J x_23)), some (vi (J x_44)), none]) (st2 := [vi (J 0)]) rfl ?_
            exact R_zzret (x := 0) rfl rfl (Or.inl rfl) (R_zr (x := 0) (K := K) (by decide) k)
      · have k := k.2 c_20
        refine R_ps 3 (pc2 := 249) (L2 := [some (vr (some a0)), some (vr (some a1)), some (vr (some a2)), some (vr (some a3)), some (vr (some a4)), some (vi (J x5)), none, none, none]) (st2 := [vr (some a3), vi (J 1), vr (some a1)]) rfl ?_
        refine R_zcI (as := [vr (some a1), vi (J 1), vr (some a3)]) rfl rfl ⟨Nat.le_of_ble_eq_true rfl, Nat.le_of_ble_eq_true rfl, rfl, (Or.inl rfl)⟩ rfl rfl k (fun x_59 h_58 r_60 k => ?_)
        refine R_ps 6 (pc2 := 260) (L2 := [some (vr (some a0)), some (vr (some a1)), some (vr (some a2)), some (vr (some a3)), some (vr (some a4)), some (vi (J x5)), some (vi (J x_59)), none, none]) (st2 := [vi ((J x5) + (J 1)), vr (some a0), vr (some a2)]) rfl ?_
        rw [show ((J x5) + (J 1)) = J (x5 + 1) from J_add' rfl rfl]
        refine R_ziald (i := x5 + 1) rfl (Or.inr t1) t_19 ?_
        refine R_zif0 (x := ai h_58 a0 (x5 + 1)) rfl (ai_in _ _ _) (fun c_62 => ?_) (fun c_62 => ?_)
        · have k := k.1 c_62
          refine R_ps 1 (pc2 := 269) (L2 := [some (vr (some a0)), some (vr (some a1)), some (vr (some a2)), some (vr (some a3)), some (vr (some a4)), some (vi (J x5)), some (vi (J x_59)), none, none]) (st2 := [vi (J 0), vr (some a2)]) rfl ?_
          refine R_zcI (as := [vr (some a2), vi (J 0)]) rfl rfl ⟨Nat.le_of_ble_eq_true rfl, Nat.le_of_ble_eq_true rfl, rfl, (Or.inr ⟨_, rfl, t3⟩)⟩ rfl rfl k (fun x_65 h_64 r_66 k => ?_)
          refine R_ps 2 (pc2 := 275) (L2 := [some (vr (some a0)), some (vr (some a1)), some (vr (some a2)), some (vr (some a3)), some (vr (some a4)), some (vi (J x5)), some (vi (J x_59)), some (vi (J x_65)), none]) (st2 := [vr (some a2)]) rfl ?_
          refine R_zcI (as := [vr (some a2)]) rfl rfl ⟨Nat.le_of_ble_eq_true rfl, Nat.le_of_ble_eq_true rfl, rfl, (Or.inr ⟨_, rfl, t3⟩)⟩ rfl rfl k (fun x_69 h_68 r_70 k => ?_)
          refine R_ps 1 (pc2 := 280) (L2 := [some (vr (some a0)), some (vr (some a1)), some (vr (some a2)), some (vr (some a3)), some (vr (some a4)), some (vi (J x5)), some (vi (J x_59)), some (vi (J x_65)), none]) (st2 := [vi (J x_59), vi (J x_69)]) rfl ?_
          refine R_zif (x := x_69) (z := x_59) rfl r_70 r_60 (fun c_71 => ?_) (fun c_71 => ?_)
          · have k := k.1 c_71
            refine R_ps 1 (pc2 := 287) (L2 := [some (vr (some a0)), some (vr (some a1)), some (vr (some a2)), some (vr (some a3)), some (vr (some a4)), some (vi (J x5)), some (vi (J x_59)), some (vi (J x_65)), none]) (st2 := [vi (J x_59)]) rfl ?_
            refine R_zif0 (x := x_59) rfl r_60 (fun c_72 => ?_) (fun c_72 => ?_)
            · have k := k.2 c_72
              refine R_ps 3 (pc2 := 28) (L2 := [some (vr (some a0)), some (vr (some a1)), some (vr (some a2)), some (vr (some a3)), some (vr (some a4)), some (vi ((J x5) + J 5)), some (vi (J x_59)), some (vi (J x_65)), none]) (st2 := []) rfl ?_
              rw [show ((J x5) + J 5) = J (x5 + 5) from J_add' rfl rfl]
              exact R_drop k (LE_of (L := [some (vr (some a0)), some (vr (some a1)), some (vr (some a2)), some (vr (some a3)), some (vr (some a4)), some (vi (J (x5 + 5))), none, none, none]) (L2 := [some (vr (some a0)), some (vr (some a1)), some (vr (some a2)), some (vr (some a3)), some (vr (some a4)), some (vi (J (x5 + 5))), some (vi (J x_59)), some (vi (J x_65)), none]) ⟨rfl, rfl, rfl, rfl, rfl, rfl, trivial⟩)
            · have k := k.1 (Classical.not_not.mp c_72)
              refine R_ps 2 (pc2 := 292) (L2 := [some (vr (some a0)), some (vr (some a1)), some (vr (some a2)), some (vr (some a3)), some (vr (some a4)), some (vi (J x5)), some (vi (J x_59)), some (vi (J x_65)), none]) (st2 := [vi (J 0), vr (some a3)]) rfl ?_
              obtain ⟨t_74, k⟩ := k
              refine R_zlald (i := 0) rfl t4 t_74 ?_
              refine R_ps 3 (pc2 := 297) (L2 := [some (vr (some a0)), some (vr (some a1)), some (vr (some a2)), some (vr (some a3)), some (vr (some a4)), some (vi (J x5)), some (vi (J x_59)), some (vi (J x_65)), none]) (st2 := [vi (lg_cmp (gl h_68 a3 (Int.toNat 0)) ((J x_65).toInt64))]) rfl ?_
              rw [show (lg_cmp (gl h_68 a3 (Int.toNat 0)) ((J x_65).toInt64)) = J (zlc (gl h_68 a3 (Int.toNat 0)) ((J x_65).toInt64)) from J_lc']
              refine R_zif0 (x := zlc (gl h_68 a3 (Int.toNat 0)) ((J x_65).toInt64)) rfl (zlc_in _ _) (fun c_75 => ?_) (fun c_75 => ?_)
              · have k := k.1 c_75
                refine R_ps 3 (pc2 := 28) (L2 := [some (vr (some a0)), some (vr (some a1)), some (vr (some a2)), some (vr (some a3)), some (vr (some a4)), some (vi ((J x5) + J 5)), some (vi (J x_59)), some (vi (J x_65)), none]) (st2 := []) rfl ?_
                rw [show ((J x5) + J 5) = J (x5 + 5) from J_add' rfl rfl]
                exact R_drop k (LE_of (L := [some (vr (some a0)), some (vr (some a1)), some (vr (some a2)), some (vr (some a3)), some (vr (some a4)), some (vi (J (x5 + 5))), none, none, none]) (L2 := [some (vr (some a0)), some (vr (some a1)), some (vr (some a2)), some (vr (some a3)), some (vr (some a4)), some (vi (J (x5 + 5))), some (vi (J x_59)), some (vi (J x_65)), none]) ⟨rfl, rfl, rfl, rfl, rfl, rfl, trivial⟩)
              · have k := k.2 c_75
                refine R_ps 1 (pc2 := 301) (L2 := [some (vr (some a0)), some (vr (some a1)), some (vr (some a2)), some (vr (some a3)), some (vr (some a4)), some (vi (J x5)), some (vi (J x_59)), some (vi (J x_65)), none]) (st2 := [vi (J 0)]) rfl ?_
                exact R_zzret (x := 0) rfl rfl (Or.inl rfl) (R_zr (x := 0) (K := K) (by decide) k)
          · have k := k.2 c_71
            refine R_ps 1 (pc2 := 284) (L2 := [some (vr (some a0)), some (vr (some a1)), some (vr (some a2)), some (vr (some a3)), some (vr (some a4)), some (vi (J x5)), some (vi (J x_59)), some (vi (J x_65)), none]) (st2 := [vi (J 0)]) rfl ?_
            exact R_zzret (x := 0) rfl rfl (Or.inl rfl) (R_zr (x := 0) (K := K) (by decide) k)
        · have k := k.2 c_62
          refine R_ps 2 (pc2 := 269) (L2 := [some (vr (some a0)), some (vr (some a1)), some (vr (some a2)), some (vr (some a3)), some (vr (some a4)), some (vi (J x5)), some (vi (J x_59)), none, none]) (st2 := [vi (J 1), vr (some a2)]) rfl ?_
          refine R_zcI (as := [vr (some a2), vi (J 1)]) rfl rfl ⟨Nat.le_of_ble_eq_true rfl, Nat.le_of_ble_eq_true rfl, rfl, (Or.inr ⟨_, rfl, t3⟩)⟩ rfl rfl k (fun x_80 h_79 r_81 k => ?_)
          refine R_ps 2 (pc2 := 275) (L2 := [some (vr (some a0)), some (vr (some a1)), some (vr (some a2)), some (vr (some a3)), some (vr (some a4)), some (vi (J x5)), some (vi (J x_59)), some (vi (J x_80)), none]) (st2 := [vr (some a2)]) rfl ?_
          refine R_zcI (as := [vr (some a2)]) rfl rfl ⟨Nat.le_of_ble_eq_true rfl, Nat.le_of_ble_eq_true rfl, rfl, (Or.inr ⟨_, rfl, t3⟩)⟩ rfl rfl k (fun x_84 h_83 r_85 k => ?_)
          refine R_ps 1 (pc2 := 280) (L2 := [some (vr (some a0)), some (vr (some a1)), some (vr (some a2)), some (vr (some a3)), some (vr (some a4)), some (vi (J x5)), some (vi (J x_59)), some (vi (J x_80)), none]) (st2 := [vi (J x_59), vi (J x_84)]) rfl ?_
          refine R_zif (x := x_84) (z := x_59) rfl r_85 r_60 (fun c_86 => ?_) (fun c_86 => ?_)
          · have k := k.1 c_86
            refine R_ps 1 (pc2 := 287) (L2 := [some (vr (some a0)), some (vr (some a1)), some (vr (some a2)), some (vr (some a3)), some (vr (some a4)), some (vi (J x5)), some (vi (J x_59)), some (vi (J x_80)), none]) (st2 := [vi (J x_59)]) rfl ?_
            refine R_zif0 (x := x_59) rfl r_60 (fun c_87 => ?_) (fun c_87 => ?_)
            · have k := k.2 c_87
              refine R_ps 3 (pc2 := 28) (L2 := [some (vr (some a0)), some (vr (some a1)), some (vr (some a2)), some (vr (some a3)), some (vr (some a4)), some (vi ((J x5) + J 5)), some (vi (J x_59)), some (vi (J x_80)), none]) (st2 := []) rfl ?_
              rw [show ((J x5) + J 5) = J (x5 + 5) from J_add' rfl rfl]
              exact R_drop k (LE_of (L := [some (vr (some a0)), some (vr (some a1)), some (vr (some a2)), some (vr (some a3)), some (vr (some a4)), some (vi (J (x5 + 5))), none, none, none]) (L2 := [some (vr (some a0)), some (vr (some a1)), some (vr (some a2)), some (vr (some a3)), some (vr (some a4)), some (vi (J (x5 + 5))), some (vi (J x_59)), some (vi (J x_80)), none]) ⟨rfl, rfl, rfl, rfl, rfl, rfl, trivial⟩)
            · have k := k.1 (Classical.not_not.mp c_87)
              refine R_ps 2 (pc2 := 292) (L2 := [some (vr (some a0)), some (vr (some a1)), some (vr (some a2)), some (vr (some a3)), some (vr (some a4)), some (vi (J x5)), some (vi (J x_59)), some (vi (J x_80)), none]) (st2 := [vi (J 0), vr (some a3)]) rfl ?_
              obtain ⟨t_89, k⟩ := k
              refine R_zlald (i := 0) rfl t4 t_89 ?_
              refine R_ps 3 (pc2 := 297) (L2 := [some (vr (some a0)), some (vr (some a1)), some (vr (some a2)), some (vr (some a3)), some (vr (some a4)), some (vi (J x5)), some (vi (J x_59)), some (vi (J x_80)), none]) (st2 := [vi (lg_cmp (gl h_83 a3 (Int.toNat 0)) ((J x_80).toInt64))]) rfl ?_
              rw [show (lg_cmp (gl h_83 a3 (Int.toNat 0)) ((J x_80).toInt64)) = J (zlc (gl h_83 a3 (Int.toNat 0)) ((J x_80).toInt64)) from J_lc']
              refine R_zif0 (x := zlc (gl h_83 a3 (Int.toNat 0)) ((J x_80).toInt64)) rfl (zlc_in _ _) (fun c_90 => ?_) (fun c_90 => ?_)
              · have k := k.1 c_90
                refine R_ps 3 (pc2 := 28) (L2 := [some (vr (some a0)), some (vr (some a1)), some (vr (some a2)), some (vr (some a3)), some (vr (some a4)), some (vi ((J x5) + J 5)), some (vi (J x_59)), some (vi (J x_80)), none]) (st2 := []) rfl ?_
                rw [show ((J x5) + J 5) = J (x5 + 5) from J_add' rfl rfl]
                exact R_drop k (LE_of (L := [some (vr (some a0)), some (vr (some a1)), some (vr (some a2)), some (vr (some a3)), some (vr (some a4)), some (vi (J (x5 + 5))), none, none, none]) (L2 := [some (vr (some a0)), some (vr (some a1)), some (vr (some a2)), some (vr (some a3)), some (vr (some a4)), some (vi (J (x5 + 5))), some (vi (J x_59)), some (vi (J x_80)), none]) ⟨rfl, rfl, rfl, rfl, rfl, rfl, trivial⟩)
              · have k := k.2 c_90
                refine R_ps 1 (pc2 := 301) (L2 := [some (vr (some a0)), some (vr (some a1)), some (vr (some a2)), some (vr (some a3)), some (vr (some a4)), some (vi (J x5)), some (vi (J x_59)), some (vi (J x_80)), none]) (st2 := [vi (J 0)]) rfl ?_
                exact R_zzret (x := 0) rfl rfl (Or.inl rfl) (R_zr (x := 0) (K := K) (by decide) k)
          · have k := k.2 c_86
            refine R_ps 1 (pc2 := 284) (L2 := [some (vr (some a0)), some (vr (some a1)), some (vr (some a2)), some (vr (some a3)), some (vr (some a4)), some (vi (J x5)), some (vi (J x_59)), some (vi (J x_80)), none]) (st2 := [vi (J 0)]) rfl ?_
            exact R_zzret (x := 0) rfl rfl (Or.inl rfl) (R_zr (x := 0) (K := K) (by decide) k)
    replace k := k.2 c_7
    refine ⟨fun c_7 => ?_, fun c_7 => ?_⟩
    · have k := k.1 c_7
      show WP T N _ 305 _ _ _ _
      refine R_ps 5 (pc2 := 311) (L2 := [some (vr (some a0)), some (vr (some a1)), some (vr (some a2)), some (vr (some a3)), some (vr (some a4)), some (vi (J x5)), none, none, none]) (st2 := [vi ((J x5) + (J 1)), vr (some a0), vr (some a1)]) rfl ?_
      rw [show ((J x5) + (J 1)) = J (x5 + 1) from J_add' rfl rfl]
      obtain ⟨t_94, k⟩ := k
      refine R_ziald (i := x5 + 1) rfl (Or.inr t1) t_94 ?_
      refine R_ps 4 (pc2 := 317) (L2 := [some (vr (some a0)), some (vr (some a1)), some (vr (some a2)), some (vr (some a3)), some (vr (some a4)), some (vi (J x5)), none, none, none]) (st2 := [vi ((J x5) + (J 2)), vr (some a0), vi (J (ai h a0 (x5 + 1))), vr (some a1)]) rfl ?_
      rw [show ((J x5) + (J 2)) = J (x5 + 2) from J_add' rfl rfl]
      obtain ⟨t_96, k⟩ := k
      refine R_ziald (i := x5 + 2) rfl (Or.inr t1) t_96 ?_
      refine R_ps 4 (pc2 := 323) (L2 := [some (vr (some a0)), some (vr (some a1)), some (vr (some a2)), some (vr (some a3)), some (vr (some a4)), some (vi (J x5)), none, none, none]) (st2 := [vi ((J x5) + (J 3)), vr (some a0), vi (J (ai h a0 (x5 + 2))), vi (J (ai h a0 (x5 + 1))), vr (some a1)]) rfl ?_
      rw [show ((J x5) + (J 3)) = J (x5 + 3) from J_add' rfl rfl]
      obtain ⟨t_98, k⟩ := k
      refine R_ziald (i := x5 + 3) rfl (Or.inr t1) t_98 ?_
      refine R_ps 4 (pc2 := 329) (L2 := [some (vr (some a0)), some (vr (some a1)), some (vr (some a2)), some (vr (some a3)), some (vr (some a4)), some (vi (J x5)), none, none, none]) (st2 := [vi ((J x5) + (J 4)), vr (some a0), vi (J (ai h a0 (x5 + 3))), vi (J (ai h a0 (x5 + 2))), vi (J (ai h a0 (x5 + 1))), vr (some a1)]) rfl ?_
      rw [show ((J x5) + (J 4)) = J (x5 + 4) from J_add' rfl rfl]
      obtain ⟨t_100, k⟩ := k
      refine R_ziald (i := x5 + 4) rfl (Or.inr t1) t_100 ?_
      refine R_ps 1 (pc2 := 331) (L2 := [some (vr (some a0)), some (vr (some a1)), some (vr (some a2)), some (vr (some a3)), some (vr (some a4)), some (vi (J x5)), none, none, none]) (st2 := [vr (some a3), vi (J (ai h a0 (x5 + 4))), vi (J (ai h a0 (x5 + 3))), vi (J (ai h a0 (x5 + 2))), vi (J (ai h a0 (x5 + 1))), vr (some a1)]) rfl ?_
      refine R_zcI (as := [vr (some a1), vi (J (ai h a0 (x5 + 1))), vi (J (ai h a0 (x5 + 2))), vi (J (ai h a0 (x5 + 3))), vi (J (ai h a0 (x5 + 4))), vr (some a3)]) rfl rfl ⟨Nat.le_of_ble_eq_true rfl, Nat.le_of_ble_eq_true rfl, rfl, (Or.inl rfl)⟩ rfl rfl k (fun x_103 h_102 r_104 k => ?_)
      refine R_ps 6 (pc2 := 342) (L2 := [some (vr (some a0)), some (vr (some a1)), some (vr (some a2)), some (vr (some a3)), some (vr (some a4)), some (vi (J x5)), some (vi (J x_103)), none, none]) (st2 := [vi ((J x5) + (J 1)), vr (some a0), vr (some a2)]) rfl ?_
      rw [show ((J x5) + (J 1)) = J (x5 + 1) from J_add' rfl rfl]
      refine R_ziald (i := x5 + 1) rfl (Or.inr t1) t_94 ?_
      refine R_ps 4 (pc2 := 348) (L2 := [some (vr (some a0)), some (vr (some a1)), some (vr (some a2)), some (vr (some a3)), some (vr (some a4)), some (vi (J x5)), some (vi (J x_103)), none, none]) (st2 := [vi ((J x5) + (J 2)), vr (some a0), vi (J (ai h_102 a0 (x5 + 1))), vr (some a2)]) rfl ?_
      rw [show ((J x5) + (J 2)) = J (x5 + 2) from J_add' rfl rfl]
      refine R_ziald (i := x5 + 2) rfl (Or.inr t1) t_96 ?_
      refine R_ps 4 (pc2 := 354) (L2 := [some (vr (some a0)), some (vr (some a1)), some (vr (some a2)), some (vr (some a3)), some (vr (some a4)), some (vi (J x5)), some (vi (J x_103)), none, none]) (st2 := [vi ((J x5) + (J 3)), vr (some a0), vi (J (ai h_102 a0 (x5 + 2))), vi (J (ai h_102 a0 (x5 + 1))), vr (some a2)]) rfl ?_
      rw [show ((J x5) + (J 3)) = J (x5 + 3) from J_add' rfl rfl]
      refine R_ziald (i := x5 + 3) rfl (Or.inr t1) t_98 ?_
      refine R_ps 4 (pc2 := 360) (L2 := [some (vr (some a0)), some (vr (some a1)), some (vr (some a2)), some (vr (some a3)), some (vr (some a4)), some (vi (J x5)), some (vi (J x_103)), none, none]) (st2 := [vi ((J x5) + (J 4)), vr (some a0), vi (J (ai h_102 a0 (x5 + 3))), vi (J (ai h_102 a0 (x5 + 2))), vi (J (ai h_102 a0 (x5 + 1))), vr (some a2)]) rfl ?_
      rw [show ((J x5) + (J 4)) = J (x5 + 4) from J_add' rfl rfl]
      refine R_ziald (i := x5 + 4) rfl (Or.inr t1) t_100 ?_
      refine R_zcI (as := [vr (some a2), vi (J (ai h_102 a0 (x5 + 1))), vi (J (ai h_102 a0 (x5 + 2))), vi (J (ai h_102 a0 (x5 + 3))), vi (J (ai h_102 a0 (x5 + 4)))]) rfl rfl ⟨Nat.le_of_ble_eq_true rfl, Nat.le_of_ble_eq_true rfl, rfl, (Or.inr ⟨_, rfl, t3⟩)⟩ rfl rfl k (fun x_111 h_110 r_112 k => ?_)
      refine R_ps 2 (pc2 := 367) (L2 := [some (vr (some a0)), some (vr (some a1)), some (vr (some a2)), some (vr (some a3)), some (vr (some a4)), some (vi (J x5)), some (vi (J x_103)), some (vi (J x_111)), none]) (st2 := [vr (some a2)]) rfl ?_
      refine R_zcI (as := [vr (some a2)]) rfl rfl ⟨Nat.le_of_ble_eq_true rfl, Nat.le_of_ble_eq_true rfl, rfl, (Or.inr ⟨_, rfl, t3⟩)⟩ rfl rfl k (fun x_115 h_114 r_116 k => ?_)
      refine R_ps 1 (pc2 := 372) (L2 := [some (vr (some a0)), some (vr (some a1)), some (vr (some a2)), some (vr (some a3)), some (vr (some a4)), some (vi (J x5)), some (vi (J x_103)), some (vi (J x_111)), none]) (st2 := [vi (J x_103), vi (J x_115)]) rfl ?_
      refine R_zif (x := x_115) (z := x_103) rfl r_116 r_104 (fun c_117 => ?_) (fun c_117 => ?_)
      · have k := k.1 c_117
        refine R_ps 1 (pc2 := 379) (L2 := [some (vr (some a0)), some (vr (some a1)), some (vr (some a2)), some (vr (some a3)), some (vr (some a4)), some (vi (J x5)), some (vi (J x_103)), some (vi (J x_111)), none]) (st2 := [vi (J x_103)]) rfl ?_
        refine R_zif0 (x := x_103) rfl r_104 (fun c_118 => ?_) (fun c_118 => ?_)
        · have k := k.2 c_118
          refine R_ps 3 (pc2 := 28) (L2 := [some (vr (some a0)), some (vr (some a1)), some (vr (some a2)), some (vr (some a3)), some (vr (some a4)), some (vi ((J x5) + J 5)), some (vi (J x_103)), some (vi (J x_111)), none]) (st2 := []) rfl ?_
          rw [show ((J x5) + J 5) = J (x5 + 5) from J_add' rfl rfl]
          exact R_drop k (LE_of (L := [some (vr (some a0)), some (vr (some a1)), some (vr (some a2)), some (vr (some a3)), some (vr (some a4)), some (vi (J (x5 + 5))), none, none, none]) (L2 := [some (vr (some a0)), some (vr (some a1)), some (vr (some a2)), some (vr (some a3)), some (vr (some a4)), some (vi (J (x5 + 5))), some (vi (J x_103)), some (vi (J x_111)), none]) ⟨rfl, rfl, rfl, rfl, rfl, rfl, trivial⟩)
        · have k := k.1 (Classical.not_not.mp c_118)
          refine R_ps 2 (pc2 := 384) (L2 := [some (vr (some a0)), some (vr (some a1)), some (vr (some a2)), some (vr (some a3)), some (vr (some a4)), some (vi (J x5)), some (vi (J x_103)), some (vi (J x_111)), none]) (st2 := [vi (J 0), vr (some a3)]) rfl ?_
          obtain ⟨t_120, k⟩ := k
          refine R_zlald (i := 0) rfl t4 t_120 ?_
          refine R_ps 3 (pc2 := 389) (L2 := [some (vr (some a0)), some (vr (some a1)), some (vr (some a2)), some (vr (some a3)), some (vr (some a4)), some (vi (J x5)), some (vi (J x_103)), some (vi (J x_111)), none]) (st2 := [vi (lg_cmp (gl h_114 a3 (Int.toNat 0)) ((J x_111).toInt64))]) rfl ?_
          rw [show (lg_cmp (gl h_114 a3 (Int.toNat 0)) ((J x_111).toInt64)) = J (zlc (gl h_114 a3 (Int.toNat 0)) ((J x_111).toInt64)) from J_lc']
          refine R_zif0 (x := zlc (gl h_114 a3 (Int.toNat 0)) ((J x_111).toInt64)) rfl (zlc_in _ _) (fun c_121 => ?_) (fun c_121 => ?_)
          · have k := k.1 c_121
            refine R_ps 3 (pc2 := 28) (L2 := [some (vr (some a0)), some (vr (some a1)), some (vr (some a2)), some (vr (some a3)), some (vr (some a4)), some (vi ((J x5) + J 5)), some (vi (J x_103)), some (vi (J x_111)), none]) (st2 := []) rfl ?_
            rw [show ((J x5) + J 5) = J (x5 + 5) from J_add' rfl rfl]
            exact R_drop k (LE_of (L := [some (vr (some a0)), some (vr (some a1)), some (vr (some a2)), some (vr (some a3)), some (vr (some a4)), some (vi (J (x5 + 5))), none, none, none]) (L2 := [some (vr (some a0)), some (vr (some a1)), some (vr (some a2)), some (vr (some a3)), some (vr (some a4)), some (vi (J (x5 + 5))), some (vi (J x_103)), some (vi (J x_111)), none]) ⟨rfl, rfl, rfl, rfl, rfl, rfl, trivial⟩)
          · have k := k.2 c_121
            refine R_ps 1 (pc2 := 393) (L2 := [some (vr (some a0)), some (vr (some a1)), some (vr (some a2)), some (vr (some a3)), some (vr (some a4)), some (vi (J x5)), some (vi (J x_103)), some (vi (J x_111)), none]) (st2 := [vi (J 0)]) rfl ?_
            exact R_zzret (x := 0) rfl rfl (Or.inl rfl) (R_zr (x := 0) (K := K) (by decide) k)
      · have k := k.2 c_117
        refine R_ps 1 (pc2 := 376) (L2 := [some (vr (some a0)), some (vr (some a1)), some (vr (some a2)), some (vr (some a3)), some (vr (some a4)), some (vi (J x5)), some (vi (J x_103)), some (vi (J x_111)), none]) (st2 := [vi (J 0)]) rfl ?_
        exact R_zzret (x := 0) rfl rfl (Or.inl rfl) (R_zr (x := 0) (K := K) (by decide) k)
    replace k := k.2 c_7
    refine ⟨fun c_7 => ?_, fun c_7 => ?_⟩
    · have k := k.1 c_7
      show WP T N _ 397 _ _ _ _
      refine R_ps 5 (pc2 := 403) (L2 := [some (vr (some a0)), some (vr (some a1)), some (vr (some a2)), some (vr (some a3)), some (vr (some a4)), some (vi (J x5)), none, none, none]) (st2 := [vi ((J x5) + (J 1)), vr (some a0), vr (some a1)]) rfl ?_
      rw [show ((J x5) + (J 1)) = J (x5 + 1) from J_add' rfl rfl]
      obtain ⟨t_125, k⟩ := k
      refine R_ziald (i := x5 + 1) rfl (Or.inr t1) t_125 ?_
      refine R_ps 4 (pc2 := 409) (L2 := [some (vr (some a0)), some (vr (some a1)), some (vr (some a2)), some (vr (some a3)), some (vr (some a4)), some (vi (J x5)), none, none, none]) (st2 := [vi ((J x5) + (J 2)), vr (some a0), vi (J (ai h a0 (x5 + 1))), vr (some a1)]) rfl ?_
      rw [show ((J x5) + (J 2)) = J (x5 + 2) from J_add' rfl rfl]
      obtain ⟨t_127, k⟩ := k
      refine R_ziald (i := x5 + 2) rfl (Or.inr t1) t_127 ?_
      refine R_ps 1 (pc2 := 411) (L2 := [some (vr (some a0)), some (vr (some a1)), some (vr (some a2)), some (vr (some a3)), some (vr (some a4)), some (vi (J x5)), none, none, none]) (st2 := [vr (some a3), vi (J (ai h a0 (x5 + 2))), vi (J (ai h a0 (x5 + 1))), vr (some a1)]) rfl ?_
      refine R_zcI (as := [vr (some a1), vi (J (ai h a0 (x5 + 1))), vi (J (ai h a0 (x5 + 2))), vr (some a3)]) rfl rfl ⟨Nat.le_of_ble_eq_true rfl, Nat.le_of_ble_eq_true rfl, rfl, (Or.inl rfl)⟩ rfl rfl k (fun x_130 h_129 r_131 k => ?_)
      refine R_ps 6 (pc2 := 422) (L2 := [some (vr (some a0)), some (vr (some a1)), some (vr (some a2)), some (vr (some a3)), some (vr (some a4)), some (vi (J x5)), some (vi (J x_130)), none, none]) (st2 := [vi ((J x5) + (J 1)), vr (some a0), vr (some a2)]) rfl ?_
      rw [show ((J x5) + (J 1)) = J (x5 + 1) from J_add' rfl rfl]
      refine R_ziald (i := x5 + 1) rfl (Or.inr t1) t_125 ?_
      refine R_ps 4 (pc2 := 428) (L2 := [some (vr (some a0)), some (vr (some a1)), some (vr (some a2)), some (vr (some a3)), some (vr (some a4)), some (vi (J x5)), some (vi (J x_130)), none, none]) (st2 := [vi ((J x5) + (J 2)), vr (some a0), vi (J (ai h_129 a0 (x5 + 1))), vr (some a2)]) rfl ?_
      rw [show ((J x5) + (J 2)) = J (x5 + 2) from J_add' rfl rfl]
      refine R_ziald (i := x5 + 2) rfl (Or.inr t1) t_127 ?_
      refine R_zcI (as := [vr (some a2), vi (J (ai h_129 a0 (x5 + 1))), vi (J (ai h_129 a0 (x5 + 2)))]) rfl rfl ⟨Nat.le_of_ble_eq_true rfl, Nat.le_of_ble_eq_true rfl, rfl, (Or.inr ⟨_, rfl, t3⟩)⟩ rfl rfl k (fun x_136 h_135 r_137 k => ?_)
      refine R_ps 2 (pc2 := 435) (L2 := [some (vr (some a0)), some (vr (some a1)), some (vr (some a2)), some (vr (some a3)), some (vr (some a4)), some (vi (J x5)), some (vi (J x_130)), some (vi (J x_136)), none]) (st2 := [vr (some a2)]) rfl ?_
      refine R_zcI (as := [vr (some a2)]) rfl rfl ⟨Nat.le_of_ble_eq_true rfl, Nat.le_of_ble_eq_true rfl, rfl, (Or.inr ⟨_, rfl, t3⟩)⟩ rfl rfl k (fun x_140 h_139 r_141 k => ?_)
      refine R_ps 1 (pc2 := 440) (L2 := [some (vr (some a0)), some (vr (some a1)), some (vr (some a2)), some (vr (some a3)), some (vr (some a4)), some (vi (J x5)), some (vi (J x_130)), some (vi (J x_136)), none]) (st2 := [vi (J x_130), vi (J x_140)]) rfl ?_
      refine R_zif (x := x_140) (z := x_130) rfl r_141 r_131 (fun c_142 => ?_) (fun c_142 => ?_)
      · have k := k.1 c_142
        refine R_ps 1 (pc2 := 447) (L2 := [some (vr (some a0)), some (vr (some a1)), some (vr (some a2)), some (vr (some a3)), some (vr (some a4)), some (vi (J x5)), some (vi (J x_130)), some (vi (J x_136)), none]) (st2 := [vi (J x_130)]) rfl ?_
        refine R_zif0 (x := x_130) rfl r_131 (fun c_143 => ?_) (fun c_143 => ?_)
        · have k := k.2 c_143
          refine R_ps 3 (pc2 := 28) (L2 := [some (vr (some a0)), some (vr (some a1)), some (vr (some a2)), some (vr (some a3)), some (vr (some a4)), some (vi ((J x5) + J 5)), some (vi (J x_130)), some (vi (J x_136)), none]) (st2 := []) rfl ?_
          rw [show ((J x5) + J 5) = J (x5 + 5) from J_add' rfl rfl]
          exact R_drop k (LE_of (L := [some (vr (some a0)), some (vr (some a1)), some (vr (some a2)), some (vr (some a3)), some (vr (some a4)), some (vi (J (x5 + 5))), none, none, none]) (L2 := [some (vr (some a0)), some (vr (some a1)), some (vr (some a2)), some (vr (some a3)), some (vr (some a4)), some (vi (J (x5 + 5))), some (vi (J x_130)), some (vi (J x_136)), none]) ⟨rfl, rfl, rfl, rfl, rfl, rfl, trivial⟩)
        · have k := k.1 (Classical.not_not.mp c_143)
          refine R_ps 2 (pc2 := 452) (L2 := [some (vr (some a0)), some (vr (some a1)), some (vr (some a2)), some (vr (some a3)), some (vr (some a4)), some (vi (J x5)), some (vi (J x_130)), some (vi (J x_136)), none]) (st2 := [vi (J 0), vr (some a3)]) rfl ?_
          obtain ⟨t_145, k⟩ := k
          refine R_zlald (i := 0) rfl t4 t_145 ?_
          refine R_ps 3 (pc2 := 457) (L2 := [some (vr (some a0)), some (vr (some a1)), some (vr (some a2)), some (vr (some a3)), some (vr (some a4)), some (vi (J x5)), some (vi (J x_130)), some (vi (J x_136)), none]) (st2 := [vi (lg_cmp (gl h_139 a3 (Int.toNat 0)) ((J x_136).toInt64))]) rfl ?_
          rw [show (lg_cmp (gl h_139 a3 (Int.toNat 0)) ((J x_136).toInt64)) = J (zlc (gl h_139 a3 (Int.toNat 0)) ((J x_136).toInt64)) from J_lc']
          refine R_zif0 (x := zlc (gl h_139 a3 (Int.toNat 0)) ((J x_136).toInt64)) rfl (zlc_in _ _) (fun c_146 => ?_) (fun c_146 => ?_)
          · have k := k.1 c_146
            refine R_ps 3 (pc2 := 28) (L2 := [some (vr (some a0)), some (vr (some a1)), some (vr (some a2)), some (vr (some a3)), some (vr (some a4)), some (vi ((J x5) + J 5)), some (vi (J x_130)), some (vi (J x_136)), none]) (st2 := []) rfl ?_
            rw [show ((J x5) + J 5) = J (x5 + 5) from J_add' rfl rfl]
            exact R_drop k (LE_of (L := [some (vr (some a0)), some (vr (some a1)), some (vr (some a2)), some (vr (some a3)), some (vr (some a4)), some (vi (J (x5 + 5))), none, none, none]) (L2 := [some (vr (some a0)), some (vr (some a1)), some (vr (some a2)), some (vr (some a3)), some (vr (some a4)), some (vi (J (x5 + 5))), some (vi (J x_130)), some (vi (J x_136)), none]) ⟨rfl, rfl, rfl, rfl, rfl, rfl, trivial⟩)
          · have k := k.2 c_146
            refine R_ps 1 (pc2 := 461) (L2 := [some (vr (some a0)), some (vr (some a1)), some (vr (some a2)), some (vr (some a3)), some (vr (some a4)), some (vi (J x5)), some (vi (J x_130)), some (vi (J x_136)), none]) (st2 := [vi (J 0)]) rfl ?_
            exact R_zzret (x := 0) rfl rfl (Or.inl rfl) (R_zr (x := 0) (K := K) (by decide) k)
      · have k := k.2 c_142
        refine R_ps 1 (pc2 := 444) (L2 := [some (vr (some a0)), some (vr (some a1)), some (vr (some a2)), some (vr (some a3)), some (vr (some a4)), some (vi (J x5)), some (vi (J x_130)), some (vi (J x_136)), none]) (st2 := [vi (J 0)]) rfl ?_
        exact R_zzret (x := 0) rfl rfl (Or.inl rfl) (R_zr (x := 0) (K := K) (by decide) k)
    replace k := k.2 c_7
    refine ⟨fun c_7 => ?_, fun c_7 => ?_⟩
    · have k := k.1 c_7
      show WP T N _ 465 _ _ _ _
      refine R_ps 5 (pc2 := 471) (L2 := [some (vr (some a0)), some (vr (some a1)), some (vr (some a2)), some (vr (some a3)), some (vr (some a4)), some (vi (J x5)), none, none, none]) (st2 := [vi ((J x5) + (J 1)), vr (some a0), vr (some a1)]) rfl ?_
      rw [show ((J x5) + (J 1)) = J (x5 + 1) from J_add' rfl rfl]
      obtain ⟨t_150, k⟩ := k
      refine R_ziald (i := x5 + 1) rfl (Or.inr t1) t_150 ?_
      refine R_ps 4 (pc2 := 477) (L2 := [some (vr (some a0)), some (vr (some a1)), some (vr (some a2)), some (vr (some a3)), some (vr (some a4)), some (vi (J x5)), none, none, none]) (st2 := [vi ((J x5) + (J 2)), vr (some a0), vi (J (ai h a0 (x5 + 1))), vr (some a1)]) rfl ?_
      rw [show ((J x5) + (J 2)) = J (x5 + 2) from J_add' rfl rfl]
      obtain ⟨t_152, k⟩ := k
      refine R_ziald (i := x5 + 2) rfl (Or.inr t1) t_152 ?_
      refine R_ps 4 (pc2 := 483) (L2 := [some (vr (some a0)), some (vr (some a1)), some (vr (some a2)), some (vr (some a3)), some (vr (some a4)), some (vi (J x5)), none, none, none]) (st2 := [vi ((J x5) + (J 3)), vr (some a0), vi (J (ai h a0 (x5 + 2))), vi (J (ai h a0 (x5 + 1))), vr (some a1)]) rfl ?_
      rw [show ((J x5) + (J 3)) = J (x5 + 3) from J_add' rfl rfl]
      obtain ⟨t_154, k⟩ := k
      refine R_ziald (i := x5 + 3) rfl (Or.inr t1) t_154 ?_
      refine R_ps 4 (pc2 := 489) (L2 := [some (vr (some a0)), some (vr (some a1)), some (vr (some a2)), some (vr (some a3)), some (vr (some a4)), some (vi (J x5)), none, none, none]) (st2 := [vi ((J x5) + (J 4)), vr (some a0), vi (J (ai h a0 (x5 + 3))), vi (J (ai h a0 (x5 + 2))), vi (J (ai h a0 (x5 + 1))), vr (some a1)]) rfl ?_
      rw [show ((J x5) + (J 4)) = J (x5 + 4) from J_add' rfl rfl]
      obtain ⟨t_156, k⟩ := k
      refine R_ziald (i := x5 + 4) rfl (Or.inr t1) t_156 ?_
      refine R_ps 1 (pc2 := 491) (L2 := [some (vr (some a0)), some (vr (some a1)), some (vr (some a2)), some (vr (some a3)), some (vr (some a4)), some (vi (J x5)), none, none, none]) (st2 := [vr (some a3), vi (J (ai h a0 (x5 + 4))), vi (J (ai h a0 (x5 + 3))), vi (J (ai h a0 (x5 + 2))), vi (J (ai h a0 (x5 + 1))), vr (some a1)]) rfl ?_
      refine R_zcI (as := [vr (some a1), vi (J (ai h a0 (x5 + 1))), vi (J (ai h a0 (x5 + 2))), vi (J (ai h a0 (x5 + 3))), vi (J (ai h a0 (x5 + 4))), vr (some a3)]) rfl rfl ⟨Nat.le_of_ble_eq_true rfl, Nat.le_of_ble_eq_true rfl, rfl, (Or.inl rfl)⟩ rfl rfl k (fun x_159 h_158 r_160 k => ?_)
      refine R_ps 6 (pc2 := 502) (L2 := [some (vr (some a0)), some (vr (some a1)), some (vr (some a2)), some (vr (some a3)), some (vr (some a4)), some (vi (J x5)), some (vi (J x_159)), none, none]) (st2 := [vi ((J x5) + (J 1)), vr (some a0), vr (some a2)]) rfl ?_
      rw [show ((J x5) + (J 1)) = J (x5 + 1) from J_add' rfl rfl]
      refine R_ziald (i := x5 + 1) rfl (Or.inr t1) t_150 ?_
      refine R_ps 4 (pc2 := 508) (L2 := [some (vr (some a0)), some (vr (some a1)), some (vr (some a2)), some (vr (some a3)), some (vr (some a4)), some (vi (J x5)), some (vi (J x_159)), none, none]) (st2 := [vi ((J x5) + (J 2)), vr (some a0), vi (J (ai h_158 a0 (x5 + 1))), vr (some a2)]) rfl ?_
      rw [show ((J x5) + (J 2)) = J (x5 + 2) from J_add' rfl rfl]
      refine R_ziald (i := x5 + 2) rfl (Or.inr t1) t_152 ?_
      refine R_ps 4 (pc2 := 514) (L2 := [some (vr (some a0)), some (vr (some a1)), some (vr (some a2)), some (vr (some a3)), some (vr (some a4)), some (vi (J x5)), some (vi (J x_159)), none, none]) (st2 := [vi ((J x5) + (J 3)), vr (some a0), vi (J (ai h_158 a0 (x5 + 2))), vi (J (ai h_158 a0 (x5 + 1))), vr (some a2)]) rfl ?_
      rw [show ((J x5) + (J 3)) = J (x5 + 3) from J_add' rfl rfl]
      refine R_ziald (i := x5 + 3) rfl (Or.inr t1) t_154 ?_
      refine R_ps 4 (pc2 := 520) (L2 := [some (vr (some a0)), some (vr (some a1)), some (vr (some a2)), some (vr (some a3)), some (vr (some a4)), some (vi (J x5)), some (vi (J x_159)), none, none]) (st2 := [vi ((J x5) + (J 4)), vr (some a0), vi (J (ai h_158 a0 (x5 + 3))), vi (J (ai h_158 a0 (x5 + 2))), vi (J (ai h_158 a0 (x5 + 1))), vr (some a2)]) rfl ?_
      rw [show ((J x5) + (J 4)) = J (x5 + 4) from J_add' rfl rfl]
      refine R_ziald (i := x5 + 4) rfl (Or.inr t1) t_156 ?_
      refine R_zcI (as := [vr (some a2), vi (J (ai h_158 a0 (x5 + 1))), vi (J (ai h_158 a0 (x5 + 2))), vi (J (ai h_158 a0 (x5 + 3))), vi (J (ai h_158 a0 (x5 + 4)))]) rfl rfl ⟨Nat.le_of_ble_eq_true rfl, Nat.le_of_ble_eq_true rfl, rfl, (Or.inr ⟨_, rfl, t3⟩)⟩ rfl rfl k (fun x_167 h_166 r_168 k => ?_)
      refine R_ps 2 (pc2 := 527) (L2 := [some (vr (some a0)), some (vr (some a1)), some (vr (some a2)), some (vr (some a3)), some (vr (some a4)), some (vi (J x5)), some (vi (J x_159)), some (vi (J x_167)), none]) (st2 := [vr (some a2)]) rfl ?_
      refine R_zcI (as := [vr (some a2)]) rfl rfl ⟨Nat.le_of_ble_eq_true rfl, Nat.le_of_ble_eq_true rfl, rfl, (Or.inr ⟨_, rfl, t3⟩)⟩ rfl rfl k (fun x_171 h_170 r_172 k => ?_)
      refine R_ps 1 (pc2 := 532) (L2 := [some (vr (some a0)), some (vr (some a1)), some (vr (some a2)), some (vr (some a3)), some (vr (some a4)), some (vi (J x5)), some (vi (J x_159)), some (vi (J x_167)), none]) (st2 := [vi (J x_159), vi (J x_171)]) rfl ?_
      refine R_zif (x := x_171) (z := x_159) rfl r_172 r_160 (fun c_173 => ?_) (fun c_173 => ?_)
      · have k := k.1 c_173
        refine R_ps 1 (pc2 := 539) (L2 := [some (vr (some a0)), some (vr (some a1)), some (vr (some a2)), some (vr (some a3)), some (vr (some a4)), some (vi (J x5)), some (vi (J x_159)), some (vi (J x_167)), none]) (st2 := [vi (J x_159)]) rfl ?_
        refine R_zif0 (x := x_159) rfl r_160 (fun c_174 => ?_) (fun c_174 => ?_)
        · have k := k.2 c_174
          refine R_ps 3 (pc2 := 28) (L2 := [some (vr (some a0)), some (vr (some a1)), some (vr (some a2)), some (vr (some a3)), some (vr (some a4)), some (vi ((J x5) + J 5)), some (vi (J x_159)), some (vi (J x_167)), none]) (st2 := []) rfl ?_
          rw [show ((J x5) + J 5) = J (x5 + 5) from J_add' rfl rfl]
          exact R_drop k (LE_of (L := [some (vr (some a0)), some (vr (some a1)), some (vr (some a2)), some (vr (some a3)), some (vr (some a4)), some (vi (J (x5 + 5))), none, none, none]) (L2 := [some (vr (some a0)), some (vr (some a1)), some (vr (some a2)), some (vr (some a3)), some (vr (some a4)), some (vi (J (x5 + 5))), some (vi (J x_159)), some (vi (J x_167)), none]) ⟨rfl, rfl, rfl, rfl, rfl, rfl, trivial⟩)
        · have k := k.1 (Classical.not_not.mp c_174)
          refine R_ps 2 (pc2 := 544) (L2 := [some (vr (some a0)), some (vr (some a1)), some (vr (some a2)), some (vr (some a3)), some (vr (some a4)), some (vi (J x5)), some (vi (J x_159)), some (vi (J x_167)), none]) (st2 := [vi (J 0), vr (some a3)]) rfl ?_
          obtain ⟨t_176, k⟩ := k
          refine R_zlald (i := 0) rfl t4 t_176 ?_
          refine R_ps 3 (pc2 := 549) (L2 := [some (vr (some a0)), some (vr (some a1)), some (vr (some a2)), some (vr (some a3)), some (vr (some a4)), some (vi (J x5)), some (vi (J x_159)), some (vi (J x_167)), none]) (st2 := [vi (lg_cmp (gl h_170 a3 (Int.toNat 0)) ((J x_167).toInt64))]) rfl ?_
          rw [show (lg_cmp (gl h_170 a3 (Int.toNat 0)) ((J x_167).toInt64)) = J (zlc (gl h_170 a3 (Int.toNat 0)) ((J x_167).toInt64)) from J_lc']
          refine R_zif0 (x := zlc (gl h_170 a3 (Int.toNat 0)) ((J x_167).toInt64)) rfl (zlc_in _ _) (fun c_177 => ?_) (fun c_177 => ?_)
          · have k := k.1 c_177
            refine R_ps 3 (pc2 := 28) (L2 := [some (vr (some a0)), some (vr (some a1)), some (vr (some a2)), some (vr (some a3)), some (vr (some a4)), some (vi ((J x5) + J 5)), some (vi (J x_159)), some (vi (J x_167)), none]) (st2 := []) rfl ?_
            rw [show ((J x5) + J 5) = J (x5 + 5) from J_add' rfl rfl]
            exact R_drop k (LE_of (L := [some (vr (some a0)), some (vr (some a1)), some (vr (some a2)), some (vr (some a3)), some (vr (some a4)), some (vi (J (x5 + 5))), none, none, none]) (L2 := [some (vr (some a0)), some (vr (some a1)), some (vr (some a2)), some (vr (some a3)), some (vr (some a4)), some (vi (J (x5 + 5))), some (vi (J x_159)), some (vi (J x_167)), none]) ⟨rfl, rfl, rfl, rfl, rfl, rfl, trivial⟩)
          · have k := k.2 c_177
            refine R_ps 1 (pc2 := 553) (L2 := [some (vr (some a0)), some (vr (some a1)), some (vr (some a2)), some (vr (some a3)), some (vr (some a4)), some (vi (J x5)), some (vi (J x_159)), some (vi (J x_167)), none]) (st2 := [vi (J 0)]) rfl ?_
            exact R_zzret (x := 0) rfl rfl (Or.inl rfl) (R_zr (x := 0) (K := K) (by decide) k)
      · have k := k.2 c_173
        refine R_ps 1 (pc2 := 536) (L2 := [some (vr (some a0)), some (vr (some a1)), some (vr (some a2)), some (vr (some a3)), some (vr (some a4)), some (vi (J x5)), some (vi (J x_159)), some (vi (J x_167)), none]) (st2 := [vi (J 0)]) rfl ?_
        exact R_zzret (x := 0) rfl rfl (Or.inl rfl) (R_zr (x := 0) (K := K) (by decide) k)
    replace k := k.2 c_7
    refine ⟨fun c_7 => ?_, fun c_7 => ?_⟩
    · have k := k.1 c_7
      show WP T N _ 557 _ _ _ _
      refine R_ps 5 (pc2 := 563) (L2 := [some (vr (some a0)), some (vr (some a1)), some (vr (some a2)), some (vr (some a3)), some (vr (some a4)), some (vi (J x5)), none, none, none]) (st2 := [vi ((J x5) + (J 1)), vr (some a0), vr (some a1)]) rfl ?_
      rw [show ((J x5) + (J 1)) = J (x5 + 1) from J_add' rfl rfl]
      obtain ⟨t_181, k⟩ := k
      refine R_ziald (i := x5 + 1) rfl (Or.inr t1) t_181 ?_
      refine R_ps 1 (pc2 := 565) (L2 := [some (vr (some a0)), some (vr (some a1)), some (vr (some a2)), some (vr (some a3)), some (vr (some a4)), some (vi (J x5)), none, none, none]) (st2 := [vr (some a3), vi (J (ai h a0 (x5 + 1))), vr (some a1)]) rfl ?_
      refine R_zcI (as := [vr (some a1), vi (J (ai h a0 (x5 + 1))), vr (some a3)]) rfl rfl ⟨Nat.le_of_ble_eq_true rfl, Nat.le_of_ble_eq_true rfl, rfl, (Or.inl rfl)⟩ rfl rfl k (fun x_184 h_183 r_185 k => ?_)
      refine R_ps 6 (pc2 := 576) (L2 := [some (vr (some a0)), some (vr (some a1)), some (vr (some a2)), some (vr (some a3)), some (vr (some a4)), some (vi (J x5)), some (vi (J x_184)), none, none]) (st2 := [vi ((J x5) + (J 1)), vr (some a0), vr (some a2)]) rfl ?_
      rw [show ((J x5) + (J 1)) = J (x5 + 1) from J_add' rfl rfl]
      refine R_ziald (i := x5 + 1) rfl (Or.inr t1) t_181 ?_
      refine R_zcI (as := [vr (some a2), vi (J (ai h_183 a0 (x5 + 1)))]) rfl rfl ⟨Nat.le_of_ble_eq_true rfl, Nat.le_of_ble_eq_true rfl, rfl, (Or.inr ⟨_, rfl, t3⟩)⟩ rfl rfl k (fun x_189 h_188 r_190 k => ?_)
      refine R_ps 2 (pc2 := 583) (L2 := [some (vr (some a0)), some (vr (some a1)), some (vr (some a2)), some (vr (some a3)), some (vr (some a4)), some (vi (J x5)), some (vi (J x_184)), some (vi (J x_189)), none]) (st2 := [vr (some a2)]) rfl ?_
      refine R_zcI (as := [vr (some a2)]) rfl rfl ⟨Nat.le_of_ble_eq_true rfl, Nat.le_of_ble_eq_true rfl, rfl, (Or.inr ⟨_, rfl, t3⟩)⟩ rfl rfl k (fun x_193 h_192 r_194 k => ?_)
      refine R_ps 1 (pc2 := 588) (L2 := [some (vr (some a0)), some (vr (some a1)), some (vr (some a2)), some (vr (some a3)), some (vr (some a4)), some (vi (J x5)), some (vi (J x_184)), some (vi (J x_189)), none]) (st2 := [vi (J x_184), vi (J x_193)]) rfl ?_
      refine R_zif (x := x_193) (z := x_184) rfl r_194 r_185 (fun c_195 => ?_) (fun c_195 => ?_)
      · have k := k.1 c_195
        refine R_ps 1 (pc2 := 595) (L2 := [some (vr (some a0)), some (vr (some a1)), some (vr (some a2)), some (vr (some a3)), some (vr (some a4)), some (vi (J x5)), some (vi (J x_184)), some (vi (J x_189)), none]) (st2 := [vi (J x_184)]) rfl ?_
        refine R_zif0 (x := x_184) rfl r_185 (fun c_196 => ?_) (fun c_196 => ?_)
        · have k := k.2 c_196
          refine R_ps 3 (pc2 := 28) (L2 := [some (vr (some a0)), some (vr (some a1)), some (vr (some a2)), some (vr (some a3)), some (vr (some a4)), some (vi ((J x5) + J 5)), some (vi (J x_184)), some (vi (J x_189)), none]) (st2 := []) rfl ?_
          rw [show ((J x5) + J 5) = J (x5 + 5) from J_add' rfl rfl]
          exact R_drop k (LE_of (L := [some (vr (some a0)), some (vr (some a1)), some (vr (some a2)), some (vr (some a3)), some (vr (some a4)), some (vi (J (x5 + 5))), none, none, none]) (L2 := [some (vr (some a0)), some (vr (some a1)), some (vr (some a2)), some (vr (some a3)), some (vr (some a4)), some (vi (J (x5 + 5))), some (vi (J x_184)), some (vi (J x_189)), none]) ⟨rfl, rfl, rfl, rfl, rfl, rfl, trivial⟩)
        · have k := k.1 (Classical.not_not.mp c_196)
          refine R_ps 2 (pc2 := 600) (L2 := [some (vr (some a0)), some (vr (some a1)), some (vr (some a2)), some (vr (some a3)), some (vr (some a4)), some (vi (J x5)), some (vi (J x_184)), some (vi (J x_189)), none]) (st2 := [vi (J 0), vr (some a3)]) rfl ?_
          obtain ⟨t_198, k⟩ := k
          refine R_zlald (i := 0) rfl t4 t_198 ?_
          refine R_ps 3 (pc2 := 605) (L2 := [some (vr (some a0)), some (vr (some a1)), some (vr (some a2)), some (vr (some a3)), some (vr (some a4)), some (vi (J x5)), some (vi (J x_184)), some (vi (J x_189)), none]) (st2 := [vi (lg_cmp (gl h_192 a3 (Int.toNat 0)) ((J x_189).toInt64))]) rfl ?_
          rw [show (lg_cmp (gl h_192 a3 (Int.toNat 0)) ((J x_189).toInt64)) = J (zlc (gl h_192 a3 (Int.toNat 0)) ((J x_189).toInt64)) from J_lc']
          refine R_zif0 (x := zlc (gl h_192 a3 (Int.toNat 0)) ((J x_189).toInt64)) rfl (zlc_in _ _) (fun c_199 => ?_) (fun c_199 => ?_)
          · have k := k.1 c_199
            refine R_ps 3 (pc2 := 28) (L2 := [some (vr (some a0)), some (vr (some a1)), some (vr (some a2)), some (vr (some a3)), some (vr (some a4)), some (vi ((J x5) + J 5)), some (vi (J x_184)), some (vi (J x_189)), none]) (st2 := []) rfl ?_
            rw [show ((J x5) + J 5) = J (x5 + 5) from J_add' rfl rfl]
            exact R_drop k (LE_of (L := [some (vr (some a0)), some (vr (some a1)), some (vr (some a2)), some (vr (some a3)), some (vr (some a4)), some (vi (J (x5 + 5))), none, none, none]) (L2 := [some (vr (some a0)), some (vr (some a1)), some (vr (some a2)), some (vr (some a3)), some (vr (some a4)), some (vi (J (x5 + 5))), some (vi (J x_184)), some (vi (J x_189)), none]) ⟨rfl, rfl, rfl, rfl, rfl, rfl, trivial⟩)
          · have k := k.2 c_199
            refine R_ps 1 (pc2 := 609) (L2 := [some (vr (some a0)), some (vr (some a1)), some (vr (some a2)), some (vr (some a3)), some (vr (some a4)), some (vi (J x5)), some (vi (J x_184)), some (vi (J x_189)), none]) (st2 := [vi (J 0)]) rfl ?_
            exact R_zzret (x := 0) rfl rfl (Or.inl rfl) (R_zr (x := 0) (K := K) (by decide) k)
      · have k := k.2 c_195
        refine R_ps 1 (pc2 := 592) (L2 := [some (vr (some a0)), some (vr (some a1)), some (vr (some a2)), some (vr (some a3)), some (vr (some a4)), some (vi (J x5)), some (vi (J x_184)), some (vi (J x_189)), none]) (st2 := [vi (J 0)]) rfl ?_
        exact R_zzret (x := 0) rfl rfl (Or.inl rfl) (R_zr (x := 0) (K := K) (by decide) k)
    replace k := k.2 c_7
    refine ⟨fun c_7 => ?_, fun c_7 => ?_⟩
    · have k := k.1 c_7
      show WP T N _ 613 _ _ _ _
      refine R_ps 5 (pc2 := 619) (L2 := [some (vr (some a0)), some (vr (some a1)), some (vr (some a2)), some (vr (some a3)), some (vr (some a4)), some (vi (J x5)), none, none, none]) (st2 := [vi ((J x5) + (J 1)), vr (some a0), vr (some a1)]) rfl ?_
      rw [show ((J x5) + (J 1)) = J (x5 + 1) from J_add' rfl rfl]
      obtain ⟨t_203, k⟩ := k
      refine R_ziald (i := x5 + 1) rfl (Or.inr t1) t_203 ?_
      refine R_ps 4 (pc2 := 625) (L2 := [some (vr (some a0)), some (vr (some a1)), some (vr (some a2)), some (vr (some a3)), some (vr (some a4)), some (vi (J x5)), none, none, none]) (st2 := [vi ((J x5) + (J 2)), vr (some a0), vi (J (ai h a0 (x5 + 1))), vr (some a1)]) rfl ?_
      rw [show ((J x5) + (J 2)) = J (x5 + 2) from J_add' rfl rfl]
      obtain ⟨t_205, k⟩ := k
      refine R_ziald (i := x5 + 2) rfl (Or.inr t1) t_205 ?_
      refine R_ps 1 (pc2 := 627) (L2 := [some (vr (some a0)), some (vr (some a1)), some (vr (some a2)), some (vr (some a3)), some (vr (some a4)), some (vi (J x5)), none, none, none]) (st2 := [vr (some a3), vi (J (ai h a0 (x5 + 2))), vi (J (ai h a0 (x5 + 1))), vr (some a1)]) rfl ?_
      refine R_zcI (as := [vr (some a1), vi (J (ai h a0 (x5 + 1))), vi (J (ai h a0 (x5 + 2))), vr (some a3)]) rfl rfl ⟨Nat.le_of_ble_eq_true rfl, Nat.le_of_ble_eq_true rfl, rfl, (Or.inl rfl)⟩ rfl rfl k (fun x_208 h_207 r_209 k => ?_)
      refine R_ps 6 (pc2 := 638) (L2 := [some (vr (some a0)), some (vr (some a1)), some (vr (some a2)), some (vr (some a3)), some (vr (some a4)), some (vi (J x5)), some (vi (J x_208)), none, none]) (st2 := [vi ((J x5) + (J 1)), vr (some a0), vr (some a2)]) rfl ?_
      rw [show ((J x5) + (J 1)) = J (x5 + 1) from J_add' rfl rfl]
      refine R_ziald (i := x5 + 1) rfl (Or.inr t1) t_203 ?_
      refine R_ps 4 (pc2 := 644) (L2 := [some (vr (some a0)), some (vr (some a1)), some (vr (some a2)), some (vr (some a3)), some (vr (some a4)), some (vi (J x5)), some (vi (J x_208)), none, none]) (st2 := [vi ((J x5) + (J 2)), vr (some a0), vi (J (ai h_207 a0 (x5 + 1))), vr (some a2)]) rfl ?_
      rw [show ((J x5) + (J 2)) = J (x5 + 2) from J_add' rfl rfl]
      refine R_ziald (i := x5 + 2) rfl (Or.inr t1) t_205 ?_
      refine R_zcI (as := [vr (some a2), vi (J (ai h_207 a0 (x5 + 1))), vi (J (ai h_207 a0 (x5 + 2)))]) rfl rfl ⟨Nat.le_of_ble_eq_true rfl, Nat.le_of_ble_eq_true rfl, rfl, (Or.inr ⟨_, rfl, t3⟩)⟩ rfl rfl k (fun x_214 h_213 r_215 k => ?_)
      refine R_ps 2 (pc2 := 651) (L2 := [some (vr (some a0)), some (vr (some a1)), some (vr (some a2)), some (vr (some a3)), some (vr (some a4)), some (vi (J x5)), some (vi (J x_208)), some (vi (J x_214)), none]) (st2 := [vr (some a2)]) rfl ?_
      refine R_zcI (as := [vr (some a2)]) rfl rfl ⟨Nat.le_of_ble_eq_true rfl, Nat.le_of_ble_eq_true rfl, rfl, (Or.inr ⟨_, rfl, t3⟩)⟩ rfl rfl k (fun x_218 h_217 r_219 k => ?_)
      refine R_ps 1 (pc2 := 656) (L2 := [some (vr (some a0)), some (vr (some a1)), some (vr (some a2)), some (vr (some a3)), some (vr (some a4)), some (vi (J x5)), some (vi (J x_208)), some (vi (J x_214)), none]) (st2 := [vi (J x_208), vi (J x_218)]) rfl ?_
      refine R_zif (x := x_218) (z := x_208) rfl r_219 r_209 (fun c_220 => ?_) (fun c_220 => ?_)
      · have k := k.1 c_220
        refine R_ps 1 (pc2 := 663) (L2 := [some (vr (some a0)), some (vr (some a1)), some (vr (some a2)), some (vr (some a3)), some (vr (some a4)), some (vi (J x5)), some (vi (J x_208)), some (vi (J x_214)), none]) (st2 := [vi (J x_208)]) rfl ?_
        refine R_zif0 (x := x_208) rfl r_209 (fun c_221 => ?_) (fun c_221 => ?_)
        · have k := k.2 c_221
          refine R_ps 3 (pc2 := 28) (L2 := [some (vr (some a0)), some (vr (some a1)), some (vr (some a2)), some (vr (some a3)), some (vr (some a4)), some (vi ((J x5) + J 5)), some (vi (J x_208)), some (vi (J x_214)), none]) (st2 := []) rfl ?_
          rw [show ((J x5) + J 5) = J (x5 + 5) from J_add' rfl rfl]
          exact R_drop k (LE_of (L := [some (vr (some a0)), some (vr (some a1)), some (vr (some a2)), some (vr (some a3)), some (vr (some a4)), some (vi (J (x5 + 5))), none, none, none]) (L2 := [some (vr (some a0)), some (vr (some a1)), some (vr (some a2)), some (vr (some a3)), some (vr (some a4)), some (vi (J (x5 + 5))), some (vi (J x_208)), some (vi (J x_214)), none]) ⟨rfl, rfl, rfl, rfl, rfl, rfl, trivial⟩)
        · have k := k.1 (Classical.not_not.mp c_221)
          refine R_ps 2 (pc2 := 668) (L2 := [some (vr (some a0)), some (vr (some a1)), some (vr (some a2)), some (vr (some a3)), some (vr (some a4)), some (vi (J x5)), some (vi (J x_208)), some (vi (J x_214)), none]) (st2 := [vi (J 0), vr (some a3)]) rfl ?_
          obtain ⟨t_223, k⟩ := k
          refine R_zlald (i := 0) rfl t4 t_223 ?_
          refine R_ps 3 (pc2 := 673) (L2 := [some (vr (some a0)), some (vr (some a1)), some (vr (some a2)), some (vr (some a3)), some (vr (some a4)), some (vi (J x5)), some (vi (J x_208)), some (vi (J x_214)), none]) (st2 := [vi (lg_cmp (gl h_217 a3 (Int.toNat 0)) ((J x_214).toInt64))]) rfl ?_
          rw [show (lg_cmp (gl h_217 a3 (Int.toNat 0)) ((J x_214).toInt64)) = J (zlc (gl h_217 a3 (Int.toNat 0)) ((J x_214).toInt64)) from J_lc']
          refine R_zif0 (x := zlc (gl h_217 a3 (Int.toNat 0)) ((J x_214).toInt64)) rfl (zlc_in _ _) (fun c_224 => ?_) (fun c_224 => ?_)
          · have k := k.1 c_224
            refine R_ps 3 (pc2 := 28) (L2 := [some (vr (some a0)), some (vr (some a1)), some (vr (some a2)), some (vr (some a3)), some (vr (some a4)), some (vi ((J x5) + J 5)), some (vi (J x_208)), some (vi (J x_214)), none]) (st2 := []) rfl ?_
            rw [show ((J x5) + J 5) = J (x5 + 5) from J_add' rfl rfl]
            exact R_drop k (LE_of (L := [some (vr (some a0)), some (vr (some a1)), some (vr (some a2)), some (vr (some a3)), some (vr (some a4)), some (vi (J (x5 + 5))), none, none, none]) (L2 := [some (vr (some a0)), some (vr (some a1)), some (vr (some a2)), some (vr (some a3)), some (vr (some a4)), some (vi (J (x5 + 5))), some (vi (J x_208)), some (vi (J x_214)), none]) ⟨rfl, rfl, rfl, rfl, rfl, rfl, trivial⟩)
          · have k := k.2 c_224
            refine R_ps 1 (pc2 := 677) (L2 := [some (vr (some a0)), some (vr (some a1)), some (vr (some a2)), some (vr (some a3)), some (vr (some a4)), some (vi (J x5)), some (vi (J x_208)), some (vi (J x_214)), none]) (st2 := [vi (J 0)]) rfl ?_
            exact R_zzret (x := 0) rfl rfl (Or.inl rfl) (R_zr (x := 0) (K := K) (by decide) k)
      · have k := k.2 c_220
        refine R_ps 1 (pc2 := 660) (L2 := [some (vr (some a0)), some (vr (some a1)), some (vr (some a2)), some (vr (some a3)), some (vr (some a4)), some (vi (J x5)), some (vi (J x_208)), some (vi (J x_214)), none]) (st2 := [vi (J 0)]) rfl ?_
        exact R_zzret (x := 0) rfl rfl (Or.inl rfl) (R_zr (x := 0) (K := K) (by decide) k)
    replace k := k.2 c_7
    refine ⟨fun c_7 => ?_, fun c_7 => ?_⟩
    · have k := k.1 c_7
      show WP T N _ 681 _ _ _ _
      refine R_ps 5 (pc2 := 687) (L2 := [some (vr (some a0)), some (vr (some a1)), some (vr (some a2)), some (vr (some a3)), some (vr (some a4)), some (vi (J x5)), none, none, none]) (st2 := [vi ((J x5) + (J 1)), vr (some a0), vr (some a1)]) rfl ?_
      rw [show ((J x5) + (J 1)) = J (x5 + 1) from J_add' rfl rfl]
      obtain ⟨t_228, k⟩ := k
      refine R_ziald (i := x5 + 1) rfl (Or.inr t1) t_228 ?_
      refine R_ps 4 (pc2 := 693) (L2 := [some (vr (some a0)), some (vr (some a1)), some (vr (some a2)), some (vr (some a3)), some (vr (some a4)), some (vi (J x5)), none, none, none]) (st2 := [vi ((J x5) + (J 2)), vr (some a0), vi (J (ai h a0 (x5 + 1))), vr (some a1)]) rfl ?_
      rw [show ((J x5) + (J 2)) = J (x5 + 2) from J_add' rfl rfl]
      obtain ⟨t_230, k⟩ := k
      refine R_ziald (i := x5 + 2) rfl (Or.inr t1) t_230 ?_
      refine R_ps 1 (pc2 := 695) (L2 := [some (vr (some a0)), some (vr (some a1)), some (vr (some a2)), some (vr (some a3)), some (vr (some a4)), some (vi (J x5)), none, none, none]) (st2 := [vr (some a3), vi (J (ai h a0 (x5 + 2))), vi (J (ai h a0 (x5 + 1))), vr (some a1)]) rfl ?_
      refine R_zcI (as := [vr (some a1), vi (J (ai h a0 (x5 + 1))), vi (J (ai h a0 (x5 + 2))), vr (some a3)]) rfl rfl ⟨Nat.le_of_ble_eq_true rfl, Nat.le_of_ble_eq_true rfl, rfl, (Or.inl rfl)⟩ rfl rfl k (fun x_233 h_232 r_234 k => ?_)
      refine R_ps 6 (pc2 := 706) (L2 := [some (vr (some a0)), some (vr (some a1)), some (vr (some a2)), some (vr (some a3)), some (vr (some a4)), some (vi (J x5)), some (vi (J x_233)), none, none]) (st2 := [vi ((J x5) + (J 1)), vr (some a0), vr (some a2)]) rfl ?_
      rw [show ((J x5) + (J 1)) = J (x5 + 1) from J_add' rfl rfl]
      refine R_ziald (i := x5 + 1) rfl (Or.inr t1) t_228 ?_
      refine R_ps 4 (pc2 := 712) (L2 := [some (vr (some a0)), some (vr (some a1)), some (vr (some a2)), some (vr (some a3)), some (vr (some a4)), some (vi (J x5)), some (vi (J x_233)), none, none]) (st2 := [vi ((J x5) + (J 2)), vr (some a0), vi (J (ai h_232 a0 (x5 + 1))), vr (some a2)]) rfl ?_
      rw [show ((J x5) + (J 2)) = J (x5 + 2) from J_add' rfl rfl]
      refine R_ziald (i := x5 + 2) rfl (Or.inr t1) t_230 ?_
      refine R_zcI (as := [vr (some a2), vi (J (ai h_232 a0 (x5 + 1))), vi (J (ai h_232 a0 (x5 + 2)))]) rfl rfl ⟨Nat.le_of_ble_eq_true rfl, Nat.le_of_ble_eq_true rfl, rfl, (Or.inr ⟨_, rfl, t3⟩)⟩ rfl rfl k (fun x_239 h_238 r_240 k => ?_)
      refine R_ps 2 (pc2 := 719) (L2 := [some (vr (some a0)), some (vr (some a1)), some (vr (some a2)), some (vr (some a3)), some (vr (some a4)), some (vi (J x5)), some (vi (J x_233)), some (vi (J x_239)), none]) (st2 := [vr (some a2)]) rfl ?_
      refine R_zcI (as := [vr (some a2)]) rfl rfl ⟨Nat.le_of_ble_eq_true rfl, Nat.le_of_ble_eq_true rfl, rfl, (Or.inr ⟨_, rfl, t3⟩)⟩ rfl rfl k (fun x_243 h_242 r_244 k => ?_)
      refine R_ps 1 (pc2 := 724) (L2 := [some (vr (some a0)), some (vr (some a1)), some (vr (some a2)), some (vr (some a3)), some (vr (some a4)), some (vi (J x5)), some (vi (J x_233)), some (vi (J x_239)), none]) (st2 := [vi (J x_233), vi (J x_243)]) rfl ?_
      refine R_zif (x := x_243) (z := x_233) rfl r_244 r_234 (fun c_245 => ?_) (fun c_245 => ?_)
      · have k := k.1 c_245
        refine R_ps 1 (pc2 := 731) (L2 := [some (vr (some a0)), some (vr (some a1)), some (vr (some a2)), some (vr (some a3)), some (vr (some a4)), some (vi (J x5)), some (vi (J x_233)), some (vi (J x_239)), none]) (st2 := [vi (J x_233)]) rfl ?_
        refine R_zif0 (x := x_233) rfl r_234 (fun c_246 => ?_) (fun c_246 => ?_)
        · have k := k.2 c_246
          refine R_ps 3 (pc2 := 28) (L2 := [some (vr (some a0)), some (vr (some a1)), some (vr (some a2)), some (vr (some a3)), some (vr (some a4)), some (vi ((J x5) + J 5)), some (vi (J x_233)), some (vi (J x_239)), none]) (st2 := []) rfl ?_
          rw [show ((J x5) + J 5) = J (x5 + 5) from J_add' rfl rfl]
          exact R_drop k (LE_of (L := [some (vr (some a0)), some (vr (some a1)), some (vr (some a2)), some (vr (some a3)), some (vr (some a4)), some (vi (J (x5 + 5))), none, none, none]) (L2 := [some (vr (some a0)), some (vr (some a1)), some (vr (some a2)), some (vr (some a3)), some (vr (some a4)), some (vi (J (x5 + 5))), some (vi (J x_233)), some (vi (J x_239)), none]) ⟨rfl, rfl, rfl, rfl, rfl, rfl, trivial⟩)
        · have k := k.1 (Classical.not_not.mp c_246)
          refine R_ps 2 (pc2 := 736) (L2 := [some (vr (some a0)), some (vr (some a1)), some (vr (some a2)), some (vr (some a3)), some (vr (some a4)), some (vi (J x5)), some (vi (J x_233)), some (vi (J x_239)), none]) (st2 := [vi (J 0), vr (some a3)]) rfl ?_
          obtain ⟨t_248, k⟩ := k
          refine R_zlald (i := 0) rfl t4 t_248 ?_
          refine R_ps 3 (pc2 := 741) (L2 := [some (vr (some a0)), some (vr (some a1)), some (vr (some a2)), some (vr (some a3)), some (vr (some a4)), some (vi (J x5)), some (vi (J x_233)), some (vi (J x_239)), none]) (st2 := [vi (lg_cmp (gl h_242 a3 (Int.toNat 0)) ((J x_239).toInt64))]) rfl ?_
          rw [show (lg_cmp (gl h_242 a3 (Int.toNat 0)) ((J x_239).toInt64)) = J (zlc (gl h_242 a3 (Int.toNat 0)) ((J x_239).toInt64)) from J_lc']
          refine R_zif0 (x := zlc (gl h_242 a3 (Int.toNat 0)) ((J x_239).toInt64)) rfl (zlc_in _ _) (fun c_249 => ?_) (fun c_249 => ?_)
          · have k := k.1 c_249
            refine R_ps 3 (pc2 := 28) (L2 := [some (vr (some a0)), some (vr (some a1)), some (vr (some a2)), some (vr (some a3)), some (vr (some a4)), some (vi ((J x5) + J 5)), some (vi (J x_233)), some (vi (J x_239)), none]) (st2 := []) rfl ?_
            rw [show ((J x5) + J 5) = J (x5 + 5) from J_add' rfl rfl]
            exact R_drop k (LE_of (L := [some (vr (some a0)), some (vr (some a1)), some (vr (some a2)), some (vr (some a3)), some (vr (some a4)), some (vi (J (x5 + 5))), none, none, none]) (L2 := [some (vr (some a0)), some (vr (some a1)), some (vr (some a2)), some (vr (some a3)), some (vr (some a4)), some (vi (J (x5 + 5))), some (vi (J x_233)), some (vi (J x_239)), none]) ⟨rfl, rfl, rfl, rfl, rfl, rfl, trivial⟩)
          · have k := k.2 c_249
            refine R_ps 1 (pc2 := 745) (L2 := [some (vr (some a0)), some (vr (some a1)), some (vr (some a2)), some (vr (some a3)), some (vr (some a4)), some (vi (J x5)), some (vi (J x_233)), some (vi (J x_239)), none]) (st2 := [vi (J 0)]) rfl ?_
            exact R_zzret (x := 0) rfl rfl (Or.inl rfl) (R_zr (x := 0) (K := K) (by decide) k)
      · have k := k.2 c_245
        refine R_ps 1 (pc2 := 728) (L2 := [some (vr (some a0)), some (vr (some a1)), some (vr (some a2)), some (vr (some a3)), some (vr (some a4)), some (vi (J x5)), some (vi (J x_233)), some (vi (J x_239)), none]) (st2 := [vi (J 0)]) rfl ?_
        exact R_zzret (x := 0) rfl rfl (Or.inl rfl) (R_zr (x := 0) (K := K) (by decide) k)
    replace k := k.2 c_7
    refine ⟨fun c_7 => ?_, fun c_7 => ?_⟩
    · have k := k.1 c_7
      show WP T N _ 749 _ _ _ _
      refine R_ps 5 (pc2 := 755) (L2 := [some (vr (some a0)), some (vr (some a1)), some (vr (some a2)), some (vr (some a3)), some (vr (some a4)), some (vi (J x5)), none, none, none]) (st2 := [vi ((J x5) + (J 1)), vr (some a0), vr (some a1)]) rfl ?_
      rw [show ((J x5) + (J 1)) = J (x5 + 1) from J_add' rfl rfl]
      obtain ⟨t_253, k⟩ := k
      refine R_ziald (i := x5 + 1) rfl (Or.inr t1) t_253 ?_
      refine R_ps 1 (pc2 := 757) (L2 := [some (vr (some a0)), some (vr (some a1)), some (vr (some a2)), some (vr (some a3)), some (vr (some a4)), some (vi (J x5)), none, none, none]) (st2 := [vr (some a3), vi (J (ai h a0 (x5 + 1))), vr (some a1)]) rfl ?_
      refine R_zcI (as := [vr (some a1), vi (J (ai h a0 (x5 + 1))), vr (some a3)]) rfl rfl ⟨Nat.le_of_ble_eq_true rfl, Nat.le_of_ble_eq_true rfl, rfl, (Or.inl rfl)⟩ rfl rfl k (fun x_256 h_255 r_257 k => ?_)
      refine R_ps 6 (pc2 := 768) (L2 := [some (vr (some a0)), some (vr (some a1)), some (vr (some a2)), some (vr (some a3)), some (vr (some a4)), some (vi (J x5)), some (vi (J x_256)), none, none]) (st2 := [vi ((J x5) + (J 1)), vr (some a0), vr (some a2)]) rfl ?_
      rw [show ((J x5) + (J 1)) = J (x5 + 1) from J_add' rfl rfl]
      refine R_ziald (i := x5 + 1) rfl (Or.inr t1) t_253 ?_
      refine R_zcI (as := [vr (some a2), vi (J (ai h_255 a0 (x5 + 1)))]) rfl rfl ⟨Nat.le_of_ble_eq_true rfl, Nat.le_of_ble_eq_true rfl, rfl, (Or.inr ⟨_, rfl, t3⟩)⟩ rfl rfl k (fun x_261 h_260 r_262 k => ?_)
      refine R_ps 2 (pc2 := 775) (L2 := [some (vr (some a0)), some (vr (some a1)), some (vr (some a2)), some (vr (some a3)), some (vr (some a4)), some (vi (J x5)), some (vi (J x_256)), some (vi (J x_261)), none]) (st2 := [vr (some a2)]) rfl ?_
      refine R_zcI (as := [vr (some a2)]) rfl rfl ⟨Nat.le_of_ble_eq_true rfl, Nat.le_of_ble_eq_true rfl, rfl, (Or.inr ⟨_, rfl, t3⟩)⟩ rfl rfl k (fun x_265 h_264 r_266 k => ?_)
      refine R_ps 1 (pc2 := 780) (L2 := [some (vr (some a0)), some (vr (some a1)), some (vr (some a2)), some (vr (some a3)), some (vr (some a4)), some (vi (J x5)), some (vi (J x_256)), some (vi (J x_261)), none]) (st2 := [vi (J x_256), vi (J x_265)]) rfl ?_
      refine R_zif (x := x_265) (z := x_256) rfl r_266 r_257 (fun c_267 => ?_) (fun c_267 => ?_)
      · have k := k.1 c_267
        refine R_ps 1 (pc2 := 787) (L2 := [some (vr (some a0)), some (vr (some a1)), some (vr (some a2)), some (vr (some a3)), some (vr (some a4)), some (vi (J x5)), some (vi (J x_256)), some (vi (J x_261)), none]) (st2 := [vi (J x_256)]) rfl ?_
        refine R_zif0 (x := x_256) rfl r_257 (fun c_268 => ?_) (fun c_268 => ?_)
        · have k := k.2 c_268
          refine R_ps 3 (pc2 := 28) (L2 := [some (vr (some a0)), some (vr (some a1)), some (vr (some a2)), some (vr (some a3)), some (vr (some a4)), some (vi ((J x5) + J 5)), some (vi (J x_256)), some (vi (J x_261)), none]) (st2 := []) rfl ?_
          rw [show ((J x5) + J 5) = J (x5 + 5) from J_add' rfl rfl]
          exact R_drop k (LE_of (L := [some (vr (some a0)), some (vr (some a1)), some (vr (some a2)), some (vr (some a3)), some (vr (some a4)), some (vi (J (x5 + 5))), none, none, none]) (L2 := [some (vr (some a0)), some (vr (some a1)), some (vr (some a2)), some (vr (some a3)), some (vr (some a4)), some (vi (J (x5 + 5))), some (vi (J x_256)), some (vi (J x_261)), none]) ⟨rfl, rfl, rfl, rfl, rfl, rfl, trivial⟩)
        · have k := k.1 (Classical.not_not.mp c_268)
          refine R_ps 2 (pc2 := 792) (L2 := [some (vr (some a0)), some (vr (some a1)), some (vr (some a2)), some (vr (some a3)), some (vr (some a4)), some (vi (J x5)), some (vi (J x_256)), some (vi (J x_261)), none]) (st2 := [vi (J 0), vr (some a3)]) rfl ?_
          obtain ⟨t_270, k⟩ := k
          refine R_zlald (i := 0) rfl t4 t_270 ?_
          refine R_ps 1 (pc2 := 795) (L2 := [some (vr (some a0)), some (vr (some a1)), some (vr (some a2)), some (vr (some a3)), some (vr (some a4)), some (vi (J x5)), some (vi (J x_256)), some (vi (J x_261)), none]) (st2 := [vi (J x_261), vl (gl h_264 a3 (Int.toNat 0))]) rfl ?_
          refine R_zif0 (x := x_261) rfl r_262 (fun c_271 => ?_) (fun c_271 => ?_)
          · have k := k.1 c_271
            refine R_ps 2 (pc2 := 804) (L2 := [some (vr (some a0)), some (vr (some a1)), some (vr (some a2)), some (vr (some a3)), some (vr (some a4)), some (vi (J x5)), some (vi (J x_256)), some (vi (J x_261)), none]) (st2 := [vi (lg_cmp (gl h_264 a3 (Int.toNat 0)) 0)]) rfl ?_
            rw [show (lg_cmp (gl h_264 a3 (Int.toNat 0)) 0) = J (zlc (gl h_264 a3 (Int.toNat 0)) 0) from J_lc']
            refine R_zif0 (x := zlc (gl h_264 a3 (Int.toNat 0)) 0) rfl (zlc_in _ _) (fun c_272 => ?_) (fun c_272 => ?_)
            · have k := k.1 c_272
              refine R_ps 3 (pc2 := 28) (L2 := [some (vr (some a0)), some (vr (some a1)), some (vr (some a2)), some (vr (some a3)), some (vr (some a4)), some (vi ((J x5) + J 5)), some (vi (J x_256)), some (vi (J x_261)), none]) (st2 := []) rfl ?_
              rw [show ((J x5) + J 5) = J (x5 + 5) from J_add' rfl rfl]
              exact R_drop k (LE_of (L := [some (vr (some a0)), some (vr (some a1)), some (vr (some a2)), some (vr (some a3)), some (vr (some a4)), some (vi (J (x5 + 5))), none, none, none]) (L2 := [some (vr (some a0)), some (vr (some a1)), some (vr (some a2)), some (vr (some a3)), some (vr (some a4)), some (vi (J (x5 + 5))), some (vi (J x_256)), some (vi (J x_261)), none]) ⟨rfl, rfl, rfl, rfl, rfl, rfl, trivial⟩)
            · have k := k.2 c_272
              refine R_ps 1 (pc2 := 808) (L2 := [some (vr (some a0)), some (vr (some a1)), some (vr (some a2)), some (vr (some a3)), some (vr (some a4)), some (vi (J x5)), some (vi (J x_256)), some (vi (J x_261)), none]) (st2 := [vi (J 0)]) rfl ?_
              exact R_zzret (x := 0) rfl rfl (Or.inl rfl) (R_zr (x := 0) (K := K) (by decide) k)
          · have k := k.2 c_271
            refine R_ps 3 (pc2 := 804) (L2 := [some (vr (some a0)), some (vr (some a1)), some (vr (some a2)), some (vr (some a3)), some (vr (some a4)), some (vi (J x5)), some (vi (J x_256)), some (vi (J x_261)), none]) (st2 := [vi (lg_cmp (gl h_264 a3 (Int.toNat 0)) 1)]) rfl ?_
            rw [show (lg_cmp (gl h_264 a3 (Int.toNat 0)) 1) = J (zlc (gl h_264 a3 (Int.toNat 0)) 1) from J_lc']
            refine R_zif0 (x := zlc (gl h_264 a3 (Int.toNat 0)) 1) rfl (zlc_in _ _) (fun c_274 => ?_) (fun c_274 => ?_)
            · have k := k.1 c_274
              refine R_ps 3 (pc2 := 28) (L2 := [some (vr (some a0)), some (vr (some a1)), some (vr (some a2)), some (vr (some a3)), some (vr (some a4)), some (vi ((J x5) + J 5)), some (vi (J x_256)), some (vi (J x_261)), none]) (st2 := []) rfl ?_
              rw [show ((J x5) + J 5) = J (x5 + 5) from J_add' rfl rfl]
              exact R_drop k (LE_of (L := [some (vr (some a0)), some (vr (some a1)), some (vr (some a2)), some (vr (some a3)), some (vr (some a4)), some (vi (J (x5 + 5))), none, none, none]) (L2 := [some (vr (some a0)), some (vr (some a1)), some (vr (some a2)), some (vr (some a3)), some (vr (some a4)), some (vi (J (x5 + 5))), some (vi (J x_256)), some (vi (J x_261)), none]) ⟨rfl, rfl, rfl, rfl, rfl, rfl, trivial⟩)
            · have k := k.2 c_274
              refine R_ps 1 (pc2 := 808) (L2 := [some (vr (some a0)), some (vr (some a1)), some (vr (some a2)), some (vr (some a3)), some (vr (some a4)), some (vi (J x5)), some (vi (J x_256)), some (vi (J x_261)), none]) (st2 := [vi (J 0)]) rfl ?_
              exact R_zzret (x := 0) rfl rfl (Or.inl rfl) (R_zr (x := 0) (K := K) (by decide) k)
      · have k := k.2 c_267
        refine R_ps 1 (pc2 := 784) (L2 := [some (vr (some a0)), some (vr (some a1)), some (vr (some a2)), some (vr (some a3)), some (vr (some a4)), some (vi (J x5)), some (vi (J x_256)), some (vi (J x_261)), none]) (st2 := [vi (J 0)]) rfl ?_
        exact R_zzret (x := 0) rfl rfl (Or.inl rfl) (R_zr (x := 0) (K := K) (by decide) k)
    replace k := k.2 c_7
    refine ⟨fun c_7 => ?_, fun c_7 => ?_⟩
    · have k := k.1 c_7
      show WP T N _ 812 _ _ _ _
      refine R_ps 5 (pc2 := 818) (L2 := [some (vr (some a0)), some (vr (some a1)), some (vr (some a2)), some (vr (some a3)), some (vr (some a4)), some (vi (J x5)), none, none, none]) (st2 := [vi ((J x5) + (J 1)), vr (some a0), vr (some a1)]) rfl ?_
      rw [show ((J x5) + (J 1)) = J (x5 + 1) from J_add' rfl rfl]
      obtain ⟨t_278, k⟩ := k
      refine R_ziald (i := x5 + 1) rfl (Or.inr t1) t_278 ?_
      refine R_ps 1 (pc2 := 820) (L2 := [some (vr (some a0)), some (vr (some a1)), some (vr (some a2)), some (vr (some a3)), some (vr (some a4)), some (vi (J x5)), none, none, none]) (st2 := [vr (some a3), vi (J (ai h a0 (x5 + 1))), vr (some a1)]) rfl ?_
      refine R_zcI (as := [vr (some a1), vi (J (ai h a0 (x5 + 1))), vr (some a3)]) rfl rfl ⟨Nat.le_of_ble_eq_true rfl, Nat.le_of_ble_eq_true rfl, rfl, (Or.inl rfl)⟩ rfl rfl k (fun x_281 h_280 r_282 k => ?_)
      refine R_ps 6 (pc2 := 831) (L2 := [some (vr (some a0)), some (vr (some a1)), some (vr (some a2)), some (vr (some a3)), some (vr (some a4)), some (vi (J x5)), some (vi (J x_281)), none, none]) (st2 := [vi ((J x5) + (J 1)), vr (some a0), vr (some a2)]) rfl ?_
      rw [show ((J x5) + (J 1)) = J (x5 + 1) from J_add' rfl rfl]
      refine R_ziald (i := x5 + 1) rfl (Or.inr t1) t_278 ?_
      refine R_zcI (as := [vr (some a2), vi (J (ai h_280 a0 (x5 + 1)))]) rfl rfl ⟨Nat.le_of_ble_eq_true rfl, Nat.le_of_ble_eq_true rfl, rfl, (Or.inr ⟨_, rfl, t3⟩)⟩ rfl rfl k (fun x_286 h_285 r_287 k => ?_)
      refine R_ps 2 (pc2 := 838) (L2 := [some (vr (some a0)), some (vr (some a1)), some (vr (some a2)), some (vr (some a3)), some (vr (some a4)), some (vi (J x5)), some (vi (J x_281)), some (vi (J x_286)), none]) (st2 := [vr (some a2)]) rfl ?_
      refine R_zcI (as := [vr (some a2)]) rfl rfl ⟨Nat.le_of_ble_eq_true rfl, Nat.le_of_ble_eq_true rfl, rfl, (Or.inr ⟨_, rfl, t3⟩)⟩ rfl rfl k (fun x_290 h_289 r_291 k => ?_)
      refine R_ps 1 (pc2 := 843) (L2 := [some (vr (some a0)), some (vr (some a1)), some (vr (some a2)), some (vr (some a3)), some (vr (some a4)), some (vi (J x5)), some (vi (J x_281)), some (vi (J x_286)), none]) (st2 := [vi (J x_281), vi (J x_290)]) rfl ?_
      refine R_zif (x := x_290) (z := x_281) rfl r_291 r_282 (fun c_292 => ?_) (fun c_292 => ?_)
      · have k := k.1 c_292
        refine R_ps 1 (pc2 := 850) (L2 := [some (vr (some a0)), some (vr (some a1)), some (vr (some a2)), some (vr (some a3)), some (vr (some a4)), some (vi (J x5)), some (vi (J x_281)), some (vi (J x_286)), none]) (st2 := [vi (J x_281)]) rfl ?_
        refine R_zif0 (x := x_281) rfl r_282 (fun c_293 => ?_) (fun c_293 => ?_)
        · have k := k.2 c_293
          refine R_ps 3 (pc2 := 28) (L2 := [some (vr (some a0)), some (vr (some a1)), some (vr (some a2)), some (vr (some a3)), some (vr (some a4)), some (vi ((J x5) + J 5)), some (vi (J x_281)), some (vi (J x_286)), none]) (st2 := []) rfl ?_
          rw [show ((J x5) + J 5) = J (x5 + 5) from J_add' rfl rfl]
          exact R_drop k (LE_of (L := [some (vr (some a0)), some (vr (some a1)), some (vr (some a2)), some (vr (some a3)), some (vr (some a4)), some (vi (J (x5 + 5))), none, none, none]) (L2 := [some (vr (some a0)), some (vr (some a1)), some (vr (some a2)), some (vr (some a3)), some (vr (some a4)), some (vi (J (x5 + 5))), some (vi (J x_281)), some (vi (J x_286)), none]) ⟨rfl, rfl, rfl, rfl, rfl, rfl, trivial⟩)
        · have k := k.1 (Classical.not_not.mp c_293)
          refine R_ps 2 (pc2 := 855) (L2 := [some (vr (some a0)), some (vr (some a1)), some (vr (some a2)), some (vr (some a3)), some (vr (some a4)), some (vi (J x5)), some (vi (J x_281)), some (vi (J x_286)), none]) (st2 := [vi (J 0), vr (some a3)]) rfl ?_
          obtain ⟨t_295, k⟩ := k
          refine R_zlald (i := 0) rfl t4 t_295 ?_
          refine R_ps 3 (pc2 := 860) (L2 := [some (vr (some a0)), some (vr (some a1)), some (vr (some a2)), some (vr (some a3)), some (vr (some a4)), some (vi (J x5)), some (vi (J x_281)), some (vi (J x_286)), none]) (st2 := [vi (lg_cmp (gl h_289 a3 (Int.toNat 0)) ((J x_286).toInt64))]) rfl ?_
          rw [show (lg_cmp (gl h_289 a3 (Int.toNat 0)) ((J x_286).toInt64)) = J (zlc (gl h_289 a3 (Int.toNat 0)) ((J x_286).toInt64)) from J_lc']
          refine R_zif0 (x := zlc (gl h_289 a3 (Int.toNat 0)) ((J x_286).toInt64)) rfl (zlc_in _ _) (fun c_296 => ?_) (fun c_296 => ?_)
          · have k := k.1 c_296
            refine R_ps 3 (pc2 := 28) (L2 := [some (vr (some a0)), some (vr (some a1)), some (vr (some a2)), some (vr (some a3)), some (vr (some a4)), some (vi ((J x5) + J 5)), some (vi (J x_281)), some (vi (J x_286)), none]) (st2 := []) rfl ?_
            rw [show ((J x5) + J 5) = J (x5 + 5) from J_add' rfl rfl]
            exact R_drop k (LE_of (L := [some (vr (some a0)), some (vr (some a1)), some (vr (some a2)), some (vr (some a3)), some (vr (some a4)), some (vi (J (x5 + 5))), none, none, none]) (L2 := [some (vr (some a0)), some (vr (some a1)), some (vr (some a2)), some (vr (some a3)), some (vr (some a4)), some (vi (J (x5 + 5))), some (vi (J x_281)), some (vi (J x_286)), none]) ⟨rfl, rfl, rfl, rfl, rfl, rfl, trivial⟩)
          · have k := k.2 c_296
            refine R_ps 1 (pc2 := 864) (L2 := [some (vr (some a0)), some (vr (some a1)), some (vr (some a2)), some (vr (some a3)), some (vr (some a4)), some (vi (J x5)), some (vi (J x_281)), some (vi (J x_286)), none]) (st2 := [vi (J 0)]) rfl ?_
            exact R_zzret (x := 0) rfl rfl (Or.inl rfl) (R_zr (x := 0) (K := K) (by decide) k)
      · have k := k.2 c_292
        refine R_ps 1 (pc2 := 847) (L2 := [some (vr (some a0)), some (vr (some a1)), some (vr (some a2)), some (vr (some a3)), some (vr (some a4)), some (vi (J x5)), some (vi (J x_281)), some (vi (J x_286)), none]) (st2 := [vi (J 0)]) rfl ?_
        exact R_zzret (x := 0) rfl rfl (Or.inl rfl) (R_zr (x := 0) (K := K) (by decide) k)
    replace k := k.2 c_7
    refine ⟨fun c_7 => ?_, fun c_7 => ?_⟩
    · have k := k.1 c_7
      show WP T N _ 868 _ _ _ _
      refine R_ps 5 (pc2 := 874) (L2 := [some (vr (some a0)), some (vr (some a1)), some (vr (some a2)), some (vr (some a3)), some (vr (some a4)), some (vi (J x5)), none, none, none]) (st2 := [vi ((J x5) + (J 1)), vr (some a0), vr (some a1)]) rfl ?_
      rw [show ((J x5) + (J 1)) = J (x5 + 1) from J_add' rfl rfl]
      obtain ⟨t_300, k⟩ := k
      refine R_ziald (i := x5 + 1) rfl (Or.inr t1) t_300 ?_
      refine R_ps 4 (pc2 := 880) (L2 := [some (vr (some a0)), some (vr (some a1)), some (vr (some a2)), some (vr (some a3)), some (vr (some a4)), some (vi (J x5)), none, none, none]) (st2 := [vi ((J x5) + (J 2)), vr (some a0), vi (J (ai h a0 (x5 + 1))), vr (some a1)]) rfl ?_
      rw [show ((J x5) + (J 2)) = J (x5 + 2) from J_add' rfl rfl]
      obtain ⟨t_302, k⟩ := k
      refine R_ziald (i := x5 + 2) rfl (Or.inr t1) t_302 ?_
      refine R_ps 1 (pc2 := 882) (L2 := [some (vr (some a0)), some (vr (some a1)), some (vr (some a2)), some (vr (some a3)), some (vr (some a4)), some (vi (J x5)), none, none, none]) (st2 := [vr (some a3), vi (J (ai h a0 (x5 + 2))), vi (J (ai h a0 (x5 + 1))), vr (some a1)]) rfl ?_
      refine R_zcI (as := [vr (some a1), vi (J (ai h a0 (x5 + 1))), vi (J (ai h a0 (x5 + 2))), vr (some a3)]) rfl rfl ⟨Nat.le_of_ble_eq_true rfl, Nat.le_of_ble_eq_true rfl, rfl, (Or.inl rfl)⟩ rfl rfl k (fun x_305 h_304 r_306 k => ?_)
      refine R_ps 6 (pc2 := 893) (L2 := [some (vr (some a0)), some (vr (some a1)), some (vr (some a2)), some (vr (some a3)), some (vr (some a4)), some (vi (J x5)), some (vi (J x_305)), none, none]) (st2 := [vi ((J x5) + (J 1)), vr (some a0), vr (some a2)]) rfl ?_
      rw [show ((J x5) + (J 1)) = J (x5 + 1) from J_add' rfl rfl]
      refine R_ziald (i := x5 + 1) rfl (Or.inr t1) t_300 ?_
      refine R_ps 4 (pc2 := 899) (L2 := [some (vr (some a0)), some (vr (some a1)), some (vr (some a2)), some (vr (some a3)), some (vr (some a4)), some (vi (J x5)), some (vi (J x_305)), none, none]) (st2 := [vi ((J x5) + (J 2)), vr (some a0), vi (J (ai h_304 a0 (x5 + 1))), vr (some a2)]) rfl ?_
      rw [show ((J x5) + (J 2)) = J (x5 + 2) from J_add' rfl rfl]
      refine R_ziald (i := x5 + 2) rfl (Or.inr t1) t_302 ?_
      refine R_zcI (as := [vr (some a2), vi (J (ai h_304 a0 (x5 + 1))), vi (J (ai h_304 a0 (x5 + 2)))]) rfl rfl ⟨Nat.le_of_ble_eq_true rfl, Nat.le_of_ble_eq_true rfl, rfl, (Or.inr ⟨_, rfl, t3⟩)⟩ rfl rfl k (fun x_311 h_310 r_312 k => ?_)
      refine R_ps 2 (pc2 := 906) (L2 := [some (vr (some a0)), some (vr (some a1)), some (vr (some a2)), some (vr (some a3)), some (vr (some a4)), some (vi (J x5)), some (vi (J x_305)), some (vi (J x_311)), none]) (st2 := [vr (some a2)]) rfl ?_
      refine R_zcI (as := [vr (some a2)]) rfl rfl ⟨Nat.le_of_ble_eq_true rfl, Nat.le_of_ble_eq_true rfl, rfl, (Or.inr ⟨_, rfl, t3⟩)⟩ rfl rfl k (fun x_315 h_314 r_316 k => ?_)
      refine R_ps 1 (pc2 := 911) (L2 := [some (vr (some a0)), some (vr (some a1)), some (vr (some a2)), some (vr (some a3)), some (vr (some a4)), some (vi (J x5)), some (vi (J x_305)), some (vi (J x_311)), none]) (st2 := [vi (J x_305), vi (J x_315)]) rfl ?_
      refine R_zif (x := x_315) (z := x_305) rfl r_316 r_306 (fun c_317 => ?_) (fun c_317 => ?_)
      · have k := k.1 c_317
        refine R_ps 1 (pc2 := 918) (L2 := [some (vr (some a0)), some (vr (some a1)), some (vr (some a2)), some (vr (some a3)), some (vr (some a4)), some (vi (J x5)), some (vi (J x_305)), some (vi (J x_311)), none]) (st2 := [vi (J x_305)]) rfl ?_
        refine R_zif0 (x := x_305) rfl r_306 (fun c_318 => ?_) (fun c_318 => ?_)
        · have k := k.2 c_318
          refine R_ps 3 (pc2 := 28) (L2 := [some (vr (some a0)), some (vr (some a1)), some (vr (some a2)), some (vr (some a3)), some (vr (some a4)), some (vi ((J x5) + J 5)), some (vi (J x_305)), some (vi (J x_311)), none]) (st2 := []) rfl ?_
          rw [show ((J x5) + J 5) = J (x5 + 5) from J_add' rfl rfl]
          exact R_drop k (LE_of (L := [some (vr (some a0)), some (vr (some a1)), some (vr (some a2)), some (vr (some a3)), some (vr (some a4)), some (vi (J (x5 + 5))), none, none, none]) (L2 := [some (vr (some a0)), some (vr (some a1)), some (vr (some a2)), some (vr (some a3)), some (vr (some a4)), some (vi (J (x5 + 5))), some (vi (J x_305)), some (vi (J x_311)), none]) ⟨rfl, rfl, rfl, rfl, rfl, rfl, trivial⟩)
        · have k := k.1 (Classical.not_not.mp c_318)
          refine R_ps 2 (pc2 := 923) (L2 := [some (vr (some a0)), some (vr (some a1)), some (vr (some a2)), some (vr (some a3)), some (vr (some a4)), some (vi (J x5)), some (vi (J x_305)), some (vi (J x_311)), none]) (st2 := [vi (J 0), vr (some a3)]) rfl ?_
          obtain ⟨t_320, k⟩ := k
          refine R_zlald (i := 0) rfl t4 t_320 ?_
          refine R_ps 3 (pc2 := 928) (L2 := [some (vr (some a0)), some (vr (some a1)), some (vr (some a2)), some (vr (some a3)), some (vr (some a4)), some (vi (J x5)), some (vi (J x_305)), some (vi (J x_311)), none]) (st2 := [vi (lg_cmp (gl h_314 a3 (Int.toNat 0)) ((J x_311).toInt64))]) rfl ?_
          rw [show (lg_cmp (gl h_314 a3 (Int.toNat 0)) ((J x_311).toInt64)) = J (zlc (gl h_314 a3 (Int.toNat 0)) ((J x_311).toInt64)) from J_lc']
          refine R_zif0 (x := zlc (gl h_314 a3 (Int.toNat 0)) ((J x_311).toInt64)) rfl (zlc_in _ _) (fun c_321 => ?_) (fun c_321 => ?_)
          · have k := k.1 c_321
            refine R_ps 3 (pc2 := 28) (L2 := [some (vr (some a0)), some (vr (some a1)), some (vr (some a2)), some (vr (some a3)), some (vr (some a4)), some (vi ((J x5) + J 5)), some (vi (J x_305)), some (vi (J x_311)), none]) (st2 := []) rfl ?_
            rw [show ((J x5) + J 5) = J (x5 + 5) from J_add' rfl rfl]
            exact R_drop k (LE_of (L := [some (vr (some a0)), some (vr (some a1)), some (vr (some a2)), some (vr (some a3)), some (vr (some a4)), some (vi (J (x5 + 5))), none, none, none]) (L2 := [some (vr (some a0)), some (vr (some a1)), some (vr (some a2)), some (vr (some a3)), some (vr (some a4)), some (vi (J (x5 + 5))), some (vi (J x_305)), some (vi (J x_311)), none]) ⟨rfl, rfl, rfl, rfl, rfl, rfl, trivial⟩)
          · have k := k.2 c_321
            refine R_ps 1 (pc2 := 932) (L2 := [some (vr (some a0)), some (vr (some a1)), some (vr (some a2)), some (vr (some a3)), some (vr (some a4)), some (vi (J x5)), some (vi (J x_305)), some (vi (J x_311)), none]) (st2 := [vi (J 0)]) rfl ?_
            exact R_zzret (x := 0) rfl rfl (Or.inl rfl) (R_zr (x := 0) (K := K) (by decide) k)
      · have k := k.2 c_317
        refine R_ps 1 (pc2 := 915) (L2 := [some (vr (some a0)), some (vr (some a1)), some (vr (some a2)), some (vr (some a3)), some (vr (some a4)), some (vi (J x5)), some (vi (J x_305)), some (vi (J x_311)), none]) (st2 := [vi (J 0)]) rfl ?_
        exact R_zzret (x := 0) rfl rfl (Or.inl rfl) (R_zr (x := 0) (K := K) (by decide) k)
    replace k := k.2 c_7
    refine ⟨fun c_7 => ?_, fun c_7 => ?_⟩
    · have k := k.1 c_7
      show WP T N _ 936 _ _ _ _
      refine R_ps 5 (pc2 := 942) (L2 := [some (vr (some a0)), some (vr (some a1)), some (vr (some a2)), some (vr (some a3)), some (vr (some a4)), some (vi (J x5)), none, none, none]) (st2 := [vi ((J x5) + (J 1)), vr (some a0), vr (some a1)]) rfl ?_
      rw [show ((J x5) + (J 1)) = J (x5 + 1) from J_add' rfl rfl]
      obtain ⟨t_325, k⟩ := k
      refine R_ziald (i := x5 + 1) rfl (Or.inr t1) t_325 ?_
      refine R_ps 1 (pc2 := 944) (L2 := [some (vr (some a0)), some (vr (some a1)), some (vr (some a2)), some (vr (some a3)), some (vr (some a4)), some (vi (J x5)), none, none, none]) (st2 := [vr (some a3), vi (J (ai h a0 (x5 + 1))), vr (some a1)]) rfl ?_
      refine R_zcI (as := [vr (some a1), vi (J (ai h a0 (x5 + 1))), vr (some a3)]) rfl rfl ⟨Nat.le_of_ble_eq_true rfl, Nat.le_of_ble_eq_true rfl, rfl, (Or.inl rfl)⟩ rfl rfl k (fun x_328 h_327 r_329 k => ?_)
      refine R_ps 6 (pc2 := 955) (L2 := [some (vr (some a0)), some (vr (some a1)), some (vr (some a2)), some (vr (some a3)), some (vr (some a4)), some (vi (J x5)), some (vi (J x_328)), none, none]) (st2 := [vi ((J x5) + (J 1)), vr (some a0), vr (some a2)]) rfl ?_
      rw [show ((J x5) + (J 1)) = J (x5 + 1) from J_add' rfl rfl]
      refine R_ziald (i := x5 + 1) rfl (Or.inr t1) t_325 ?_
      refine R_zcI (as := [vr (some a2), vi (J (ai h_327 a0 (x5 + 1)))]) rfl rfl ⟨Nat.le_of_ble_eq_true rfl, Nat.le_of_ble_eq_true rfl, rfl, (Or.inr ⟨_, rfl, t3⟩)⟩ rfl rfl k (fun x_333 h_332 r_334 k => ?_)
      refine R_ps 2 (pc2 := 962) (L2 := [some (vr (some a0)), some (vr (some a1)), some (vr (some a2)), some (vr (some a3)), some (vr (some a4)), some (vi (J x5)), some (vi (J x_328)), some (vi (J x_333)), none]) (st2 := [vr (some a2)]) rfl ?_
      refine R_zcI (as := [vr (some a2)]) rfl rfl ⟨Nat.le_of_ble_eq_true rfl, Nat.le_of_ble_eq_true rfl, rfl, (Or.inr ⟨_, rfl, t3⟩)⟩ rfl rfl k (fun x_337 h_336 r_338 k => ?_)
      refine R_ps 1 (pc2 := 967) (L2 := [some (vr (some a0)), some (vr (some a1)), some (vr (some a2)), some (vr (some a3)), some (vr (some a4)), some (vi (J x5)), some (vi (J x_328)), some (vi (J x_333)), none]) (st2 := [vi (J x_328), vi (J x_337)]) rfl ?_
      refine R_zif (x := x_337) (z := x_328) rfl r_338 r_329 (fun c_339 => ?_) (fun c_339 => ?_)
      · have k := k.1 c_339
        refine R_ps 1 (pc2 := 974) (L2 := [some (vr (some a0)), some (vr (some a1)), some (vr (some a2)), some (vr (some a3)), some (vr (some a4)), some (vi (J x5)), some (vi (J x_328)), some (vi (J x_333)), none]) (st2 := [vi (J x_328)]) rfl ?_
        refine R_zif0 (x := x_328) rfl r_329 (fun c_340 => ?_) (fun c_340 => ?_)
        · have k := k.2 c_340
          refine R_ps 3 (pc2 := 28) (L2 := [some (vr (some a0)), some (vr (some a1)), some (vr (some a2)), some (vr (some a3)), some (vr (some a4)), some (vi ((J x5) + J 5)), some (vi (J x_328)), some (vi (J x_333)), none]) (st2 := []) rfl ?_
          rw [show ((J x5) + J 5) = J (x5 + 5) from J_add' rfl rfl]
          exact R_drop k (LE_of (L := [some (vr (some a0)), some (vr (some a1)), some (vr (some a2)), some (vr (some a3)), some (vr (some a4)), some (vi (J (x5 + 5))), none, none, none]) (L2 := [some (vr (some a0)), some (vr (some a1)), some (vr (some a2)), some (vr (some a3)), some (vr (some a4)), some (vi (J (x5 + 5))), some (vi (J x_328)), some (vi (J x_333)), none]) ⟨rfl, rfl, rfl, rfl, rfl, rfl, trivial⟩)
        · have k := k.1 (Classical.not_not.mp c_340)
          refine R_ps 2 (pc2 := 979) (L2 := [some (vr (some a0)), some (vr (some a1)), some (vr (some a2)), some (vr (some a3)), some (vr (some a4)), some (vi (J x5)), some (vi (J x_328)), some (vi (J x_333)), none]) (st2 := [vi (J 0), vr (some a3)]) rfl ?_
          obtain ⟨t_342, k⟩ := k
          refine R_zlald (i := 0) rfl t4 t_342 ?_
          refine R_ps 3 (pc2 := 984) (L2 := [some (vr (some a0)), some (vr (some a1)), some (vr (some a2)), some (vr (some a3)), some (vr (some a4)), some (vi (J x5)), some (vi (J x_328)), some (vi (J x_333)), none]) (st2 := [vi (lg_cmp (gl h_336 a3 (Int.toNat 0)) ((J x_333).toInt64))]) rfl ?_
          rw [show (lg_cmp (gl h_336 a3 (Int.toNat 0)) ((J x_333).toInt64)) = J (zlc (gl h_336 a3 (Int.toNat 0)) ((J x_333).toInt64)) from J_lc']
          refine R_zif0 (x := zlc (gl h_336 a3 (Int.toNat 0)) ((J x_333).toInt64)) rfl (zlc_in _ _) (fun c_343 => ?_) (fun c_343 => ?_)
          · have k := k.1 c_343
            refine R_ps 3 (pc2 := 28) (L2 := [some (vr (some a0)), some (vr (some a1)), some (vr (some a2)), some (vr (some a3)), some (vr (some a4)), some (vi ((J x5) + J 5)), some (vi (J x_328)), some (vi (J x_333)), none]) (st2 := []) rfl ?_
            rw [show ((J x5) + J 5) = J (x5 + 5) from J_add' rfl rfl]
            exact R_drop k (LE_of (L := [some (vr (some a0)), some (vr (some a1)), some (vr (some a2)), some (vr (some a3)), some (vr (some a4)), some (vi (J (x5 + 5))), none, none, none]) (L2 := [some (vr (some a0)), some (vr (some a1)), some (vr (some a2)), some (vr (some a3)), some (vr (some a4)), some (vi (J (x5 + 5))), some (vi (J x_328)), some (vi (J x_333)), none]) ⟨rfl, rfl, rfl, rfl, rfl, rfl, trivial⟩)
          · have k := k.2 c_343
            refine R_ps 1 (pc2 := 988) (L2 := [some (vr (some a0)), some (vr (some a1)), some (vr (some a2)), some (vr (some a3)), some (vr (some a4)), some (vi (J x5)), some (vi (J x_328)), some (vi (J x_333)), none]) (st2 := [vi (J 0)]) rfl ?_
            exact R_zzret (x := 0) rfl rfl (Or.inl rfl) (R_zr (x := 0) (K := K) (by decide) k)
      · have k := k.2 c_339
        refine R_ps 1 (pc2 := 971) (L2 := [some (vr (some a0)), some (vr (some a1)), some (vr (some a2)), some (vr (some a3)), some (vr (some a4)), some (vi (J x5)), some (vi (J x_328)), some (vi (J x_333)), none]) (st2 := [vi (J 0)]) rfl ?_
        exact R_zzret (x := 0) rfl rfl (Or.inl rfl) (R_zr (x := 0) (K := K) (by decide) k)
    replace k := k.2 c_7
    refine ⟨fun c_7 => ?_, fun c_7 => ?_⟩
    · have k := k.1 c_7
      show WP T N _ 992 _ _ _ _
      refine R_ps 5 (pc2 := 998) (L2 := [some (vr (some a0)), some (vr (some a1)), some (vr (some a2)), some (vr (some a3)), some (vr (some a4)), some (vi (J x5)), none, none, none]) (st2 := [vi ((J x5) + (J 1)), vr (some a0), vr (some a1)]) rfl ?_
      rw [show ((J x5) + (J 1)) = J (x5 + 1) from J_add' rfl rfl]
      obtain ⟨t_347, k⟩ := k
      refine R_ziald (i := x5 + 1) rfl (Or.inr t1) t_347 ?_
      refine R_ps 4 (pc2 := 1004) (L2 := [some (vr (some a0)), some (vr (some a1)), some (vr (some a2)), some (vr (some a3)), some (vr (some a4)), some (vi (J x5)), none, none, none]) (st2 := [vi ((J x5) + (J 2)), vr (some a0), vi (J (ai h a0 (x5 + 1))), vr (some a1)]) rfl ?_
      rw [show ((J x5) + (J 2)) = J (x5 + 2) from J_add' rfl rfl]
      obtain ⟨t_349, k⟩ := k
      refine R_ziald (i := x5 + 2) rfl (Or.inr t1) t_349 ?_
      refine R_ps 1 (pc2 := 1006) (L2 := [some (vr (some a0)), some (vr (some a1)), some (vr (some a2)), some (vr (some a3)), some (vr (some a4)), some (vi (J x5)), none, none, none]) (st2 := [vr (some a3), vi (J (ai h a0 (x5 + 2))), vi (J (ai h a0 (x5 + 1))), vr (some a1)]) rfl ?_
      refine R_zcI (as := [vr (some a1), vi (J (ai h a0 (x5 + 1))), vi (J (ai h a0 (x5 + 2))), vr (some a3)]) rfl rfl ⟨Nat.le_of_ble_eq_true rfl, Nat.le_of_ble_eq_true rfl, rfl, (Or.inl rfl)⟩ rfl rfl k (fun x_352 h_351 r_353 k => ?_)
      refine R_ps 6 (pc2 := 1017) (L2 := [some (vr (some a0)), some (vr (some a1)), some (vr (some a2)), some (vr (some a3)), some (vr (some a4)), some (vi (J x5)), some (vi (J x_352)), none, none]) (st2 := [vi ((J x5) + (J 1)), vr (some a0), vr (some a2)]) rfl ?_
      rw [show ((J x5) + (J 1)) = J (x5 + 1) from J_add' rfl rfl]
      refine R_ziald (i := x5 + 1) rfl (Or.inr t1) t_347 ?_
      refine R_ps 4 (pc2 := 1023) (L2 := [some (vr (some a0)), some (vr (some a1)), some (vr (some a2)), some (vr (some a3)), some (vr (some a4)), some (vi (J x5)), some (vi (J x_352)), none, none]) (st2 := [vi ((J x5) + (J 2)), vr (some a0), vi (J (ai h_351 a0 (x5 + 1))), vr (some a2)]) rfl ?_
      rw [show ((J x5) + (J 2)) = J (x5 + 2) from J_add' rfl rfl]
      refine R_ziald (i := x5 + 2) rfl (Or.inr t1) t_349 ?_
      refine R_zcI (as := [vr (some a2), vi (J (ai h_351 a0 (x5 + 1))), vi (J (ai h_351 a0 (x5 + 2)))]) rfl rfl ⟨Nat.le_of_ble_eq_true rfl, Nat.le_of_ble_eq_true rfl, rfl, (Or.inr ⟨_, rfl, t3⟩)⟩ rfl rfl k (fun x_358 h_357 r_359 k => ?_)
      refine R_ps 2 (pc2 := 1030) (L2 := [some (vr (some a0)), some (vr (some a1)), some (vr (some a2)), some (vr (some a3)), some (vr (some a4)), some (vi (J x5)), some (vi (J x_352)), some (vi (J x_358)), none]) (st2 := [vr (some a2)]) rfl ?_
      refine R_zcI (as := [vr (some a2)]) rfl rfl ⟨Nat.le_of_ble_eq_true rfl, Nat.le_of_ble_eq_true rfl, rfl, (Or.inr ⟨_, rfl, t3⟩)⟩ rfl rfl k (fun x_362 h_361 r_363 k => ?_)
      refine R_ps 1 (pc2 := 1035) (L2 := [some (vr (some a0)), some (vr (some a1)), some (vr (some a2)), some (vr (some a3)), some (vr (some a4)), some (vi (J x5)), some (vi (J x_352)), some (vi (J x_358)), none]) (st2 := [vi (J x_352), vi (J x_362)]) rfl ?_
      refine R_zif (x := x_362) (z := x_352) rfl r_363 r_353 (fun c_364 => ?_) (fun c_364 => ?_)
      · have k := k.1 c_364
        refine R_ps 1 (pc2 := 1042) (L2 := [some (vr (some a0)), some (vr (some a1)), some (vr (some a2)), some (vr (some a3)), some (vr (some a4)), some (vi (J x5)), some (vi (J x_352)), some (vi (J x_358)), none]) (st2 := [vi (J x_352)]) rfl ?_
        refine R_zif0 (x := x_352) rfl r_353 (fun c_365 => ?_) (fun c_365 => ?_)
        · have k := k.2 c_365
          refine R_ps 3 (pc2 := 28) (L2 := [some (vr (some a0)), some (vr (some a1)), some (vr (some a2)), some (vr (some a3)), some (vr (some a4)), some (vi ((J x5) + J 5)), some (vi (J x_352)), some (vi (J x_358)), none]) (st2 := []) rfl ?_
          rw [show ((J x5) + J 5) = J (x5 + 5) from J_add' rfl rfl]
          exact R_drop k (LE_of (L := [some (vr (some a0)), some (vr (some a1)), some (vr (some a2)), some (vr (some a3)), some (vr (some a4)), some (vi (J (x5 + 5))), none, none, none]) (L2 := [some (vr (some a0)), some (vr (some a1)), some (vr (some a2)), some (vr (some a3)), some (vr (some a4)), some (vi (J (x5 + 5))), some (vi (J x_352)), some (vi (J x_358)), none]) ⟨rfl, rfl, rfl, rfl, rfl, rfl, trivial⟩)
        · have k := k.1 (Classical.not_not.mp c_365)
          refine R_ps 2 (pc2 := 1047) (L2 := [some (vr (some a0)), some (vr (some a1)), some (vr (some a2)), some (vr (some a3)), some (vr (some a4)), some (vi (J x5)), some (vi (J x_352)), some (vi (J x_358)), none]) (st2 := [vi (J 0), vr (some a3)]) rfl ?_
          obtain ⟨t_367, k⟩ := k
          refine R_zlald (i := 0) rfl t4 t_367 ?_
          refine R_ps 3 (pc2 := 1052) (L2 := [some (vr (some a0)), some (vr (some a1)), some (vr (some a2)), some (vr (some a3)), some (vr (some a4)), some (vi (J x5)), some (vi (J x_352)), some (vi (J x_358)), none]) (st2 := [vi (lg_cmp (gl h_361 a3 (Int.toNat 0)) ((J x_358).toInt64))]) rfl ?_
          rw [show (lg_cmp (gl h_361 a3 (Int.toNat 0)) ((J x_358).toInt64)) = J (zlc (gl h_361 a3 (Int.toNat 0)) ((J x_358).toInt64)) from J_lc']
          refine R_zif0 (x := zlc (gl h_361 a3 (Int.toNat 0)) ((J x_358).toInt64)) rfl (zlc_in _ _) (fun c_368 => ?_) (fun c_368 => ?_)
          · have k := k.1 c_368
            refine R_ps 3 (pc2 := 28) (L2 := [some (vr (some a0)), some (vr (some a1)), some (vr (some a2)), some (vr (some a3)), some (vr (some a4)), some (vi ((J x5) + J 5)), some (vi (J x_352)), some (vi (J x_358)), none]) (st2 := []) rfl ?_
            rw [show ((J x5) + J 5) = J (x5 + 5) from J_add' rfl rfl]
            exact R_drop k (LE_of (L := [some (vr (some a0)), some (vr (some a1)), some (vr (some a2)), some (vr (some a3)), some (vr (some a4)), some (vi (J (x5 + 5))), none, none, none]) (L2 := [some (vr (some a0)), some (vr (some a1)), some (vr (some a2)), some (vr (some a3)), some (vr (some a4)), some (vi (J (x5 + 5))), some (vi (J x_352)), some (vi (J x_358)), none]) ⟨rfl, rfl, rfl, rfl, rfl, rfl, trivial⟩)
          · have k := k.2 c_368
            refine R_ps 1 (pc2 := 1056) (L2 := [some (vr (some a0)), some (vr (some a1)), some (vr (some a2)), some (vr (some a3)), some (vr (some a4)), some (vi (J x5)), some (vi (J x_352)), some (vi (J x_358)), none]) (st2 := [vi (J 0)]) rfl ?_
            exact R_zzret (x := 0) rfl rfl (Or.inl rfl) (R_zr (x := 0) (K := K) (by decide) k)
      · have k := k.2 c_364
        refine R_ps 1 (pc2 := 1039) (L2 := [some (vr (some a0)), some (vr (some a1)), some (vr (some a2)), some (vr (some a3)), some (vr (some a4)), some (vi (J x5)), some (vi (J x_352)), some (vi (J x_358)), none]) (st2 := [vi (J 0)]) rfl ?_
        exact R_zzret (x := 0) rfl rfl (Or.inl rfl) (R_zr (x := 0) (K := K) (by decide) k)
    replace k := k.2 c_7
    refine ⟨fun c_7 => ?_, fun c_7 => ?_⟩
    · have k := k.1 c_7
      show WP T N _ 1060 _ _ _ _
      refine R_ps 5 (pc2 := 1066) (L2 := [some (vr (some a0)), some (vr (some a1)), some (vr (some a2)), some (vr (some a3)), some (vr (some a4)), some (vi (J x5)), none, none, none]) (st2 := [vi ((J x5) + (J 1)), vr (some a0), vr (some a1)]) rfl ?_
      rw [show ((J x5) + (J 1)) = J (x5 + 1) from J_add' rfl rfl]
      obtain ⟨t_372, k⟩ := k
      refine R_ziald (i := x5 + 1) rfl (Or.inr t1) t_372 ?_
      refine R_ps 4 (pc2 := 1072) (L2 := [some (vr (some a0)), some (vr (some a1)), some (vr (some a2)), some (vr (some a3)), some (vr (some a4)), some (vi (J x5)), none, none, none]) (st2 := [vi ((J x5) + (J 2)), vr (some a0), vi (J (ai h a0 (x5 + 1))), vr (some a1)]) rfl ?_
      rw [show ((J x5) + (J 2)) = J (x5 + 2) from J_add' rfl rfl]
      obtain ⟨t_374, k⟩ := k
      refine R_ziald (i := x5 + 2) rfl (Or.inr t1) t_374 ?_
      refine R_ps 1 (pc2 := 1074) (L2 := [some (vr (some a0)), some (vr (some a1)), some (vr (some a2)), some (vr (some a3)), some (vr (some a4)), some (vi (J x5)), none, none, none]) (st2 := [vr (some a3), vi (J (ai h a0 (x5 + 2))), vi (J (ai h a0 (x5 + 1))), vr (some a1)]) rfl ?_
      refine R_zcI (as := [vr (some a1), vi (J (ai h a0 (x5 + 1))), vi (J (ai h a0 (x5 + 2))), vr (some a3)]) rfl rfl ⟨Nat.le_of_ble_eq_true rfl, Nat.le_of_ble_eq_true rfl, rfl, (Or.inl rfl)⟩ rfl rfl k (fun x_377 h_376 r_378 k => ?_)
      refine R_ps 6 (pc2 := 1085) (L2 := [some (vr (some a0)), some (vr (some a1)), some (vr (some a2)), some (vr (some a3)), some (vr (some a4)), some (vi (J x5)), some (vi (J x_377)), none, none]) (st2 := [vi ((J x5) + (J 1)), vr (some a0), vr (some a2)]) rfl ?_
      rw [show ((J x5) + (J 1)) = J (x5 + 1) from J_add' rfl rfl]
      refine R_ziald (i := x5 + 1) rfl (Or.inr t1) t_372 ?_
      refine R_ps 4 (pc2 := 1091) (L2 := [some (vr (some a0)), some (vr (some a1)), some (vr (some a2)), some (vr (some a3)), some (vr (some a4)), some (vi (J x5)), some (vi (J x_377)), none, none]) (st2 := [vi ((J x5) + (J 2)), vr (some a0), vi (J (ai h_376 a0 (x5 + 1))), vr (some a2)]) rfl ?_
      rw [show ((J x5) + (J 2)) = J (x5 + 2) from J_add' rfl rfl]
      refine R_ziald (i := x5 + 2) rfl (Or.inr t1) t_374 ?_
      refine R_zcI (as := [vr (some a2), vi (J (ai h_376 a0 (x5 + 1))), vi (J (ai h_376 a0 (x5 + 2)))]) rfl rfl ⟨Nat.le_of_ble_eq_true rfl, Nat.le_of_ble_eq_true rfl, rfl, (Or.inr ⟨_, rfl, t3⟩)⟩ rfl rfl k (fun x_383 h_382 r_384 k => ?_)
      refine R_ps 2 (pc2 := 1098) (L2 := [some (vr (some a0)), some (vr (some a1)), some (vr (some a2)), some (vr (some a3)), some (vr (some a4)), some (vi (J x5)), some (vi (J x_377)), some (vi (J x_383)), none]) (st2 := [vr (some a2)]) rfl ?_
      refine R_zcI (as := [vr (some a2)]) rfl rfl ⟨Nat.le_of_ble_eq_true rfl, Nat.le_of_ble_eq_true rfl, rfl, (Or.inr ⟨_, rfl, t3⟩)⟩ rfl rfl k (fun x_387 h_386 r_388 k => ?_)
      refine R_ps 1 (pc2 := 1103) (L2 := [some (vr (some a0)), some (vr (some a1)), some (vr (some a2)), some (vr (some a3)), some (vr (some a4)), some (vi (J x5)), some (vi (J x_377)), some (vi (J x_383)), none]) (st2 := [vi (J x_377), vi (J x_387)]) rfl ?_
      refine R_zif (x := x_387) (z := x_377) rfl r_388 r_378 (fun c_389 => ?_) (fun c_389 => ?_)
      · have k := k.1 c_389
        refine R_ps 1 (pc2 := 1110) (L2 := [some (vr (some a0)), some (vr (some a1)), some (vr (some a2)), some (vr (some a3)), some (vr (some a4)), some (vi (J x5)), some (vi (J x_377)), some (vi (J x_383)), none]) (st2 := [vi (J x_377)]) rfl ?_
        refine R_zif0 (x := x_377) rfl r_378 (fun c_390 => ?_) (fun c_390 => ?_)
        · have k := k.2 c_390
          refine R_ps 3 (pc2 := 28) (L2 := [some (vr (some a0)), some (vr (some a1)), some (vr (some a2)), some (vr (some a3)), some (vr (some a4)), some (vi ((J x5) + J 5)), some (vi (J x_377)), some (vi (J x_383)), none]) (st2 := []) rfl ?_
          rw [show ((J x5) + J 5) = J (x5 + 5) from J_add' rfl rfl]
          exact R_drop k (LE_of (L := [some (vr (some a0)), some (vr (some a1)), some (vr (some a2)), some (vr (some a3)), some (vr (some a4)), some (vi (J (x5 + 5))), none, none, none]) (L2 := [some (vr (some a0)), some (vr (some a1)), some (vr (some a2)), some (vr (some a3)), some (vr (some a4)), some (vi (J (x5 + 5))), some (vi (J x_377)), some (vi (J x_383)), none]) ⟨rfl, rfl, rfl, rfl, rfl, rfl, trivial⟩)
        · have k := k.1 (Classical.not_not.mp c_390)
          refine R_ps 2 (pc2 := 1115) (L2 := [some (vr (some a0)), some (vr (some a1)), some (vr (some a2)), some (vr (some a3)), some (vr (some a4)), some (vi (J x5)), some (vi (J x_377)), some (vi (J x_383)), none]) (st2 := [vi (J 0), vr (some a3)]) rfl ?_
          obtain ⟨t_392, k⟩ := k
          refine R_zlald (i := 0) rfl t4 t_392 ?_
          refine R_ps 3 (pc2 := 1120) (L2 := [some (vr (some a0)), some (vr (some a1)), some (vr (some a2)), some (vr (some a3)), some (vr (some a4)), some (vi (J x5)), some (vi (J x_377)), some (vi (J x_383)), none]) (st2 := [vi (lg_cmp (gl h_386 a3 (Int.toNat 0)) ((J x_383).toInt64))]) rfl ?_
          rw [show (lg_cmp (gl h_386 a3 (Int.toNat 0)) ((J x_383).toInt64)) = J (zlc (gl h_386 a3 (Int.toNat 0)) ((J x_383).toInt64)) from J_lc']
          refine R_zif0 (x := zlc (gl h_386 a3 (Int.toNat 0)) ((J x_383).toInt64)) rfl (zlc_in _ _) (fun c_393 => ?_) (fun c_393 => ?_)
          · have k := k.1 c_393
            refine R_ps 3 (pc2 := 28) (L2 := [some (vr (some a0)), some (vr (some a1)), some (vr (some a2)), some (vr (some a3)), some (vr (some a4)), some (vi ((J x5) + J 5)), some (vi (J x_377)), some (vi (J x_383)), none]) (st2 := []) rfl ?_
            rw [show ((J x5) + J 5) = J (x5 + 5) from J_add' rfl rfl]
            exact R_drop k (LE_of (L := [some (vr (some a0)), some (vr (some a1)), some (vr (some a2)), some (vr (some a3)), some (vr (some a4)), some (vi (J (x5 + 5))), none, none, none]) (L2 := [some (vr (some a0)), some (vr (some a1)), some (vr (some a2)), some (vr (some a3)), some (vr (some a4)), some (vi (J (x5 + 5))), some (vi (J x_377)), some (vi (J x_383)), none]) ⟨rfl, rfl, rfl, rfl, rfl, rfl, trivial⟩)
          · have k := k.2 c_393
            refine R_ps 1 (pc2 := 1124) (L2 := [some (vr (some a0)), some (vr (some a1)), some (vr (some a2)), some (vr (some a3)), some (vr (some a4)), some (vi (J x5)), some (vi (J x_377)), some (vi (J x_383)), none]) (st2 := [vi (J 0)]) rfl ?_
            exact R_zzret (x := 0) rfl rfl (Or.inl rfl) (R_zr (x := 0) (K := K) (by decide) k)
      · have k := k.2 c_389
        refine R_ps 1 (pc2 := 1107) (L2 := [some (vr (some a0)), some (vr (some a1)), some (vr (some a2)), some (vr (some a3)), some (vr (some a4)), some (vi (J x5)), some (vi (J x_377)), some (vi (J x_383)), none]) (st2 := [vi (J 0)]) rfl ?_
        exact R_zzret (x := 0) rfl rfl (Or.inl rfl) (R_zr (x := 0) (K := K) (by decide) k)
    replace k := k.2 c_7
    refine ⟨fun c_7 => ?_, fun c_7 => ?_⟩
    · have k := k.1 c_7
      show WP T N _ 1128 _ _ _ _
      refine R_ps 5 (pc2 := 1134) (L2 := [some (vr (some a0)), some (vr (some a1)), some (vr (some a2)), some (vr (some a3)), some (vr (some a4)), some (vi (J x5)), none, none, none]) (st2 := [vi ((J x5) + (J 1)), vr (some a0), vr (some a1)]) rfl ?_
      rw [show ((J x5) + (J 1)) = J (x5 + 1) from J_add' rfl rfl]
      obtain ⟨t_397, k⟩ := k
      refine R_ziald (i := x5 + 1) rfl (Or.inr t1) t_397 ?_
      refine R_ps 4 (pc2 := 1140) (L2 := [some (vr (some a0)), some (vr (some a1)), some (vr (some a2)), some (vr (some a3)), some (vr (some a4)), some (vi (J x5)), none, none, none]) (st2 := [vi ((J x5) + (J 2)), vr (some a0), vi (J (ai h a0 (x5 + 1))), vr (some a1)]) rfl ?_
      rw [show ((J x5) + (J 2)) = J (x5 + 2) from J_add' rfl rfl]
      obtain ⟨t_399, k⟩ := k
      refine R_ziald (i := x5 + 2) rfl (Or.inr t1) t_399 ?_
      refine R_ps 1 (pc2 := 1142) (L2 := [some (vr (some a0)), some (vr (some a1)), some (vr (some a2)), some (vr (some a3)), some (vr (some a4)), some (vi (J x5)), none, none, none]) (st2 := [vr (some a3), vi (J (ai h a0 (x5 + 2))), vi (J (ai h a0 (x5 + 1))), vr (some a1)]) rfl ?_
      refine R_zcI (as := [vr (some a1), vi (J (ai h a0 (x5 + 1))), vi (J (ai h a0 (x5 + 2))), vr (some a3)]) rfl rfl ⟨Nat.le_of_ble_eq_true rfl, Nat.le_of_ble_eq_true rfl, rfl, (Or.inl rfl)⟩ rfl rfl k (fun x_402 h_401 r_403 k => ?_)
      refine R_ps 6 (pc2 := 1153) (L2 := [some (vr (some a0)), some (vr (some a1)), some (vr (some a2)), some (vr (some a3)), some (vr (some a4)), some (vi (J x5)), some (vi (J x_402)), none, none]) (st2 := [vi ((J x5) + (J 1)), vr (some a0), vr (some a2)]) rfl ?_
      rw [show ((J x5) + (J 1)) = J (x5 + 1) from J_add' rfl rfl]
      refine R_ziald (i := x5 + 1) rfl (Or.inr t1) t_397 ?_
      refine R_ps 4 (pc2 := 1159) (L2 := [some (vr (some a0)), some (vr (some a1)), some (vr (some a2)), some (vr (some a3)), some (vr (some a4)), some (vi (J x5)), some (vi (J x_402)), none, none]) (st2 := [vi ((J x5) + (J 2)), vr (some a0), vi (J (ai h_401 a0 (x5 + 1))), vr (some a2)]) rfl ?_
      rw [show ((J x5) + (J 2)) = J (x5 + 2) from J_add' rfl rfl]
      refine R_ziald (i := x5 + 2) rfl (Or.inr t1) t_399 ?_
      refine R_zcI (as := [vr (some a2), vi (J (ai h_401 a0 (x5 + 1))), vi (J (ai h_401 a0 (x5 + 2)))]) rfl rfl ⟨Nat.le_of_ble_eq_true rfl, Nat.le_of_ble_eq_true rfl, rfl, (Or.inr ⟨_, rfl, t3⟩)⟩ rfl rfl k (fun x_408 h_407 r_409 k => ?_)
      refine R_ps 2 (pc2 := 1166) (L2 := [some (vr (some a0)), some (vr (some a1)), some (vr (some a2)), some (vr (some a3)), some (vr (some a4)), some (vi (J x5)), some (vi (J x_402)), some (vi (J x_408)), none]) (st2 := [vr (some a2)]) rfl ?_
      refine R_zcI (as := [vr (some a2)]) rfl rfl ⟨Nat.le_of_ble_eq_true rfl, Nat.le_of_ble_eq_true rfl, rfl, (Or.inr ⟨_, rfl, t3⟩)⟩ rfl rfl k (fun x_412 h_411 r_413 k => ?_)
      refine R_ps 1 (pc2 := 1171) (L2 := [some (vr (some a0)), some (vr (some a1)), some (vr (some a2)), some (vr (some a3)), some (vr (some a4)), some (vi (J x5)), some (vi (J x_402)), some (vi (J x_408)), none]) (st2 := [vi (J x_402), vi (J x_412)]) rfl ?_
      refine R_zif (x := x_412) (z := x_402) rfl r_413 r_403 (fun c_414 => ?_) (fun c_414 => ?_)
      · have k := k.1 c_414
        refine R_ps 1 (pc2 := 1178) (L2 := [some (vr (some a0)), some (vr (some a1)), some (vr (some a2)), some (vr (some a3)), some (vr (some a4)), some (vi (J x5)), some (vi (J x_402)), some (vi (J x_408)), none]) (st2 := [vi (J x_402)]) rfl ?_
        refine R_zif0 (x := x_402) rfl r_403 (fun c_415 => ?_) (fun c_415 => ?_)
        · have k := k.2 c_415
          refine R_ps 3 (pc2 := 28) (L2 := [some (vr (some a0)), some (vr (some a1)), some (vr (some a2)), some (vr (some a3)), some (vr (some a4)), some (vi ((J x5) + J 5)), some (vi (J x_402)), some (vi (J x_408)), none]) (st2 := []) rfl ?_
          rw [show ((J x5) + J 5) = J (x5 + 5) from J_add' rfl rfl]
          exact R_drop k (LE_of (L := [some (vr (some a0)), some (vr (some a1)), some (vr (some a2)), some (vr (some a3)), some (vr (some a4)), some (vi (J (x5 + 5))), none, none, none]) (L2 := [some (vr (some a0)), some (vr (some a1)), some (vr (some a2)), some (vr (some a3)), some (vr (some a4)), some (vi (J (x5 + 5))), some (vi (J x_402)), some (vi (J x_408)), none]) ⟨rfl, rfl, rfl, rfl, rfl, rfl, trivial⟩)
        · have k := k.1 (Classical.not_not.mp c_415)
          refine R_ps 2 (pc2 := 1183) (L2 := [some (vr (some a0)), some (vr (some a1)), some (vr (some a2)), some (vr (some a3)), some (vr (some a4)), some (vi (J x5)), some (vi (J x_402)), some (vi (J x_408)), none]) (st2 := [vi (J 0), vr (some a3)]) rfl ?_
          obtain ⟨t_417, k⟩ := k
          refine R_zlald (i := 0) rfl t4 t_417 ?_
          refine R_ps 3 (pc2 := 1188) (L2 := [some (vr (some a0)), some (vr (some a1)), some (vr (some a2)), some (vr (some a3)), some (vr (some a4)), some (vi (J x5)), some (vi (J x_402)), some (vi (J x_408)), none]) (st2 := [vi (lg_cmp (gl h_411 a3 (Int.toNat 0)) ((J x_408).toInt64))]) rfl ?_
          rw [show (lg_cmp (gl h_411 a3 (Int.toNat 0)) ((J x_408).toInt64)) = J (zlc (gl h_411 a3 (Int.toNat 0)) ((J x_408).toInt64)) from J_lc']
          refine R_zif0 (x := zlc (gl h_411 a3 (Int.toNat 0)) ((J x_408).toInt64)) rfl (zlc_in _ _) (fun c_418 => ?_) (fun c_418 => ?_)
          · have k := k.1 c_418
            refine R_ps 3 (pc2 := 28) (L2 := [some (vr (some a0)), some (vr (some a1)), some (vr (some a2)), some (vr (some a3)), some (vr (some a4)), some (vi ((J x5) + J 5)), some (vi (J x_402)), some (vi (J x_408)), none]) (st2 := []) rfl ?_
            rw [show ((J x5) + J 5) = J (x5 + 5) from J_add' rfl rfl]
            exact R_drop k (LE_of (L := [some (vr (some a0)), some (vr (some a1)), some (vr (some a2)), some (vr (some a3)), some (vr (some a4)), some (vi (J (x5 + 5))), none, none, none]) (L2 := [some (vr (some a0)), some (vr (some a1)), some (vr (some a2)), some (vr (some a3)), some (vr (some a4)), some (vi (J (x5 + 5))), some (vi (J x_402)), some (vi (J x_408)), none]) ⟨rfl, rfl, rfl, rfl, rfl, rfl, trivial⟩)
          · have k := k.2 c_418
            refine R_ps 1 (pc2 := 1192) (L2 := [some (vr (some a0)), some (vr (some a1)), some (vr (some a2)), some (vr (some a3)), some (vr (some a4)), some (vi (J x5)), some (vi (J x_402)), some (vi (J x_408)), none]) (st2 := [vi (J 0)]) rfl ?_
            exact R_zzret (x := 0) rfl rfl (Or.inl rfl) (R_zr (x := 0) (K := K) (by decide) k)
      · have k := k.2 c_414
        refine R_ps 1 (pc2 := 1175) (L2 := [some (vr (some a0)), some (vr (some a1)), some (vr (some a2)), some (vr (some a3)), some (vr (some a4)), some (vi (J x5)), some (vi (J x_402)), some (vi (J x_408)), none]) (st2 := [vi (J 0)]) rfl ?_
        exact R_zzret (x := 0) rfl rfl (Or.inl rfl) (R_zr (x := 0) (K := K) (by decide) k)
    replace k := k.2 c_7
    refine ⟨fun c_7 => ?_, fun c_7 => ?_⟩
    · have k := k.1 c_7
      show WP T N _ 1196 _ _ _ _
      refine R_ps 5 (pc2 := 1202) (L2 := [some (vr (some a0)), some (vr (some a1)), some (vr (some a2)), some (vr (some a3)), some (vr (some a4)), some (vi (J x5)), none, none, none]) (st2 := [vi ((J x5) + (J 1)), vr (some a0), vr (some a1)]) rfl ?_
      rw [show ((J x5) + (J 1)) = J (x5 + 1) from J_add' rfl rfl]
      obtain ⟨t_422, k⟩ := k
      refine R_ziald (i := x5 + 1) rfl (Or.inr t1) t_422 ?_
      refine R_ps 4 (pc2 := 1208) (L2 := [some (vr (some a0)), some (vr (some a1)), some (vr (some a2)), some (vr (some a3)), some (vr (some a4)), some (vi (J x5)), none, none, none]) (st2 := [vi ((J x5) + (J 2)), vr (some a0), vi (J (ai h a0 (x5 + 1))), vr (some a1)]) rfl ?_
      rw [show ((J x5) + (J 2)) = J (x5 + 2) from J_add' rfl rfl]
      obtain ⟨t_424, k⟩ := k
      refine R_ziald (i := x5 + 2) rfl (Or.inr t1) t_424 ?_
      refine R_ps 1 (pc2 := 1210) (L2 := [some (vr (some a0)), some (vr (some a1)), some (vr (some a2)), some (vr (some a3)), some (vr (some a4)), some (vi (J x5)), none, none, none]) (st2 := [vr (some a3), vi (J (ai h a0 (x5 + 2))), vi (J (ai h a0 (x5 + 1))), vr (some a1)]) rfl ?_
      refine R_zcI (as := [vr (some a1), vi (J (ai h a0 (x5 + 1))), vi (J (ai h a0 (x5 + 2))), vr (some a3)]) rfl rfl ⟨Nat.le_of_ble_eq_true rfl, Nat.le_of_ble_eq_true rfl, rfl, (Or.inl rfl)⟩ rfl rfl k (fun x_427 h_426 r_428 k => ?_)
      refine R_ps 6 (pc2 := 1221) (L2 := [some (vr (some a0)), some (vr (some a1)), some (vr (some a2)), some (vr (some a3)), some (vr (some a4)), some (vi (J x5)), some (vi (J x_427)), none, none]) (st2 := [vi ((J x5) + (J 1)), vr (some a0), vr (some a2)]) rfl ?_
      rw [show ((J x5) + (J 1)) = J (x5 + 1) from J_add' rfl rfl]
      refine R_ziald (i := x5 + 1) rfl (Or.inr t1) t_422 ?_
      refine R_ps 4 (pc2 := 1227) (L2 := [some (vr (some a0)), some (vr (some a1)), some (vr (some a2)), some (vr (some a3)), some (vr (some a4)), some (vi (J x5)), some (vi (J x_427)), none, none]) (st2 := [vi ((J x5) + (J 2)), vr (some a0), vi (J (ai h_426 a0 (x5 + 1))), vr (some a2)]) rfl ?_
      rw [show ((J x5) + (J 2)) = J (x5 + 2) from J_add' rfl rfl]
      refine R_ziald (i := x5 + 2) rfl (Or.inr t1) t_424 ?_
      refine R_zcI (as := [vr (some a2), vi (J (ai h_426 a0 (x5 + 1))), vi (J (ai h_426 a0 (x5 + 2)))]) rfl rfl ⟨Nat.le_of_ble_eq_true rfl, Nat.le_of_ble_eq_true rfl, rfl, (Or.inr ⟨_, rfl, t3⟩)⟩ rfl rfl k (fun x_433 h_432 r_434 k => ?_)
      refine R_ps 2 (pc2 := 1234) (L2 := [some (vr (some a0)), some (vr (some a1)), some (vr (some a2)), some (vr (some a3)), some (vr (some a4)), some (vi (J x5)), some (vi (J x_427)), some (vi (J x_433)), none]) (st2 := [vr (some a2)]) rfl ?_
      refine R_zcI (as := [vr (some a2)]) rfl rfl ⟨Nat.le_of_ble_eq_true rfl, Nat.le_of_ble_eq_true rfl, rfl, (Or.inr ⟨_, rfl, t3⟩)⟩ rfl rfl k (fun x_437 h_436 r_438 k => ?_)
      refine R_ps 1 (pc2 := 1239) (L2 := [some (vr (some a0)), some (vr (some a1)), some (vr (some a2)), some (vr (some a3)), some (vr (some a4)), some (vi (J x5)), some (vi (J x_427)), some (vi (J x_433)), none]) (st2 := [vi (J x_427), vi (J x_437)]) rfl ?_
      refine R_zif (x := x_437) (z := x_427) rfl r_438 r_428 (fun c_439 => ?_) (fun c_439 => ?_)
      · have k := k.1 c_439
        refine R_ps 1 (pc2 := 1246) (L2 := [some (vr (some a0)), some (vr (some a1)), some (vr (some a2)), some (vr (some a3)), some (vr (some a4)), some (vi (J x5)), some (vi (J x_427)), some (vi (J x_433)), none]) (st2 := [vi (J x_427)]) rfl ?_
        refine R_zif0 (x := x_427) rfl r_428 (fun c_440 => ?_) (fun c_440 => ?_)
        · have k := k.2 c_440
          refine R_ps 3 (pc2 := 28) (L2 := [some (vr (some a0)), some (vr (some a1)), some (vr (some a2)), some (vr (some a3)), some (vr (some a4)), some (vi ((J x5) + J 5)), some (vi (J x_427)), some (vi (J x_433)), none]) (st2 := []) rfl ?_
          rw [show ((J x5) + J 5) = J (x5 + 5) from J_add' rfl rfl]
          exact R_drop k (LE_of (L := [some (vr (some a0)), some (vr (some a1)), some (vr (some a2)), some (vr (some a3)), some (vr (some a4)), some (vi (J (x5 + 5))), none, none, none]) (L2 := [some (vr (some a0)), some (vr (some a1)), some (vr (some a2)), some (vr (some a3)), some (vr (some a4)), some (vi (J (x5 + 5))), some (vi (J x_427)), some (vi (J x_433)), none]) ⟨rfl, rfl, rfl, rfl, rfl, rfl, trivial⟩)
        · have k := k.1 (Classical.not_not.mp c_440)
          refine R_ps 2 (pc2 := 1251) (L2 := [some (vr (some a0)), some (vr (some a1)), some (vr (some a2)), some (vr (some a3)), some (vr (some a4)), some (vi (J x5)), some (vi (J x_427)), some (vi (J x_433)), none]) (st2 := [vi (J 0), vr (some a3)]) rfl ?_
          obtain ⟨t_442, k⟩ := k
          refine R_zlald (i := 0) rfl t4 t_442 ?_
          refine R_ps 3 (pc2 := 1256) (L2 := [some (vr (some a0)), some (vr (some a1)), some (vr (some a2)), some (vr (some a3)), some (vr (some a4)), some (vi (J x5)), some (vi (J x_427)), some (vi (J x_433)), none]) (st2 := [vi (lg_cmp (gl h_436 a3 (Int.toNat 0)) ((J x_433).toInt64))]) rfl ?_
          rw [show (lg_cmp (gl h_436 a3 (Int.toNat 0)) ((J x_433).toInt64)) = J (zlc (gl h_436 a3 (Int.toNat 0)) ((J x_433).toInt64)) from J_lc']
          refine R_zif0 (x := zlc (gl h_436 a3 (Int.toNat 0)) ((J x_433).toInt64)) rfl (zlc_in _ _) (fun c_443 => ?_) (fun c_443 => ?_)
          · have k := k.1 c_443
            refine R_ps 3 (pc2 := 28) (L2 := [some (vr (some a0)), some (vr (some a1)), some (vr (some a2)), some (vr (some a3)), some (vr (some a4)), some (vi ((J x5) + J 5)), some (vi (J x_427)), some (vi (J x_433)), none]) (st2 := []) rfl ?_
            rw [show ((J x5) + J 5) = J (x5 + 5) from J_add' rfl rfl]
            exact R_drop k (LE_of (L := [some (vr (some a0)), some (vr (some a1)), some (vr (some a2)), some (vr (some a3)), some (vr (some a4)), some (vi (J (x5 + 5))), none, none, none]) (L2 := [some (vr (some a0)), some (vr (some a1)), some (vr (some a2)), some (vr (some a3)), some (vr (some a4)), some (vi (J (x5 + 5))), some (vi (J x_427)), some (vi (J x_433)), none]) ⟨rfl, rfl, rfl, rfl, rfl, rfl, trivial⟩)
          · have k := k.2 c_443
            refine R_ps 1 (pc2 := 1260) (L2 := [some (vr (some a0)), some (vr (some a1)), some (vr (some a2)), some (vr (some a3)), some (vr (some a4)), some (vi (J x5)), some (vi (J x_427)), some (vi (J x_433)), none]) (st2 := [vi (J 0)]) rfl ?_
            exact R_zzret (x := 0) rfl rfl (Or.inl rfl) (R_zr (x := 0) (K := K) (by decide) k)
      · have k := k.2 c_439
        refine R_ps 1 (pc2 := 1243) (L2 := [some (vr (some a0)), some (vr (some a1)), some (vr (some a2)), some (vr (some a3)), some (vr (some a4)), some (vi (J x5)), some (vi (J x_427)), some (vi (J x_433)), none]) (st2 := [vi (J 0)]) rfl ?_
        exact R_zzret (x := 0) rfl rfl (Or.inl rfl) (R_zr (x := 0) (K := K) (by decide) k)
    replace k := k.2 c_7
    refine ⟨fun c_7 => ?_, fun c_7 => ?_⟩
    · have k := k.1 c_7
      show WP T N _ 1264 _ _ _ _
      refine R_ps 5 (pc2 := 1270) (L2 := [some (vr (some a0)), some (vr (some a1)), some (vr (some a2)), some (vr (some a3)), some (vr (some a4)), some (vi (J x5)), none, none, none]) (st2 := [vi ((J x5) + (J 1)), vr (some a0), vr (some a1)]) rfl ?_
      rw [show ((J x5) + (J 1)) = J (x5 + 1) from J_add' rfl rfl]
      obtain ⟨t_447, k⟩ := k
      refine R_ziald (i := x5 + 1) rfl (Or.inr t1) t_447 ?_
      refine R_ps 4 (pc2 := 1276) (L2 := [some (vr (some a0)), some (vr (some a1)), some (vr (some a2)), some (vr (some a3)), some (vr (some a4)), some (vi (J x5)), none, none, none]) (st2 := [vi ((J x5) + (J 2)), vr (some a0), vi (J (ai h a0 (x5 + 1))), vr (some a1)]) rfl ?_
      rw [show ((J x5) + (J 2)) = J (x5 + 2) from J_add' rfl rfl]
      obtain ⟨t_449, k⟩ := k
      refine R_ziald (i := x5 + 2) rfl (Or.inr t1) t_449 ?_
      refine R_ps 1 (pc2 := 1278) (L2 := [some (vr (some a0)), some (vr (some a1)), some (vr (some a2)), some (vr (some a3)), some (vr (some a4)), some (vi (J x5)), none, none, none]) (st2 := [vr (some a3), vi (J (ai h a0 (x5 + 2))), vi (J (ai h a0 (x5 + 1))), vr (some a1)]) rfl ?_
      refine R_zcI (as := [vr (some a1), vi (J (ai h a0 (x5 + 1))), vi (J (ai h a0 (x5 + 2))), vr (some a3)]) rfl rfl ⟨Nat.le_of_ble_eq_true rfl, Nat.le_of_ble_eq_true rfl, rfl, (Or.inl rfl)⟩ rfl rfl k (fun x_452 h_451 r_453 k => ?_)
      refine R_ps 6 (pc2 := 1289) (L2 := [some (vr (some a0)), some (vr (some a1)), some (vr (some a2)), some (vr (some a3)), some (vr (some a4)), some (vi (J x5)), some (vi (J x_452)), none, none]) (st2 := [vi ((J x5) + (J 1)), vr (some a0), vr (some a2)]) rfl ?_
      rw [show ((J x5) + (J 1)) = J (x5 + 1) from J_add' rfl rfl]
      refine R_ziald (i := x5 + 1) rfl (Or.inr t1) t_447 ?_
      refine R_ps 4 (pc2 := 1295) (L2 := [some (vr (some a0)), some (vr (some a1)), some (vr (some a2)), some (vr (some a3)), some (vr (some a4)), some (vi (J x5)), some (vi (J x_452)), none, none]) (st2 := [vi ((J x5) + (J 2)), vr (some a0), vi (J (ai h_451 a0 (x5 + 1))), vr (some a2)]) rfl ?_
      rw [show ((J x5) + (J 2)) = J (x5 + 2) from J_add' rfl rfl]
      refine R_ziald (i := x5 + 2) rfl (Or.inr t1) t_449 ?_
      refine R_zcI (as := [vr (some a2), vi (J (ai h_451 a0 (x5 + 1))), vi (J (ai h_451 a0 (x5 + 2)))]) rfl rfl ⟨Nat.le_of_ble_eq_true rfl, Nat.le_of_ble_eq_true rfl, rfl, (Or.inr ⟨_, rfl, t3⟩)⟩ rfl rfl k (fun x_458 h_457 r_459 k => ?_)
      refine R_ps 2 (pc2 := 1302) (L2 := [some (vr (some a0)), some (vr (some a1)), some (vr (some a2)), some (vr (some a3)), some (vr (some a4)), some (vi (J x5)), some (vi (J x_452)), some (vi (J x_458)), none]) (st2 := [vr (some a2)]) rfl ?_
      refine R_zcI (as := [vr (some a2)]) rfl rfl ⟨Nat.le_of_ble_eq_true rfl, Nat.le_of_ble_eq_true rfl, rfl, (Or.inr ⟨_, rfl, t3⟩)⟩ rfl rfl k (fun x_462 h_461 r_463 k => ?_)
      refine R_ps 1 (pc2 := 1307) (L2 := [some (vr (some a0)), some (vr (some a1)), some (vr (some a2)), some (vr (some a3)), some (vr (some a4)), some (vi (J x5)), some (vi (J x_452)), some (vi (J x_458)), none]) (st2 := [vi (J x_452), vi (J x_462)]) rfl ?_
      refine R_zif (x := x_462) (z := x_452) rfl r_463 r_453 (fun c_464 => ?_) (fun c_464 => ?_)
      · have k := k.1 c_464
        refine R_ps 1 (pc2 := 1314) (L2 := [some (vr (some a0)), some (vr (some a1)), some (vr (some a2)), some (vr (some a3)), some (vr (some a4)), some (vi (J x5)), some (vi (J x_452)), some (vi (J x_458)), none]) (st2 := [vi (J x_452)]) rfl ?_
        refine R_zif0 (x := x_452) rfl r_453 (fun c_465 => ?_) (fun c_465 => ?_)
        · have k := k.2 c_465
          refine R_ps 3 (pc2 := 28) (L2 := [some (vr (some a0)), some (vr (some a1)), some (vr (some a2)), some (vr (some a3)), some (vr (some a4)), some (vi ((J x5) + J 5)), some (vi (J x_452)), some (vi (J x_458)), none]) (st2 := []) rfl ?_
          rw [show ((J x5) + J 5) = J (x5 + 5) from J_add' rfl rfl]
          exact R_drop k (LE_of (L := [some (vr (some a0)), some (vr (some a1)), some (vr (some a2)), some (vr (some a3)), some (vr (some a4)), some (vi (J (x5 + 5))), none, none, none]) (L2 := [some (vr (some a0)), some (vr (some a1)), some (vr (some a2)), some (vr (some a3)), some (vr (some a4)), some (vi (J (x5 + 5))), some (vi (J x_452)), some (vi (J x_458)), none]) ⟨rfl, rfl, rfl, rfl, rfl, rfl, trivial⟩)
        · have k := k.1 (Classical.not_not.mp c_465)
          refine R_ps 2 (pc2 := 1319) (L2 := [some (vr (some a0)), some (vr (some a1)), some (vr (some a2)), some (vr (some a3)), some (vr (some a4)), some (vi (J x5)), some (vi (J x_452)), some (vi (J x_458)), none]) (st2 := [vi (J 0), vr (some a3)]) rfl ?_
          obtain ⟨t_467, k⟩ := k
          refine R_zlald (i := 0) rfl t4 t_467 ?_
          refine R_ps 3 (pc2 := 1324) (L2 := [some (vr (some a0)), some (vr (some a1)), some (vr (some a2)), some (vr (some a3)), some (vr (some a4)), some (vi (J x5)), some (vi (J x_452)), some (vi (J x_458)), none]) (st2 := [vi (lg_cmp (gl h_461 a3 (Int.toNat 0)) ((J x_458).toInt64))]) rfl ?_
          rw [show (lg_cmp (gl h_461 a3 (Int.toNat 0)) ((J x_458).toInt64)) = J (zlc (gl h_461 a3 (Int.toNat 0)) ((J x_458).toInt64)) from J_lc']
          refine R_zif0 (x := zlc (gl h_461 a3 (Int.toNat 0)) ((J x_458).toInt64)) rfl (zlc_in _ _) (fun c_468 => ?_) (fun c_468 => ?_)
          · have k := k.1 c_468
            refine R_ps 3 (pc2 := 28) (L2 := [some (vr (some a0)), some (vr (some a1)), some (vr (some a2)), some (vr (some a3)), some (vr (some a4)), some (vi ((J x5) + J 5)), some (vi (J x_452)), some (vi (J x_458)), none]) (st2 := []) rfl ?_
            rw [show ((J x5) + J 5) = J (x5 + 5) from J_add' rfl rfl]
            exact R_drop k (LE_of (L := [some (vr (some a0)), some (vr (some a1)), some (vr (some a2)), some (vr (some a3)), some (vr (some a4)), some (vi (J (x5 + 5))), none, none, none]) (L2 := [some (vr (some a0)), some (vr (some a1)), some (vr (some a2)), some (vr (some a3)), some (vr (some a4)), some (vi (J (x5 + 5))), some (vi (J x_452)), some (vi (J x_458)), none]) ⟨rfl, rfl, rfl, rfl, rfl, rfl, trivial⟩)
          · have k := k.2 c_468
            refine R_ps 1 (pc2 := 1328) (L2 := [some (vr (some a0)), some (vr (some a1)), some (vr (some a2)), some (vr (some a3)), some (vr (some a4)), some (vi (J x5)), some (vi (J x_452)), some (vi (J x_458)), none]) (st2 := [vi (J 0)]) rfl ?_
            exact R_zzret (x := 0) rfl rfl (Or.inl rfl) (R_zr (x := 0) (K := K) (by decide) k)
      · have k := k.2 c_464
        refine R_ps 1 (pc2 := 1311) (L2 := [some (vr (some a0)), some (vr (some a1)), some (vr (some a2)), some (vr (some a3)), some (vr (some a4)), some (vi (J x5)), some (vi (J x_452)), some (vi (J x_458)), none]) (st2 := [vi (J 0)]) rfl ?_
        exact R_zzret (x := 0) rfl rfl (Or.inl rfl) (R_zr (x := 0) (K := K) (by decide) k)
    replace k := k.2 c_7
    refine ⟨fun c_7 => ?_, fun c_7 => ?_⟩
    · have k := k.1 c_7
      show WP T N _ 1332 _ _ _ _
      refine R_ps 5 (pc2 := 1338) (L2 := [some (vr (some a0)), some (vr (some a1)), some (vr (some a2)), some (vr (some a3)), some (vr (some a4)), some (vi (J x5)), none, none, none]) (st2 := [vi ((J x5) + (J 1)), vr (some a0), vr (some a1)]) rfl ?_
      rw [show ((J x5) + (J 1)) = J (x5 + 1) from J_add' rfl rfl]
      obtain ⟨t_472, k⟩ := k
      refine R_ziald (i := x5 + 1) rfl (Or.inr t1) t_472 ?_
      refine R_ps 4 (pc2 := 1344) (L2 := [some (vr (some a0)), some (vr (some a1)), some (vr (some a2)), some (vr (some a3)), some (vr (some a4)), some (vi (J x5)), none, none, none]) (st2 := [vi ((J x5) + (J 2)), vr (some a0), vi (J (ai h a0 (x5 + 1))), vr (some a1)]) rfl ?_
      rw [show ((J x5) + (J 2)) = J (x5 + 2) from J_add' rfl rfl]
      obtain ⟨t_474, k⟩ := k
      refine R_ziald (i := x5 + 2) rfl (Or.inr t1) t_474 ?_
      refine R_ps 4 (pc2 := 1350) (L2 := [some (vr (some a0)), some (vr (some a1)), some (vr (some a2)), some (vr (some a3)), some (vr (some a4)), some (vi (J x5)), none, none, none]) (st2 := [vi ((J x5) + (J 3)), vr (some a0), vi (J (ai h a0 (x5 + 2))), vi (J (ai h a0 (x5 + 1))), vr (some a1)]) rfl ?_
      rw [show ((J x5) + (J 3)) = J (x5 + 3) from J_add' rfl rfl]
      obtain ⟨t_476, k⟩ := k
      refine R_ziald (i := x5 + 3) rfl (Or.inr t1) t_476 ?_
      refine R_ps 1 (pc2 := 1352) (L2 := [some (vr (some a0)), some (vr (some a1)), some (vr (some a2)), some (vr (some a3)), some (vr (some a4)), some (vi (J x5)), none, none, none]) (st2 := [vr (some a3), vi (J (ai h a0 (x5 + 3))), vi (J (ai h a0 (x5 + 2))), vi (J (ai h a0 (x5 + 1))), vr (some a1)]) rfl ?_
      refine R_zcI (as := [vr (some a1), vi (J (ai h a0 (x5 + 1))), vi (J (ai h a0 (x5 + 2))), vi (J (ai h a0 (x5 + 3))), vr (some a3)]) rfl rfl ⟨Nat.le_of_ble_eq_true rfl, Nat.le_of_ble_eq_true rfl, rfl, (Or.inl rfl)⟩ rfl rfl k (fun x_479 h_478 r_480 k => ?_)
      refine R_ps 6 (pc2 := 1363) (L2 := [some (vr (some a0)), some (vr (some a1)), some (vr (some a2)), some (vr (some a3)), some (vr (some a4)), some (vi (J x5)), some (vi (J x_479)), none, none]) (st2 := [vi ((J x5) + (J 1)), vr (some a0), vr (some a2)]) rfl ?_
      rw [show ((J x5) + (J 1)) = J (x5 + 1) from J_add' rfl rfl]
      refine R_ziald (i := x5 + 1) rfl (Or.inr t1) t_472 ?_
      refine R_ps 4 (pc2 := 1369) (L2 := [some (vr (some a0)), some (vr (some a1)), some (vr (some a2)), some (vr (some a3)), some (vr (some a4)), some (vi (J x5)), some (vi (J x_479)), none, none]) (st2 := [vi ((J x5) + (J 2)), vr (some a0), vi (J (ai h_478 a0 (x5 + 1))), vr (some a2)]) rfl ?_
      rw [show ((J x5) + (J 2)) = J (x5 + 2) from J_add' rfl rfl]
      refine R_ziald (i := x5 + 2) rfl (Or.inr t1) t_474 ?_
      refine R_ps 4 (pc2 := 1375) (L2 := [some (vr (some a0)), some (vr (some a1)), some (vr (some a2)), some (vr (some a3)), some (vr (some a4)), some (vi (J x5)), some (vi (J x_479)), none, none]) (st2 := [vi ((J x5) + (J 3)), vr (some a0), vi (J (ai h_478 a0 (x5 + 2))), vi (J (ai h_478 a0 (x5 + 1))), vr (some a2)]) rfl ?_
      rw [show ((J x5) + (J 3)) = J (x5 + 3) from J_add' rfl rfl]
      refine R_ziald (i := x5 + 3) rfl (Or.inr t1) t_476 ?_
      refine R_zcI (as := [vr (some a2), vi (J (ai h_478 a0 (x5 + 1))), vi (J (ai h_478 a0 (x5 + 2))), vi (J (ai h_478 a0 (x5 + 3)))]) rfl rfl ⟨Nat.le_of_ble_eq_true rfl, Nat.le_of_ble_eq_true rfl, rfl, (Or.inr ⟨_, rfl, t3⟩)⟩ rfl rfl k (fun x_486 h_485 r_487 k => ?_)
      refine R_ps 2 (pc2 := 1382) (L2 := [some (vr (some a0)), some (vr (some a1)), some (vr (some a2)), some (vr (some a3)), some (vr (some a4)), some (vi (J x5)), some (vi (J x_479)), some (vi (J x_486)), none]) (st2 := [vr (some a2)]) rfl ?_
      refine R_zcI (as := [vr (some a2)]) rfl rfl ⟨Nat.le_of_ble_eq_true rfl, Nat.le_of_ble_eq_true rfl, rfl, (Or.inr ⟨_, rfl, t3⟩)⟩ rfl rfl k (fun x_490 h_489 r_491 k => ?_)
      refine R_ps 1 (pc2 := 1387) (L2 := [some (vr (some a0)), some (vr (some a1)), some (vr (some a2)), some (vr (some a3)), some (vr (some a4)), some (vi (J x5)), some (vi (J x_479)), some (vi (J x_486)), none]) (st2 := [vi (J x_479), vi (J x_490)]) rfl ?_
      refine R_zif (x := x_490) (z := x_479) rfl r_491 r_480 (fun c_492 => ?_) (fun c_492 => ?_)
      · have k := k.1 c_492
        refine R_ps 1 (pc2 := 1394) (L2 := [some (vr (some a0)), some (vr (some a1)), some (vr (some a2)), some (vr (some a3)), some (vr (some a4)), some (vi (J x5)), some (vi (J x_479)), some (vi (J x_486)), none]) (st2 := [vi (J x_479)]) rfl ?_
        refine R_zif0 (x := x_479) rfl r_480 (fun c_493 => ?_) (fun c_493 => ?_)
        · have k := k.2 c_493
          refine R_ps 3 (pc2 := 28) (L2 := [some (vr (some a0)), some (vr (some a1)), some (vr (some a2)), some (vr (some a3)), some (vr (some a4)), some (vi ((J x5) + J 5)), some (vi (J x_479)), some (vi (J x_486)), none]) (st2 := []) rfl ?_
          rw [show ((J x5) + J 5) = J (x5 + 5) from J_add' rfl rfl]
          exact R_drop k (LE_of (L := [some (vr (some a0)), some (vr (some a1)), some (vr (some a2)), some (vr (some a3)), some (vr (some a4)), some (vi (J (x5 + 5))), none, none, none]) (L2 := [some (vr (some a0)), some (vr (some a1)), some (vr (some a2)), some (vr (some a3)), some (vr (some a4)), some (vi (J (x5 + 5))), some (vi (J x_479)), some (vi (J x_486)), none]) ⟨rfl, rfl, rfl, rfl, rfl, rfl, trivial⟩)
        · have k := k.1 (Classical.not_not.mp c_493)
          refine R_ps 2 (pc2 := 1399) (L2 := [some (vr (some a0)), some (vr (some a1)), some (vr (some a2)), some (vr (some a3)), some (vr (some a4)), some (vi (J x5)), some (vi (J x_479)), some (vi (J x_486)), none]) (st2 := [vi (J 0), vr (some a3)]) rfl ?_
          obtain ⟨t_495, k⟩ := k
          refine R_zlald (i := 0) rfl t4 t_495 ?_
          refine R_ps 3 (pc2 := 1404) (L2 := [some (vr (some a0)), some (vr (some a1)), some (vr (some a2)), some (vr (some a3)), some (vr (some a4)), some (vi (J x5)), some (vi (J x_479)), some (vi (J x_486)), none]) (st2 := [vi (lg_cmp (gl h_489 a3 (Int.toNat 0)) ((J x_486).toInt64))]) rfl ?_
          rw [show (lg_cmp (gl h_489 a3 (Int.toNat 0)) ((J x_486).toInt64)) = J (zlc (gl h_489 a3 (Int.toNat 0)) ((J x_486).toInt64)) from J_lc']
          refine R_zif0 (x := zlc (gl h_489 a3 (Int.toNat 0)) ((J x_486).toInt64)) rfl (zlc_in _ _) (fun c_496 => ?_) (fun c_496 => ?_)
          · have k := k.1 c_496
            refine R_ps 3 (pc2 := 28) (L2 := [some (vr (some a0)), some (vr (some a1)), some (vr (some a2)), some (vr (some a3)), some (vr (some a4)), some (vi ((J x5) + J 5)), some (vi (J x_479)), some (vi (J x_486)), none]) (st2 := []) rfl ?_
            rw [show ((J x5) + J 5) = J (x5 + 5) from J_add' rfl rfl]
            exact R_drop k (LE_of (L := [some (vr (some a0)), some (vr (some a1)), some (vr (some a2)), some (vr (some a3)), some (vr (some a4)), some (vi (J (x5 + 5))), none, none, none]) (L2 := [some (vr (some a0)), some (vr (some a1)), some (vr (some a2)), some (vr (some a3)), some (vr (some a4)), some (vi (J (x5 + 5))), some (vi (J x_479)), some (vi (J x_486)), none]) ⟨rfl, rfl, rfl, rfl, rfl, rfl, trivial⟩)
          · have k := k.2 c_496
            refine R_ps 1 (pc2 := 1408) (L2 := [some (vr (some a0)), some (vr (some a1)), some (vr (some a2)), some (vr (some a3)), some (vr (some a4)), some (vi (J x5)), some (vi (J x_479)), some (vi (J x_486)), none]) (st2 := [vi (J 0)]) rfl ?_
            exact R_zzret (x := 0) rfl rfl (Or.inl rfl) (R_zr (x := 0) (K := K) (by decide) k)
      · have k := k.2 c_492
        refine R_ps 1 (pc2 := 1391) (L2 := [some (vr (some a0)), some (vr (some a1)), some (vr (some a2)), some (vr (some a3)), some (vr (some a4)), some (vi (J x5)), some (vi (J x_479)), some (vi (J x_486)), none]) (st2 := [vi (J 0)]) rfl ?_
        exact R_zzret (x := 0) rfl rfl (Or.inl rfl) (R_zr (x := 0) (K := K) (by decide) k)
    replace k := k.2 c_7
    refine ⟨fun c_7 => ?_, fun c_7 => ?_⟩
    · have k := k.1 c_7
      show WP T N _ 1412 _ _ _ _
      refine R_ps 5 (pc2 := 1418) (L2 := [some (vr (some a0)), some (vr (some a1)), some (vr (some a2)), some (vr (some a3)), some (vr (some a4)), some (vi (J x5)), none, none, none]) (st2 := [vi ((J x5) + (J 1)), vr (some a0), vr (some a1)]) rfl ?_
      rw [show ((J x5) + (J 1)) = J (x5 + 1) from J_add' rfl rfl]
      obtain ⟨t_500, k⟩ := k
      refine R_ziald (i := x5 + 1) rfl (Or.inr t1) t_500 ?_
      refine R_ps 1 (pc2 := 1420) (L2 := [some (vr (some a0)), some (vr (some a1)), some (vr (some a2)), some (vr (some a3)), some (vr (some a4)), some (vi (J x5)), none, none, none]) (st2 := [vr (some a3), vi (J (ai h a0 (x5 + 1))), vr (some a1)]) rfl ?_
      refine R_zcI (as := [vr (some a1), vi (J (ai h a0 (x5 + 1))), vr (some a3)]) rfl rfl ⟨Nat.le_of_ble_eq_true rfl, Nat.le_of_ble_eq_true rfl, rfl, (Or.inl rfl)⟩ rfl rfl k (fun x_503 h_502 r_504 k => ?_)
      refine R_ps 6 (pc2 := 1431) (L2 := [some (vr (some a0)), some (vr (some a1)), some (vr (some a2)), some (vr (some a3)), some (vr (some a4)), some (vi (J x5)), some (vi (J x_503)), none, none]) (st2 := [vi ((J x5) + (J 1)), vr (some a0), vr (some a2)]) rfl ?_
      rw [show ((J x5) + (J 1)) = J (x5 + 1) from J_add' rfl rfl]
      refine R_ziald (i := x5 + 1) rfl (Or.inr t1) t_500 ?_
      refine R_zcI (as := [vr (some a2), vi (J (ai h_502 a0 (x5 + 1)))]) rfl rfl ⟨Nat.le_of_ble_eq_true rfl, Nat.le_of_ble_eq_true rfl, rfl, (Or.inr ⟨_, rfl, t3⟩)⟩ rfl rfl k (fun x_508 h_507 r_509 k => ?_)
      refine R_ps 2 (pc2 := 1438) (L2 := [some (vr (some a0)), some (vr (some a1)), some (vr (some a2)), some (vr (some a3)), some (vr (some a4)), some (vi (J x5)), some (vi (J x_503)), some (vi (J x_508)), none]) (st2 := [vr (some a2)]) rfl ?_
      refine R_zcI (as := [vr (some a2)]) rfl rfl ⟨Nat.le_of_ble_eq_true rfl, Nat.le_of_ble_eq_true rfl, rfl, (Or.inr ⟨_, rfl, t3⟩)⟩ rfl rfl k (fun x_512 h_511 r_513 k => ?_)
      refine R_ps 1 (pc2 := 1443) (L2 := [some (vr (some a0)), some (vr (some a1)), some (vr (some a2)), some (vr (some a3)), some (vr (some a4)), some (vi (J x5)), some (vi (J x_503)), some (vi (J x_508)), none]) (st2 := [vi (J x_503), vi (J x_512)]) rfl ?_
      refine R_zif (x := x_512) (z := x_503) rfl r_513 r_504 (fun c_514 => ?_) (fun c_514 => ?_)
      · have k := k.1 c_514
        refine R_ps 1 (pc2 := 1450) (L2 := [some (vr (some a0)), some (vr (some a1)), some (vr (some a2)), some (vr (some a3)), some (vr (some a4)), some (vi (J x5)), some (vi (J x_503)), some (vi (J x_508)), none]) (st2 := [vi (J x_503)]) rfl ?_
        refine R_zif0 (x := x_503) rfl r_504 (fun c_515 => ?_) (fun c_515 => ?_)
        · have k := k.2 c_515
          refine R_ps 3 (pc2 := 28) (L2 := [some (vr (some a0)), some (vr (some a1)), some (vr (some a2)), some (vr (some a3)), some (vr (some a4)), some (vi ((J x5) + J 5)), some (vi (J x_503)), some (vi (J x_508)), none]) (st2 := []) rfl ?_
          rw [show ((J x5) + J 5) = J (x5 + 5) from J_add' rfl rfl]
          exact R_drop k (LE_of (L := [some (vr (some a0)), some (vr (some a1)), some (vr (some a2)), some (vr (some a3)), some (vr (some a4)), some (vi (J (x5 + 5))), none, none, none]) (L2 := [some (vr (some a0)), some (vr (some a1)), some (vr (some a2)), some (vr (some a3)), some (vr (some a4)), some (vi (J (x5 + 5))), some (vi (J x_503)), some (vi (J x_508)), none]) ⟨rfl, rfl, rfl, rfl, rfl, rfl, trivial⟩)
        · have k := k.1 (Classical.not_not.mp c_515)
          refine R_ps 2 (pc2 := 1455) (L2 := [some (vr (some a0)), some (vr (some a1)), some (vr (some a2)), some (vr (some a3)), some (vr (some a4)), some (vi (J x5)), some (vi (J x_503)), some (vi (J x_508)), none]) (st2 := [vi (J 0), vr (some a3)]) rfl ?_
          obtain ⟨t_517, k⟩ := k
          refine R_zlald (i := 0) rfl t4 t_517 ?_
          refine R_ps 3 (pc2 := 1460) (L2 := [some (vr (some a0)), some (vr (some a1)), some (vr (some a2)), some (vr (some a3)), some (vr (some a4)), some (vi (J x5)), some (vi (J x_503)), some (vi (J x_508)), none]) (st2 := [vi (lg_cmp (gl h_511 a3 (Int.toNat 0)) ((J x_508).toInt64))]) rfl ?_
          rw [show (lg_cmp (gl h_511 a3 (Int.toNat 0)) ((J x_508).toInt64)) = J (zlc (gl h_511 a3 (Int.toNat 0)) ((J x_508).toInt64)) from J_lc']
          refine R_zif0 (x := zlc (gl h_511 a3 (Int.toNat 0)) ((J x_508).toInt64)) rfl (zlc_in _ _) (fun c_518 => ?_) (fun c_518 => ?_)
          · have k := k.1 c_518
            refine R_ps 3 (pc2 := 28) (L2 := [some (vr (some a0)), some (vr (some a1)), some (vr (some a2)), some (vr (some a3)), some (vr (some a4)), some (vi ((J x5) + J 5)), some (vi (J x_503)), some (vi (J x_508)), none]) (st2 := []) rfl ?_
            rw [show ((J x5) + J 5) = J (x5 + 5) from J_add' rfl rfl]
            exact R_drop k (LE_of (L := [some (vr (some a0)), some (vr (some a1)), some (vr (some a2)), some (vr (some a3)), some (vr (some a4)), some (vi (J (x5 + 5))), none, none, none]) (L2 := [some (vr (some a0)), some (vr (some a1)), some (vr (some a2)), some (vr (some a3)), some (vr (some a4)), some (vi (J (x5 + 5))), some (vi (J x_503)), some (vi (J x_508)), none]) ⟨rfl, rfl, rfl, rfl, rfl, rfl, trivial⟩)
          · have k := k.2 c_518
            refine R_ps 1 (pc2 := 1464) (L2 := [some (vr (some a0)), some (vr (some a1)), some (vr (some a2)), some (vr (some a3)), some (vr (some a4)), some (vi (J x5)), some (vi (J x_503)), some (vi (J x_508)), none]) (st2 := [vi (J 0)]) rfl ?_
            exact R_zzret (x := 0) rfl rfl (Or.inl rfl) (R_zr (x := 0) (K := K) (by decide) k)
      · have k := k.2 c_514
        refine R_ps 1 (pc2 := 1447) (L2 := [some (vr (some a0)), some (vr (some a1)), some (vr (some a2)), some (vr (some a3)), some (vr (some a4)), some (vi (J x5)), some (vi (J x_503)), some (vi (J x_508)), none]) (st2 := [vi (J 0)]) rfl ?_
        exact R_zzret (x := 0) rfl rfl (Or.inl rfl) (R_zr (x := 0) (K := K) (by decide) k)
    replace k := k.2 c_7
    refine ⟨fun c_7 => ?_, fun c_7 => ?_⟩
    · have k := k.1 c_7
      show WP T N _ 1468 _ _ _ _
      refine R_ps 5 (pc2 := 1474) (L2 := [some (vr (some a0)), some (vr (some a1)), some (vr (some a2)), some (vr (some a3)), some (vr (some a4)), some (vi (J x5)), none, none, none]) (st2 := [vi ((J x5) + (J 1)), vr (some a0), vr (some a1)]) rfl ?_
      rw [show ((J x5) + (J 1)) = J (x5 + 1) from J_add' rfl rfl]
      obtain ⟨t_522, k⟩ := k
      refine R_ziald (i := x5 + 1) rfl (Or.inr t1) t_522 ?_
      refine R_ps 4 (pc2 := 1480) (L2 := [some (vr (some a0)), some (vr (some a1)), some (vr (some a2)), some (vr (some a3)), some (vr (some a4)), some (vi (J x5)), none, none, none]) (st2 := [vi ((J x5) + (J 2)), vr (some a0), vi (J (ai h a0 (x5 + 1))), vr (some a1)]) rfl ?_
      rw [show ((J x5) + (J 2)) = J (x5 + 2) from J_add' rfl rfl]
      obtain ⟨t_524, k⟩ := k
      refine R_ziald (i := x5 + 2) rfl (Or.inr t1) t_524 ?_
      refine R_ps 1 (pc2 := 1482) (L2 := [some (vr (some a0)), some (vr (some a1)), some (vr (some a2)), some (vr (some a3)), some (vr (some a4)), some (vi (J x5)), none, none, none]) (st2 := [vr (some a3), vi (J (ai h a0 (x5 + 2))), vi (J (ai h a0 (x5 + 1))), vr (some a1)]) rfl ?_
      refine R_zcI (as := [vr (some a1), vi (J (ai h a0 (x5 + 1))), vi (J (ai h a0 (x5 + 2))), vr (some a3)]) rfl rfl ⟨Nat.le_of_ble_eq_true rfl, Nat.le_of_ble_eq_true rfl, rfl, (Or.inl rfl)⟩ rfl rfl k (fun x_527 h_526 r_528 k => ?_)
      refine R_ps 6 (pc2 := 1493) (L2 := [some (vr (some a0)), some (vr (some a1)), some (vr (some a2)), some (vr (some a3)), some (vr (some a4)), some (vi (J x5)), some (vi (J x_527)), none, none]) (st2 := [vi ((J x5) + (J 1)), vr (some a0), vr (some a2)]) rfl ?_
      rw [show ((J x5) + (J 1)) = J (x5 + 1) from J_add' rfl rfl]
      refine R_ziald (i := x5 + 1) rfl (Or.inr t1) t_522 ?_
      refine R_ps 4 (pc2 := 1499) (L2 := [some (vr (some a0)), some (vr (some a1)), some (vr (some a2)), some (vr (some a3)), some (vr (some a4)), some (vi (J x5)), some (vi (J x_527)), none, none]) (st2 := [vi ((J x5) + (J 2)), vr (some a0), vi (J (ai h_526 a0 (x5 + 1))), vr (some a2)]) rfl ?_
      rw [show ((J x5) + (J 2)) = J (x5 + 2) from J_add' rfl rfl]
      refine R_ziald (i := x5 + 2) rfl (Or.inr t1) t_524 ?_
      refine R_zcI (as := [vr (some a2), vi (J (ai h_526 a0 (x5 + 1))), vi (J (ai h_526 a0 (x5 + 2)))]) rfl rfl ⟨Nat.le_of_ble_eq_true rfl, Nat.le_of_ble_eq_true rfl, rfl, (Or.inr ⟨_, rfl, t3⟩)⟩ rfl rfl k (fun x_533 h_532 r_534 k => ?_)
      refine R_ps 2 (pc2 := 1506) (L2 := [some (vr (some a0)), some (vr (some a1)), some (vr (some a2)), some (vr (some a3)), some (vr (some a4)), some (vi (J x5)), some (vi (J x_527)), some (vi (J x_533)), none]) (st2 := [vr (some a2)]) rfl ?_
      refine R_zcI (as := [vr (some a2)]) rfl rfl ⟨Nat.le_of_ble_eq_true rfl, Nat.le_of_ble_eq_true rfl, rfl, (Or.inr ⟨_, rfl, t3⟩)⟩ rfl rfl k (fun x_537 h_536 r_538 k => ?_)
      refine R_ps 1 (pc2 := 1511) (L2 := [some (vr (some a0)), some (vr (some a1)), some (vr (some a2)), some (vr (some a3)), some (vr (some a4)), some (vi (J x5)), some (vi (J x_527)), some (vi (J x_533)), none]) (st2 := [vi (J x_527), vi (J x_537)]) rfl ?_
      refine R_zif (x := x_537) (z := x_527) rfl r_538 r_528 (fun c_539 => ?_) (fun c_539 => ?_)
      · have k := k.1 c_539
        refine R_ps 1 (pc2 := 1518) (L2 := [some (vr (some a0)), some (vr (some a1)), some (vr (some a2)), some (vr (some a3)), some (vr (some a4)), some (vi (J x5)), some (vi (J x_527)), some (vi (J x_533)), none]) (st2 := [vi (J x_527)]) rfl ?_
        refine R_zif0 (x := x_527) rfl r_528 (fun c_540 => ?_) (fun c_540 => ?_)
        · have k := k.2 c_540
          refine R_ps 3 (pc2 := 28) (L2 := [some (vr (some a0)), some (vr (some a1)), some (vr (some a2)), some (vr (some a3)), some (vr (some a4)), some (vi ((J x5) + J 5)), some (vi (J x_527)), some (vi (J x_533)), none]) (st2 := []) rfl ?_
          rw [show ((J x5) + J 5) = J (x5 + 5) from J_add' rfl rfl]
          exact R_drop k (LE_of (L := [some (vr (some a0)), some (vr (some a1)), some (vr (some a2)), some (vr (some a3)), some (vr (some a4)), some (vi (J (x5 + 5))), none, none, none]) (L2 := [some (vr (some a0)), some (vr (some a1)), some (vr (some a2)), some (vr (some a3)), some (vr (some a4)), some (vi (J (x5 + 5))), some (vi (J x_527)), some (vi (J x_533)), none]) ⟨rfl, rfl, rfl, rfl, rfl, rfl, trivial⟩)
        · have k := k.1 (Classical.not_not.mp c_540)
          refine R_ps 2 (pc2 := 1523) (L2 := [some (vr (some a0)), some (vr (some a1)), some (vr (some a2)), some (vr (some a3)), some (vr (some a4)), some (vi (J x5)), some (vi (J x_527)), some (vi (J x_533)), none]) (st2 := [vi (J 0), vr (some a3)]) rfl ?_
          obtain ⟨t_542, k⟩ := k
          refine R_zlald (i := 0) rfl t4 t_542 ?_
          refine R_ps 3 (pc2 := 1528) (L2 := [some (vr (some a0)), some (vr (some a1)), some (vr (some a2)), some (vr (some a3)), some (vr (some a4)), some (vi (J x5)), some (vi (J x_527)), some (vi (J x_533)), none]) (st2 := [vi (lg_cmp (gl h_536 a3 (Int.toNat 0)) ((J x_533).toInt64))]) rfl ?_
          rw [show (lg_cmp (gl h_536 a3 (Int.toNat 0)) ((J x_533).toInt64)) = J (zlc (gl h_536 a3 (Int.toNat 0)) ((J x_533).toInt64)) from J_lc']
          refine R_zif0 (x := zlc (gl h_536 a3 (Int.toNat 0)) ((J x_533).toInt64)) rfl (zlc_in _ _) (fun c_543 => ?_) (fun c_543 => ?_)
          · have k := k.1 c_543
            refine R_ps 3 (pc2 := 28) (L2 := [some (vr (some a0)), some (vr (some a1)), some (vr (some a2)), some (vr (some a3)), some (vr (some a4)), some (vi ((J x5) + J 5)), some (vi (J x_527)), some (vi (J x_533)), none]) (st2 := []) rfl ?_
            rw [show ((J x5) + J 5) = J (x5 + 5) from J_add' rfl rfl]
            exact R_drop k (LE_of (L := [some (vr (some a0)), some (vr (some a1)), some (vr (some a2)), some (vr (some a3)), some (vr (some a4)), some (vi (J (x5 + 5))), none, none, none]) (L2 := [some (vr (some a0)), some (vr (some a1)), some (vr (some a2)), some (vr (some a3)), some (vr (some a4)), some (vi (J (x5 + 5))), some (vi (J x_527)), some (vi (J x_533)), none]) ⟨rfl, rfl, rfl, rfl, rfl, rfl, trivial⟩)
          · have k := k.2 c_543
            refine R_ps 1 (pc2 := 1532) (L2 := [some (vr (some a0)), some (vr (some a1)), some (vr (some a2)), some (vr (some a3)), some (vr (some a4)), some (vi (J x5)), some (vi (J x_527)), some (vi (J x_533)), none]) (st2 := [vi (J 0)]) rfl ?_
            exact R_zzret (x := 0) rfl rfl (Or.inl rfl) (R_zr (x := 0) (K := K) (by decide) k)
      · have k := k.2 c_539
        refine R_ps 1 (pc2 := 1515) (L2 := [some (vr (some a0)), some (vr (some a1)), some (vr (some a2)), some (vr (some a3)), some (vr (some a4)), some (vi (J x5)), some (vi (J x_527)), some (vi (J x_533)), none]) (st2 := [vi (J 0)]) rfl ?_
        exact R_zzret (x := 0) rfl rfl (Or.inl rfl) (R_zr (x := 0) (K := K) (by decide) k)
    replace k := k.2 c_7
    refine ⟨fun c_7 => ?_, fun c_7 => ?_⟩
    · have k := k.1 c_7
      show WP T N _ 1536 _ _ _ _
      refine R_ps 1 (pc2 := 1537) (L2 := [some (vr (some a0)), some (vr (some a1)), some (vr (some a2)), some (vr (some a3)), some (vr (some a4)), some (vi (J x5)), none, none, none]) (st2 := [vr (some a1)]) rfl ?_
      refine R_zcI (as := [vr (some a1)]) rfl rfl ⟨Nat.le_of_ble_eq_true rfl, Nat.le_of_ble_eq_true rfl, rfl, (Or.inr ⟨_, rfl, t2⟩)⟩ rfl rfl k (fun x_548 h_547 r_549 k => ?_)
      refine R_ps 1 (pc2 := 1541) (L2 := [some (vr (some a0)), some (vr (some a1)), some (vr (some a2)), some (vr (some a3)), some (vr (some a4)), some (vi (J x5)), none, none, none]) (st2 := [vr (some a2), vi (J x_548)]) rfl ?_
      refine R_zcI (as := [vr (some a2)]) rfl rfl ⟨Nat.le_of_ble_eq_true rfl, Nat.le_of_ble_eq_true rfl, rfl, (Or.inr ⟨_, rfl, t3⟩)⟩ rfl rfl k (fun x_552 h_551 r_553 k => ?_)
      refine R_zif (x := x_548) (z := x_552) rfl r_549 r_553 (fun c_554 => ?_) (fun c_554 => ?_)
      · have k := k.1 c_554
        refine R_ps 2 (pc2 := 28) (L2 := [some (vr (some a0)), some (vr (some a1)), some (vr (some a2)), some (vr (some a3)), some (vr (some a4)), some (vi ((J x5) + J 5)), none, none, none]) (st2 := []) rfl ?_
        rw [show ((J x5) + J 5) = J (x5 + 5) from J_add' rfl rfl]
        exact k
      · have k := k.2 c_554
        refine R_ps 1 (pc2 := 1548) (L2 := [some (vr (some a0)), some (vr (some a1)), some (vr (some a2)), some (vr (some a3)), some (vr (some a4)), some (vi (J x5)), none, none, none]) (st2 := [vi (J 0)]) rfl ?_
        exact R_zzret (x := 0) rfl rfl (Or.inl rfl) (R_zr (x := 0) (K := K) (by decide) k)
    replace k := k.2 c_7
    refine ⟨fun c_7 => ?_, fun c_7 => ?_⟩
    · have k := k.1 c_7
      show WP T N _ 1549 _ _ _ _
      refine R_ps 1 (pc2 := 1550) (L2 := [some (vr (some a0)), some (vr (some a1)), some (vr (some a2)), some (vr (some a3)), some (vr (some a4)), some (vi (J x5)), none, none, none]) (st2 := [vr (some a1)]) rfl ?_
      refine R_zcI (as := [vr (some a1)]) rfl rfl ⟨Nat.le_of_ble_eq_true rfl, Nat.le_of_ble_eq_true rfl, rfl, (Or.inr ⟨_, rfl, t2⟩)⟩ rfl rfl k (fun x_558 h_557 r_559 k => ?_)
      refine R_ps 1 (pc2 := 1554) (L2 := [some (vr (some a0)), some (vr (some a1)), some (vr (some a2)), some (vr (some a3)), some (vr (some a4)), some (vi (J x5)), none, none, none]) (st2 := [vr (some a2), vi (J x_558)]) rfl ?_
      refine R_zcI (as := [vr (some a2)]) rfl rfl ⟨Nat.le_of_ble_eq_true rfl, Nat.le_of_ble_eq_true rfl, rfl, (Or.inr ⟨_, rfl, t3⟩)⟩ rfl rfl k (fun x_562 h_561 r_563 k => ?_)
      refine R_zif (x := x_558) (z := x_562) rfl r_559 r_563 (fun c_564 => ?_) (fun c_564 => ?_)
      · have k := k.1 c_564
        refine R_ps 2 (pc2 := 28) (L2 := [some (vr (some a0)), some (vr (some a1)), some (vr (some a2)), some (vr (some a3)), some (vr (some a4)), some (vi ((J x5) + J 5)), none, none, none]) (st2 := []) rfl ?_
        rw [show ((J x5) + J 5) = J (x5 + 5) from J_add' rfl rfl]
        exact k
      · have k := k.2 c_564
        refine R_ps 1 (pc2 := 1561) (L2 := [some (vr (some a0)), some (vr (some a1)), some (vr (some a2)), some (vr (some a3)), some (vr (some a4)), some (vi (J x5)), none, none, none]) (st2 := [vi (J 0)]) rfl ?_
        exact R_zzret (x := 0) rfl rfl (Or.inl rfl) (R_zr (x := 0) (K := K) (by decide) k)
    replace k := k.2 c_7
    refine ⟨fun c_7 => ?_, fun c_7 => ?_⟩
    · have k := k.1 c_7
      show WP T N _ 1562 _ _ _ _
      refine R_ps 5 (pc2 := 1568) (L2 := [some (vr (some a0)), some (vr (some a1)), some (vr (some a2)), some (vr (some a3)), some (vr (some a4)), some (vi (J x5)), none, none, none]) (st2 := [vi ((J x5) + (J 1)), vr (some a0), vr (some a1)]) rfl ?_
      rw [show ((J x5) + (J 1)) = J (x5 + 1) from J_add' rfl rfl]
      obtain ⟨t_567, k⟩ := k
      refine R_ziald (i := x5 + 1) rfl (Or.inr t1) t_567 ?_
      refine R_ps 1 (pc2 := 1570) (L2 := [some (vr (some a0)), some (vr (some a1)), some (vr (some a2)), some (vr (some a3)), some (vr (some a4)), some (vi (J x5)), none, none, none]) (st2 := [vr (some a3), vi (J (ai h a0 (x5 + 1))), vr (some a1)]) rfl ?_
      refine R_zcI (as := [vr (some a1), vi (J (ai h a0 (x5 + 1))), vr (some a3)]) rfl rfl ⟨Nat.le_of_ble_eq_true rfl, Nat.le_of_ble_eq_true rfl, rfl, (Or.inl rfl)⟩ rfl rfl k (fun x_570 h_569 r_571 k => ?_)
      refine R_ps 6 (pc2 := 1581) (L2 := [some (vr (some a0)), some (vr (some a1)), some (vr (some a2)), some (vr (some a3)), some (vr (some a4)), some (vi (J x5)), some (vi (J x_570)), none, none]) (st2 := [vi ((J x5) + (J 1)), vr (some a0), vr (some a2)]) rfl ?_
      rw [show ((J x5) + (J 1)) = J (x5 + 1) from J_add' rfl rfl]
      refine R_ziald (i := x5 + 1) rfl (Or.inr t1) t_567 ?_
      refine R_zcI (as := [vr (some a2), vi (J (ai h_569 a0 (x5 + 1)))]) rfl rfl ⟨Nat.le_of_ble_eq_true rfl, Nat.le_of_ble_eq_true rfl, rfl, (Or.inr ⟨_, rfl, t3⟩)⟩ rfl rfl k (fun x_575 h_574 r_576 k => ?_)
      refine R_ps 2 (pc2 := 1588) (L2 := [some (vr (some a0)), some (vr (some a1)), some (vr (some a2)), some (vr (some a3)), some (vr (some a4)), some (vi (J x5)), some (vi (J x_570)), some (vi (J x_575)), none]) (st2 := [vr (some a2)]) rfl ?_
      refine R_zcI (as := [vr (some a2)]) rfl rfl ⟨Nat.le_of_ble_eq_true rfl, Nat.le_of_ble_eq_true rfl, rfl, (Or.inr ⟨_, rfl, t3⟩)⟩ rfl rfl k (fun x_579 h_578 r_580 k => ?_)
      refine R_ps 1 (pc2 := 1593) (L2 := [some (vr (some a0)), some (vr (some a1)), some (vr (some a2)), some (vr (some a3)), some (vr (some a4)), some (vi (J x5)), some (vi (J x_570)), some (vi (J x_575)), none]) (st2 := [vi (J x_570), vi (J x_579)]) rfl ?_
      refine R_zif (x := x_579) (z := x_570) rfl r_580 r_571 (fun c_581 => ?_) (fun c_581 => ?_)
      · have k := k.1 c_581
        refine R_ps 1 (pc2 := 1600) (L2 := [some (vr (some a0)), some (vr (some a1)), some (vr (some a2)), some (vr (some a3)), some (vr (some a4)), some (vi (J x5)), some (vi (J x_570)), some (vi (J x_575)), none]) (st2 := [vi (J x_570)]) rfl ?_
        refine R_zif0 (x := x_570) rfl r_571 (fun c_582 => ?_) (fun c_582 => ?_)
        · have k := k.2 c_582
          refine R_ps 3 (pc2 := 28) (L2 := [some (vr (some a0)), some (vr (some a1)), some (vr (some a2)), some (vr (some a3)), some (vr (some a4)), some (vi ((J x5) + J 5)), some (vi (J x_570)), some (vi (J x_575)), none]) (st2 := []) rfl ?_
          rw [show ((J x5) + J 5) = J (x5 + 5) from J_add' rfl rfl]
          exact R_drop k (LE_of (L := [some (vr (some a0)), some (vr (some a1)), some (vr (some a2)), some (vr (some a3)), some (vr (some a4)), some (vi (J (x5 + 5))), none, none, none]) (L2 := [some (vr (some a0)), some (vr (some a1)), some (vr (some a2)), some (vr (some a3)), some (vr (some a4)), some (vi (J (x5 + 5))), some (vi (J x_570)), some (vi (J x_575)), none]) ⟨rfl, rfl, rfl, rfl, rfl, rfl, trivial⟩)
        · have k := k.1 (Classical.not_not.mp c_582)
          refine R_ps 2 (pc2 := 1605) (L2 := [some (vr (some a0)), some (vr (some a1)), some (vr (some a2)), some (vr (some a3)), some (vr (some a4)), some (vi (J x5)), some (vi (J x_570)), some (vi (J x_575)), none]) (st2 := [vi (J 0), vr (some a3)]) rfl ?_
          obtain ⟨t_584, k⟩ := k
          refine R_zlald (i := 0) rfl t4 t_584 ?_
          refine R_ps 3 (pc2 := 1610) (L2 := [some (vr (some a0)), some (vr (some a1)), some (vr (some a2)), some (vr (some a3)), some (vr (some a4)), some (vi (J x5)), some (vi (J x_570)), some (vi (J x_575)), none]) (st2 := [vi (lg_cmp (gl h_578 a3 (Int.toNat 0)) ((J x_575).toInt64))]) rfl ?_
          rw [show (lg_cmp (gl h_578 a3 (Int.toNat 0)) ((J x_575).toInt64)) = J (zlc (gl h_578 a3 (Int.toNat 0)) ((J x_575).toInt64)) from J_lc']
          refine R_zif0 (x := zlc (gl h_578 a3 (Int.toNat 0)) ((J x_575).toInt64)) rfl (zlc_in _ _) (fun c_585 => ?_) (fun c_585 => ?_)
          · have k := k.1 c_585
            refine R_ps 3 (pc2 := 28) (L2 := [some (vr (some a0)), some (vr (some a1)), some (vr (some a2)), some (vr (some a3)), some (vr (some a4)), some (vi ((J x5) + J 5)), some (vi (J x_570)), some (vi (J x_575)), none]) (st2 := []) rfl ?_
            rw [show ((J x5) + J 5) = J (x5 + 5) from J_add' rfl rfl]
            exact R_drop k (LE_of (L := [some (vr (some a0)), some (vr (some a1)), some (vr (some a2)), some (vr (some a3)), some (vr (some a4)), some (vi (J (x5 + 5))), none, none, none]) (L2 := [some (vr (some a0)), some (vr (some a1)), some (vr (some a2)), some (vr (some a3)), some (vr (some a4)), some (vi (J (x5 + 5))), some (vi (J x_570)), some (vi (J x_575)), none]) ⟨rfl, rfl, rfl, rfl, rfl, rfl, trivial⟩)
          · have k := k.2 c_585
            refine R_ps 1 (pc2 := 1614) (L2 := [some (vr (some a0)), some (vr (some a1)), some (vr (some a2)), some (vr (some a3)), some (vr (some a4)), some (vi (J x5)), some (vi (J x_570)), some (vi (J x_575)), none]) (st2 := [vi (J 0)]) rfl ?_
            exact R_zzret (x := 0) rfl rfl (Or.inl rfl) (R_zr (x := 0) (K := K) (by decide) k)
      · have k := k.2 c_581
        refine R_ps 1 (pc2 := 1597) (L2 := [some (vr (some a0)), some (vr (some a1)), some (vr (some a2)), some (vr (some a3)), some (vr (some a4)), some (vi (J x5)), some (vi (J x_570)), some (vi (J x_575)), none]) (st2 := [vi (J 0)]) rfl ?_
        exact R_zzret (x := 0) rfl rfl (Or.inl rfl) (R_zr (x := 0) (K := K) (by decide) k)
    replace k := k.2 c_7
    refine ⟨fun c_7 => ?_, fun c_7 => ?_⟩
    · have k := k.1 c_7
      show WP T N _ 1618 _ _ _ _
      refine R_ps 1 (pc2 := 1619) (L2 := [some (vr (some a0)), some (vr (some a1)), some (vr (some a2)), some (vr (some a3)), some (vr (some a4)), some (vi (J x5)), none, none, none]) (st2 := [vr (some a1)]) rfl ?_
      refine R_zcI (as := [vr (some a1)]) rfl rfl ⟨Nat.le_of_ble_eq_true rfl, Nat.le_of_ble_eq_true rfl, rfl, (Or.inr ⟨_, rfl, t2⟩)⟩ rfl rfl k (fun x_590 h_589 r_591 k => ?_)
      refine R_ps 1 (pc2 := 1623) (L2 := [some (vr (some a0)), some (vr (some a1)), some (vr (some a2)), some (vr (some a3)), some (vr (some a4)), some (vi (J x5)), none, none, none]) (st2 := [vr (some a2), vi (J x_590)]) rfl ?_
      refine R_zcI (as := [vr (some a2)]) rfl rfl ⟨Nat.le_of_ble_eq_true rfl, Nat.le_of_ble_eq_true rfl, rfl, (Or.inr ⟨_, rfl, t3⟩)⟩ rfl rfl k (fun x_594 h_593 r_595 k => ?_)
      refine R_zif (x := x_590) (z := x_594) rfl r_591 r_595 (fun c_596 => ?_) (fun c_596 => ?_)
      · have k := k.1 c_596
        refine R_ps 2 (pc2 := 28) (L2 := [some (vr (some a0)), some (vr (some a1)), some (vr (some a2)), some (vr (some a3)), some (vr (some a4)), some (vi ((J x5) + J 5)), none, none, none]) (st2 := []) rfl ?_
        rw [show ((J x5) + J 5) = J (x5 + 5) from J_add' rfl rfl]
        exact k
      · have k := k.2 c_596
        refine R_ps 1 (pc2 := 1630) (L2 := [some (vr (some a0)), some (vr (some a1)), some (vr (some a2)), some (vr (some a3)), some (vr (some a4)), some (vi (J x5)), none, none, none]) (st2 := [vi (J 0)]) rfl ?_
        exact R_zzret (x := 0) rfl rfl (Or.inl rfl) (R_zr (x := 0) (K := K) (by decide) k)
    replace k := k.2 c_7
    refine ⟨fun c_7 => ?_, fun c_7 => ?_⟩
    · have k := k.1 c_7
      show WP T N _ 1631 _ _ _ _
      refine R_ps 2 (pc2 := 1633) (L2 := [some (vr (some a0)), some (vr (some a1)), some (vr (some a2)), some (vr (some a3)), some (vr (some a4)), some (vi (J x5)), none, none, none]) (st2 := [vr (some a3), vr (some a1)]) rfl ?_
      refine R_zcI (as := [vr (some a1), vr (some a3)]) rfl rfl ⟨Nat.le_of_ble_eq_true rfl, Nat.le_of_ble_eq_true rfl, rfl, (Or.inl rfl)⟩ rfl rfl k (fun x_600 h_599 r_601 k => ?_)
      refine R_ps 2 (pc2 := 1639) (L2 := [some (vr (some a0)), some (vr (some a1)), some (vr (some a2)), some (vr (some a3)), some (vr (some a4)), some (vi (J x5)), some (vi (J x_600)), none, none]) (st2 := [vr (some a2)]) rfl ?_
      refine R_zcI (as := [vr (some a2)]) rfl rfl ⟨Nat.le_of_ble_eq_true rfl, Nat.le_of_ble_eq_true rfl, rfl, (Or.inr ⟨_, rfl, t3⟩)⟩ rfl rfl k (fun x_604 h_603 r_605 k => ?_)
      refine R_ps 2 (pc2 := 1645) (L2 := [some (vr (some a0)), some (vr (some a1)), some (vr (some a2)), some (vr (some a3)), some (vr (some a4)), some (vi (J x5)), some (vi (J x_600)), some (vi (J x_604)), none]) (st2 := [vr (some a2)]) rfl ?_
      refine R_zcI (as := [vr (some a2)]) rfl rfl ⟨Nat.le_of_ble_eq_true rfl, Nat.le_of_ble_eq_true rfl, rfl, (Or.inr ⟨_, rfl, t3⟩)⟩ rfl rfl k (fun x_608 h_607 r_609 k => ?_)
      refine R_ps 1 (pc2 := 1650) (L2 := [some (vr (some a0)), some (vr (some a1)), some (vr (some a2)), some (vr (some a3)), some (vr (some a4)), some (vi (J x5)), some (vi (J x_600)), some (vi (J x_604)), none]) (st2 := [vi (J x_600), vi (J x_608)]) rfl ?_
      refine R_zif (x := x_608) (z := x_600) rfl r_609 r_601 (fun c_610 => ?_) (fun c_610 => ?_)
      · have k := k.1 c_610
        refine R_ps 1 (pc2 := 1657) (L2 := [some (vr (some a0)), some (vr (some a1)), some (vr (some a2)), some (vr (some a3)), some (vr (some a4)), some (vi (J x5)), some (vi (J x_600)), some (vi (J x_604)), none]) (st2 := [vi (J x_600)]) rfl ?_
        refine R_zif0 (x := x_600) rfl r_601 (fun c_611 => ?_) (fun c_611 => ?_)
        · have k := k.2 c_611
          refine R_ps 3 (pc2 := 28) (L2 := [some (vr (some a0)), some (vr (some a1)), some (vr (some a2)), some (vr (some a3)), some (vr (some a4)), some (vi ((J x5) + J 5)), some (vi (J x_600)), some (vi (J x_604)), none]) (st2 := []) rfl ?_
          rw [show ((J x5) + J 5) = J (x5 + 5) from J_add' rfl rfl]
          exact R_drop k (LE_of (L := [some (vr (some a0)), some (vr (some a1)), some (vr (some a2)), some (vr (some a3)), some (vr (some a4)), some (vi (J (x5 + 5))), none, none, none]) (L2 := [some (vr (some a0)), some (vr (some a1)), some (vr (some a2)), some (vr (some a3)), some (vr (some a4)), some (vi (J (x5 + 5))), some (vi (J x_600)), some (vi (J x_604)), none]) ⟨rfl, rfl, rfl, rfl, rfl, rfl, trivial⟩)
        · have k := k.1 (Classical.not_not.mp c_611)
          refine R_ps 2 (pc2 := 1662) (L2 := [some (vr (some a0)), some (vr (some a1)), some (vr (some a2)), some (vr (some a3)), some (vr (some a4)), some (vi (J x5)), some (vi (J x_600)), some (vi (J x_604)), none]) (st2 := [vi (J 0), vr (some a3)]) rfl ?_
          obtain ⟨t_613, k⟩ := k
          refine R_zlald (i := 0) rfl t4 t_613 ?_
          refine R_ps 3 (pc2 := 1667) (L2 := [some (vr (some a0)), some (vr (some a1)), some (vr (some a2)), some (vr (some a3)), some (vr (some a4)), some (vi (J x5)), some (vi (J x_600)), some (vi (J x_604)), none]) (st2 := [vi (lg_cmp (gl h_607 a3 (Int.toNat 0)) ((J x_604).toInt64))]) rfl ?_
          rw [show (lg_cmp (gl h_607 a3 (Int.toNat 0)) ((J x_604).toInt64)) = J (zlc (gl h_607 a3 (Int.toNat 0)) ((J x_604).toInt64)) from J_lc']
          refine R_zif0 (x := zlc (gl h_607 a3 (Int.toNat 0)) ((J x_604).toInt64)) rfl (zlc_in _ _) (fun c_614 => ?_) (fun c_614 => ?_)
          · have k := k.1 c_614
            refine R_ps 3 (pc2 := 28) (L2 := [some (vr (some a0)), some (vr (some a1)), some (vr (some a2)), some (vr (some a3)), some (vr (some a4)), some (vi ((J x5) + J 5)), some (vi (J x_600)), some (vi (J x_604)), none]) (st2 := []) rfl ?_
            rw [show ((J x5) + J 5) = J (x5 + 5) from J_add' rfl rfl]
            exact R_drop k (LE_of (L := [some (vr (some a0)), some (vr (some a1)), some (vr (some a2)), some (vr (some a3)), some (vr (some a4)), some (vi (J (x5 + 5))), none, none, none]) (L2 := [some (vr (some a0)), some (vr (some a1)), some (vr (some a2)), some (vr (some a3)), some (vr (some a4)), some (vi (J (x5 + 5))), some (vi (J x_600)), some (vi (J x_604)), none]) ⟨rfl, rfl, rfl, rfl, rfl, rfl, trivial⟩)
          · have k := k.2 c_614
            refine R_ps 1 (pc2 := 1671) (L2 := [some (vr (some a0)), some (vr (some a1)), some (vr (some a2)), some (vr (some a3)), some (vr (some a4)), some (vi (J x5)), some (vi (J x_600)), some (vi (J x_604)), none]) (st2 := [vi (J 0)]) rfl ?_
            exact R_zzret (x := 0) rfl rfl (Or.inl rfl) (R_zr (x := 0) (K := K) (by decide) k)
      · have k := k.2 c_610
        refine R_ps 1 (pc2 := 1654) (L2 := [some (vr (some a0)), some (vr (some a1)), some (vr (some a2)), some (vr (some a3)), some (vr (some a4)), some (vi (J x5)), some (vi (J x_600)), some (vi (J x_604)), none]) (st2 := [vi (J 0)]) rfl ?_
        exact R_zzret (x := 0) rfl rfl (Or.inl rfl) (R_zr (x := 0) (K := K) (by decide) k)
    replace k := k.2 c_7
    refine ⟨fun c_7 => ?_, fun c_7 => ?_⟩
    · have k := k.1 c_7
      show WP T N _ 1675 _ _ _ _
      refine R_ps 5 (pc2 := 1681) (L2 := [some (vr (some a0)), some (vr (some a1)), some (vr (some a2)), some (vr (some a3)), some (vr (some a4)), some (vi (J x5)), none, none, none]) (st2 := [vi ((J x5) + (J 1)), vr (some a0), vr (some a1)]) rfl ?_
      rw [show ((J x5) + (J 1)) = J (x5 + 1) from J_add' rfl rfl]
      obtain ⟨t_618, k⟩ := k
      refine R_ziald (i := x5 + 1) rfl (Or.inr t1) t_618 ?_
      refine R_ps 1 (pc2 := 1683) (L2 := [some (vr (some a0)), some (vr (some a1)), some (vr (some a2)), some (vr (some a3)), some (vr (some a4)), some (vi (J x5)), none, none, none]) (st2 := [vr (some a3), vi (J (ai h a0 (x5 + 1))), vr (some a1)]) rfl ?_
      refine R_zcI (as := [vr (some a1), vi (J (ai h a0 (x5 + 1))), vr (some a3)]) rfl rfl ⟨Nat.le_of_ble_eq_true rfl, Nat.le_of_ble_eq_true rfl, rfl, (Or.inl rfl)⟩ rfl rfl k (fun x_621 h_620 r_622 k => ?_)
      refine R_ps 6 (pc2 := 1694) (L2 := [some (vr (some a0)), some (vr (some a1)), some (vr (some a2)), some (vr (some a3)), some (vr (some a4)), some (vi (J x5)), some (vi (J x_621)), none, none]) (st2 := [vi ((J x5) + (J 1)), vr (some a0), vr (some a2)]) rfl ?_
      rw [show ((J x5) + (J 1)) = J (x5 + 1) from J_add' rfl rfl]
      refine R_ziald (i := x5 + 1) rfl (Or.inr t1) t_618 ?_
      refine R_zcI (as := [vr (some a2), vi (J (ai h_620 a0 (x5 + 1)))]) rfl rfl ⟨Nat.le_of_ble_eq_true rfl, Nat.le_of_ble_eq_true rfl, rfl, (Or.inr ⟨_, rfl, t3⟩)⟩ rfl rfl k (fun x_626 h_625 r_627 k => ?_)
      refine R_ps 2 (pc2 := 1701) (L2 := [some (vr (some a0)), some (vr (some a1)), some (vr (some a2)), some (vr (some a3)), some (vr (some a4)), some (vi (J x5)), some (vi (J x_621)), some (vi (J x_626)), none]) (st2 := [vr (some a2)]) rfl ?_
      refine R_zcI (as := [vr (some a2)]) rfl rfl ⟨Nat.le_of_ble_eq_true rfl, Nat.le_of_ble_eq_true rfl, rfl, (Or.inr ⟨_, rfl, t3⟩)⟩ rfl rfl k (fun x_630 h_629 r_631 k => ?_)
      refine R_ps 1 (pc2 := 1706) (L2 := [some (vr (some a0)), some (vr (some a1)), some (vr (some a2)), some (vr (some a3)), some (vr (some a4)), some (vi (J x5)), some (vi (J x_621)), some (vi (J x_626)), none]) (st2 := [vi (J x_621), vi (J x_630)]) rfl ?_
      refine R_zif (x := x_630) (z := x_621) rfl r_631 r_622 (fun c_632 => ?_) (fun c_632 => ?_)
      · have k := k.1 c_632
        refine R_ps 1 (pc2 := 1713) (L2 := [some (vr (some a0)), some (vr (some a1)), some (vr (some a2)), some (vr (some a3)), some (vr (some a4)), some (vi (J x5)), some (vi (J x_621)), some (vi (J x_626)), none]) (st2 := [vi (J x_621)]) rfl ?_
        refine R_zif0 (x := x_621) rfl r_622 (fun c_633 => ?_) (fun c_633 => ?_)
        · have k := k.2 c_633
          refine R_ps 3 (pc2 := 28) (L2 := [some (vr (some a0)), some (vr (some a1)), some (vr (some a2)), some (vr (some a3)), some (vr (some a4)), some (vi ((J x5) + J 5)), some (vi (J x_621)), some (vi (J x_626)), none]) (st2 := []) rfl ?_
          rw [show ((J x5) + J 5) = J (x5 + 5) from J_add' rfl rfl]
          exact R_drop k (LE_of (L := [some (vr (some a0)), some (vr (some a1)), some (vr (some a2)), some (vr (some a3)), some (vr (some a4)), some (vi (J (x5 + 5))), none, none, none]) (L2 := [some (vr (some a0)), some (vr (some a1)), some (vr (some a2)), some (vr (some a3)), some (vr (some a4)), some (vi (J (x5 + 5))), some (vi (J x_621)), some (vi (J x_626)), none]) ⟨rfl, rfl, rfl, rfl, rfl, rfl, trivial⟩)
        · have k := k.1 (Classical.not_not.mp c_633)
          refine R_ps 2 (pc2 := 1718) (L2 := [some (vr (some a0)), some (vr (some a1)), some (vr (some a2)), some (vr (some a3)), some (vr (some a4)), some (vi (J x5)), some (vi (J x_621)), some (vi (J x_626)), none]) (st2 := [vi (J 0), vr (some a3)]) rfl ?_
          obtain ⟨t_635, k⟩ := k
          refine R_zlald (i := 0) rfl t4 t_635 ?_
          refine R_ps 3 (pc2 := 1723) (L2 := [some (vr (some a0)), some (vr (some a1)), some (vr (some a2)), some (vr (some a3)), some (vr (some a4)), some (vi (J x5)), some (vi (J x_621)), some (vi (J x_626)), none]) (st2 := [vi (lg_cmp (gl h_629 a3 (Int.toNat 0)) ((J x_626).toInt64))]) rfl ?_
          rw [show (lg_cmp (gl h_629 a3 (Int.toNat 0)) ((J x_626).toInt64)) = J (zlc (gl h_629 a3 (Int.toNat 0)) ((J x_626).toInt64)) from J_lc']
          refine R_zif0 (x := zlc (gl h_629 a3 (Int.toNat 0)) ((J x_626).toInt64)) rfl (zlc_in _ _) (fun c_636 => ?_) (fun c_636 => ?_)
          · have k := k.1 c_636
            refine R_ps 3 (pc2 := 28) (L2 := [some (vr (some a0)), some (vr (some a1)), some (vr (some a2)), some (vr (some a3)), some (vr (some a4)), some (vi ((J x5) + J 5)), some (vi (J x_621)), some (vi (J x_626)), none]) (st2 := []) rfl ?_
            rw [show ((J x5) + J 5) = J (x5 + 5) from J_add' rfl rfl]
            exact R_drop k (LE_of (L := [some (vr (some a0)), some (vr (some a1)), some (vr (some a2)), some (vr (some a3)), some (vr (some a4)), some (vi (J (x5 + 5))), none, none, none]) (L2 := [some (vr (some a0)), some (vr (some a1)), some (vr (some a2)), some (vr (some a3)), some (vr (some a4)), some (vi (J (x5 + 5))), some (vi (J x_621)), some (vi (J x_626)), none]) ⟨rfl, rfl, rfl, rfl, rfl, rfl, trivial⟩)
          · have k := k.2 c_636
            refine R_ps 1 (pc2 := 1727) (L2 := [some (vr (some a0)), some (vr (some a1)), some (vr (some a2)), some (vr (some a3)), some (vr (some a4)), some (vi (J x5)), some (vi (J x_621)), some (vi (J x_626)), none]) (st2 := [vi (J 0)]) rfl ?_
            exact R_zzret (x := 0) rfl rfl (Or.inl rfl) (R_zr (x := 0) (K := K) (by decide) k)
      · have k := k.2 c_632
        refine R_ps 1 (pc2 := 1710) (L2 := [some (vr (some a0)), some (vr (some a1)), some (vr (some a2)), some (vr (some a3)), some (vr (some a4)), some (vi (J x5)), some (vi (J x_621)), some (vi (J x_626)), none]) (st2 := [vi (J 0)]) rfl ?_
        exact R_zzret (x := 0) rfl rfl (Or.inl rfl) (R_zr (x := 0) (K := K) (by decide) k)
    replace k := k.2 c_7
    refine ⟨fun c_7 => ?_, fun c_7 => ?_⟩
    · have k := k.1 c_7
      show WP T N _ 1731 _ _ _ _
      refine R_ps 5 (pc2 := 1737) (L2 := [some (vr (some a0)), some (vr (some a1)), some (vr (some a2)), some (vr (some a3)), some (vr (some a4)), some (vi (J x5)), none, none, none]) (st2 := [vi ((J x5) + (J 1)), vr (some a0), vr (some a1)]) rfl ?_
      rw [show ((J x5) + (J 1)) = J (x5 + 1) from J_add' rfl rfl]
      obtain ⟨t_640, k⟩ := k
      refine R_ziald (i := x5 + 1) rfl (Or.inr t1) t_640 ?_
      refine R_ps 4 (pc2 := 1743) (L2 := [some (vr (some a0)), some (vr (some a1)), some (vr (some a2)), some (vr (some a3)), some (vr (some a4)), some (vi (J x5)), none, none, none]) (st2 := [vi ((J x5) + (J 2)), vr (some a0), vi (J (ai h a0 (x5 + 1))), vr (some a1)]) rfl ?_
      rw [show ((J x5) + (J 2)) = J (x5 + 2) from J_add' rfl rfl]
      obtain ⟨t_642, k⟩ := k
      refine R_ziald (i := x5 + 2) rfl (Or.inr t1) t_642 ?_
      refine R_ps 1 (pc2 := 1745) (L2 := [some (vr (some a0)), some (vr (some a1)), some (vr (some a2)), some (vr (some a3)), some (vr (some a4)), some (vi (J x5)), none, none, none]) (st2 := [vr (some a3), vi (J (ai h a0 (x5 + 2))), vi (J (ai h a0 (x5 + 1))), vr (some a1)]) rfl ?_
      refine R_zcI (as := [vr (some a1), vi (J (ai h a0 (x5 + 1))), vi (J (ai h a0 (x5 + 2))), vr (some a3)]) rfl rfl ⟨Nat.le_of_ble_eq_true rfl, Nat.le_of_ble_eq_true rfl, rfl, (Or.inl rfl)⟩ rfl rfl k (fun x_645 h_644 r_646 k => ?_)
      refine R_ps 6 (pc2 := 1756) (L2 := [some (vr (some a0)), some (vr (some a1)), some (vr (some a2)), some (vr (some a3)), some (vr (some a4)), some (vi (J x5)), some (vi (J x_645)), none, none]) (st2 := [vi ((J x5) + (J 1)), vr (some a0), vr (some a2)]) rfl ?_
      rw [show ((J x5) + (J 1)) = J (x5 + 1) from J_add' rfl rfl]
      refine R_ziald (i := x5 + 1) rfl (Or.inr t1) t_640 ?_
      refine R_ps 4 (pc2 := 1762) (L2 := [some (vr (some a0)), some (vr (some a1)), some (vr (some a2)), some (vr (some a3)), some (vr (some a4)), some (vi (J x5)), some (vi (J x_645)), none, none]) (st2 := [vi ((J x5) + (J 2)), vr (some a0), vi (J (ai h_644 a0 (x5 + 1))), vr (some a2)]) rfl ?_
      rw [show ((J x5) + (J 2)) = J (x5 + 2) from J_add' rfl rfl]
      refine R_ziald (i := x5 + 2) rfl (Or.inr t1) t_642 ?_
      refine R_zcI (as := [vr (some a2), vi (J (ai h_644 a0 (x5 + 1))), vi (J (ai h_644 a0 (x5 + 2)))]) rfl rfl ⟨Nat.le_of_ble_eq_true rfl, Nat.le_of_ble_eq_true rfl, rfl, (Or.inr ⟨_, rfl, t3⟩)⟩ rfl rfl k (fun x_651 h_650 r_652 k => ?_)
      refine R_ps 2 (pc2 := 1769) (L2 := [some (vr (some a0)), some (vr (some a1)), some (vr (some a2)), some (vr (some a3)), some (vr (some a4)), some (vi (J x5)), some (vi (J x_645)), some (vi (J x_651)), none]) (st2 := [vr (some a2)]) rfl ?_
      refine R_zcI (as := [vr (some a2)]) rfl rfl ⟨Nat.le_of_ble_eq_true rfl, Nat.le_of_ble_eq_true rfl, rfl, (Or.inr ⟨_, rfl, t3⟩)⟩ rfl rfl k (fun x_655 h_654 r_656 k => ?_)
      refine R_ps 1 (pc2 := 1774) (L2 := [some (vr (some a0)), some (vr (some a1)), some (vr (some a2)), some (vr (some a3)), some (vr (some a4)), some (vi (J x5)), some (vi (J x_645)), some (vi (J x_651)), none]) (st2 := [vi (J x_645), vi (J x_655)]) rfl ?_
      refine R_zif (x := x_655) (z := x_645) rfl r_656 r_646 (fun c_657 => ?_) (fun c_657 => ?_)
      · have k := k.1 c_657
        refine R_ps 1 (pc2 := 1781) (L2 := [some (vr (some a0)), some (vr (some a1)), some (vr (some a2)), some (vr (some a3)), some (vr (some a4)), some (vi (J x5)), some (vi (J x_645)), some (vi (J x_651)), none]) (st2 := [vi (J x_645)]) rfl ?_
        refine R_zif0 (x := x_645) rfl r_646 (fun c_658 => ?_) (fun c_658 => ?_)
        · have k := k.2 c_658
          refine R_ps 3 (pc2 := 28) (L2 := [some (vr (some a0)), some (vr (some a1)), some (vr (some a2)), some (vr (some a3)), some (vr (some a4)), some (vi ((J x5) + J 5)), some (vi (J x_645)), some (vi (J x_651)), none]) (st2 := []) rfl ?_
          rw [show ((J x5) + J 5) = J (x5 + 5) from J_add' rfl rfl]
          exact R_drop k (LE_of (L := [some (vr (some a0)), some (vr (some a1)), some (vr (some a2)), some (vr (some a3)), some (vr (some a4)), some (vi (J (x5 + 5))), none, none, none]) (L2 := [some (vr (some a0)), some (vr (some a1)), some (vr (some a2)), some (vr (some a3)), some (vr (some a4)), some (vi (J (x5 + 5))), some (vi (J x_645)), some (vi (J x_651)), none]) ⟨rfl, rfl, rfl, rfl, rfl, rfl, trivial⟩)
        · have k := k.1 (Classical.not_not.mp c_658)
          refine R_ps 2 (pc2 := 1786) (L2 := [some (vr (some a0)), some (vr (some a1)), some (vr (some a2)), some (vr (some a3)), some (vr (some a4)), some (vi (J x5)), some (vi (J x_645)), some (vi (J x_651)), none]) (st2 := [vi (J 0), vr (some a3)]) rfl ?_
          obtain ⟨t_660, k⟩ := k
          refine R_zlald (i := 0) rfl t4 t_660 ?_
          refine R_ps 3 (pc2 := 1791) (L2 := [some (vr (some a0)), some (vr (some a1)), some (vr (some a2)), some (vr (some a3)), some (vr (some a4)), some (vi (J x5)), some (vi (J x_645)), some (vi (J x_651)), none]) (st2 := [vi (lg_cmp (gl h_654 a3 (Int.toNat 0)) ((J x_651).toInt64))]) rfl ?_
          rw [show (lg_cmp (gl h_654 a3 (Int.toNat 0)) ((J x_651).toInt64)) = J (zlc (gl h_654 a3 (Int.toNat 0)) ((J x_651).toInt64)) from J_lc']
          refine R_zif0 (x := zlc (gl h_654 a3 (Int.toNat 0)) ((J x_651).toInt64)) rfl (zlc_in _ _) (fun c_661 => ?_) (fun c_661 => ?_)
          · have k := k.1 c_661
            refine R_ps 3 (pc2 := 28) (L2 := [some (vr (some a0)), some (vr (some a1)), some (vr (some a2)), some (vr (some a3)), some (vr (some a4)), some (vi ((J x5) + J 5)), some (vi (J x_645)), some (vi (J x_651)), none]) (st2 := []) rfl ?_
            rw [show ((J x5) + J 5) = J (x5 + 5) from J_add' rfl rfl]
            exact R_drop k (LE_of (L := [some (vr (some a0)), some (vr (some a1)), some (vr (some a2)), some (vr (some a3)), some (vr (some a4)), some (vi (J (x5 + 5))), none, none, none]) (L2 := [some (vr (some a0)), some (vr (some a1)), some (vr (some a2)), some (vr (some a3)), some (vr (some a4)), some (vi (J (x5 + 5))), some (vi (J x_645)), some (vi (J x_651)), none]) ⟨rfl, rfl, rfl, rfl, rfl, rfl, trivial⟩)
          · have k := k.2 c_661
            refine R_ps 1 (pc2 := 1795) (L2 := [some (vr (some a0)), some (vr (some a1)), some (vr (some a2)), some (vr (some a3)), some (vr (some a4)), some (vi (J x5)), some (vi (J x_645)), some (vi (J x_651)), none]) (st2 := [vi (J 0)]) rfl ?_
            exact R_zzret (x := 0) rfl rfl (Or.inl rfl) (R_zr (x := 0) (K := K) (by decide) k)
      · have k := k.2 c_657
        refine R_ps 1 (pc2 := 1778) (L2 := [some (vr (some a0)), some (vr (some a1)), some (vr (some a2)), some (vr (some a3)), some (vr (some a4)), some (vi (J x5)), some (vi (J x_645)), some (vi (J x_651)), none]) (st2 := [vi (J 0)]) rfl ?_
        exact R_zzret (x := 0) rfl rfl (Or.inl rfl) (R_zr (x := 0) (K := K) (by decide) k)
    replace k := k.2 c_7
    refine ⟨fun c_7 => ?_, fun c_7 => ?_⟩
    · have k := k.1 c_7
      show WP T N _ 1799 _ _ _ _
      refine R_ps 5 (pc2 := 1805) (L2 := [some (vr (some a0)), some (vr (some a1)), some (vr (some a2)), some (vr (some a3)), some (vr (some a4)), some (vi (J x5)), none, none, none]) (st2 := [vi ((J x5) + (J 1)), vr (some a0), vr (some a1)]) rfl ?_
      rw [show ((J x5) + (J 1)) = J (x5 + 1) from J_add' rfl rfl]
      obtain ⟨t_665, k⟩ := k
      refine R_ziald (i := x5 + 1) rfl (Or.inr t1) t_665 ?_
      refine R_zif0 (x := ai h a0 (x5 + 1)) rfl (ai_in _ _ _) (fun c_666 => ?_) (fun c_666 => ?_)
      · have k := k.1 c_666
        refine R_ps 1 (pc2 := 1814) (L2 := [some (vr (some a0)), some (vr (some a1)), some (vr (some a2)), some (vr (some a3)), some (vr (some a4)), some (vi (J x5)), none, none, none]) (st2 := [vi (J 0), vr (some a1)]) rfl ?_
        refine R_zcI (as := [vr (some a1), vi (J 0)]) rfl rfl ⟨Nat.le_of_ble_eq_true rfl, Nat.le_of_ble_eq_true rfl, rfl, (Or.inr ⟨_, rfl, t2⟩)⟩ rfl rfl k (fun x_669 h_668 r_670 k => ?_)
        refine R_ps 5 (pc2 := 1823) (L2 := [some (vr (some a0)), some (vr (some a1)), some (vr (some a2)), some (vr (some a3)), some (vr (some a4)), some (vi (J x5)), none, none, none]) (st2 := [vi ((J x5) + (J 1)), vr (some a0), vr (some a2), vi (J x_669)]) rfl ?_
        rw [show ((J x5) + (J 1)) = J (x5 + 1) from J_add' rfl rfl]
        refine R_ziald (i := x5 + 1) rfl (Or.inr t1) t_665 ?_
        refine R_zif0 (x := ai h_668 a0 (x5 + 1)) rfl (ai_in _ _ _) (fun c_672 => ?_) (fun c_672 => ?_)
        · have k := k.1 c_672
          refine R_ps 1 (pc2 := 1832) (L2 := [some (vr (some a0)), some (vr (some a1)), some (vr (some a2)), some (vr (some a3)), some (vr (some a4)), some (vi (J x5)), none, none, none]) (st2 := [vi (J 0), vr (some a2), vi (J x_669)]) rfl ?_
          refine R_zcI (as := [vr (some a2), vi (J 0)]) rfl rfl ⟨Nat.le_of_ble_eq_true rfl, Nat.le_of_ble_eq_true rfl, rfl, (Or.inr ⟨_, rfl, t3⟩)⟩ rfl rfl k (fun x_675 h_674 r_676 k => ?_)
          refine R_zif (x := x_669) (z := x_675) rfl r_670 r_676 (fun c_677 => ?_) (fun c_677 => ?_)
          · have k := k.1 c_677
            refine R_ps 2 (pc2 := 28) (L2 := [some (vr (some a0)), some (vr (some a1)), some (vr (some a2)), some (vr (some a3)), some (vr (some a4)), some (vi ((J x5) + J 5)), none, none, none]) (st2 := []) rfl ?_
            rw [show ((J x5) + J 5) = J (x5 + 5) from J_add' rfl rfl]
            exact k
          · have k := k.2 c_677
            refine R_ps 1 (pc2 := 1839) (L2 := [some (vr (some a0)), some (vr (some a1)), some (vr (some a2)), some (vr (some a3)), some (vr (some a4)), some (vi (J x5)), none, none, none]) (st2 := [vi (J 0)]) rfl ?_
            exact R_zzret (x := 0) rfl rfl (Or.inl rfl) (R_zr (x := 0) (K := K) (by decide) k)
        · have k := k.2 c_672
          refine R_ps 2 (pc2 := 1832) (L2 := [some (vr (some a0)), some (vr (some a1)), some (vr (some a2)), some (vr (some a3)), some (vr (some a4)), some (vi (J x5)), none, none, none]) (st2 := [vi (J 1), vr (some a2), vi (J x_669)]) rfl ?_
          refine R_zcI (as := [vr (some a2), vi (J 1)]) rfl rfl ⟨Nat.le_of_ble_eq_true rfl, Nat.le_of_ble_eq_true rfl, rfl, (Or.inr ⟨_, rfl, t3⟩)⟩ rfl rfl k (fun x_681 h_680 r_682 k => ?_)
          refine R_zif (x := x_669) (z := x_681) rfl r_670 r_682 (fun c_683 => ?_) (fun c_683 => ?_)
          · have k := k.1 c_683
            refine R_ps 2 (pc2 := 28) (L2 := [some (vr (some a0)), some (vr (some a1)), some (vr (some a2)), some (vr (some a3)), some (vr (some a4)), some (vi ((J x5) + J 5)), none, none, none]) (st2 := []) rfl ?_
            rw [show ((J x5) + J 5) = J (x5 + 5) from J_add' rfl rfl]
            exact k
          · have k := k.2 c_683
            refine R_ps 1 (pc2 := 1839) (L2 := [some (vr (some a0)), some (vr (some a1)), some (vr (some a2)), some (vr (some a3)), some (vr (some a4)), some (vi (J x5)), none, none, none]) (st2 := [vi (J 0)]) rfl ?_
            exact R_zzret (x := 0) rfl rfl (Or.inl rfl) (R_zr (x := 0) (K := K) (by decide) k)
      · have k := k.2 c_666
        refine R_ps 2 (pc2 := 1814) (L2 := [some (vr (some a0)), some (vr (some a1)), some (vr (some a2)), some (vr (some a3)), some (vr (some a4)), some (vi (J x5)), none, none, none]) (st2 := [vi (J 1), vr (some a1)]) rfl ?_
        refine R_zcI (as := [vr (some a1), vi (J 1)]) rfl rfl ⟨Nat.le_of_ble_eq_true rfl, Nat.le_of_ble_eq_true rfl, rfl, (Or.inr ⟨_, rfl, t2⟩)⟩ rfl rfl k (fun x_687 h_686 r_688 k => ?_)
        refine R_ps 5 (pc2 := 1823) (L2 := [some (vr (some a0)), some (vr (some a1)), some (vr (some a2)), some (vr (some a3)), some (vr (some a4)), some (vi (J x5)), none, none, none]) (st2 := [vi ((J x5) + (J 1)), vr (some a0), vr (some a2), vi (J x_687)]) rfl ?_
        rw [show ((J x5) + (J 1)) = J (x5 + 1) from J_add' rfl rfl]
        refine R_ziald (i := x5 + 1) rfl (Or.inr t1) t_665 ?_
        refine R_zif0 (x := ai h_686 a0 (x5 + 1)) rfl (ai_in _ _ _) (fun c_690 => ?_) (fun c_690 => ?_)
        · have k := k.1 c_690
          refine R_ps 1 (pc2 := 1832) (L2 := [some (vr (some a0)), some (vr (some a1)), some (vr (some a2)), some (vr (some a3)), some (vr (some a4)), some (vi (J x5)), none, none, none]) (st2 := [vi (J 0), vr (some a2), vi (J x_687)]) rfl ?_
          refine R_zcI (as := [vr (some a2), vi (J 0)]) rfl rfl ⟨Nat.le_of_ble_eq_true rfl, Nat.le_of_ble_eq_true rfl, rfl, (Or.inr ⟨_, rfl, t3⟩)⟩ rfl rfl k (fun x_693 h_692 r_694 k => ?_)
          refine R_zif (x := x_687) (z := x_693) rfl r_688 r_694 (fun c_695 => ?_) (fun c_695 => ?_)
          · have k := k.1 c_695
            refine R_ps 2 (pc2 := 28) (L2 := [some (vr (some a0)), some (vr (some a1)), some (vr (some a2)), some (vr (some a3)), some (vr (some a4)), some (vi ((J x5) + J 5)), none, none, none]) (st2 := []) rfl ?_
            rw [show ((J x5) + J 5) = J (x5 + 5) from J_add' rfl rfl]
            exact k
          · have k := k.2 c_695
            refine R_ps 1 (pc2 := 1839) (L2 := [some (vr (some a0)), some (vr (some a1)), some (vr (some a2)), some (vr (some a3)), some (vr (some a4)), some (vi (J x5)), none, none, none]) (st2 := [vi (J 0)]) rfl ?_
            exact R_zzret (x := 0) rfl rfl (Or.inl rfl) (R_zr (x := 0) (K := K) (by decide) k)
        · have k := k.2 c_690
          refine R_ps 2 (pc2 := 1832) (L2 := [some (vr (some a0)), some (vr (some a1)), some (vr (some a2)), some (vr (some a3)), some (vr (some a4)), some (vi (J x5)), none, none, none]) (st2 := [vi (J 1), vr (some a2), vi (J x_687)]) rfl ?_
          refine R_zcI (as := [vr (some a2), vi (J 1)]) rfl rfl ⟨Nat.le_of_ble_eq_true rfl, Nat.le_of_ble_eq_true rfl, rfl, (Or.inr ⟨_, rfl, t3⟩)⟩ rfl rfl k (fun x_699 h_698 r_700 k => ?_)
          refine R_zif (x := x_687) (z := x_699) rfl r_688 r_700 (fun c_701 => ?_) (fun c_701 => ?_)
          · have k := k.1 c_701
            refine R_ps 2 (pc2 := 28) (L2 := [some (vr (some a0)), some (vr (some a1)), some (vr (some a2)), some (vr (some a3)), some (vr (some a4)), some (vi ((J x5) + J 5)), none, none, none]) (st2 := []) rfl ?_
            rw [show ((J x5) + J 5) = J (x5 + 5) from J_add' rfl rfl]
            exact k
          · have k := k.2 c_701
            refine R_ps 1 (pc2 := 1839) (L2 := [some (vr (some a0)), some (vr (some a1)), some (vr (some a2)), some (vr (some a3)), some (vr (some a4)), some (vi (J x5)), none, none, none]) (st2 := [vi (J 0)]) rfl ?_
            exact R_zzret (x := 0) rfl rfl (Or.inl rfl) (R_zr (x := 0) (K := K) (by decide) k)
    replace k := k.2 c_7
    refine ⟨fun c_7 => ?_, fun c_7 => ?_⟩
    · have k := k.1 c_7
      show WP T N _ 1840 _ _ _ _
      refine R_ps 5 (pc2 := 1846) (L2 := [some (vr (some a0)), some (vr (some a1)), some (vr (some a2)), some (vr (some a3)), some (vr (some a4)), some (vi (J x5)), none, none, none]) (st2 := [vi ((J x5) + (J 1)), vr (some a0), vr (some a1)]) rfl ?_
      rw [show ((J x5) + (J 1)) = J (x5 + 1) from J_add' rfl rfl]
      obtain ⟨t_704, k⟩ := k
      refine R_ziald (i := x5 + 1) rfl (Or.inr t1) t_704 ?_
      refine R_ps 4 (pc2 := 1852) (L2 := [some (vr (some a0)), some (vr (some a1)), some (vr (some a2)), some (vr (some a3)), some (vr (some a4)), some (vi (J x5)), none, none, none]) (st2 := [vi ((J x5) + (J 2)), vr (some a0), vi (J (ai h a0 (x5 + 1))), vr (some a1)]) rfl ?_
      rw [show ((J x5) + (J 2)) = J (x5 + 2) from J_add' rfl rfl]
      obtain ⟨t_706, k⟩ := k
      refine R_ziald (i := x5 + 2) rfl (Or.inr t1) t_706 ?_
      refine R_ps 1 (pc2 := 1854) (L2 := [some (vr (some a0)), some (vr (some a1)), some (vr (some a2)), some (vr (some a3)), some (vr (some a4)), some (vi (J x5)), none, none, none]) (st2 := [vr (some a3), vi (J (ai h a0 (x5 + 2))), vi (J (ai h a0 (x5 + 1))), vr (some a1)]) rfl ?_
      refine R_zcI (as := [vr (some a1), vi (J (ai h a0 (x5 + 1))), vi (J (ai h a0 (x5 + 2))), vr (some a3)]) rfl rfl ⟨Nat.le_of_ble_eq_true rfl, Nat.le_of_ble_eq_true rfl, rfl, (Or.inl rfl)⟩ rfl rfl k (fun x_709 h_708 r_710 k => ?_)
      refine R_ps 6 (pc2 := 1865) (L2 := [some (vr (some a0)), some (vr (some a1)), some (vr (some a2)), some (vr (some a3)), some (vr (some a4)), some (vi (J x5)), some (vi (J x_709)), none, none]) (st2 := [vi ((J x5) + (J 1)), vr (some a0), vr (some a2)]) rfl ?_
      rw [show ((J x5) + (J 1)) = J (x5 + 1) from J_add' rfl rfl]
      refine R_ziald (i := x5 + 1) rfl (Or.inr t1) t_704 ?_
      refine R_ps 4 (pc2 := 1871) (L2 := [some (vr (some a0)), some (vr (some a1)), some (vr (some a2)), some (vr (some a3)), some (vr (some a4)), some (vi (J x5)), some (vi (J x_709)), none, none]) (st2 := [vi ((J x5) + (J 2)), vr (some a0), vi (J (ai h_708 a0 (x5 + 1))), vr (some a2)]) rfl ?_
      rw [show ((J x5) + (J 2)) = J (x5 + 2) from J_add' rfl rfl]
      refine R_ziald (i := x5 + 2) rfl (Or.inr t1) t_706 ?_
      refine R_zcI (as := [vr (some a2), vi (J (ai h_708 a0 (x5 + 1))), vi (J (ai h_708 a0 (x5 + 2)))]) rfl rfl ⟨Nat.le_of_ble_eq_true rfl, Nat.le_of_ble_eq_true rfl, rfl, (Or.inr ⟨_, rfl, t3⟩)⟩ rfl rfl k (fun x_715 h_714 r_716 k => ?_)
      refine R_ps 2 (pc2 := 1878) (L2 := [some (vr (some a0)), some (vr (some a1)), some (vr (some a2)), some (vr (some a3)), some (vr (some a4)), some (vi (J x5)), some (vi (J x_709)), some (vi (J x_715)), none]) (st2 := [vr (some a2)]) rfl ?_
      refine R_zcI (as := [vr (some a2)]) rfl rfl ⟨Nat.le_of_ble_eq_true rfl, Nat.le_of_ble_eq_true rfl, rfl, (Or.inr ⟨_, rfl, t3⟩)⟩ rfl rfl k (fun x_719 h_718 r_720 k => ?_)
      refine R_ps 1 (pc2 := 1883) (L2 := [some (vr (some a0)), some (vr (some a1)), some (vr (some a2)), some (vr (some a3)), some (vr (some a4)), some (vi (J x5)), some (vi (J x_709)), some (vi (J x_715)), none]) (st2 := [vi (J x_709), vi (J x_719)]) rfl ?_
      refine R_zif (x := x_719) (z := x_709) rfl r_720 r_710 (fun c_721 => ?_) (fun c_721 => ?_)
      · have k := k.1 c_721
        refine R_ps 1 (pc2 := 1890) (L2 := [some (vr (some a0)), some (vr (some a1)), some (vr (some a2)), some (vr (some a3)), some (vr (some a4)), some (vi (J x5)), some (vi (J x_709)), some (vi (J x_715)), none]) (st2 := [vi (J x_709)]) rfl ?_
        refine R_zif0 (x := x_709) rfl r_710 (fun c_722 => ?_) (fun c_722 => ?_)
        · have k := k.2 c_722
          refine R_ps 3 (pc2 := 28) (L2 := [some (vr (some a0)), some (vr (some a1)), some (vr (some a2)), some (vr (some a3)), some (vr (some a4)), some (vi ((J x5) + J 5)), some (vi (J x_709)), some (vi (J x_715)), none]) (st2 := []) rfl ?_
          rw [show ((J x5) + J 5) = J (x5 + 5) from J_add' rfl rfl]
          exact R_drop k (LE_of (L := [some (vr (some a0)), some (vr (some a1)), some (vr (some a2)), some (vr (some a3)), some (vr (some a4)), some (vi (J (x5 + 5))), none, none, none]) (L2 := [some (vr (some a0)), some (vr (some a1)), some (vr (some a2)), some (vr (some a3)), some (vr (some a4)), some (vi (J (x5 + 5))), some (vi (J x_709)), some (vi (J x_715)), none]) ⟨rfl, rfl, rfl, rfl, rfl, rfl, trivial⟩)
        · have k := k.1 (Classical.not_not.mp c_722)
          refine R_ps 2 (pc2 := 1895) (L2 := [some (vr (some a0)), some (vr (some a1)), some (vr (some a2)), some (vr (some a3)), some (vr (some a4)), some (vi (J x5)), some (vi (J x_709)), some (vi (J x_715)), none]) (st2 := [vi (J 0), vr (some a3)]) rfl ?_
          obtain ⟨t_724, k⟩ := k
          refine R_zlald (i := 0) rfl t4 t_724 ?_
          refine R_ps 3 (pc2 := 1900) (L2 := [some (vr (some a0)), some (vr (some a1)), some (vr (some a2)), some (vr (some a3)), some (vr (some a4)), some (vi (J x5)), some (vi (J x_709)), some (vi (J x_715)), none]) (st2 := [vi (lg_cmp (gl h_718 a3 (Int.toNat 0)) ((J x_715).toInt64))]) rfl ?_
          rw [show (lg_cmp (gl h_718 a3 (Int.toNat 0)) ((J x_715).toInt64)) = J (zlc (gl h_718 a3 (Int.toNat 0)) ((J x_715).toInt64)) from J_lc']
          refine R_zif0 (x := zlc (gl h_718 a3 (Int.toNat 0)) ((J x_715).toInt64)) rfl (zlc_in _ _) (fun c_725 => ?_) (fun c_725 => ?_)
          · have k := k.1 c_725
            refine R_ps 3 (pc2 := 28) (L2 := [some (vr (some a0)), some (vr (some a1)), some (vr (some a2)), some (vr (some a3)), some (vr (some a4)), some (vi ((J x5) + J 5)), some (vi (J x_709)), some (vi (J x_715)), none]) (st2 := []) rfl ?_
            rw [show ((J x5) + J 5) = J (x5 + 5) from J_add' rfl rfl]
            exact R_drop k (LE_of (L := [some (vr (some a0)), some (vr (some a1)), some (vr (some a2)), some (vr (some a3)), some (vr (some a4)), some (vi (J (x5 + 5))), none, none, none]) (L2 := [some (vr (some a0)), some (vr (some a1)), some (vr (some a2)), some (vr (some a3)), some (vr (some a4)), some (vi (J (x5 + 5))), some (vi (J x_709)), some (vi (J x_715)), none]) ⟨rfl, rfl, rfl, rfl, rfl, rfl, trivial⟩)
          · have k := k.2 c_725
            refine R_ps 1 (pc2 := 1904) (L2 := [some (vr (some a0)), some (vr (some a1)), some (vr (some a2)), some (vr (some a3)), some (vr (some a4)), some (vi (J x5)), some (vi (J x_709)), some (vi (J x_715)), none]) (st2 := [vi (J 0)]) rfl ?_
            exact R_zzret (x := 0) rfl rfl (Or.inl rfl) (R_zr (x := 0) (K := K) (by decide) k)
      · have k := k.2 c_721
        refine R_ps 1 (pc2 := 1887) (L2 := [some (vr (some a0)), some (vr (some a1)), some (vr (some a2)), some (vr (some a3)), some (vr (some a4)), some (vi (J x5)), some (vi (J x_709)), some (vi (J x_715)), none]) (st2 := [vi (J 0)]) rfl ?_
        exact R_zzret (x := 0) rfl rfl (Or.inl rfl) (R_zr (x := 0) (K := K) (by decide) k)
    replace k := k.2 c_7
    refine ⟨fun c_7 => ?_, fun c_7 => ?_⟩
    · have k := k.1 c_7
      show WP T N _ 1908 _ _ _ _
      refine R_ps 5 (pc2 := 1914) (L2 := [some (vr (some a0)), some (vr (some a1)), some (vr (some a2)), some (vr (some a3)), some (vr (some a4)), some (vi (J x5)), none, none, none]) (st2 := [vi ((J x5) + (J 1)), vr (some a0), vr (some a1)]) rfl ?_
      rw [show ((J x5) + (J 1)) = J (x5 + 1) from J_add' rfl rfl]
      obtain ⟨t_729, k⟩ := k
      refine R_ziald (i := x5 + 1) rfl (Or.inr t1) t_729 ?_
      refine R_ps 4 (pc2 := 1920) (L2 := [some (vr (some a0)), some (vr (some a1)), some (vr (some a2)), some (vr (some a3)), some (vr (some a4)), some (vi (J x5)), none, none, none]) (st2 := [vi ((J x5) + (J 2)), vr (some a0), vi (J (ai h a0 (x5 + 1))), vr (some a1)]) rfl ?_
      rw [show ((J x5) + (J 2)) = J (x5 + 2) from J_add' rfl rfl]
      obtain ⟨t_731, k⟩ := k
      refine R_ziald (i := x5 + 2) rfl (Or.inr t1) t_731 ?_
      refine R_ps 1 (pc2 := 1922) (L2 := [some (vr (some a0)), some (vr (some a1)), some (vr (some a2)), some (vr (some a3)), some (vr (some a4)), some (vi (J x5)), none, none, none]) (st2 := [vr (some a3), vi (J (ai h a0 (x5 + 2))), vi (J (ai h a0 (x5 + 1))), vr (some a1)]) rfl ?_
      refine R_zcI (as := [vr (some a1), vi (J (ai h a0 (x5 + 1))), vi (J (ai h a0 (x5 + 2))), vr (some a3)]) rfl rfl ⟨Nat.le_of_ble_eq_true rfl, Nat.le_of_ble_eq_true rfl, rfl, (Or.inl rfl)⟩ rfl rfl k (fun x_734 h_733 r_735 k => ?_)
      refine R_ps 6 (pc2 := 1933) (L2 := [some (vr (some a0)), some (vr (some a1)), some (vr (some a2)), some (vr (some a3)), some (vr (some a4)), some (vi (J x5)), some (vi (J x_734)), none, none]) (st2 := [vi ((J x5) + (J 1)), vr (some a0), vr (some a2)]) rfl ?_
      rw [show ((J x5) + (J 1)) = J (x5 + 1) from J_add' rfl rfl]
      refine R_ziald (i := x5 + 1) rfl (Or.inr t1) t_729 ?_
      refine R_ps 4 (pc2 := 1939) (L2 := [some (vr (some a0)), some (vr (some a1)), some (vr (some a2)), some (vr (some a3)), some (vr (some a4)), some (vi (J x5)), some (vi (J x_734)), none, none]) (st2 := [vi ((J x5) + (J 2)), vr (some a0), vi (J (ai h_733 a0 (x5 + 1))), vr (some a2)]) rfl ?_
      rw [show ((J x5) + (J 2)) = J (x5 + 2) from J_add' rfl rfl]
      refine R_ziald (i := x5 + 2) rfl (Or.inr t1) t_731 ?_
      refine R_zcI (as := [vr (some a2), vi (J (ai h_733 a0 (x5 + 1))), vi (J (ai h_733 a0 (x5 + 2)))]) rfl rfl ⟨Nat.le_of_ble_eq_true rfl, Nat.le_of_ble_eq_true rfl, rfl, (Or.inr ⟨_, rfl, t3⟩)⟩ rfl rfl k (fun x_740 h_739 r_741 k => ?_)
      refine R_ps 2 (pc2 := 1946) (L2 := [some (vr (some a0)), some (vr (some a1)), some (vr (some a2)), some (vr (some a3)), some (vr (some a4)), some (vi (J x5)), some (vi (J x_734)), some (vi (J x_740)), none]) (st2 := [vr (some a2)]) rfl ?_
      refine R_zcI (as := [vr (some a2)]) rfl rfl ⟨Nat.le_of_ble_eq_true rfl, Nat.le_of_ble_eq_true rfl, rfl, (Or.inr ⟨_, rfl, t3⟩)⟩ rfl rfl k (fun x_744 h_743 r_745 k => ?_)
      refine R_ps 1 (pc2 := 1951) (L2 := [some (vr (some a0)), some (vr (some a1)), some (vr (some a2)), some (vr (some a3)), some (vr (some a4)), some (vi (J x5)), some (vi (J x_734)), some (vi (J x_740)), none]) (st2 := [vi (J x_734), vi (J x_744)]) rfl ?_
      refine R_zif (x := x_744) (z := x_734) rfl r_745 r_735 (fun c_746 => ?_) (fun c_746 => ?_)
      · have k := k.1 c_746
        refine R_ps 1 (pc2 := 1958) (L2 := [some (vr (some a0)), some (vr (some a1)), some (vr (some a2)), some (vr (some a3)), some (vr (some a4)), some (vi (J x5)), some (vi (J x_734)), some (vi (J x_740)), none]) (st2 := [vi (J x_734)]) rfl ?_
        refine R_zif0 (x := x_734) rfl r_735 (fun c_747 => ?_) (fun c_747 => ?_)
        · have k := k.2 c_747
          refine R_ps 3 (pc2 := 28) (L2 := [some (vr (some a0)), some (vr (some a1)), some (vr (some a2)), some (vr (some a3)), some (vr (some a4)), some (vi ((J x5) + J 5)), some (vi (J x_734)), some (vi (J x_740)), none]) (st2 := []) rfl ?_
          rw [show ((J x5) + J 5) = J (x5 + 5) from J_add' rfl rfl]
          exact R_drop k (LE_of (L := [some (vr (some a0)), some (vr (some a1)), some (vr (some a2)), some (vr (some a3)), some (vr (some a4)), some (vi (J (x5 + 5))), none, none, none]) (L2 := [some (vr (some a0)), some (vr (some a1)), some (vr (some a2)), some (vr (some a3)), some (vr (some a4)), some (vi (J (x5 + 5))), some (vi (J x_734)), some (vi (J x_740)), none]) ⟨rfl, rfl, rfl, rfl, rfl, rfl, trivial⟩)
        · have k := k.1 (Classical.not_not.mp c_747)
          refine R_ps 2 (pc2 := 1963) (L2 := [some (vr (some a0)), some (vr (some a1)), some (vr (some a2)), some (vr (some a3)), some (vr (some a4)), some (vi (J x5)), some (vi (J x_734)), some (vi (J x_740)), none]) (st2 := [vi (J 0), vr (some a3)]) rfl ?_
          obtain ⟨t_749, k⟩ := k
          refine R_zlald (i := 0) rfl t4 t_749 ?_
          refine R_ps 3 (pc2 := 1968) (L2 := [some (vr (some a0)), some (vr (some a1)), some (vr (some a2)), some (vr (some a3)), some (vr (some a4)), some (vi (J x5)), some (vi (J x_734)), some (vi (J x_740)), none]) (st2 := [vi (lg_cmp (gl h_743 a3 (Int.toNat 0)) ((J x_740).toInt64))]) rfl ?_
          rw [show (lg_cmp (gl h_743 a3 (Int.toNat 0)) ((J x_740).toInt64)) = J (zlc (gl h_743 a3 (Int.toNat 0)) ((J x_740).toInt64)) from J_lc']
          refine R_zif0 (x := zlc (gl h_743 a3 (Int.toNat 0)) ((J x_740).toInt64)) rfl (zlc_in _ _) (fun c_750 => ?_) (fun c_750 => ?_)
          · have k := k.1 c_750
            refine R_ps 3 (pc2 := 28) (L2 := [some (vr (some a0)), some (vr (some a1)), some (vr (some a2)), some (vr (some a3)), some (vr (some a4)), some (vi ((J x5) + J 5)), some (vi (J x_734)), some (vi (J x_740)), none]) (st2 := []) rfl ?_
            rw [show ((J x5) + J 5) = J (x5 + 5) from J_add' rfl rfl]
            exact R_drop k (LE_of (L := [some (vr (some a0)), some (vr (some a1)), some (vr (some a2)), some (vr (some a3)), some (vr (some a4)), some (vi (J (x5 + 5))), none, none, none]) (L2 := [some (vr (some a0)), some (vr (some a1)), some (vr (some a2)), some (vr (some a3)), some (vr (some a4)), some (vi (J (x5 + 5))), some (vi (J x_734)), some (vi (J x_740)), none]) ⟨rfl, rfl, rfl, rfl, rfl, rfl, trivial⟩)
          · have k := k.2 c_750
            refine R_ps 1 (pc2 := 1972) (L2 := [some (vr (some a0)), some (vr (some a1)), some (vr (some a2)), some (vr (some a3)), some (vr (some a4)), some (vi (J x5)), some (vi (J x_734)), some (vi (J x_740)), none]) (st2 := [vi (J 0)]) rfl ?_
            exact R_zzret (x := 0) rfl rfl (Or.inl rfl) (R_zr (x := 0) (K := K) (by decide) k)
      · have k := k.2 c_746
        refine R_ps 1 (pc2 := 1955) (L2 := [some (vr (some a0)), some (vr (some a1)), some (vr (some a2)), some (vr (some a3)), some (vr (some a4)), some (vi (J x5)), some (vi (J x_734)), some (vi (J x_740)), none]) (st2 := [vi (J 0)]) rfl ?_
        exact R_zzret (x := 0) rfl rfl (Or.inl rfl) (R_zr (x := 0) (K := K) (by decide) k)
    replace k := k.2 c_7
    refine ⟨fun c_7 => ?_, fun c_7 => ?_⟩
    · have k := k.1 c_7
      show WP T N _ 1976 _ _ _ _
      refine R_ps 1 (pc2 := 1977) (L2 := [some (vr (some a0)), some (vr (some a1)), some (vr (some a2)), some (vr (some a3)), some (vr (some a4)), some (vi (J x5)), none, none, none]) (st2 := [vr (some a1)]) rfl ?_
      refine R_zcI (as := [vr (some a1)]) rfl rfl ⟨Nat.le_of_ble_eq_true rfl, Nat.le_of_ble_eq_true rfl, rfl, (Or.inr ⟨_, rfl, t2⟩)⟩ rfl rfl k (fun x_755 h_754 r_756 k => ?_)
      refine R_ps 1 (pc2 := 1981) (L2 := [some (vr (some a0)), some (vr (some a1)), some (vr (some a2)), some (vr (some a3)), some (vr (some a4)), some (vi (J x5)), none, none, none]) (st2 := [vr (some a2), vi (J x_755)]) rfl ?_
      refine R_zcI (as := [vr (some a2)]) rfl rfl ⟨Nat.le_of_ble_eq_true rfl, Nat.le_of_ble_eq_true rfl, rfl, (Or.inr ⟨_, rfl, t3⟩)⟩ rfl rfl k (fun x_759 h_758 r_760 k => ?_)
      refine R_zif (x := x_755) (z := x_759) rfl r_756 r_760 (fun c_761 => ?_) (fun c_761 => ?_)
      · have k := k.1 c_761
        refine R_ps 2 (pc2 := 28) (L2 := [some (vr (some a0)), some (vr (some a1)), some (vr (some a2)), some (vr (some a3)), some (vr (some a4)), some (vi ((J x5) + J 5)), none, none, none]) (st2 := []) rfl ?_
        rw [show ((J x5) + J 5) = J (x5 + 5) from J_add' rfl rfl]
        exact k
      · have k := k.2 c_761
        refine R_ps 1 (pc2 := 1988) (L2 := [some (vr (some a0)), some (vr (some a1)), some (vr (some a2)), some (vr (some a3)), some (vr (some a4)), some (vi (J x5)), none, none, none]) (st2 := [vi (J 0)]) rfl ?_
        exact R_zzret (x := 0) rfl rfl (Or.inl rfl) (R_zr (x := 0) (K := K) (by decide) k)
    replace k := k.2 c_7
    refine ⟨fun c_7 => ?_, fun c_7 => ?_⟩
    · have k := k.1 c_7
      show WP T N _ 1989 _ _ _ _
      refine R_ps 2 (pc2 := 1992) (L2 := [some (vr (some a0)), some (vr (some a1)), some (vr (some a2)), some (vr (some a3)), some (vr (some a4)), some (vi (J x5)), none, none, none]) (st2 := [vr (some a4), vr (some a1)]) rfl ?_
      refine R_zcI (as := [vr (some a1), vr (some a4)]) rfl rfl ⟨Nat.le_of_ble_eq_true rfl, Nat.le_of_ble_eq_true rfl, rfl, (Or.inl rfl)⟩ rfl rfl k (fun x_765 h_764 r_766 k => ?_)
      refine R_ps 2 (pc2 := 1998) (L2 := [some (vr (some a0)), some (vr (some a1)), some (vr (some a2)), some (vr (some a3)), some (vr (some a4)), some (vi (J x5)), some (vi (J x_765)), none, none]) (st2 := [vr (some a2)]) rfl ?_
      refine R_cD (as := [vr (some a2)]) rfl rfl ⟨Nat.le_of_ble_eq_true rfl, Nat.le_of_ble_eq_true rfl, rfl, (Or.inr ⟨_, rfl, t3⟩)⟩ rfl rfl k (fun x_769 h_768 k => ?_)
      refine R_ps 2 (pc2 := 2004) (L2 := [some (vr (some a0)), some (vr (some a1)), some (vr (some a2)), some (vr (some a3)), some (vr (some a4)), some (vi (J x5)), some (vi (J x_765)), some (vd x_769), none]) (st2 := [vr (some a2)]) rfl ?_
      refine R_zcI (as := [vr (some a2)]) rfl rfl ⟨Nat.le_of_ble_eq_true rfl, Nat.le_of_ble_eq_true rfl, rfl, (Or.inr ⟨_, rfl, t3⟩)⟩ rfl rfl k (fun x_772 h_771 r_773 k => ?_)
      refine R_ps 1 (pc2 := 2009) (L2 := [some (vr (some a0)), some (vr (some a1)), some (vr (some a2)), some (vr (some a3)), some (vr (some a4)), some (vi (J x5)), some (vi (J x_765)), some (vd x_769), none]) (st2 := [vi (J x_765), vi (J x_772)]) rfl ?_
      refine R_zif (x := x_772) (z := x_765) rfl r_773 r_766 (fun c_774 => ?_) (fun c_774 => ?_)
      · have k := k.1 c_774
        refine R_ps 1 (pc2 := 2016) (L2 := [some (vr (some a0)), some (vr (some a1)), some (vr (some a2)), some (vr (some a3)), some (vr (some a4)), some (vi (J x5)), some (vi (J x_765)), some (vd x_769), none]) (st2 := [vi (J x_765)]) rfl ?_
        refine R_zif0 (x := x_765) rfl r_766 (fun c_775 => ?_) (fun c_775 => ?_)
        · have k := k.2 c_775
          refine R_ps 3 (pc2 := 28) (L2 := [some (vr (some a0)), some (vr (some a1)), some (vr (some a2)), some (vr (some a3)), some (vr (some a4)), some (vi ((J x5) + J 5)), some (vi (J x_765)), some (vd x_769), none]) (st2 := []) rfl ?_
          rw [show ((J x5) + J 5) = J (x5 + 5) from J_add' rfl rfl]
          exact R_drop k (LE_of (L := [some (vr (some a0)), some (vr (some a1)), some (vr (some a2)), some (vr (some a3)), some (vr (some a4)), some (vi (J (x5 + 5))), none, none, none]) (L2 := [some (vr (some a0)), some (vr (some a1)), some (vr (some a2)), some (vr (some a3)), some (vr (some a4)), some (vi (J (x5 + 5))), some (vi (J x_765)), some (vd x_769), none]) ⟨rfl, rfl, rfl, rfl, rfl, rfl, trivial⟩)
        · have k := k.1 (Classical.not_not.mp c_775)
          refine R_ps 2 (pc2 := 2022) (L2 := [some (vr (some a0)), some (vr (some a1)), some (vr (some a2)), some (vr (some a3)), some (vr (some a4)), some (vi (J x5)), some (vi (J x_765)), some (vd x_769), none]) (st2 := [vi (J 0), vr (some a4)]) rfl ?_
          obtain ⟨t_777, k⟩ := k
          refine R_zdald (i := 0) rfl t5 t_777 ?_
          refine R_ps 2 (pc2 := 2026) (L2 := [some (vr (some a0)), some (vr (some a1)), some (vr (some a2)), some (vr (some a3)), some (vr (some a4)), some (vi (J x5)), some (vi (J x_765)), some (vd x_769), none]) (st2 := [vi (Op.cmpValue (FP.dcmp (gd h_771 a4 (Int.toNat 0)) x_769) .l)]) rfl ?_
          rw [show (Op.cmpValue (FP.dcmp (gd h_771 a4 (Int.toNat 0)) x_769) .l) = J (Int32.toInt (Op.cmpValue (FP.dcmp (gd h_771 a4 (Int.toNat 0)) x_769) .l)) from J_of _]
          refine R_zif0 (x := Int32.toInt (Op.cmpValue (FP.dcmp (gd h_771 a4 (Int.toNat 0)) x_769) .l)) rfl (J_bd _) (fun c_778 => ?_) (fun c_778 => ?_)
          · have k := k.1 c_778
            refine R_ps 3 (pc2 := 28) (L2 := [some (vr (some a0)), some (vr (some a1)), some (vr (some a2)), some (vr (some a3)), some (vr (some a4)), some (vi ((J x5) + J 5)), some (vi (J x_765)), some (vd x_769), none]) (st2 := []) rfl ?_
            rw [show ((J x5) + J 5) = J (x5 + 5) from J_add' rfl rfl]
            exact R_drop k (LE_of (L := [some (vr (some a0)), some (vr (some a1)), some (vr (some a2)), some (vr (some a3)), some (vr (some a4)), some (vi (J (x5 + 5))), none, none, none]) (L2 := [some (vr (some a0)), some (vr (some a1)), some (vr (some a2)), some (vr (some a3)), some (vr (some a4)), some (vi (J (x5 + 5))), some (vi (J x_765)), some (vd x_769), none]) ⟨rfl, rfl, rfl, rfl, rfl, rfl, trivial⟩)
          · have k := k.2 c_778
            refine R_ps 2 (pc2 := 2032) (L2 := [some (vr (some a0)), some (vr (some a1)), some (vr (some a2)), some (vr (some a3)), some (vr (some a4)), some (vi (J x5)), some (vi (J x_765)), some (vd x_769), none]) (st2 := [vi (J 0), vr (some a4)]) rfl ?_
            refine R_zdald (i := 0) rfl t5 t_777 ?_
            refine R_ps 2 (pc2 := 2036) (L2 := [some (vr (some a0)), some (vr (some a1)), some (vr (some a2)), some (vr (some a3)), some (vr (some a4)), some (vi (J x5)), some (vi (J x_765)), some (vd x_769), none]) (st2 := [vi (J 0), vr (some a4), vd (gd h_771 a4 (Int.toNat 0))]) rfl ?_
            refine R_zdald (i := 0) rfl t5 t_777 ?_
            refine R_ps 1 (pc2 := 2038) (L2 := [some (vr (some a0)), some (vr (some a1)), some (vr (some a2)), some (vr (some a3)), some (vr (some a4)), some (vi (J x5)), some (vi (J x_765)), some (vd x_769), none]) (st2 := [vi (Op.cmpValue (FP.dcmp (gd h_771 a4 (Int.toNat 0)) (gd h_771 a4 (Int.toNat 0))) .l)]) rfl ?_
            rw [show (Op.cmpValue (FP.dcmp (gd h_771 a4 (Int.toNat 0)) (gd h_771 a4 (Int.toNat 0))) .l) = J (Int32.toInt (Op.cmpValue (FP.dcmp (gd h_771 a4 (Int.toNat 0)) (gd h_771 a4 (Int.toNat 0))) .l)) from J_of _]
            refine R_zif0 (x := Int32.toInt (Op.cmpValue (FP.dcmp (gd h_771 a4 (Int.toNat 0)) (gd h_771 a4 (Int.toNat 0))) .l)) rfl (J_bd _) (fun c_781 => ?_) (fun c_781 => ?_)
            · have k := k.1 c_781
              refine R_ps 1 (pc2 := 2050) (L2 := [some (vr (some a0)), some (vr (some a1)), some (vr (some a2)), some (vr (some a3)), some (vr (some a4)), some (vi (J x5)), some (vi (J x_765)), some (vd x_769), none]) (st2 := [vi (J 0)]) rfl ?_
              exact R_zzret (x := 0) rfl rfl (Or.inl rfl) (R_zr (x := 0) (K := K) (by decide) k)
            · have k := k.2 c_781
              refine R_ps 3 (pc2 := 2046) (L2 := [some (vr (some a0)), some (vr (some a1)), some (vr (some a2)), some (vr (some a3)), some (vr (some a4)), some (vi (J x5)), some (vi (J x_765)), some (vd x_769), none]) (st2 := [vi (Op.cmpValue (FP.dcmp x_769 x_769) .l)]) rfl ?_
              rw [show (Op.cmpValue (FP.dcmp x_769 x_769) .l) = J (Int32.toInt (Op.cmpValue (FP.dcmp x_769 x_769) .l)) from J_of _]
              refine R_zif0 (x := Int32.toInt (Op.cmpValue (FP.dcmp x_769 x_769) .l)) rfl (J_bd _) (fun c_783 => ?_) (fun c_783 => ?_)
              · have k := k.2 c_783
                refine R_ps 3 (pc2 := 28) (L2 := [some (vr (some a0)), some (vr (some a1)), some (vr (some a2)), some (vr (some a3)), some (vr (some a4)), some (vi ((J x5) + J 5)), some (vi (J x_765)), some (vd x_769), none]) (st2 := []) rfl ?_
                rw [show ((J x5) + J 5) = J (x5 + 5) from J_add' rfl rfl]
                exact R_drop k (LE_of (L := [some (vr (some a0)), some (vr (some a1)), some (vr (some a2)), some (vr (some a3)), some (vr (some a4)), some (vi (J (x5 + 5))), none, none, none]) (L2 := [some (vr (some a0)), some (vr (some a1)), some (vr (some a2)), some (vr (some a3)), some (vr (some a4)), some (vi (J (x5 + 5))), some (vi (J x_765)), some (vd x_769), none]) ⟨rfl, rfl, rfl, rfl, rfl, rfl, trivial⟩)
              · have k := k.1 (Classical.not_not.mp c_783)
                refine R_ps 1 (pc2 := 2050) (L2 := [some (vr (some a0)), some (vr (some a1)), some (vr (some a2)), some (vr (some a3)), some (vr (some a4)), some (vi (J x5)), some (vi (J x_765)), some (vd x_769), none]) (st2 := [vi (J 0)]) rfl ?_
                exact R_zzret (x := 0) rfl rfl (Or.inl rfl) (R_zr (x := 0) (K := K) (by decide) k)
      · have k := k.2 c_774
        refine R_ps 1 (pc2 := 2013) (L2 := [some (vr (some a0)), some (vr (some a1)), some (vr (some a2)), some (vr (some a3)), some (vr (some a4)), some (vi (J x5)), some (vi (J x_765)), some (vd x_769), none]) (st2 := [vi (J 0)]) rfl ?_
        exact R_zzret (x := 0) rfl rfl (Or.inl rfl) (R_zr (x := 0) (K := K) (by decide) k)
    replace k := k.2 c_7
    refine ⟨fun c_7 => ?_, fun c_7 => ?_⟩
    · have k := k.1 c_7
      show WP T N _ 2054 _ _ _ _
      refine R_ps 2 (pc2 := 2056) (L2 := [some (vr (some a0)), some (vr (some a1)), some (vr (some a2)), some (vr (some a3)), some (vr (some a4)), some (vi (J x5)), none, none, none]) (st2 := [vr (some a3), vr (some a1)]) rfl ?_
      refine R_zcI (as := [vr (some a1), vr (some a3)]) rfl rfl ⟨Nat.le_of_ble_eq_true rfl, Nat.le_of_ble_eq_true rfl, rfl, (Or.inl rfl)⟩ rfl rfl k (fun x_788 h_787 r_789 k => ?_)
      refine R_ps 2 (pc2 := 2062) (L2 := [some (vr (some a0)), some (vr (some a1)), some (vr (some a2)), some (vr (some a3)), some (vr (some a4)), some (vi (J x5)), some (vi (J x_788)), none, none]) (st2 := [vr (some a2)]) rfl ?_
      refine R_zcI (as := [vr (some a2)]) rfl rfl ⟨Nat.le_of_ble_eq_true rfl, Nat.le_of_ble_eq_true rfl, rfl, (Or.inr ⟨_, rfl, t3⟩)⟩ rfl rfl k (fun x_792 h_791 r_793 k => ?_)
      refine R_ps 2 (pc2 := 2068) (L2 := [some (vr (some a0)), some (vr (some a1)), some (vr (some a2)), some (vr (some a3)), some (vr (some a4)), some (vi (J x5)), some (vi (J x_788)), some (vi (J x_792)), none]) (st2 := [vr (some a2)]) rfl ?_
      refine R_zcI (as := [vr (some a2)]) rfl rfl ⟨Nat.le_of_ble_eq_true rfl, Nat.le_of_ble_eq_true rfl, rfl, (Or.inr ⟨_, rfl, t3⟩)⟩ rfl rfl k (fun x_796 h_795 r_797 k => ?_)
      refine R_ps 1 (pc2 := 2073) (L2 := [some (vr (some a0)), some (vr (some a1)), some (vr (some a2)), some (vr (some a3)), some (vr (some a4)), some (vi (J x5)), some (vi (J x_788)), some (vi (J x_792)), none]) (st2 := [vi (J x_788), vi (J x_796)]) rfl ?_
      refine R_zif (x := x_796) (z := x_788) rfl r_797 r_789 (fun c_798 => ?_) (fun c_798 => ?_)
      · have k := k.1 c_798
        refine R_ps 1 (pc2 := 2080) (L2 := [some (vr (some a0)), some (vr (some a1)), some (vr (some a2)), some (vr (some a3)), some (vr (some a4)), some (vi (J x5)), some (vi (J x_788)), some (vi (J x_792)), none]) (st2 := [vi (J x_788)]) rfl ?_
        refine R_zif0 (x := x_788) rfl r_789 (fun c_799 => ?_) (fun c_799 => ?_)
        · have k := k.2 c_799
          refine R_ps 3 (pc2 := 28) (L2 := [some (vr (some a0)), some (vr (some a1)), some (vr (some a2)), some (vr (some a3)), some (vr (some a4)), some (vi ((J x5) + J 5)), some (vi (J x_788)), some (vi (J x_792)), none]) (st2 := []) rfl ?_
          rw [show ((J x5) + J 5) = J (x5 + 5) from J_add' rfl rfl]
          exact R_drop k (LE_of (L := [some (vr (some a0)), some (vr (some a1)), some (vr (some a2)), some (vr (some a3)), some (vr (some a4)), some (vi (J (x5 + 5))), none, none, none]) (L2 := [some (vr (some a0)), some (vr (some a1)), some (vr (some a2)), some (vr (some a3)), some (vr (some a4)), some (vi (J (x5 + 5))), some (vi (J x_788)), some (vi (J x_792)), none]) ⟨rfl, rfl, rfl, rfl, rfl, rfl, trivial⟩)
        · have k := k.1 (Classical.not_not.mp c_799)
          refine R_ps 2 (pc2 := 2085) (L2 := [some (vr (some a0)), some (vr (some a1)), some (vr (some a2)), some (vr (some a3)), some (vr (some a4)), some (vi (J x5)), some (vi (J x_788)), some (vi (J x_792)), none]) (st2 := [vi (J 0), vr (some a3)]) rfl ?_
          obtain ⟨t_801, k⟩ := k
          refine R_zlald (i := 0) rfl t4 t_801 ?_
          refine R_ps 3 (pc2 := 2090) (L2 := [some (vr (some a0)), some (vr (some a1)), some (vr (some a2)), some (vr (some a3)), some (vr (some a4)), some (vi (J x5)), some (vi (J x_788)), some (vi (J x_792)), none]) (st2 := [vi (lg_cmp (gl h_795 a3 (Int.toNat 0)) ((J x_792).toInt64))]) rfl ?_
          rw [show (lg_cmp (gl h_795 a3 (Int.toNat 0)) ((J x_792).toInt64)) = J (zlc (gl h_795 a3 (Int.toNat 0)) ((J x_792).toInt64)) from J_lc']
          refine R_zif0 (x := zlc (gl h_795 a3 (Int.toNat 0)) ((J x_792).toInt64)) rfl (zlc_in _ _) (fun c_802 => ?_) (fun c_802 => ?_)
          · have k := k.1 c_802
            refine R_ps 3 (pc2 := 28) (L2 := [some (vr (some a0)), some (vr (some a1)), some (vr (some a2)), some (vr (some a3)), some (vr (some a4)), some (vi ((J x5) + J 5)), some (vi (J x_788)), some (vi (J x_792)), none]) (st2 := []) rfl ?_
            rw [show ((J x5) + J 5) = J (x5 + 5) from J_add' rfl rfl]
            exact R_drop k (LE_of (L := [some (vr (some a0)), some (vr (some a1)), some (vr (some a2)), some (vr (some a3)), some (vr (some a4)), some (vi (J (x5 + 5))), none, none, none]) (L2 := [some (vr (some a0)), some (vr (some a1)), some (vr (some a2)), some (vr (some a3)), some (vr (some a4)), some (vi (J (x5 + 5))), some (vi (J x_788)), some (vi (J x_792)), none]) ⟨rfl, rfl, rfl, rfl, rfl, rfl, trivial⟩)
          · have k := k.2 c_802
            refine R_ps 1 (pc2 := 2094) (L2 := [some (vr (some a0)), some (vr (some a1)), some (vr (some a2)), some (vr (some a3)), some (vr (some a4)), some (vi (J x5)), some (vi (J x_788)), some (vi (J x_792)), none]) (st2 := [vi (J 0)]) rfl ?_
            exact R_zzret (x := 0) rfl rfl (Or.inl rfl) (R_zr (x := 0) (K := K) (by decide) k)
      · have k := k.2 c_798
        refine R_ps 1 (pc2 := 2077) (L2 := [some (vr (some a0)), some (vr (some a1)), some (vr (some a2)), some (vr (some a3)), some (vr (some a4)), some (vi (J x5)), some (vi (J x_788)), some (vi (J x_792)), none]) (st2 := [vi (J 0)]) rfl ?_
        exact R_zzret (x := 0) rfl rfl (Or.inl rfl) (R_zr (x := 0) (K := K) (by decide) k)
    replace k := k.2 c_7
    refine ⟨fun c_7 => ?_, fun c_7 => ?_⟩
    · have k := k.1 c_7
      show WP T N _ 2098 _ _ _ _
      refine R_ps 5 (pc2 := 2104) (L2 := [some (vr (some a0)), some (vr (some a1)), some (vr (some a2)), some (vr (some a3)), some (vr (some a4)), some (vi (J x5)), none, none, none]) (st2 := [vi ((J x5) + (J 1)), vr (some a0), vr (some a1)]) rfl ?_
      rw [show ((J x5) + (J 1)) = J (x5 + 1) from J_add' rfl rfl]
      obtain ⟨t_806, k⟩ := k
      refine R_ziald (i := x5 + 1) rfl (Or.inr t1) t_806 ?_
      refine R_ps 2 (pc2 := 2107) (L2 := [some (vr (some a0)), some (vr (some a1)), some (vr (some a2)), some (vr (some a3)), some (vr (some a4)), some (vi (J x5)), none, none, none]) (st2 := [vr (some a3), vi (((J (ai h a0 (x5 + 1))).toUInt32 % 65536).toInt32), vr (some a1)]) rfl ?_
      rw [show (((J (ai h a0 (x5 + 1))).toUInt32 % 65536).toInt32) = J (zchr (ai h a0 (x5 + 1))) from J_chr' rfl]
      refine R_zcI (as := [vr (some a1), vi (J (zchr (ai h a0 (x5 + 1)))), vr (some a3)]) rfl rfl ⟨Nat.le_of_ble_eq_true rfl, Nat.le_of_ble_eq_true rfl, rfl, (Or.inl rfl)⟩ rfl rfl k (fun x_809 h_808 r_810 k => ?_)
      refine R_ps 6 (pc2 := 2118) (L2 := [some (vr (some a0)), some (vr (some a1)), some (vr (some a2)), some (vr (some a3)), some (vr (some a4)), some (vi (J x5)), some (vi (J x_809)), none, none]) (st2 := [vi ((J x5) + (J 1)), vr (some a0), vr (some a2)]) rfl ?_
      rw [show ((J x5) + (J 1)) = J (x5 + 1) from J_add' rfl rfl]
      refine R_ziald (i := x5 + 1) rfl (Or.inr t1) t_806 ?_
      refine R_ps 1 (pc2 := 2120) (L2 := [some (vr (some a0)), some (vr (some a1)), some (vr (some a2)), some (vr (some a3)), some (vr (some a4)), some (vi (J x5)), some (vi (J x_809)), none, none]) (st2 := [vi (((J (ai h_808 a0 (x5 + 1))).toUInt32 % 65536).toInt32), vr (some a2)]) rfl ?_
      rw [show (((J (ai h_808 a0 (x5 + 1))).toUInt32 % 65536).toInt32) = J (zchr (ai h_808 a0 (x5 + 1))) from J_chr' rfl]
      refine R_zcI (as := [vr (some a2), vi (J (zchr (ai h_808 a0 (x5 + 1))))]) rfl rfl ⟨Nat.le_of_ble_eq_true rfl, Nat.le_of_ble_eq_true rfl, rfl, (Or.inr ⟨_, rfl, t3⟩)⟩ rfl rfl k (fun x_814 h_813 r_815 k => ?_)
      refine R_ps 2 (pc2 := 2126) (L2 := [some (vr (some a0)), some (vr (some a1)), some (vr (some a2)), some (vr (some a3)), some (vr (some a4)), some (vi (J x5)), some (vi (J x_809)), some (vi (J x_814)), none]) (st2 := [vr (some a2)]) rfl ?_
      refine R_zcI (as := [vr (some a2)]) rfl rfl ⟨Nat.le_of_ble_eq_true rfl, Nat.le_of_ble_eq_true rfl, rfl, (Or.inr ⟨_, rfl, t3⟩)⟩ rfl rfl k (fun x_818 h_817 r_819 k => ?_)
      refine R_ps 1 (pc2 := 2131) (L2 := [some (vr (some a0)), some (vr (some a1)), some (vr (some a2)), some (vr (some a3)), some (vr (some a4)), some (vi (J x5)), some (vi (J x_809)), some (vi (J x_814)), none]) (st2 := [vi (J x_809), vi (J x_818)]) rfl ?_
      refine R_zif (x := x_818) (z := x_809) rfl r_819 r_810 (fun c_820 => ?_) (fun c_820 => ?_)
      · have k := k.1 c_820
        refine R_ps 1 (pc2 := 2138) (L2 := [some (vr (some a0)), some (vr (some a1)), some (vr (some a2)), some (vr (some a3)), some (vr (some a4)), some (vi (J x5)), some (vi (J x_809)), some (vi (J x_814)), none]) (st2 := [vi (J x_809)]) rfl ?_
        refine R_zif0 (x := x_809) rfl r_810 (fun c_821 => ?_) (fun c_821 => ?_)
        · have k := k.2 c_821
          refine R_ps 3 (pc2 := 28) (L2 := [some (vr (some a0)), some (vr (some a1)), some (vr (some a2)), some (vr (some a3)), some (vr (some a4)), some (vi ((J x5) + J 5)), some (vi (J x_809)), some (vi (J x_814)), none]) (st2 := []) rfl ?_
          rw [show ((J x5) + J 5) = J (x5 + 5) from J_add' rfl rfl]
          exact R_drop k (LE_of (L := [some (vr (some a0)), some (vr (some a1)), some (vr (some a2)), some (vr (some a3)), some (vr (some a4)), some (vi (J (x5 + 5))), none, none, none]) (L2 := [some (vr (some a0)), some (vr (some a1)), some (vr (some a2)), some (vr (some a3)), some (vr (some a4)), some (vi (J (x5 + 5))), some (vi (J x_809)), some (vi (J x_814)), none]) ⟨rfl, rfl, rfl, rfl, rfl, rfl, trivial⟩)
        · have k := k.1 (Classical.not_not.mp c_821)
          refine R_ps 2 (pc2 := 2143) (L2 := [some (vr (some a0)), some (vr (some a1)), some (vr (some a2)), some (vr (some a3)), some (vr (some a4)), some (vi (J x5)), some (vi (J x_809)), some (vi (J x_814)), none]) (st2 := [vi (J 0), vr (some a3)]) rfl ?_
          obtain ⟨t_823, k⟩ := k
          refine R_zlald (i := 0) rfl t4 t_823 ?_
          refine R_ps 3 (pc2 := 2148) (L2 := [some (vr (some a0)), some (vr (some a1)), some (vr (some a2)), some (vr (some a3)), some (vr (some a4)), some (vi (J x5)), some (vi (J x_809)), some (vi (J x_814)), none]) (st2 := [vi (lg_cmp (gl h_817 a3 (Int.toNat 0)) ((J x_814).toInt64))]) rfl ?_
          rw [show (lg_cmp (gl h_817 a3 (Int.toNat 0)) ((J x_814).toInt64)) = J (zlc (gl h_817 a3 (Int.toNat 0)) ((J x_814).toInt64)) from J_lc']
          refine R_zif0 (x := zlc (gl h_817 a3 (Int.toNat 0)) ((J x_814).toInt64)) rfl (zlc_in _ _) (fun c_824 => ?_) (fun c_824 => ?_)
          · have k := k.1 c_824
            refine R_ps 3 (pc2 := 28) (L2 := [some (vr (some a0)), some (vr (some a1)), some (vr (some a2)), some (vr (some a3)), some (vr (some a4)), some (vi ((J x5) + J 5)), some (vi (J x_809)), some (vi (J x_814)), none]) (st2 := []) rfl ?_
            rw [show ((J x5) + J 5) = J (x5 + 5) from J_add' rfl rfl]
            exact R_drop k (LE_of (L := [some (vr (some a0)), some (vr (some a1)), some (vr (some a2)), some (vr (some a3)), some (vr (some a4)), some (vi (J (x5 + 5))), none, none, none]) (L2 := [some (vr (some a0)), some (vr (some a1)), some (vr (some a2)), some (vr (some a3)), some (vr (some a4)), some (vi (J (x5 + 5))), some (vi (J x_809)), some (vi (J x_814)), none]) ⟨rfl, rfl, rfl, rfl, rfl, rfl, trivial⟩)
          · have k := k.2 c_824
            refine R_ps 1 (pc2 := 2152) (L2 := [some (vr (some a0)), some (vr (some a1)), some (vr (some a2)), some (vr (some a3)), some (vr (some a4)), some (vi (J x5)), some (vi (J x_809)), some (vi (J x_814)), none]) (st2 := [vi (J 0)]) rfl ?_
            exact R_zzret (x := 0) rfl rfl (Or.inl rfl) (R_zr (x := 0) (K := K) (by decide) k)
      · have k := k.2 c_820
        refine R_ps 1 (pc2 := 2135) (L2 := [some (vr (some a0)), some (vr (some a1)), some (vr (some a2)), some (vr (some a3)), some (vr (some a4)), some (vi (J x5)), some (vi (J x_809)), some (vi (J x_814)), none]) (st2 := [vi (J 0)]) rfl ?_
        exact R_zzret (x := 0) rfl rfl (Or.inl rfl) (R_zr (x := 0) (K := K) (by decide) k)
    replace k := k.2 c_7
    refine ⟨fun c_7 => ?_, fun c_7 => ?_⟩
    · have k := k.1 c_7
      show WP T N _ 2156 _ _ _ _
      refine R_ps 2 (pc2 := 2158) (L2 := [some (vr (some a0)), some (vr (some a1)), some (vr (some a2)), some (vr (some a3)), some (vr (some a4)), some (vi (J x5)), none, none, none]) (st2 := [vr (some a3), vr (some a1)]) rfl ?_
      refine R_zcI (as := [vr (some a1), vr (some a3)]) rfl rfl ⟨Nat.le_of_ble_eq_true rfl, Nat.le_of_ble_eq_true rfl, rfl, (Or.inl rfl)⟩ rfl rfl k (fun x_829 h_828 r_830 k => ?_)
      refine R_ps 2 (pc2 := 2164) (L2 := [some (vr (some a0)), some (vr (some a1)), some (vr (some a2)), some (vr (some a3)), some (vr (some a4)), some (vi (J x5)), some (vi (J x_829)), none, none]) (st2 := [vr (some a2)]) rfl ?_
      refine R_zcI (as := [vr (some a2)]) rfl rfl ⟨Nat.le_of_ble_eq_true rfl, Nat.le_of_ble_eq_true rfl, rfl, (Or.inr ⟨_, rfl, t3⟩)⟩ rfl rfl k (fun x_833 h_832 r_834 k => ?_)
      refine R_ps 2 (pc2 := 2170) (L2 := [some (vr (some a0)), some (vr (some a1)), some (vr (some a2)), some (vr (some a3)), some (vr (some a4)), some (vi (J x5)), some (vi (J x_829)), some (vi (J x_833)), none]) (st2 := [vr (some a2)]) rfl ?_
      refine R_zcI (as := [vr (some a2)]) rfl rfl ⟨Nat.le_of_ble_eq_true rfl, Nat.le_of_ble_eq_true rfl, rfl, (Or.inr ⟨_, rfl, t3⟩)⟩ rfl rfl k (fun x_837 h_836 r_838 k => ?_)
      refine R_ps 1 (pc2 := 2175) (L2 := [some (vr (some a0)), some (vr (some a1)), some (vr (some a2)), some (vr (some a3)), some (vr (some a4)), some (vi (J x5)), some (vi (J x_829)), some (vi (J x_833)), none]) (st2 := [vi (J x_829), vi (J x_837)]) rfl ?_
      refine R_zif (x := x_837) (z := x_829) rfl r_838 r_830 (fun c_839 => ?_) (fun c_839 => ?_)
      · have k := k.1 c_839
        refine R_ps 1 (pc2 := 2182) (L2 := [some (vr (some a0)), some (vr (some a1)), some (vr (some a2)), some (vr (some a3)), some (vr (some a4)), some (vi (J x5)), some (vi (J x_829)), some (vi (J x_833)), none]) (st2 := [vi (J x_829)]) rfl ?_
        refine R_zif0 (x := x_829) rfl r_830 (fun c_840 => ?_) (fun c_840 => ?_)
        · have k := k.2 c_840
          refine R_ps 3 (pc2 := 28) (L2 := [some (vr (some a0)), some (vr (some a1)), some (vr (some a2)), some (vr (some a3)), some (vr (some a4)), some (vi ((J x5) + J 5)), some (vi (J x_829)), some (vi (J x_833)), none]) (st2 := []) rfl ?_
          rw [show ((J x5) + J 5) = J (x5 + 5) from J_add' rfl rfl]
          exact R_drop k (LE_of (L := [some (vr (some a0)), some (vr (some a1)), some (vr (some a2)), some (vr (some a3)), some (vr (some a4)), some (vi (J (x5 + 5))), none, none, none]) (L2 := [some (vr (some a0)), some (vr (some a1)), some (vr (some a2)), some (vr (some a3)), some (vr (some a4)), some (vi (J (x5 + 5))), some (vi (J x_829)), some (vi (J x_833)), none]) ⟨rfl, rfl, rfl, rfl, rfl, rfl, trivial⟩)
        · have k := k.1 (Classical.not_not.mp c_840)
          refine R_ps 2 (pc2 := 2187) (L2 := [some (vr (some a0)), some (vr (some a1)), some (vr (some a2)), some (vr (some a3)), some (vr (some a4)), some (vi (J x5)), some (vi (J x_829)), some (vi (J x_833)), none]) (st2 := [vi (J 0), vr (some a3)]) rfl ?_
          obtain ⟨t_842, k⟩ := k
          refine R_zlald (i := 0) rfl t4 t_842 ?_
          refine R_ps 3 (pc2 := 2192) (L2 := [some (vr (some a0)), some (vr (some a1)), some (vr (some a2)), some (vr (some a3)), some (vr (some a4)), some (vi (J x5)), some (vi (J x_829)), some (vi (J x_833)), none]) (st2 := [vi (lg_cmp (gl h_836 a3 (Int.toNat 0)) ((J x_833).toInt64))]) rfl ?_
          rw [show (lg_cmp (gl h_836 a3 (Int.toNat 0)) ((J x_833).toInt64)) = J (zlc (gl h_836 a3 (Int.toNat 0)) ((J x_833).toInt64)) from J_lc']
          refine R_zif0 (x := zlc (gl h_836 a3 (Int.toNat 0)) ((J x_833).toInt64)) rfl (zlc_in _ _) (fun c_843 => ?_) (fun c_843 => ?_)
          · have k := k.1 c_843
            refine R_ps 3 (pc2 := 28) (L2 := [some (vr (some a0)), some (vr (some a1)), some (vr (some a2)), some (vr (some a3)), some (vr (some a4)), some (vi ((J x5) + J 5)), some (vi (J x_829)), some (vi (J x_833)), none]) (st2 := []) rfl ?_
            rw [show ((J x5) + J 5) = J (x5 + 5) from J_add' rfl rfl]
            exact R_drop k (LE_of (L := [some (vr (some a0)), some (vr (some a1)), some (vr (some a2)), some (vr (some a3)), some (vr (some a4)), some (vi (J (x5 + 5))), none, none, none]) (L2 := [some (vr (some a0)), some (vr (some a1)), some (vr (some a2)), some (vr (some a3)), some (vr (some a4)), some (vi (J (x5 + 5))), some (vi (J x_829)), some (vi (J x_833)), none]) ⟨rfl, rfl, rfl, rfl, rfl, rfl, trivial⟩)
          · have k := k.2 c_843
            refine R_ps 1 (pc2 := 2196) (L2 := [some (vr (some a0)), some (vr (some a1)), some (vr (some a2)), some (vr (some a3)), some (vr (some a4)), some (vi (J x5)), some (vi (J x_829)), some (vi (J x_833)), none]) (st2 := [vi (J 0)]) rfl ?_
            exact R_zzret (x := 0) rfl rfl (Or.inl rfl) (R_zr (x := 0) (K := K) (by decide) k)
      · have k := k.2 c_839
        refine R_ps 1 (pc2 := 2179) (L2 := [some (vr (some a0)), some (vr (some a1)), some (vr (some a2)), some (vr (some a3)), some (vr (some a4)), some (vi (J x5)), some (vi (J x_829)), some (vi (J x_833)), none]) (st2 := [vi (J 0)]) rfl ?_
        exact R_zzret (x := 0) rfl rfl (Or.inl rfl) (R_zr (x := 0) (K := K) (by decide) k)
    replace k := k.2 c_7
    refine ⟨fun c_7 => ?_, fun c_7 => ?_⟩
    · have k := k.1 c_7
      show WP T N _ 2200 _ _ _ _
      refine R_ps 2 (pc2 := 2202) (L2 := [some (vr (some a0)), some (vr (some a1)), some (vr (some a2)), some (vr (some a3)), some (vr (some a4)), some (vi (J x5)), none, none, none]) (st2 := [vr (some a3), vr (some a1)]) rfl ?_
      refine R_zcI (as := [vr (some a1), vr (some a3)]) rfl rfl ⟨Nat.le_of_ble_eq_true rfl, Nat.le_of_ble_eq_true rfl, rfl, (Or.inl rfl)⟩ rfl rfl k (fun x_848 h_847 r_849 k => ?_)
      refine R_ps 2 (pc2 := 2208) (L2 := [some (vr (some a0)), some (vr (some a1)), some (vr (some a2)), some (vr (some a3)), some (vr (some a4)), some (vi (J x5)), some (vi (J x_848)), none, none]) (st2 := [vr (some a2)]) rfl ?_
      refine R_zcI (as := [vr (some a2)]) rfl rfl ⟨Nat.le_of_ble_eq_true rfl, Nat.le_of_ble_eq_true rfl, rfl, (Or.inr ⟨_, rfl, t3⟩)⟩ rfl rfl k (fun x_852 h_851 r_853 k => ?_)
      refine R_ps 2 (pc2 := 2214) (L2 := [some (vr (some a0)), some (vr (some a1)), some (vr (some a2)), some (vr (some a3)), some (vr (some a4)), some (vi (J x5)), some (vi (J x_848)), some (vi (J x_852)), none]) (st2 := [vr (some a2)]) rfl ?_
      refine R_zcI (as := [vr (some a2)]) rfl rfl ⟨Nat.le_of_ble_eq_true rfl, Nat.le_of_ble_eq_true rfl, rfl, (Or.inr ⟨_, rfl, t3⟩)⟩ rfl rfl k (fun x_856 h_855 r_857 k => ?_)
      refine R_ps 1 (pc2 := 2219) (L2 := [some (vr (some a0)), some (vr (some a1)), some (vr (some a2)), some (vr (some a3)), some (vr (some a4)), some (vi (J x5)), some (vi (J x_848)), some (vi (J x_852)), none]) (st2 := [vi (J x_848), vi (J x_856)]) rfl ?_
      refine R_zif (x := x_856) (z := x_848) rfl r_857 r_849 (fun c_858 => ?_) (fun c_858 => ?_)
      · have k := k.1 c_858
        refine R_ps 1 (pc2 := 2226) (L2 := [some (vr (some a0)), some (vr (some a1)), some (vr (some a2)), some (vr (some a3)), some (vr (some a4)), some (vi (J x5)), some (vi (J x_848)), some (vi (J x_852)), none]) (st2 := [vi (J x_848)]) rfl ?_
        refine R_zif0 (x := x_848) rfl r_849 (fun c_859 => ?_) (fun c_859 => ?_)
        · have k := k.2 c_859
          refine R_ps 3 (pc2 := 28) (L2 := [some (vr (some a0)), some (vr (some a1)), some (vr (some a2)), some (vr (some a3)), some (vr (some a4)), some (vi ((J x5) + J 5)), some (vi (J x_848)), some (vi (J x_852)), none]) (st2 := []) rfl ?_
          rw [show ((J x5) + J 5) = J (x5 + 5) from J_add' rfl rfl]
          exact R_drop k (LE_of (L := [some (vr (some a0)), some (vr (some a1)), some (vr (some a2)), some (vr (some a3)), some (vr (some a4)), some (vi (J (x5 + 5))), none, none, none]) (L2 := [some (vr (some a0)), some (vr (some a1)), some (vr (some a2)), some (vr (some a3)), some (vr (some a4)), some (vi (J (x5 + 5))), some (vi (J x_848)), some (vi (J x_852)), none]) ⟨rfl, rfl, rfl, rfl, rfl, rfl, trivial⟩)
        · have k := k.1 (Classical.not_not.mp c_859)
          refine R_ps 2 (pc2 := 2231) (L2 := [some (vr (some a0)), some (vr (some a1)), some (vr (some a2)), some (vr (some a3)), some (vr (some a4)), some (vi (J x5)), some (vi (J x_848)), some (vi (J x_852)), none]) (st2 := [vi (J 0), vr (some a3)]) rfl ?_
          obtain ⟨t_861, k⟩ := k
          refine R_zlald (i := 0) rfl t4 t_861 ?_
          refine R_ps 3 (pc2 := 2236) (L2 := [some (vr (some a0)), some (vr (some a1)), some (vr (some a2)), some (vr (some a3)), some (vr (some a4)), some (vi (J x5)), some (vi (J x_848)), some (vi (J x_852)), none]) (st2 := [vi (lg_cmp (gl h_855 a3 (Int.toNat 0)) ((J x_852).toInt64))]) rfl ?_
          rw [show (lg_cmp (gl h_855 a3 (Int.toNat 0)) ((J x_852).toInt64)) = J (zlc (gl h_855 a3 (Int.toNat 0)) ((J x_852).toInt64)) from J_lc']
          refine R_zif0 (x := zlc (gl h_855 a3 (Int.toNat 0)) ((J x_852).toInt64)) rfl (zlc_in _ _) (fun c_862 => ?_) (fun c_862 => ?_)
          · have k := k.1 c_862
            refine R_ps 3 (pc2 := 28) (L2 := [some (vr (some a0)), some (vr (some a1)), some (vr (some a2)), some (vr (some a3)), some (vr (some a4)), some (vi ((J x5) + J 5)), some (vi (J x_848)), some (vi (J x_852)), none]) (st2 := []) rfl ?_
            rw [show ((J x5) + J 5) = J (x5 + 5) from J_add' rfl rfl]
            exact R_drop k (LE_of (L := [some (vr (some a0)), some (vr (some a1)), some (vr (some a2)), some (vr (some a3)), some (vr (some a4)), some (vi (J (x5 + 5))), none, none, none]) (L2 := [some (vr (some a0)), some (vr (some a1)), some (vr (some a2)), some (vr (some a3)), some (vr (some a4)), some (vi (J (x5 + 5))), some (vi (J x_848)), some (vi (J x_852)), none]) ⟨rfl, rfl, rfl, rfl, rfl, rfl, trivial⟩)
          · have k := k.2 c_862
            refine R_ps 1 (pc2 := 2240) (L2 := [some (vr (some a0)), some (vr (some a1)), some (vr (some a2)), some (vr (some a3)), some (vr (some a4)), some (vi (J x5)), some (vi (J x_848)), some (vi (J x_852)), none]) (st2 := [vi (J 0)]) rfl ?_
            exact R_zzret (x := 0) rfl rfl (Or.inl rfl) (R_zr (x := 0) (K := K) (by decide) k)
      · have k := k.2 c_858
        refine R_ps 1 (pc2 := 2223) (L2 := [some (vr (some a0)), some (vr (some a1)), some (vr (some a2)), some (vr (some a3)), some (vr (some a4)), some (vi (J x5)), some (vi (J x_848)), some (vi (J x_852)), none]) (st2 := [vi (J 0)]) rfl ?_
        exact R_zzret (x := 0) rfl rfl (Or.inl rfl) (R_zr (x := 0) (K := K) (by decide) k)
    replace k := k.2 c_7
    refine ⟨fun c_7 => ?_, fun c_7 => ?_⟩
    · have k := k.1 c_7
      show WP T N _ 2244 _ _ _ _
      refine R_ps 5 (pc2 := 2250) (L2 := [some (vr (some a0)), some (vr (some a1)), some (vr (some a2)), some (vr (some a3)), some (vr (some a4)), some (vi (J x5)), none, none, none]) (st2 := [vi ((J x5) + (J 1)), vr (some a0), vr (some a1)]) rfl ?_
      rw [show ((J x5) + (J 1)) = J (x5 + 1) from J_add' rfl rfl]
      obtain ⟨t_866, k⟩ := k
      refine R_ziald (i := x5 + 1) rfl (Or.inr t1) t_866 ?_
      refine R_ps 4 (pc2 := 2256) (L2 := [some (vr (some a0)), some (vr (some a1)), some (vr (some a2)), some (vr (some a3)), some (vr (some a4)), some (vi (J x5)), none, none, none]) (st2 := [vi ((J x5) + (J 2)), vr (some a0), vi (J (ai h a0 (x5 + 1))), vr (some a1)]) rfl ?_
      rw [show ((J x5) + (J 2)) = J (x5 + 2) from J_add' rfl rfl]
      obtain ⟨t_868, k⟩ := k
      refine R_ziald (i := x5 + 2) rfl (Or.inr t1) t_868 ?_
      refine R_ps 1 (pc2 := 2258) (L2 := [some (vr (some a0)), some (vr (some a1)), some (vr (some a2)), some (vr (some a3)), some (vr (some a4)), some (vi (J x5)), none, none, none]) (st2 := [vr (some a3), vi (J (ai h a0 (x5 + 2))), vi (J (ai h a0 (x5 + 1))), vr (some a1)]) rfl ?_
      refine R_zcI (as := [vr (some a1), vi (J (ai h a0 (x5 + 1))), vi (J (ai h a0 (x5 + 2))), vr (some a3)]) rfl rfl ⟨Nat.le_of_ble_eq_true rfl, Nat.le_of_ble_eq_true rfl, rfl, (Or.inl rfl)⟩ rfl rfl k (fun x_871 h_870 r_872 k => ?_)
      refine R_ps 6 (pc2 := 2269) (L2 := [some (vr (some a0)), some (vr (some a1)), some (vr (some a2)), some (vr (some a3)), some (vr (some a4)), some (vi (J x5)), some (vi (J x_871)), none, none]) (st2 := [vi ((J x5) + (J 1)), vr (some a0), vr (some a2)]) rfl ?_
      rw [show ((J x5) + (J 1)) = J (x5 + 1) from J_add' rfl rfl]
      refine R_ziald (i := x5 + 1) rfl (Or.inr t1) t_866 ?_
      refine R_ps 4 (pc2 := 2275) (L2 := [some (vr (some a0)), some (vr (some a1)), some (vr (some a2)), some (vr (some a3)), some (vr (some a4)), some (vi (J x5)), some (vi (J x_871)), none, none]) (st2 := [vi ((J x5) + (J 2)), vr (some a0), vi (J (ai h_870 a0 (x5 + 1))), vr (some a2)]) rfl ?_
      rw [show ((J x5) + (J 2)) = J (x5 + 2) from J_add' rfl rfl]
      refine R_ziald (i := x5 + 2) rfl (Or.inr t1) t_868 ?_
      refine R_zcI (as := [vr (some a2), vi (J (ai h_870 a0 (x5 + 1))), vi (J (ai h_870 a0 (x5 + 2)))]) rfl rfl ⟨Nat.le_of_ble_eq_true rfl, Nat.le_of_ble_eq_true rfl, rfl, (Or.inr ⟨_, rfl, t3⟩)⟩ rfl rfl k (fun x_877 h_876 r_878 k => ?_)
      refine R_ps 2 (pc2 := 2282) (L2 := [some (vr (some a0)), some (vr (some a1)), some (vr (some a2)), some (vr (some a3)), some (vr (some a4)), some (vi (J x5)), some (vi (J x_871)), some (vi (J x_877)), none]) (st2 := [vr (some a2)]) rfl ?_
      refine R_zcI (as := [vr (some a2)]) rfl rfl ⟨Nat.le_of_ble_eq_true rfl, Nat.le_of_ble_eq_true rfl, rfl, (Or.inr ⟨_, rfl, t3⟩)⟩ rfl rfl k (fun x_881 h_880 r_882 k => ?_)
      refine R_ps 1 (pc2 := 2287) (L2 := [some (vr (some a0)), some (vr (some a1)), some (vr (some a2)), some (vr (some a3)), some (vr (some a4)), some (vi (J x5)), some (vi (J x_871)), some (vi (J x_877)), none]) (st2 := [vi (J x_871), vi (J x_881)]) rfl ?_
      refine R_zif (x := x_881) (z := x_871) rfl r_882 r_872 (fun c_883 => ?_) (fun c_883 => ?_)
      · have k := k.1 c_883
        refine R_ps 1 (pc2 := 2294) (L2 := [some (vr (some a0)), some (vr (some a1)), some (vr (some a2)), some (vr (some a3)), some (vr (some a4)), some (vi (J x5)), some (vi (J x_871)), some (vi (J x_877)), none]) (st2 := [vi (J x_871)]) rfl ?_
        refine R_zif0 (x := x_871) rfl r_872 (fun c_884 => ?_) (fun c_884 => ?_)
        · have k := k.2 c_884
          refine R_ps 3 (pc2 := 28) (L2 := [some (vr (some a0)), some (vr (some a1)), some (vr (some a2)), some (vr (some a3)), some (vr (some a4)), some (vi ((J x5) + J 5)), some (vi (J x_871)), some (vi (J x_877)), none]) (st2 := []) rfl ?_
          rw [show ((J x5) + J 5) = J (x5 + 5) from J_add' rfl rfl]
          exact R_drop k (LE_of (L := [some (vr (some a0)), some (vr (some a1)), some (vr (some a2)), some (vr (some a3)), some (vr (some a4)), some (vi (J (x5 + 5))), none, none, none]) (L2 := [some (vr (some a0)), some (vr (some a1)), some (vr (some a2)), some (vr (some a3)), some (vr (some a4)), some (vi (J (x5 + 5))), some (vi (J x_871)), some (vi (J x_877)), none]) ⟨rfl, rfl, rfl, rfl, rfl, rfl, trivial⟩)
        · have k := k.1 (Classical.not_not.mp c_884)
          refine R_ps 2 (pc2 := 2299) (L2 := [some (vr (some a0)), some (vr (some a1)), some (vr (some a2)), some (vr (some a3)), some (vr (some a4)), some (vi (J x5)), some (vi (J x_871)), some (vi (J x_877)), none]) (st2 := [vi (J 0), vr (some a3)]) rfl ?_
          obtain ⟨t_886, k⟩ := k
          refine R_zlald (i := 0) rfl t4 t_886 ?_
          refine R_ps 3 (pc2 := 2304) (L2 := [some (vr (some a0)), some (vr (some a1)), some (vr (some a2)), some (vr (some a3)), some (vr (some a4)), some (vi (J x5)), some (vi (J x_871)), some (vi (J x_877)), none]) (st2 := [vi (lg_cmp (gl h_880 a3 (Int.toNat 0)) ((J x_877).toInt64))]) rfl ?_
          rw [show (lg_cmp (gl h_880 a3 (Int.toNat 0)) ((J x_877).toInt64)) = J (zlc (gl h_880 a3 (Int.toNat 0)) ((J x_877).toInt64)) from J_lc']
          refine R_zif0 (x := zlc (gl h_880 a3 (Int.toNat 0)) ((J x_877).toInt64)) rfl (zlc_in _ _) (fun c_887 => ?_) (fun c_887 => ?_)
          · have k := k.1 c_887
            refine R_ps 3 (pc2 := 28) (L2 := [some (vr (some a0)), some (vr (some a1)), some (vr (some a2)), some (vr (some a3)), some (vr (some a4)), some (vi ((J x5) + J 5)), some (vi (J x_871)), some (vi (J x_877)), none]) (st2 := []) rfl ?_
            rw [show ((J x5) + J 5) = J (x5 + 5) from J_add' rfl rfl]
            exact R_drop k (LE_of (L := [some (vr (some a0)), some (vr (some a1)), some (vr (some a2)), some (vr (some a3)), some (vr (some a4)), some (vi (J (x5 + 5))), none, none, none]) (L2 := [some (vr (some a0)), some (vr (some a1)), some (vr (some a2)), some (vr (some a3)), some (vr (some a4)), some (vi (J (x5 + 5))), some (vi (J x_871)), some (vi (J x_877)), none]) ⟨rfl, rfl, rfl, rfl, rfl, rfl, trivial⟩)
          · have k := k.2 c_887
            refine R_ps 1 (pc2 := 2308) (L2 := [some (vr (some a0)), some (vr (some a1)), some (vr (some a2)), some (vr (some a3)), some (vr (some a4)), some (vi (J x5)), some (vi (J x_871)), some (vi (J x_877)), none]) (st2 := [vi (J 0)]) rfl ?_
            exact R_zzret (x := 0) rfl rfl (Or.inl rfl) (R_zr (x := 0) (K := K) (by decide) k)
      · have k := k.2 c_883
        refine R_ps 1 (pc2 := 2291) (L2 := [some (vr (some a0)), some (vr (some a1)), some (vr (some a2)), some (vr (some a3)), some (vr (some a4)), some (vi (J x5)), some (vi (J x_871)), some (vi (J x_877)), none]) (st2 := [vi (J 0)]) rfl ?_
        exact R_zzret (x := 0) rfl rfl (Or.inl rfl) (R_zr (x := 0) (K := K) (by decide) k)
    replace k := k.2 c_7
    refine ⟨fun c_7 => ?_, fun c_7 => ?_⟩
    · have k := k.1 c_7
      show WP T N _ 2312 _ _ _ _
      refine R_ps 2 (pc2 := 2314) (L2 := [some (vr (some a0)), some (vr (some a1)), some (vr (some a2)), some (vr (some a3)), some (vr (some a4)), some (vi (J x5)), none, none, none]) (st2 := [vr (some a3), vr (some a1)]) rfl ?_
      refine R_zcI (as := [vr (some a1), vr (some a3)]) rfl rfl ⟨Nat.le_of_ble_eq_true rfl, Nat.le_of_ble_eq_true rfl, rfl, (Or.inl rfl)⟩ rfl rfl k (fun x_892 h_891 r_893 k => ?_)
      refine R_ps 2 (pc2 := 2320) (L2 := [some (vr (some a0)), some (vr (some a1)), some (vr (some a2)), some (vr (some a3)), some (vr (some a4)), some (vi (J x5)), some (vi (J x_892)), none, none]) (st2 := [vr (some a2)]) rfl ?_
      refine R_zcI (as := [vr (some a2)]) rfl rfl ⟨Nat.le_of_ble_eq_true rfl, Nat.le_of_ble_eq_true rfl, rfl, (Or.inr ⟨_, rfl, t3⟩)⟩ rfl rfl k (fun x_896 h_895 r_897 k => ?_)
      refine R_ps 2 (pc2 := 2326) (L2 := [some (vr (some a0)), some (vr (some a1)), some (vr (some a2)), some (vr (some a3)), some (vr (some a4)), some (vi (J x5)), some (vi (J x_892)), some (vi (J x_896)), none]) (st2 := [vr (some a2)]) rfl ?_
      refine R_zcI (as := [vr (some a2)]) rfl rfl ⟨Nat.le_of_ble_eq_true rfl, Nat.le_of_ble_eq_true rfl, rfl, (Or.inr ⟨_, rfl, t3⟩)⟩ rfl rfl k (fun x_900 h_899 r_901 k => ?_)
      refine R_ps 1 (pc2 := 2331) (L2 := [some (vr (some a0)), some (vr (some a1)), some (vr (some a2)), some (vr (some a3)), some (vr (some a4)), some (vi (J x5)), some (vi (J x_892)), some (vi (J x_896)), none]) (st2 := [vi (J x_892), vi (J x_900)]) rfl ?_
      refine R_zif (x := x_900) (z := x_892) rfl r_901 r_893 (fun c_902 => ?_) (fun c_902 => ?_)
      · have k := k.1 c_902
        refine R_ps 1 (pc2 := 2338) (L2 := [some (vr (some a0)), some (vr (some a1)), some (vr (some a2)), some (vr (some a3)), some (vr (some a4)), some (vi (J x5)), some (vi (J x_892)), some (vi (J x_896)), none]) (st2 := [vi (J x_892)]) rfl ?_
        refine R_zif0 (x := x_892) rfl r_893 (fun c_903 => ?_) (fun c_903 => ?_)
        · have k := k.2 c_903
          refine R_ps 3 (pc2 := 28) (L2 := [some (vr (some a0)), some (vr (some a1)), some (vr (some a2)), some (vr (some a3)), some (vr (some a4)), some (vi ((J x5) + J 5)), some (vi (J x_892)), some (vi (J x_896)), none]) (st2 := []) rfl ?_
          rw [show ((J x5) + J 5) = J (x5 + 5) from J_add' rfl rfl]
          exact R_drop k (LE_of (L := [some (vr (some a0)), some (vr (some a1)), some (vr (some a2)), some (vr (some a3)), some (vr (some a4)), some (vi (J (x5 + 5))), none, none, none]) (L2 := [some (vr (some a0)), some (vr (some a1)), some (vr (some a2)), some (vr (some a3)), some (vr (some a4)), some (vi (J (x5 + 5))), some (vi (J x_892)), some (vi (J x_896)), none]) ⟨rfl, rfl, rfl, rfl, rfl, rfl, trivial⟩)
        · have k := k.1 (Classical.not_not.mp c_903)
          refine R_ps 2 (pc2 := 2343) (L2 := [some (vr (some a0)), some (vr (some a1)), some (vr (some a2)), some (vr (some a3)), some (vr (some a4)), some (vi (J x5)), some (vi (J x_892)), some (vi (J x_896)), none]) (st2 := [vi (J 0), vr (some a3)]) rfl ?_
          obtain ⟨t_905, k⟩ := k
          refine R_zlald (i := 0) rfl t4 t_905 ?_
          refine R_ps 3 (pc2 := 2348) (L2 := [some (vr (some a0)), some (vr (some a1)), some (vr (some a2)), some (vr (some a3)), some (vr (some a4)), some (vi (J x5)), some (vi (J x_892)), some (vi (J x_896)), none]) (st2 := [vi (lg_cmp (gl h_899 a3 (Int.toNat 0)) ((J x_896).toInt64))]) rfl ?_
          rw [show (lg_cmp (gl h_899 a3 (Int.toNat 0)) ((J x_896).toInt64)) = J (zlc (gl h_899 a3 (Int.toNat 0)) ((J x_896).toInt64)) from J_lc']
          refine R_zif0 (x := zlc (gl h_899 a3 (Int.toNat 0)) ((J x_896).toInt64)) rfl (zlc_in _ _) (fun c_906 => ?_) (fun c_906 => ?_)
          · have k := k.1 c_906
            refine R_ps 3 (pc2 := 28) (L2 := [some (vr (some a0)), some (vr (some a1)), some (vr (some a2)), some (vr (some a3)), some (vr (some a4)), some (vi ((J x5) + J 5)), some (vi (J x_892)), some (vi (J x_896)), none]) (st2 := []) rfl ?_
            rw [show ((J x5) + J 5) = J (x5 + 5) from J_add' rfl rfl]
            exact R_drop k (LE_of (L := [some (vr (some a0)), some (vr (some a1)), some (vr (some a2)), some (vr (some a3)), some (vr (some a4)), some (vi (J (x5 + 5))), none, none, none]) (L2 := [some (vr (some a0)), some (vr (some a1)), some (vr (some a2)), some (vr (some a3)), some (vr (some a4)), some (vi (J (x5 + 5))), some (vi (J x_892)), some (vi (J x_896)), none]) ⟨rfl, rfl, rfl, rfl, rfl, rfl, trivial⟩)
          · have k := k.2 c_906
            refine R_ps 1 (pc2 := 2352) (L2 := [some (vr (some a0)), some (vr (some a1)), some (vr (some a2)), some (vr (some a3)), some (vr (some a4)), some (vi (J x5)), some (vi (J x_892)), some (vi (J x_896)), none]) (st2 := [vi (J 0)]) rfl ?_
            exact R_zzret (x := 0) rfl rfl (Or.inl rfl) (R_zr (x := 0) (K := K) (by decide) k)
      · have k := k.2 c_902
        refine R_ps 1 (pc2 := 2335) (L2 := [some (vr (some a0)), some (vr (some a1)), some (vr (some a2)), some (vr (some a3)), some (vr (some a4)), some (vi (J x5)), some (vi (J x_892)), some (vi (J x_896)), none]) (st2 := [vi (J 0)]) rfl ?_
        exact R_zzret (x := 0) rfl rfl (Or.inl rfl) (R_zr (x := 0) (K := K) (by decide) k)
    replace k := k.2 c_7
    refine ⟨fun c_7 => ?_, fun c_7 => ?_⟩
    · have k := k.1 c_7
      show WP T N _ 2356 _ _ _ _
      refine R_ps 1 (pc2 := 2357) (L2 := [some (vr (some a0)), some (vr (some a1)), some (vr (some a2)), some (vr (some a3)), some (vr (some a4)), some (vi (J x5)), none, none, none]) (st2 := [vr (some a1)]) rfl ?_
      refine R_zcI (as := [vr (some a1)]) rfl rfl ⟨Nat.le_of_ble_eq_true rfl, Nat.le_of_ble_eq_true rfl, rfl, (Or.inr ⟨_, rfl, t2⟩)⟩ rfl rfl k (fun x_911 h_910 r_912 k => ?_)
      refine R_ps 1 (pc2 := 2361) (L2 := [some (vr (some a0)), some (vr (some a1)), some (vr (some a2)), some (vr (some a3)), some (vr (some a4)), some (vi (J x5)), none, none, none]) (st2 := [vr (some a2), vi (J x_911)]) rfl ?_
      refine R_zcI (as := [vr (some a2)]) rfl rfl ⟨Nat.le_of_ble_eq_true rfl, Nat.le_of_ble_eq_true rfl, rfl, (Or.inr ⟨_, rfl, t3⟩)⟩ rfl rfl k (fun x_915 h_914 r_916 k => ?_)
      refine R_zif (x := x_911) (z := x_915) rfl r_912 r_916 (fun c_917 => ?_) (fun c_917 => ?_)
      · have k := k.1 c_917
        refine R_ps 2 (pc2 := 28) (L2 := [some (vr (some a0)), some (vr (some a1)), some (vr (some a2)), some (vr (some a3)), some (vr (some a4)), some (vi ((J x5) + J 5)), none, none, none]) (st2 := []) rfl ?_
        rw [show ((J x5) + J 5) = J (x5 + 5) from J_add' rfl rfl]
        exact k
      · have k := k.2 c_917
        refine R_ps 1 (pc2 := 2368) (L2 := [some (vr (some a0)), some (vr (some a1)), some (vr (some a2)), some (vr (some a3)), some (vr (some a4)), some (vi (J x5)), none, none, none]) (st2 := [vi (J 0)]) rfl ?_
        exact R_zzret (x := 0) rfl rfl (Or.inl rfl) (R_zr (x := 0) (K := K) (by decide) k)
    replace k := k.2 c_7
    refine ⟨fun c_7 => ?_, fun c_7 => ?_⟩
    · have k := k.1 c_7
      show WP T N _ 2369 _ _ _ _
      refine R_ps 2 (pc2 := 2371) (L2 := [some (vr (some a0)), some (vr (some a1)), some (vr (some a2)), some (vr (some a3)), some (vr (some a4)), some (vi (J x5)), none, none, none]) (st2 := [vr (some a3), vr (some a1)]) rfl ?_
      refine R_zcI (as := [vr (some a1), vr (some a3)]) rfl rfl ⟨Nat.le_of_ble_eq_true rfl, Nat.le_of_ble_eq_true rfl, rfl, (Or.inl rfl)⟩ rfl rfl k (fun x_921 h_920 r_922 k => ?_)
      refine R_ps 2 (pc2 := 2377) (L2 := [some (vr (some a0)), some (vr (some a1)), some (vr (some a2)), some (vr (some a3)), some (vr (some a4)), some (vi (J x5)), some (vi (J x_921)), none, none]) (st2 := [vr (some a2)]) rfl ?_
      refine R_zcI (as := [vr (some a2)]) rfl rfl ⟨Nat.le_of_ble_eq_true rfl, Nat.le_of_ble_eq_true rfl, rfl, (Or.inr ⟨_, rfl, t3⟩)⟩ rfl rfl k (fun x_925 h_924 r_926 k => ?_)
      refine R_ps 2 (pc2 := 2383) (L2 := [some (vr (some a0)), some (vr (some a1)), some (vr (some a2)), some (vr (some a3)), some (vr (some a4)), some (vi (J x5)), some (vi (J x_921)), some (vi (J x_925)), none]) (st2 := [vr (some a2)]) rfl ?_
      refine R_zcI (as := [vr (some a2)]) rfl rfl ⟨Nat.le_of_ble_eq_true rfl, Nat.le_of_ble_eq_true rfl, rfl, (Or.inr ⟨_, rfl, t3⟩)⟩ rfl rfl k (fun x_929 h_928 r_930 k => ?_)
      refine R_ps 1 (pc2 := 2388) (L2 := [some (vr (some a0)), some (vr (some a1)), some (vr (some a2)), some (vr (some a3)), some (vr (some a4)), some (vi (J x5)), some (vi (J x_921)), some (vi (J x_925)), none]) (st2 := [vi (J x_921), vi (J x_929)]) rfl ?_
      refine R_zif (x := x_929) (z := x_921) rfl r_930 r_922 (fun c_931 => ?_) (fun c_931 => ?_)
      · have k := k.1 c_931
        refine R_ps 1 (pc2 := 2395) (L2 := [some (vr (some a0)), some (vr (some a1)), some (vr (some a2)), some (vr (some a3)), some (vr (some a4)), some (vi (J x5)), some (vi (J x_921)), some (vi (J x_925)), none]) (st2 := [vi (J x_921)]) rfl ?_
        refine R_zif0 (x := x_921) rfl r_922 (fun c_932 => ?_) (fun c_932 => ?_)
        · have k := k.2 c_932
          refine R_ps 3 (pc2 := 28) (L2 := [some (vr (some a0)), some (vr (some a1)), some (vr (some a2)), some (vr (some a3)), some (vr (some a4)), some (vi ((J x5) + J 5)), some (vi (J x_921)), some (vi (J x_925)), none]) (st2 := []) rfl ?_
          rw [show ((J x5) + J 5) = J (x5 + 5) from J_add' rfl rfl]
          exact R_drop k (LE_of (L := [some (vr (some a0)), some (vr (some a1)), some (vr (some a2)), some (vr (some a3)), some (vr (some a4)), some (vi (J (x5 + 5))), none, none, none]) (L2 := [some (vr (some a0)), some (vr (some a1)), some (vr (some a2)), some (vr (some a3)), some (vr (some a4)), some (vi (J (x5 + 5))), some (vi (J x_921)), some (vi (J x_925)), none]) ⟨rfl, rfl, rfl, rfl, rfl, rfl, trivial⟩)
        · have k := k.1 (Classical.not_not.mp c_932)
          refine R_ps 2 (pc2 := 2400) (L2 := [some (vr (some a0)), some (vr (some a1)), some (vr (some a2)), some (vr (some a3)), some (vr (some a4)), some (vi (J x5)), some (vi (J x_921)), some (vi (J x_925)), none]) (st2 := [vi (J 0), vr (some a3)]) rfl ?_
          obtain ⟨t_934, k⟩ := k
          refine R_zlald (i := 0) rfl t4 t_934 ?_
          refine R_ps 3 (pc2 := 2405) (L2 := [some (vr (some a0)), some (vr (some a1)), some (vr (some a2)), some (vr (some a3)), some (vr (some a4)), some (vi (J x5)), some (vi (J x_921)), some (vi (J x_925)), none]) (st2 := [vi (lg_cmp (gl h_928 a3 (Int.toNat 0)) ((J x_925).toInt64))]) rfl ?_
          rw [show (lg_cmp (gl h_928 a3 (Int.toNat 0)) ((J x_925).toInt64)) = J (zlc (gl h_928 a3 (Int.toNat 0)) ((J x_925).toInt64)) from J_lc']
          refine R_zif0 (x := zlc (gl h_928 a3 (Int.toNat 0)) ((J x_925).toInt64)) rfl (zlc_in _ _) (fun c_935 => ?_) (fun c_935 => ?_)
          · have k := k.1 c_935
            refine R_ps 3 (pc2 := 28) (L2 := [some (vr (some a0)), some (vr (some a1)), some (vr (some a2)), some (vr (some a3)), some (vr (some a4)), some (vi ((J x5) + J 5)), some (vi (J x_921)), some (vi (J x_925)), none]) (st2 := []) rfl ?_
            rw [show ((J x5) + J 5) = J (x5 + 5) from J_add' rfl rfl]
            exact R_drop k (LE_of (L := [some (vr (some a0)), some (vr (some a1)), some (vr (some a2)), some (vr (some a3)), some (vr (some a4)), some (vi (J (x5 + 5))), none, none, none]) (L2 := [some (vr (some a0)), some (vr (some a1)), some (vr (some a2)), some (vr (some a3)), some (vr (some a4)), some (vi (J (x5 + 5))), some (vi (J x_921)), some (vi (J x_925)), none]) ⟨rfl, rfl, rfl, rfl, rfl, rfl, trivial⟩)
          · have k := k.2 c_935
            refine R_ps 1 (pc2 := 2409) (L2 := [some (vr (some a0)), some (vr (some a1)), some (vr (some a2)), some (vr (some a3)), some (vr (some a4)), some (vi (J x5)), some (vi (J x_921)), some (vi (J x_925)), none]) (st2 := [vi (J 0)]) rfl ?_
            exact R_zzret (x := 0) rfl rfl (Or.inl rfl) (R_zr (x := 0) (K := K) (by decide) k)
      · have k := k.2 c_931
        refine R_ps 1 (pc2 := 2392) (L2 := [some (vr (some a0)), some (vr (some a1)), some (vr (some a2)), some (vr (some a3)), some (vr (some a4)), some (vi (J x5)), some (vi (J x_921)), some (vi (J x_925)), none]) (st2 := [vi (J 0)]) rfl ?_
        exact R_zzret (x := 0) rfl rfl (Or.inl rfl) (R_zr (x := 0) (K := K) (by decide) k)
    replace k := k.2 c_7
    show WP T N _ 2413 _ _ _ _
    refine R_ps 2 (pc2 := 28) (L2 := [some (vr (some a0)), some (vr (some a1)), some (vr (some a2)), some (vr (some a3)), some (vr (some a4)), some (vi ((J x5) + J 5)), none, none, none]) (st2 := []) rfl ?_
    rw [show ((J x5) + J 5) = J (x5 + 5) from J_add' rfl rfl]
    exact k
