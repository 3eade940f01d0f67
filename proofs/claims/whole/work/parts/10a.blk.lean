/-! WHAT IS TO BE SHOWN OF EACH METHOD, by program (gen_z.py): 0 to 58 -/
/-- DroneCorridors$Closures.<init> -/
theorem z0 {T N : Nat → Nat} {h : PH} {w : Nat} {K : PH → Prop} (t0 : T w = 1) (k : ((T (nx h) = 24 ∧ 96 = (N (nx h) : Int) ∧ N (nx h) ≤ 65536) ∧ ∀ a_3 h_4, a_3 = nx h → h_4 = grow h (N (nx h)) → ∀ h_9, h_9 = sr h_4 w 0 (some a_3) → K h_9)) : CV T N 0 [vr (some w)] h K := by
  show WP T N 0 0 [some (vr (some w))] [] h _
  refine R_ps 1 (pc2 := 1) (L2 := [some (vr (some w))]) (st2 := [vr (some w)]) rfl ?_
  refine R_jdk (st2 := []) rfl rfl rfl rfl rfl rfl rfl rfl ?_
  refine R_ps 2 (pc2 := 7) (L2 := [some (vr (some w))]) (st2 := [vi (J 96), vr (some w)]) rfl ?_
  obtain ⟨t_7, k⟩ := k
  refine R_znewa (n := 96) rfl t_7 ?_
  generalize e_6 : grow h (N (nx h)) = h_4
  generalize e_5 : nx h = a_3
  replace k := k a_3 h_4 e_5.symm e_6.symm
  refine R_putR rfl t0 ?_
  show WP T N _ _ _ _ (sr h_4 w 0 (some a_3)) _
  generalize e_10 : sr h_4 w 0 (some a_3) = h_9
  replace k := k h_9 e_10.symm
  exact R_ret rfl rfl ⟨rfl, k⟩
/-- DroneCorridors$Closures.isClosed -/
theorem z1 {T N : Nat → Nat} {h : PH} {w : Nat} {x1 : Int} {x2 : Int} {K : Int → PH → Prop} (t0 : T w = 1) (r1 : In x1) (r2 : In x2) (k : (((x1 < 0 → (K 0 h)) ∧ (¬ (x1 < 0) → (∃ a_5, (gr h w 0) = some a_5 ∧ 21 ≤ T a_5 ∧ In (N a_5 : Int) ∧ ((x1 < (N a_5 : Int) → (∃ a_13, (gr h w 0) = some a_13 ∧ T a_13 = 24 ∧ (0 ≤ x1 ∧ x1 < (N a_13 : Int) ∧ x1 < 2147483648) ∧ (((zlc (((gl h a_13 (Int.toNat x1)) >>> ((J x2).toInt64 &&& 63)) &&& 1) 0) = 0 → (K 0 h)) ∧ (¬ ((zlc (((gl h a_13 (Int.toNat x1)) >>> ((J x2).toInt64 &&& 63)) &&& 1) 0) = 0) → (K 1 h))))) ∧ (¬ (x1 < (N a_5 : Int)) → (K 0 h)))))))) : ZI T N 1 [vr (some w), vi (J x1), vi (J x2)] h K := by
  show WP T N 1 0 [some (vr (some w)), some (vi (J x1)), some (vi (J x2))] [] h _
  refine R_ps 1 (pc2 := 1) (L2 := [some (vr (some w)), some (vi (J x1)), some (vi (J x2))]) (st2 := [vi (J x1)]) rfl ?_
  refine R_zif0 (x := x1) rfl r1 (fun c_1 => ?_) (fun c_1 => ?_)
  · have k := k.1 c_1
    refine R_ps 1 (pc2 := 33) (L2 := [some (vr (some w)), some (vi (J x1)), some (vi (J x2))]) (st2 := [vi (J 0)]) rfl ?_
    exact R_zzret (x := 0) rfl rfl (Or.inl rfl) (R_zr (x := 0) (K := K) (by decide) k)
  · have k := k.2 c_1
    refine R_ps 2 (pc2 := 6) (L2 := [some (vr (some w)), some (vi (J x1)), some (vi (J x2))]) (st2 := [vr (some w), vi (J x1)]) rfl ?_
    refine R_getR rfl t0 ?_
    obtain ⟨a_5, e_6, k⟩ := k
    rw [e_6]
    obtain ⟨t_7, k⟩ := k
    refine R_zalen rfl t_7 ?_
    obtain ⟨t_9, k⟩ := k
    refine R_zif (x := x1) (z := (N a_5 : Int)) rfl r1 t_9 (fun c_8 => ?_) (fun c_8 => ?_)
    · have k := k.2 c_8
      refine R_ps 1 (pc2 := 33) (L2 := [some (vr (some w)), some (vi (J x1)), some (vi (J x2))]) (st2 := [vi (J 0)]) rfl ?_
      exact R_zzret (x := 0) rfl rfl (Or.inl rfl) (R_zr (x := 0) (K := K) (by decide) k)
    · have k := k.1 (Classical.not_not.mp c_8)
      refine R_ps 1 (pc2 := 14) (L2 := [some (vr (some w)), some (vi (J x1)), some (vi (J x2))]) (st2 := [vr (some w)]) rfl ?_
      refine R_getR rfl t0 ?_
      refine R_ps 1 (pc2 := 18) (L2 := [some (vr (some w)), some (vi (J x1)), some (vi (J x2))]) (st2 := [vi (J x1), vr (gr h w 0)]) rfl ?_
      obtain ⟨a_13, e_14, k⟩ := k
      rw [e_14]
      obtain ⟨t_15, k⟩ := k
      obtain ⟨t_16, k⟩ := k
      refine R_zlald (i := x1) rfl t_15 t_16 ?_
      refine R_ps 6 (pc2 := 25) (L2 := [some (vr (some w)), some (vi (J x1)), some (vi (J x2))]) (st2 := [vi (lg_cmp (((gl h a_13 (Int.toNat x1)) >>> ((J x2).toInt64 &&& 63)) &&& 1) 0)]) rfl ?_
      rw [show (lg_cmp (((gl h a_13 (Int.toNat x1)) >>> ((J x2).toInt64 &&& 63)) &&& 1) 0) = J (zlc (((gl h a_13 (Int.toNat x1)) >>> ((J x2).toInt64 &&& 63)) &&& 1) 0) from J_lc']
      refine R_zif0 (x := zlc (((gl h a_13 (Int.toNat x1)) >>> ((J x2).toInt64 &&& 63)) &&& 1) 0) rfl (zlc_in _ _) (fun c_17 => ?_) (fun c_17 => ?_)
      · have k := k.1 c_17
        refine R_ps 1 (pc2 := 33) (L2 := [some (vr (some w)), some (vi (J x1)), some (vi (J x2))]) (st2 := [vi (J 0)]) rfl ?_
        exact R_zzret (x := 0) rfl rfl (Or.inl rfl) (R_zr (x := 0) (K := K) (by decide) k)
      · have k := k.2 c_17
        refine R_ps 2 (pc2 := 33) (L2 := [some (vr (some w)), some (vi (J x1)), some (vi (J x2))]) (st2 := [vi (J 1)]) rfl ?_
        exact R_zzret (x := 1) rfl rfl (Or.inr rfl) (R_zr (x := 1) (K := K) (by decide) k)
/-- DroneCorridors$Closures.openAll -/
theorem z2 {T N : Nat → Nat} {h : PH} {w : Nat} {K : PH → Prop} (t0 : T w = 1) (k : (CV T N 253 [vr (gr h w 0), vl 0] h (fun h_3 => (K h_3)))) : CV T N 2 [vr (some w)] h K := by
  show WP T N 2 0 [some (vr (some w))] [] h _
  refine R_ps 1 (pc2 := 1) (L2 := [some (vr (some w))]) (st2 := [vr (some w)]) rfl ?_
  refine R_getR rfl t0 ?_
  refine R_ps 1 (pc2 := 5) (L2 := [some (vr (some w))]) (st2 := [vl 0, vr (gr h w 0)]) rfl ?_
  refine R_cV (as := [vr (gr h w 0), vl 0]) rfl rfl ⟨Nat.le_of_ble_eq_true rfl, Nat.le_of_ble_eq_true rfl, rfl, (Or.inl rfl)⟩ rfl rfl k (fun h_3 k => ?_)
  exact R_ret rfl rfl ⟨rfl, k⟩
/-- DroneCorridors$Closures.closeFences -/
theorem z3 {T N : Nat → Nat} {h : PH} {w : Nat} {a1 : Nat} {K : PH → Prop} (k : (WV T N 3 2 [some (vr (some w)), some (vr (some a1)), some (vi (J 0)), none, none, none, none, none] [] h K)) : CV T N 3 [vr (some w), vr (some a1)] h K := by
  show WP T N 3 0 [some (vr (some w)), some (vr (some a1)), none, none, none, none, none, none] [] h _
  refine R_ps 2 (pc2 := 2) (L2 := [some (vr (some w)), some (vr (some a1)), some (vi (J 0)), none, none, none, none, none]) (st2 := []) rfl ?_
  exact k
theorem z3_2 {T N : Nat → Nat} {h : PH} {w : Nat} {a1 : Nat} {x2 : Int} {K : PH → Prop} (t0 : T a1 = 10) (r2 : In x2) (k : (((x2 < (ai h a1 4) → (CR T N 90 [vr (some a1), vi (J x2)] h (fun x_6 h_5 => (((x_6 = none → (WV T N 3 2 [some (vr (some w)), some (vr (some a1)), some (vi (J (x2 + 1))), none, none, none, none, none] [] h_5 K)) ∧ (∀ a_8, x_6 = some a_8 → (T a_8 = 4 ∧ CR T N 89 [vr (some a1), vi (J (ai h_5 a_8 0))] h_5 (fun x_15 h_14 => (((x_15 = none → (WV T N 3 2 [some (vr (some w)), some (vr (some a1)), some (vi (J (x2 + 1))), none, none, none, none, none] [] h_14 K)) ∧ (∀ a_17, x_15 = some a_17 → (T a_17 = 2 ∧ CL T N 7 [vi (J ((((ai h_14 a_8 2) - (ai h_14 a_17 2)) + 1) - (ai h_14 a1 0))), vi (J (((ai h_14 a_8 3) - 1) - (ai h_14 a1 0)))] h_14 (fun x_27 h_26 => (WV T N 3 78 [some (vr (some w)), some (vr (some a1)), some (vi (J x2)), some (vr (some a_8)), none, some (vl x_27), none, some (vi (J 0))] [] h_26 K)))))))))))))) ∧ (¬ (x2 < (ai h a1 4)) → (K h))))) : WV T N 3 2 [some (vr (some w)), some (vr (some a1)), some (vi (J x2)), none, none, none, none, none] [] h K := by
  show WP T N 3 2 [some (vr (some w)), some (vr (some a1)), some (vi (J x2)), none, none, none, none, none] [] h _
  refine R_ps 2 (pc2 := 4) (L2 := [some (vr (some w)), some (vr (some a1)), some (vi (J x2)), none, none, none, none, none]) (st2 := [vr (some a1), vi (J x2)]) rfl ?_
  refine R_zgetI (z := 4) rfl t0 rfl ?_
  refine R_zif (x := x2) (z := ai h a1 4) rfl r2 (ai_in _ _ _) (fun c_2 => ?_) (fun c_2 => ?_)
  · have k := k.2 c_2
    exact R_ret rfl rfl ⟨rfl, k⟩
  · have k := k.1 (Classical.not_not.mp c_2)
    refine R_ps 2 (pc2 := 12) (L2 := [some (vr (some w)), some (vr (some a1)), some (vi (J x2)), none, none, none, none, none]) (st2 := [vi (J x2), vr (some a1)]) rfl ?_
    refine R_cR (as := [vr (some a1), vi (J x2)]) rfl rfl ⟨Nat.le_of_ble_eq_true rfl, Nat.le_of_ble_eq_true rfl, rfl, (Or.inr ⟨_, rfl, t0⟩)⟩ rfl rfl k (fun x_6 h_5 k => ?_)
    refine R_ps 2 (pc2 := 17) (L2 := [some (vr (some w)), some (vr (some a1)), some (vi (J x2)), some (vr x_6), none, none, none, none]) (st2 := [vr x_6]) rfl ?_
    rcases null_or (x_6) with e_9 | ⟨a_8, e_9⟩
    · have k := k.1 e_9
      rw [e_9]
      refine R_nonnull rfl (fun _ => ?_) (fun _ c_7 => nomatch c_7)
      refine R_ps 4 (pc2 := 36) (L2 := [some (vr (some w)), some (vr (some a1)), some (vi (J x2)), some (vr none), some (vr none), none, none, none]) (st2 := [vr none]) rfl ?_
      refine R_nonnull rfl (fun _ => ?_) (fun _ c_10 => nomatch c_10)
      refine R_ps 3 (pc2 := 2) (L2 := [some (vr (some w)), some (vr (some a1)), some (vi ((J x2) + J 1)), some (vr none), some (vr none), none, none, none]) (st2 := []) rfl ?_
      rw [show ((J x2) + J 1) = J (x2 + 1) from J_add' rfl rfl]
      exact R_drop k (LE_of (L := [some (vr (some w)), some (vr (some a1)), some (vi (J (x2 + 1))), none, none, none, none, none]) (L2 := [some (vr (some w)), some (vr (some a1)), some (vi (J (x2 + 1))), some (vr none), some (vr none), none, none, none]) ⟨rfl, rfl, rfl, trivial⟩)
    · have k := k.2 a_8 e_9
      rw [e_9]
      refine R_nonnull rfl (fun c_7 => nomatch c_7) (fun _ _ => ?_)
      refine R_ps 2 (pc2 := 26) (L2 := [some (vr (some w)), some (vr (some a1)), some (vi (J x2)), some (vr (some a_8)), none, none, none, none]) (st2 := [vr (some a_8), vr (some a1)]) rfl ?_
      obtain ⟨t_12, k⟩ := k
      refine R_zgetI (z := 0) rfl t_12 rfl ?_
      refine R_cR (as := [vr (some a1), vi (J (ai h_5 a_8 0))]) rfl rfl ⟨Nat.le_of_ble_eq_true rfl, Nat.le_of_ble_eq_true rfl, rfl, (Or.inr ⟨_, rfl, t0⟩)⟩ rfl rfl k (fun x_15 h_14 k => ?_)
      refine R_ps 2 (pc2 := 36) (L2 := [some (vr (some w)), some (vr (some a1)), some (vi (J x2)), some (vr (some a_8)), some (vr x_15), none, none, none]) (st2 := [vr x_15]) rfl ?_
      rcases null_or (x_15) with e_18 | ⟨a_17, e_18⟩
      · have k := k.1 e_18
        rw [e_18]
        refine R_nonnull rfl (fun _ => ?_) (fun _ c_16 => nomatch c_16)
        refine R_ps 3 (pc2 := 2) (L2 := [some (vr (some w)), some (vr (some a1)), some (vi ((J x2) + J 1)), some (vr (some a_8)), some (vr none), none, none, none]) (st2 := []) rfl ?_
        rw [show ((J x2) + J 1) = J (x2 + 1) from J_add' rfl rfl]
        exact R_drop k (LE_of (L := [some (vr (some w)), some (vr (some a1)), some (vi (J (x2 + 1))), none, none, none, none, none]) (L2 := [some (vr (some w)), some (vr (some a1)), some (vi (J (x2 + 1))), some (vr (some a_8)), some (vr none), none, none, none]) ⟨rfl, rfl, rfl, trivial⟩)
      · have k := k.2 a_17 e_18
        rw [e_18]
        refine R_nonnull rfl (fun c_16 => nomatch c_16) (fun _ _ => ?_)
        refine R_ps 1 (pc2 := 43) (L2 := [some (vr (some w)), some (vr (some a1)), some (vi (J x2)), some (vr (some a_8)), some (vr (some a_17)), none, none, none]) (st2 := [vr (some a_8)]) rfl ?_
        refine R_zgetI (z := 2) rfl t_12 rfl ?_
        refine R_ps 1 (pc2 := 48) (L2 := [some (vr (some w)), some (vr (some a1)), some (vi (J x2)), some (vr (some a_8)), some (vr (some a_17)), none, none, none]) (st2 := [vr (some a_17), vi (J (ai h_14 a_8 2))]) rfl ?_
        obtain ⟨t_21, k⟩ := k
        refine R_zgetI (z := 2) rfl t_21 rfl ?_
        refine R_ps 4 (pc2 := 55) (L2 := [some (vr (some w)), some (vr (some a1)), some (vi (J x2)), some (vr (some a_8)), some (vr (some a_17)), none, none, none]) (st2 := [vr (some a1), vi (((J (ai h_14 a_8 2)) - (J (ai h_14 a_17 2))) + (J 1))]) rfl ?_
        rw [show (((J (ai h_14 a_8 2)) - (J (ai h_14 a_17 2))) + (J 1)) = J (((ai h_14 a_8 2) - (ai h_14 a_17 2)) + 1) from J_add' (J_sub' rfl rfl) rfl]
        refine R_zgetI (z := 0) rfl t0 rfl ?_
        refine R_ps 2 (pc2 := 60) (L2 := [some (vr (some w)), some (vr (some a1)), some (vi (J x2)), some (vr (some a_8)), some (vr (some a_17)), none, none, none]) (st2 := [vr (some a_8), vi ((J (((ai h_14 a_8 2) - (ai h_14 a_17 2)) + 1)) - (J (ai h_14 a1 0)))]) rfl ?_
        rw [show ((J (((ai h_14 a_8 2) - (ai h_14 a_17 2)) + 1)) - (J (ai h_14 a1 0))) = J ((((ai h_14 a_8 2) - (ai h_14 a_17 2)) + 1) - (ai h_14 a1 0)) from J_sub' rfl rfl]
        refine R_zgetI (z := 3) rfl t_12 rfl ?_
        refine R_ps 3 (pc2 := 66) (L2 := [some (vr (some w)), some (vr (some a1)), some (vi (J x2)), some (vr (some a_8)), some (vr (some a_17)), none, none, none]) (st2 := [vr (some a1), vi ((J (ai h_14 a_8 3)) - (J 1)), vi (J ((((ai h_14 a_8 2) - (ai h_14 a_17 2)) + 1) - (ai h_14 a1 0)))]) rfl ?_
        rw [show ((J (ai h_14 a_8 3)) - (J 1)) = J ((ai h_14 a_8 3) - 1) from J_sub' rfl rfl]
        refine R_zgetI (z := 0) rfl t0 rfl ?_
        refine R_ps 1 (pc2 := 70) (L2 := [some (vr (some w)), some (vr (some a1)), some (vi (J x2)), some (vr (some a_8)), some (vr (some a_17)), none, none, none]) (st2 := [vi ((J ((ai h_14 a_8 3) - 1)) - (J (ai h_14 a1 0))), vi (J ((((ai h_14 a_8 2) - (ai h_14 a_17 2)) + 1) - (ai h_14 a1 0)))]) rfl ?_
        rw [show ((J ((ai h_14 a_8 3) - 1)) - (J (ai h_14 a1 0))) = J (((ai h_14 a_8 3) - 1) - (ai h_14 a1 0)) from J_sub' rfl rfl]
        refine R_cL (as := [vi (J ((((ai h_14 a_8 2) - (ai h_14 a_17 2)) + 1) - (ai h_14 a1 0))), vi (J (((ai h_14 a_8 3) - 1) - (ai h_14 a1 0)))]) rfl rfl ⟨Nat.le_of_ble_eq_true rfl, Nat.le_of_ble_eq_true rfl, rfl, (Or.inl rfl)⟩ rfl rfl k (fun x_27 h_26 k => ?_)
        refine R_ps 3 (pc2 := 78) (L2 := [some (vr (some w)), some (vr (some a1)), some (vi (J x2)), some (vr (some a_8)), some (vr (some a_17)), some (vl x_27), none, some (vi (J 0))]) (st2 := []) rfl ?_
        exact R_drop k (LE_of (L := [some (vr (some w)), some (vr (some a1)), some (vi (J x2)), some (vr (some a_8)), none, some (vl x_27), none, some (vi (J 0))]) (L2 := [some (vr (some w)), some (vr (some a1)), some (vi (J x2)), some (vr (some a_8)), some (vr (some a_17)), some (vl x_27), none, some (vi (J 0))]) ⟨rfl, rfl, rfl, rfl, rfl, rfl, trivial⟩)
theorem z3_78 {T N : Nat → Nat} {h : PH} {w : Nat} {a1 : Nat} {x2 : Int} {a3 : Nat} {y5 : Int64} {x7 : Int} {K : PH → Prop} (t0 : T a3 = 4) (t1 : T w = 1) (r2 : In x2) (r7 : In x7) (k : (((x7 < 3 → (ZI T N 145 [vi (J (ai h a3 1)), vi (J x7)] h (fun x_5 h_4 => (((x_5 = 0 → (WV T N 3 78 [some (vr (some w)), some (vr (some a1)), some (vi (J x2)), some (vr (some a3)), none, some (vl y5), none, some (vi (J (x7 + 1)))] [] h_4 K)) ∧ (¬ (x_5 = 0) → (ZI T N 8 [vi (J (ai h_4 a3 0)), vi (J 0), vi (J x7)] h_4 (fun x_11 h_10 => (CV T N 6 [vr (some w), vi (J x_11), vl y5] h_10 (fun h_14 => (ZI T N 8 [vi (J (ai h_14 a3 0)), vi (J 1), vi (J x7)] h_14 (fun x_19 h_18 => (CV T N 6 [vr (some w), vi (J x_19), vl y5] h_18 (fun h_22 => (WV T N 3 78 [some (vr (some w)), some (vr (some a1)), some (vi (J x2)), some (vr (some a3)), none, some (vl y5), none, some (vi (J (x7 + 1)))] [] h_22 K))))))))))))))) ∧ (¬ (x7 < 3) → (WV T N 3 2 [some (vr (some w)), some (vr (some a1)), some (vi (J (x2 + 1))), none, none, none, none, none] [] h K))))) : WV T N 3 78 [some (vr (some w)), some (vr (some a1)), some (vi (J x2)), some (vr (some a3)), none, some (vl y5), none, some (vi (J x7))] [] h K := by
  show WP T N 3 78 [some (vr (some w)), some (vr (some a1)), some (vi (J x2)), some (vr (some a3)), none, some (vl y5), none, some (vi (J x7))] [] h _
  refine R_ps 2 (pc2 := 81) (L2 := [some (vr (some w)), some (vr (some a1)), some (vi (J x2)), some (vr (some a3)), none, some (vl y5), none, some (vi (J x7))]) (st2 := [vi (J 3), vi (J x7)]) rfl ?_
  refine R_zif (x := x7) (z := 3) rfl r7 (by decide) (fun c_1 => ?_) (fun c_1 => ?_)
  · have k := k.2 c_1
    refine R_ps 2 (pc2 := 2) (L2 := [some (vr (some w)), some (vr (some a1)), some (vi ((J x2) + J 1)), some (vr (some a3)), none, some (vl y5), none, some (vi (J x7))]) (st2 := []) rfl ?_
    rw [show ((J x2) + J 1) = J (x2 + 1) from J_add' rfl rfl]
    exact R_drop k (LE_of (L := [some (vr (some w)), some (vr (some a1)), some (vi (J (x2 + 1))), none, none, none, none, none]) (L2 := [some (vr (some w)), some (vr (some a1)), some (vi (J (x2 + 1))), some (vr (some a3)), none, some (vl y5), none, some (vi (J x7))]) ⟨rfl, rfl, rfl, trivial⟩)
  · have k := k.1 (Classical.not_not.mp c_1)
    refine R_ps 1 (pc2 := 85) (L2 := [some (vr (some w)), some (vr (some a1)), some (vi (J x2)), some (vr (some a3)), none, some (vl y5), none, some (vi (J x7))]) (st2 := [vr (some a3)]) rfl ?_
    refine R_zgetI (z := 1) rfl t0 rfl ?_
    refine R_ps 1 (pc2 := 90) (L2 := [some (vr (some w)), some (vr (some a1)), some (vi (J x2)), some (vr (some a3)), none, some (vl y5), none, some (vi (J x7))]) (st2 := [vi (J x7), vi (J (ai h a3 1))]) rfl ?_
    refine R_zcI (as := [vi (J (ai h a3 1)), vi (J x7)]) rfl rfl ⟨Nat.le_of_ble_eq_true rfl, Nat.le_of_ble_eq_true rfl, rfl, (Or.inl rfl)⟩ rfl rfl k (fun x_5 h_4 r_6 k => ?_)
    refine R_zif0 (x := x_5) rfl r_6 (fun c_7 => ?_) (fun c_7 => ?_)
    · have k := k.1 c_7
      refine R_ps 2 (pc2 := 78) (L2 := [some (vr (some w)), some (vr (some a1)), some (vi (J x2)), some (vr (some a3)), none, some (vl y5), none, some (vi ((J x7) + J 1))]) (st2 := []) rfl ?_
      rw [show ((J x7) + J 1) = J (x7 + 1) from J_add' rfl rfl]
      exact k
    · have k := k.2 c_7
      refine R_ps 2 (pc2 := 98) (L2 := [some (vr (some w)), some (vr (some a1)), some (vi (J x2)), some (vr (some a3)), none, some (vl y5), none, some (vi (J x7))]) (st2 := [vr (some a3), vr (some w)]) rfl ?_
      refine R_zgetI (z := 0) rfl t0 rfl ?_
      refine R_ps 2 (pc2 := 104) (L2 := [some (vr (some w)), some (vr (some a1)), some (vi (J x2)), some (vr (some a3)), none, some (vl y5), none, some (vi (J x7))]) (st2 := [vi (J x7), vi (J 0), vi (J (ai h_4 a3 0)), vr (some w)]) rfl ?_
      refine R_zcI (as := [vi (J (ai h_4 a3 0)), vi (J 0), vi (J x7)]) rfl rfl ⟨Nat.le_of_ble_eq_true rfl, Nat.le_of_ble_eq_true rfl, rfl, (Or.inl rfl)⟩ rfl rfl k (fun x_11 h_10 r_12 k => ?_)
      refine R_ps 1 (pc2 := 109) (L2 := [some (vr (some w)), some (vr (some a1)), some (vi (J x2)), some (vr (some a3)), none, some (vl y5), none, some (vi (J x7))]) (st2 := [vl y5, vi (J x_11), vr (some w)]) rfl ?_
      refine R_cV (as := [vr (some w), vi (J x_11), vl y5]) rfl rfl ⟨Nat.le_of_ble_eq_true rfl, Nat.le_of_ble_eq_true rfl, rfl, (Or.inr ⟨_, rfl, t1⟩)⟩ rfl rfl k (fun h_14 k => ?_)
      refine R_ps 2 (pc2 := 114) (L2 := [some (vr (some w)), some (vr (some a1)), some (vi (J x2)), some (vr (some a3)), none, some (vl y5), none, some (vi (J x7))]) (st2 := [vr (some a3), vr (some w)]) rfl ?_
      refine R_zgetI (z := 0) rfl t0 rfl ?_
      refine R_ps 2 (pc2 := 120) (L2 := [some (vr (some w)), some (vr (some a1)), some (vi (J x2)), some (vr (some a3)), none, some (vl y5), none, some (vi (J x7))]) (st2 := [vi (J x7), vi (J 1), vi (J (ai h_14 a3 0)), vr (some w)]) rfl ?_
      refine R_zcI (as := [vi (J (ai h_14 a3 0)), vi (J 1), vi (J x7)]) rfl rfl ⟨Nat.le_of_ble_eq_true rfl, Nat.le_of_ble_eq_true rfl, rfl, (Or.inl rfl)⟩ rfl rfl k (fun x_19 h_18 r_20 k => ?_)
      refine R_ps 1 (pc2 := 125) (L2 := [some (vr (some w)), some (vr (some a1)), some (vi (J x2)), some (vr (some a3)), none, some (vl y5), none, some (vi (J x7))]) (st2 := [vl y5, vi (J x_19), vr (some w)]) rfl ?_
      refine R_cV (as := [vr (some w), vi (J x_19), vl y5]) rfl rfl ⟨Nat.le_of_ble_eq_true rfl, Nat.le_of_ble_eq_true rfl, rfl, (Or.inr ⟨_, rfl, t1⟩)⟩ rfl rfl k (fun h_22 k => ?_)
      refine R_ps 2 (pc2 := 78) (L2 := [some (vr (some w)), some (vr (some a1)), some (vi (J x2)), some (vr (some a3)), none, some (vl y5), none, some (vi ((J x7) + J 1))]) (st2 := []) rfl ?_
      rw [show ((J x7) + J 1) = J (x7 + 1) from J_add' rfl rfl]
      exact k
/-- DroneCorridors$Closures.closeOthers -/
theorem z4 {T N : Nat → Nat} {h : PH} {w : Nat} {a1 : Nat} {x2 : Int} {K : PH → Prop} (r2 : In x2) (k : (WV T N 4 2 [some (vr (some w)), some (vr (some a1)), some (vi (J x2)), some (vi (J 0)), none, none, none] [] h K)) : CV T N 4 [vr (some w), vr (some a1), vi (J x2)] h K := by
  show WP T N 4 0 [some (vr (some w)), some (vr (some a1)), some (vi (J x2)), none, none, none, none] [] h _
  refine R_ps 2 (pc2 := 2) (L2 := [some (vr (some w)), some (vr (some a1)), some (vi (J x2)), some (vi (J 0)), none, none, none]) (st2 := []) rfl ?_
  exact k
theorem z4_2 {T N : Nat → Nat} {h : PH} {w : Nat} {a1 : Nat} {x2 : Int} {x3 : Int} {K : PH → Prop} (t0 : T a1 = 10) (r2 : In x2) (r3 : In x3) (k : (((x3 < (ai h a1 5) → (CR T N 91 [vr (some a1), vi (J x3)] h (fun x_6 h_5 => (((x_6 = none → (WV T N 4 2 [some (vr (some w)), some (vr (some a1)), some (vi (J x2)), some (vi (J (x3 + 1))), none, none, none] [] h_5 K)) ∧ (∀ a_8, x_6 = some a_8 → (((x3 = x2 → (WV T N 4 2 [some (vr (some w)), some (vr (some a1)), some (vi (J x2)), some (vi (J (x3 + 1))), none, none, none] [] h_5 K)) ∧ (¬ (x3 = x2) → (WV T N 4 33 [some (vr (some w)), some (vr (some a1)), some (vi (J x2)), some (vi (J x3)), some (vr (some a_8)), some (vi (J 0)), none] [] h_5 K)))))))))) ∧ (¬ (x3 < (ai h a1 5)) → (K h))))) : WV T N 4 2 [some (vr (some w)), some (vr (some a1)), some (vi (J x2)), some (vi (J x3)), none, none, none] [] h K := by
  show WP T N 4 2 [some (vr (some w)), some (vr (some a1)), some (vi (J x2)), some (vi (J x3)), none, none, none] [] h _
  refine R_ps 2 (pc2 := 4) (L2 := [some (vr (some w)), some (vr (some a1)), some (vi (J x2)), some (vi (J x3)), none, none, none]) (st2 := [vr (some a1), vi (J x3)]) rfl ?_
  refine R_zgetI (z := 5) rfl t0 rfl ?_
  refine R_zif (x := x3) (z := ai h a1 5) rfl r3 (ai_in _ _ _) (fun c_2 => ?_) (fun c_2 => ?_)
  · have k := k.2 c_2
    exact R_ret rfl rfl ⟨rfl, k⟩
  · have k := k.1 (Classical.not_not.mp c_2)
    refine R_ps 2 (pc2 := 12) (L2 := [some (vr (some w)), some (vr (some a1)), some (vi (J x2)), some (vi (J x3)), none, none, none]) (st2 := [vi (J x3), vr (some a1)]) rfl ?_
    refine R_cR (as := [vr (some a1), vi (J x3)]) rfl rfl ⟨Nat.le_of_ble_eq_true rfl, Nat.le_of_ble_eq_true rfl, rfl, (Or.inr ⟨_, rfl, t0⟩)⟩ rfl rfl k (fun x_6 h_5 k => ?_)
    refine R_ps 2 (pc2 := 19) (L2 := [some (vr (some w)), some (vr (some a1)), some (vi (J x2)), some (vi (J x3)), some (vr x_6), none, none]) (st2 := [vr x_6]) rfl ?_
    rcases null_or (x_6) with e_9 | ⟨a_8, e_9⟩
    · have k := k.1 e_9
      rw [e_9]
      refine R_null rfl (fun _ => ?_) (fun _ c_7 => nomatch c_7)
      refine R_ps 2 (pc2 := 2) (L2 := [some (vr (some w)), some (vr (some a1)), some (vi (J x2)), some (vi ((J x3) + J 1)), some (vr none), none, none]) (st2 := []) rfl ?_
      rw [show ((J x3) + J 1) = J (x3 + 1) from J_add' rfl rfl]
      exact R_drop k (LE_of (L := [some (vr (some w)), some (vr (some a1)), some (vi (J x2)), some (vi (J (x3 + 1))), none, none, none]) (L2 := [some (vr (some w)), some (vr (some a1)), some (vi (J x2)), some (vi (J (x3 + 1))), some (vr none), none, none]) ⟨rfl, rfl, rfl, rfl, trivial⟩)
    · have k := k.2 a_8 e_9
      rw [e_9]
      refine R_null rfl (fun c_7 => nomatch c_7) (fun _ _ => ?_)
      refine R_ps 2 (pc2 := 24) (L2 := [some (vr (some w)), some (vr (some a1)), some (vi (J x2)), some (vi (J x3)), some (vr (some a_8)), none, none]) (st2 := [vi (J x2), vi (J x3)]) rfl ?_
      refine R_zif (x := x3) (z := x2) rfl r3 r2 (fun c_10 => ?_) (fun c_10 => ?_)
      · have k := k.2 c_10
        refine R_ps 2 (pc2 := 33) (L2 := [some (vr (some w)), some (vr (some a1)), some (vi (J x2)), some (vi (J x3)), some (vr (some a_8)), some (vi (J 0)), none]) (st2 := []) rfl ?_
        exact k
      · have k := k.1 (Classical.not_not.mp c_10)
        refine R_ps 3 (pc2 := 2) (L2 := [some (vr (some w)), some (vr (some a1)), some (vi (J x2)), some (vi ((J x3) + J 1)), some (vr (some a_8)), none, none]) (st2 := []) rfl ?_
        rw [show ((J x3) + J 1) = J (x3 + 1) from J_add' rfl rfl]
        exact R_drop k (LE_of (L := [some (vr (some w)), some (vr (some a1)), some (vi (J x2)), some (vi (J (x3 + 1))), none, none, none]) (L2 := [some (vr (some w)), some (vr (some a1)), some (vi (J x2)), some (vi (J (x3 + 1))), some (vr (some a_8)), none, none]) ⟨rfl, rfl, rfl, rfl, trivial⟩)
theorem z4_33 {T N : Nat → Nat} {h : PH} {w : Nat} {a1 : Nat} {x2 : Int} {x3 : Int} {a4 : Nat} {x5 : Int} {K : PH → Prop} (t0 : T a4 = 3) (t1 : T a1 = 10) (t2 : T w = 1) (r2 : In x2) (r3 : In x3) (r5 : In x5) (k : (((x5 < (ai h a4 8) → (CR T N 17 [vr (some a4), vi (J x5)] h (fun x_5 h_4 => (((x_5 = none → (WV T N 4 33 [some (vr (some w)), some (vr (some a1)), some (vi (J x2)), some (vi (J x3)), some (vr (some a4)), some (vi (J (x5 + 1))), none] [] h_4 K)) ∧ (∀ a_7, x_5 = some a_7 → (CV T N 5 [vr (some w), vr (some a_7), vi (J (ai h_4 a1 0))] h_4 (fun h_11 => (WV T N 4 33 [some (vr (some w)), some (vr (some a1)), some (vi (J x2)), some (vi (J x3)), some (vr (some a4)), some (vi (J (x5 + 1))), none] [] h_11 K))))))))) ∧ (¬ (x5 < (ai h a4 8)) → (WV T N 4 2 [some (vr (some w)), some (vr (some a1)), some (vi (J x2)), some (vi (J (x3 + 1))), none, none, none] [] h K))))) : WV T N 4 33 [some (vr (some w)), some (vr (some a1)), some (vi (J x2)), some (vi (J x3)), some (vr (some a4)), some (vi (J x5)), none] [] h K := by
  show WP T N 4 33 [some (vr (some w)), some (vr (some a1)), some (vi (J x2)), some (vi (J x3)), some (vr (some a4)), some (vi (J x5)), none] [] h _
  refine R_ps 2 (pc2 := 37) (L2 := [some (vr (some w)), some (vr (some a1)), some (vi (J x2)), some (vi (J x3)), some (vr (some a4)), some (vi (J x5)), none]) (st2 := [vr (some a4), vi (J x5)]) rfl ?_
  refine R_zgetI (z := 8) rfl t0 rfl ?_
  refine R_zif (x := x5) (z := ai h a4 8) rfl r5 (ai_in _ _ _) (fun c_2 => ?_) (fun c_2 => ?_)
  · have k := k.2 c_2
    refine R_ps 2 (pc2 := 2) (L2 := [some (vr (some w)), some (vr (some a1)), some (vi (J x2)), some (vi ((J x3) + J 1)), some (vr (some a4)), some (vi (J x5)), none]) (st2 := []) rfl ?_
    rw [show ((J x3) + J 1) = J (x3 + 1) from J_add' rfl rfl]
    exact R_drop k (LE_of (L := [some (vr (some w)), some (vr (some a1)), some (vi (J x2)), some (vi (J (x3 + 1))), none, none, none]) (L2 := [some (vr (some w)), some (vr (some a1)), some (vi (J x2)), some (vi (J (x3 + 1))), some (vr (some a4)), some (vi (J x5)), none]) ⟨rfl, rfl, rfl, rfl, trivial⟩)
  · have k := k.1 (Classical.not_not.mp c_2)
    refine R_ps 2 (pc2 := 47) (L2 := [some (vr (some w)), some (vr (some a1)), some (vi (J x2)), some (vi (J x3)), some (vr (some a4)), some (vi (J x5)), none]) (st2 := [vi (J x5), vr (some a4)]) rfl ?_
    refine R_cR (as := [vr (some a4), vi (J x5)]) rfl rfl ⟨Nat.le_of_ble_eq_true rfl, Nat.le_of_ble_eq_true rfl, rfl, (Or.inr ⟨_, rfl, t0⟩)⟩ rfl rfl k (fun x_5 h_4 k => ?_)
    refine R_ps 2 (pc2 := 54) (L2 := [some (vr (some w)), some (vr (some a1)), some (vi (J x2)), some (vi (J x3)), some (vr (some a4)), some (vi (J x5)), some (vr x_5)]) (st2 := [vr x_5]) rfl ?_
    rcases null_or (x_5) with e_8 | ⟨a_7, e_8⟩
    · have k := k.1 e_8
      rw [e_8]
      refine R_null rfl (fun _ => ?_) (fun _ c_6 => nomatch c_6)
      refine R_ps 2 (pc2 := 33) (L2 := [some (vr (some w)), some (vr (some a1)), some (vi (J x2)), some (vi (J x3)), some (vr (some a4)), some (vi ((J x5) + J 1)), some (vr none)]) (st2 := []) rfl ?_
      rw [show ((J x5) + J 1) = J (x5 + 1) from J_add' rfl rfl]
      exact R_drop k (LE_of (L := [some (vr (some w)), some (vr (some a1)), some (vi (J x2)), some (vi (J x3)), some (vr (some a4)), some (vi (J (x5 + 1))), none]) (L2 := [some (vr (some w)), some (vr (some a1)), some (vi (J x2)), some (vi (J x3)), some (vr (some a4)), some (vi (J (x5 + 1))), some (vr none)]) ⟨rfl, rfl, rfl, rfl, rfl, rfl, trivial⟩)
    · have k := k.2 a_7 e_8
      rw [e_8]
      refine R_null rfl (fun c_6 => nomatch c_6) (fun _ _ => ?_)
      refine R_ps 3 (pc2 := 61) (L2 := [some (vr (some w)), some (vr (some a1)), some (vi (J x2)), some (vi (J x3)), some (vr (some a4)), some (vi (J x5)), some (vr (some a_7))]) (st2 := [vr (some a1), vr (some a_7), vr (some w)]) rfl ?_
      refine R_zgetI (z := 0) rfl t1 rfl ?_
      refine R_cV (as := [vr (some w), vr (some a_7), vi (J (ai h_4 a1 0))]) rfl rfl ⟨Nat.le_of_ble_eq_true rfl, Nat.le_of_ble_eq_true rfl, rfl, (Or.inr ⟨_, rfl, t2⟩)⟩ rfl rfl k (fun h_11 k => ?_)
      refine R_ps 2 (pc2 := 33) (L2 := [some (vr (some w)), some (vr (some a1)), some (vi (J x2)), some (vi (J x3)), some (vr (some a4)), some (vi ((J x5) + J 1)), some (vr (some a_7))]) (st2 := []) rfl ?_
      rw [show ((J x5) + J 1) = J (x5 + 1) from J_add' rfl rfl]
      exact R_drop k (LE_of (L := [some (vr (some w)), some (vr (some a1)), some (vi (J x2)), some (vi (J x3)), some (vr (some a4)), some (vi (J (x5 + 1))), none]) (L2 := [some (vr (some w)), some (vr (some a1)), some (vi (J x2)), some (vi (J x3)), some (vr (some a4)), some (vi (J (x5 + 1))), some (vr (some a_7))]) ⟨rfl, rfl, rfl, rfl, rfl, rfl, trivial⟩)
/-- DroneCorridors$Closures.closeAround -/
theorem z5 {T N : Nat → Nat} {h : PH} {w : Nat} {a1 : Nat} {x2 : Int} {K : PH → Prop} (t0 : T a1 = 7) (t1 : T w = 1) (r2 : In x2) (k : (ZI T N 8 [vi (J (ai h a1 0)), vi (J (ai h a1 1)), vi (J (ai h a1 2))] h (fun x_9 h_8 => (CL T N 7 [vi (J (((ai h a1 3) - x2) - 1)), vi (J (((ai h a1 3) - x2) + 1))] h_8 (fun x_13 h_12 => (CV T N 6 [vr (some w), vi (J x_9), vl x_13] h_12 (fun h_15 => ((((ai h_15 a1 1) = 0 → (ZI T N 8 [vi (J (ai h_15 a1 0)), vi (J 1), vi (J (ai h_15 a1 2))] h_15 (fun x_36 h_35 => (CL T N 7 [vi (J ((((ai h a1 3) - x2) - ((ai h a1 4) - (ai h a1 3))) + 1)), vi (J ((((ai h a1 3) - x2) + ((ai h a1 4) - (ai h a1 3))) - 1))] h_35 (fun x_40 h_39 => (CV T N 6 [vr (some w), vi (J x_36), vl x_40] h_39 (fun h_42 => (K h_42)))))))) ∧ (¬ ((ai h_15 a1 1) = 0) → (ZI T N 8 [vi (J (ai h_15 a1 0)), vi (J 0), vi (J (ai h_15 a1 2))] h_15 (fun x_23 h_22 => (CL T N 7 [vi (J ((((ai h a1 3) - x2) - ((ai h a1 4) - (ai h a1 3))) + 1)), vi (J ((((ai h a1 3) - x2) + ((ai h a1 4) - (ai h a1 3))) - 1))] h_22 (fun x_27 h_26 => (CV T N 6 [vr (some w), vi (J x_23), vl x_27] h_26 (fun h_29 => (K h_29))))))))))))))))) : CV T N 5 [vr (some w), vr (some a1), vi (J x2)] h K := by
  show WP T N 5 0 [some (vr (some w)), some (vr (some a1)), some (vi (J x2)), none, none, none] [] h _
  refine R_ps 1 (pc2 := 1) (L2 := [some (vr (some w)), some (vr (some a1)), some (vi (J x2)), none, none, none]) (st2 := [vr (some a1)]) rfl ?_
  refine R_zgetI (z := 3) rfl t0 rfl ?_
  refine R_ps 4 (pc2 := 8) (L2 := [some (vr (some w)), some (vr (some a1)), some (vi (J x2)), some (vi ((J (ai h a1 3)) - (J x2))), none, none]) (st2 := [vr (some a1)]) rfl ?_
  rw [show ((J (ai h a1 3)) - (J x2)) = J ((ai h a1 3) - x2) from J_sub' rfl rfl]
  refine R_zgetI (z := 4) rfl t0 rfl ?_
  refine R_ps 1 (pc2 := 12) (L2 := [some (vr (some w)), some (vr (some a1)), some (vi (J x2)), some (vi (J ((ai h a1 3) - x2))), none, none]) (st2 := [vr (some a1), vi (J (ai h a1 4))]) rfl ?_
  refine R_zgetI (z := 3) rfl t0 rfl ?_
  refine R_ps 4 (pc2 := 20) (L2 := [some (vr (some w)), some (vr (some a1)), some (vi (J x2)), some (vi (J ((ai h a1 3) - x2))), some (vi ((J (ai h a1 4)) - (J (ai h a1 3)))), none]) (st2 := [vr (some a1), vr (some w)]) rfl ?_
  rw [show ((J (ai h a1 4)) - (J (ai h a1 3))) = J ((ai h a1 4) - (ai h a1 3)) from J_sub' rfl rfl]
  refine R_zgetI (z := 0) rfl t0 rfl ?_
  refine R_ps 1 (pc2 := 24) (L2 := [some (vr (some w)), some (vr (some a1)), some (vi (J x2)), some (vi (J ((ai h a1 3) - x2))), some (vi (J ((ai h a1 4) - (ai h a1 3)))), none]) (st2 := [vr (some a1), vi (J (ai h a1 0)), vr (some w)]) rfl ?_
  refine R_zgetI (z := 1) rfl t0 rfl ?_
  refine R_ps 1 (pc2 := 28) (L2 := [some (vr (some w)), some (vr (some a1)), some (vi (J x2)), some (vi (J ((ai h a1 3) - x2))), some (vi (J ((ai h a1 4) - (ai h a1 3)))), none]) (st2 := [vr (some a1), vi (J (ai h a1 1)), vi (J (ai h a1 0)), vr (some w)]) rfl ?_
  refine R_zgetI (z := 2) rfl t0 rfl ?_
  refine R_zcI (as := [vi (J (ai h a1 0)), vi (J (ai h a1 1)), vi (J (ai h a1 2))]) rfl rfl ⟨Nat.le_of_ble_eq_true rfl, Nat.le_of_ble_eq_true rfl, rfl, (Or.inl rfl)⟩ rfl rfl k (fun x_9 h_8 r_10 k => ?_)
  refine R_ps 6 (pc2 := 40) (L2 := [some (vr (some w)), some (vr (some a1)), some (vi (J x2)), some (vi (J ((ai h a1 3) - x2))), some (vi (J ((ai h a1 4) - (ai h a1 3)))), none]) (st2 := [vi ((J ((ai h a1 3) - x2)) + (J 1)), vi ((J ((ai h a1 3) - x2)) - (J 1)), vi (J x_9), vr (some w)]) rfl ?_
  rw [show ((J ((ai h a1 3) - x2)) + (J 1)) = J (((ai h a1 3) - x2) + 1) from J_add' rfl rfl]
  rw [show ((J ((ai h a1 3) - x2)) - (J 1)) = J (((ai h a1 3) - x2) - 1) from J_sub' rfl rfl]
  refine R_cL (as := [vi (J (((ai h a1 3) - x2) - 1)), vi (J (((ai h a1 3) - x2) + 1))]) rfl rfl ⟨Nat.le_of_ble_eq_true rfl, Nat.le_of_ble_eq_true rfl, rfl, (Or.inl rfl)⟩ rfl rfl k (fun x_13 h_12 k => ?_)
  refine R_cV (as := [vr (some w), vi (J x_9), vl x_13]) rfl rfl ⟨Nat.le_of_ble_eq_true rfl, Nat.le_of_ble_eq_true rfl, rfl, (Or.inr ⟨_, rfl, t1⟩)⟩ rfl rfl k (fun h_15 k => ?_)
  refine R_ps 1 (pc2 := 47) (L2 := [some (vr (some w)), some (vr (some a1)), some (vi (J x2)), some (vi (J ((ai h a1 3) - x2))), some (vi (J ((ai h a1 4) - (ai h a1 3)))), none]) (st2 := [vr (some a1)]) rfl ?_
  refine R_zgetI (z := 1) rfl t0 rfl ?_
  refine R_zif0 (x := ai h_15 a1 1) rfl (ai_in _ _ _) (fun c_18 => ?_) (fun c_18 => ?_)
  · have k := k.2 c_18
    refine R_ps 4 (pc2 := 62) (L2 := [some (vr (some w)), some (vr (some a1)), some (vi (J x2)), some (vi (J ((ai h a1 3) - x2))), some (vi (J ((ai h a1 4) - (ai h a1 3)))), some (vi (J 0))]) (st2 := [vr (some a1), vr (some w)]) rfl ?_
    refine R_zgetI (z := 0) rfl t0 rfl ?_
    refine R_ps 2 (pc2 := 68) (L2 := [some (vr (some w)), some (vr (some a1)), some (vi (J x2)), some (vi (J ((ai h a1 3) - x2))), some (vi (J ((ai h a1 4) - (ai h a1 3)))), some (vi (J 0))]) (st2 := [vr (some a1), vi (J 0), vi (J (ai h_15 a1 0)), vr (some w)]) rfl ?_
    refine R_zgetI (z := 2) rfl t0 rfl ?_
    refine R_zcI (as := [vi (J (ai h_15 a1 0)), vi (J 0), vi (J (ai h_15 a1 2))]) rfl rfl ⟨Nat.le_of_ble_eq_true rfl, Nat.le_of_ble_eq_true rfl, rfl, (Or.inl rfl)⟩ rfl rfl k (fun x_23 h_22 r_24 k => ?_)
    refine R_ps 10 (pc2 := 86) (L2 := [some (vr (some w)), some (vr (some a1)), some (vi (J x2)), some (vi (J ((ai h a1 3) - x2))), some (vi (J ((ai h a1 4) - (ai h a1 3)))), some (vi (J 0))]) (st2 := [vi (((J ((ai h a1 3) - x2)) + (J ((ai h a1 4) - (ai h a1 3)))) - (J 1)), vi (((J ((ai h a1 3) - x2)) - (J ((ai h a1 4) - (ai h a1 3)))) + (J 1)), vi (J x_23), vr (some w)]) rfl ?_
    rw [show (((J ((ai h a1 3) - x2)) + (J ((ai h a1 4) - (ai h a1 3)))) - (J 1)) = J ((((ai h a1 3) - x2) + ((ai h a1 4) - (ai h a1 3))) - 1) from J_sub' (J_add' rfl rfl) rfl]
    rw [show (((J ((ai h a1 3) - x2)) - (J ((ai h a1 4) - (ai h a1 3)))) + (J 1)) = J ((((ai h a1 3) - x2) - ((ai h a1 4) - (ai h a1 3))) + 1) from J_add' (J_sub' rfl rfl) rfl]
    refine R_cL (as := [vi (J ((((ai h a1 3) - x2) - ((ai h a1 4) - (ai h a1 3))) + 1)), vi (J ((((ai h a1 3) - x2) + ((ai h a1 4) - (ai h a1 3))) - 1))]) rfl rfl ⟨Nat.le_of_ble_eq_true rfl, Nat.le_of_ble_eq_true rfl, rfl, (Or.inl rfl)⟩ rfl rfl k (fun x_27 h_26 k => ?_)
    refine R_cV (as := [vr (some w), vi (J x_23), vl x_27]) rfl rfl ⟨Nat.le_of_ble_eq_true rfl, Nat.le_of_ble_eq_true rfl, rfl, (Or.inr ⟨_, rfl, t1⟩)⟩ rfl rfl k (fun h_29 k => ?_)
    exact R_ret rfl rfl ⟨rfl, k⟩
  · have k := k.1 (Classical.not_not.mp c_18)
    refine R_ps 5 (pc2 := 62) (L2 := [some (vr (some w)), some (vr (some a1)), some (vi (J x2)), some (vi (J ((ai h a1 3) - x2))), some (vi (J ((ai h a1 4) - (ai h a1 3)))), some (vi (J 1))]) (st2 := [vr (some a1), vr (some w)]) rfl ?_
    refine R_zgetI (z := 0) rfl t0 rfl ?_
    refine R_ps 2 (pc2 := 68) (L2 := [some (vr (some w)), some (vr (some a1)), some (vi (J x2)), some (vi (J ((ai h a1 3) - x2))), some (vi (J ((ai h a1 4) - (ai h a1 3)))), some (vi (J 1))]) (st2 := [vr (some a1), vi (J 1), vi (J (ai h_15 a1 0)), vr (some w)]) rfl ?_
    refine R_zgetI (z := 2) rfl t0 rfl ?_
    refine R_zcI (as := [vi (J (ai h_15 a1 0)), vi (J 1), vi (J (ai h_15 a1 2))]) rfl rfl ⟨Nat.le_of_ble_eq_true rfl, Nat.le_of_ble_eq_true rfl, rfl, (Or.inl rfl)⟩ rfl rfl k (fun x_36 h_35 r_37 k => ?_)
    refine R_ps 10 (pc2 := 86) (L2 := [some (vr (some w)), some (vr (some a1)), some (vi (J x2)), some (vi (J ((ai h a1 3) - x2))), some (vi (J ((ai h a1 4) - (ai h a1 3)))), some (vi (J 1))]) (st2 := [vi (((J ((ai h a1 3) - x2)) + (J ((ai h a1 4) - (ai h a1 3)))) - (J 1)), vi (((J ((ai h a1 3) - x2)) - (J ((ai h a1 4) - (ai h a1 3)))) + (J 1)), vi (J x_36), vr (some w)]) rfl ?_
    rw [show (((J ((ai h a1 3) - x2)) + (J ((ai h a1 4) - (ai h a1 3)))) - (J 1)) = J ((((ai h a1 3) - x2) + ((ai h a1 4) - (ai h a1 3))) - 1) from J_sub' (J_add' rfl rfl) rfl]
    rw [show (((J ((ai h a1 3) - x2)) - (J ((ai h a1 4) - (ai h a1 3)))) + (J 1)) = J ((((ai h a1 3) - x2) - ((ai h a1 4) - (ai h a1 3))) + 1) from J_add' (J_sub' rfl rfl) rfl]
    refine R_cL (as := [vi (J ((((ai h a1 3) - x2) - ((ai h a1 4) - (ai h a1 3))) + 1)), vi (J ((((ai h a1 3) - x2) + ((ai h a1 4) - (ai h a1 3))) - 1))]) rfl rfl ⟨Nat.le_of_ble_eq_true rfl, Nat.le_of_ble_eq_true rfl, rfl, (Or.inl rfl)⟩ rfl rfl k (fun x_40 h_39 k => ?_)
    refine R_cV (as := [vr (some w), vi (J x_36), vl x_40]) rfl rfl ⟨Nat.le_of_ble_eq_true rfl, Nat.le_of_ble_eq_true rfl, rfl, (Or.inr ⟨_, rfl, t1⟩)⟩ rfl rfl k (fun h_42 k => ?_)
    exact R_ret rfl rfl ⟨rfl, k⟩
/-- DroneCorridors$Closures.close -/
theorem z6 {T N : Nat → Nat} {h : PH} {w : Nat} {x1 : Int} {y2 : Int64} {K : PH → Prop} (t0 : T w = 1) (r1 : In x1) (k : (((x1 < 0 → (K h)) ∧ (¬ (x1 < 0) → (∃ a_5, (gr h w 0) = some a_5 ∧ 21 ≤ T a_5 ∧ In (N a_5 : Int) ∧ ((x1 < (N a_5 : Int) → (∃ a_13, (gr h w 0) = some a_13 ∧ T a_13 = 24 ∧ (0 ≤ x1 ∧ x1 < (N a_13 : Int) ∧ x1 < 2147483648) ∧ ∀ h_18, h_18 = sL h a_13 (Int.toNat x1) ((gl h a_13 (Int.toNat x1)) ||| y2) → K h_18)) ∧ (¬ (x1 < (N a_5 : Int)) → (K h)))))))) : CV T N 6 [vr (some w), vi (J x1), vl y2] h K := by
  show WP T N 6 0 [some (vr (some w)), some (vi (J x1)), some (vl y2), none] [] h _
  refine R_ps 1 (pc2 := 1) (L2 := [some (vr (some w)), some (vi (J x1)), some (vl y2), none]) (st2 := [vi (J x1)]) rfl ?_
  refine R_zif0 (x := x1) rfl r1 (fun c_1 => ?_) (fun c_1 => ?_)
  · have k := k.1 c_1
    exact R_ret rfl rfl ⟨rfl, k⟩
  · have k := k.2 c_1
    refine R_ps 2 (pc2 := 6) (L2 := [some (vr (some w)), some (vi (J x1)), some (vl y2), none]) (st2 := [vr (some w), vi (J x1)]) rfl ?_
    refine R_getR rfl t0 ?_
    obtain ⟨a_5, e_6, k⟩ := k
    rw [e_6]
    obtain ⟨t_7, k⟩ := k
    refine R_zalen rfl t_7 ?_
    obtain ⟨t_9, k⟩ := k
    refine R_zif (x := x1) (z := (N a_5 : Int)) rfl r1 t_9 (fun c_8 => ?_) (fun c_8 => ?_)
    · have k := k.2 c_8
      exact R_ret rfl rfl ⟨rfl, k⟩
    · have k := k.1 (Classical.not_not.mp c_8)
      refine R_ps 1 (pc2 := 14) (L2 := [some (vr (some w)), some (vi (J x1)), some (vl y2), none]) (st2 := [vr (some w)]) rfl ?_
      refine R_getR rfl t0 ?_
      refine R_ps 2 (pc2 := 19) (L2 := [some (vr (some w)), some (vi (J x1)), some (vl y2), none]) (st2 := [vi (J x1), vr (gr h w 0), vi (J x1), vr (gr h w 0)]) rfl ?_
      obtain ⟨a_13, e_14, k⟩ := k
      rw [e_14]
      obtain ⟨t_15, k⟩ := k
      obtain ⟨t_16, k⟩ := k
      refine R_zlald (i := x1) rfl t_15 t_16 ?_
      refine R_ps 2 (pc2 := 22) (L2 := [some (vr (some w)), some (vi (J x1)), some (vl y2), none]) (st2 := [vl ((gl h a_13 (Int.toNat x1)) ||| y2), vi (J x1), vr (some a_13)]) rfl ?_
      refine R_zlast (i := x1) rfl t_15 t_16  ?_
      show WP T N _ _ _ _ (sL h a_13 (Int.toNat x1) ((gl h a_13 (Int.toNat x1)) ||| y2)) _
      generalize e_19 : sL h a_13 (Int.toNat x1) ((gl h a_13 (Int.toNat x1)) ||| y2) = h_18
      replace k := k h_18 e_19.symm
      exact R_ret rfl rfl ⟨rfl, k⟩
/-- DroneCorridors$Closures.between -/
theorem z7 {T N : Nat → Nat} {h : PH} {x0 : Int} {x1 : Int} {K : Int64 → PH → Prop} (r0 : In x0) (r1 : In x1) (k : (In (if x0 < 0 then 0 else x0) ∧ In (if 39 < x1 then 39 else x1) ∧ (((if 39 < x1 then 39 else x1) < (if x0 < 0 then 0 else x0) → (K 0 h)) ∧ (¬ ((if 39 < x1 then 39 else x1) < (if x0 < 0 then 0 else x0)) → (K ((1 <<< ((J ((if 39 < x1 then 39 else x1) + 1)).toInt64 &&& 63)) - (1 <<< ((J (if x0 < 0 then 0 else x0)).toInt64 &&& 63))) h))))) : CL T N 7 [vi (J x0), vi (J x1)] h K := by
  show WP T N 7 0 [some (vi (J x0)), some (vi (J x1)), none, none] [] h _
  refine R_ps 2 (pc2 := 2) (L2 := [some (vi (J x0)), some (vi (J x1)), none, none]) (st2 := [vi (J 0), vi (J x0)]) rfl ?_
  refine R_jdkz (st2 := [vi (if (J x0) < (J 0) then (J 0) else (J x0))]) (st3 := [vi (J (if x0 < 0 then 0 else x0))]) rfl rfl rfl rfl rfl rfl rfl rfl (congrArg (fun q => vi q :: []) (J_max' r0 (by decide))) ?_
  refine R_ps 3 (pc2 := 9) (L2 := [some (vi (J x0)), some (vi (J x1)), some (vi (J (if x0 < 0 then 0 else x0))), none]) (st2 := [vi (J 39), vi (J x1)]) rfl ?_
  refine R_jdkz (st2 := [vi (if (J 39) < (J x1) then (J 39) else (J x1))]) (st3 := [vi (J (if 39 < x1 then 39 else x1))]) rfl rfl rfl rfl rfl rfl rfl rfl (congrArg (fun q => vi q :: []) (J_min' r1 (by decide))) ?_
  refine R_ps 3 (pc2 := 15) (L2 := [some (vi (J x0)), some (vi (J x1)), some (vi (J (if x0 < 0 then 0 else x0))), some (vi (J (if 39 < x1 then 39 else x1)))]) (st2 := [vi (J (if 39 < x1 then 39 else x1)), vi (J (if x0 < 0 then 0 else x0))]) rfl ?_
  obtain ⟨t_4, k⟩ := k
  obtain ⟨t_5, k⟩ := k
  refine R_zif (x := (if x0 < 0 then 0 else x0)) (z := (if 39 < x1 then 39 else x1)) rfl t_4 t_5 (fun c_3 => ?_) (fun c_3 => ?_)
  · have k := k.2 c_3
    refine R_ps 4 (pc2 := 26) (L2 := [some (vi (J x0)), some (vi (J x1)), some (vi (J (if x0 < 0 then 0 else x0))), some (vi (J (if 39 < x1 then 39 else x1)))]) (st2 := [vi ((J (if 39 < x1 then 39 else x1)) + (J 1)), vl 1]) rfl ?_
    rw [show ((J (if 39 < x1 then 39 else x1)) + (J 1)) = J ((if 39 < x1 then 39 else x1) + 1) from J_add' rfl rfl]
    refine R_ps 5 (pc2 := 31) (L2 := [some (vi (J x0)), some (vi (J x1)), some (vi (J (if x0 < 0 then 0 else x0))), some (vi (J (if 39 < x1 then 39 else x1)))]) (st2 := [vl ((1 <<< ((J ((if 39 < x1 then 39 else x1) + 1)).toInt64 &&& 63)) - (1 <<< ((J (if x0 < 0 then 0 else x0)).toInt64 &&& 63)))]) rfl ?_
    exact R_lret rfl rfl ⟨_, rfl, k⟩
  · have k := k.1 (Classical.not_not.mp c_3)
    refine R_ps 2 (pc2 := 31) (L2 := [some (vi (J x0)), some (vi (J x1)), some (vi (J (if x0 < 0 then 0 else x0))), some (vi (J (if 39 < x1 then 39 else x1)))]) (st2 := [vl 0]) rfl ?_
    exact R_lret rfl rfl ⟨_, rfl, k⟩
/-- DroneCorridors$Closures.laneOf -/
theorem z8 {T N : Nat → Nat} {h : PH} {x0 : Int} {x1 : Int} {x2 : Int} {K : Int → PH → Prop} (r0 : In x0) (r1 : In x1) (r2 : In x2) (k : (In ((((x0 * 2) + x1) * 3) + x2) ∧ K ((((x0 * 2) + x1) * 3) + x2) h)) : ZI T N 8 [vi (J x0), vi (J x1), vi (J x2)] h K := by
  show WP T N 8 0 [some (vi (J x0)), some (vi (J x1)), some (vi (J x2))] [] h _
  refine R_ps 9 (pc2 := 9) (L2 := [some (vi (J x0)), some (vi (J x1)), some (vi (J x2))]) (st2 := [vi (((((J x0) * (J 2)) + (J x1)) * (J 3)) + (J x2))]) rfl ?_
  rw [show (((((J x0) * (J 2)) + (J x1)) * (J 3)) + (J x2)) = J ((((x0 * 2) + x1) * 3) + x2) from J_add' (J_mul' (J_add' (J_mul' rfl rfl) rfl) rfl) rfl]
  obtain ⟨t_2, k⟩ := k
  exact R_iret rfl rfl (R_zr (x := (((x0 * 2) + x1) * 3) + x2) (K := K) t_2 k)
/-- DroneCorridors$Corridor.<init> -/
theorem z9 {T N : Nat → Nat} {h : PH} {w : Nat} {K : PH → Prop} (k : (K h)) : CV T N 9 [vr (some w)] h K := by
  show WP T N 9 0 [some (vr (some w))] [] h _
  refine R_ps 1 (pc2 := 1) (L2 := [some (vr (some w))]) (st2 := [vr (some w)]) rfl ?_
  refine R_jdk (st2 := []) rfl rfl rfl rfl rfl rfl rfl rfl ?_
  exact R_ret rfl rfl ⟨rfl, k⟩
/-- DroneCorridors$Corridor.energyOf -/
theorem z10 {T N : Nat → Nat} {h : PH} {w : Nat} {x1 : Int} {K : Int → PH → Prop} (t0 : T w = 2) (r1 : In x1) (k : (((x1 = 0 → (In ((2 * (ai h w 2)) - (ai h w 3)) ∧ K ((2 * (ai h w 2)) - (ai h w 3)) h)) ∧ (¬ (x1 = 0) → (In ((2 * (ai h w 2)) + (ai h w 3)) ∧ K ((2 * (ai h w 2)) + (ai h w 3)) h))))) : ZI T N 10 [vr (some w), vi (J x1)] h K := by
  show WP T N 10 0 [some (vr (some w)), some (vi (J x1))] [] h _
  refine R_ps 1 (pc2 := 1) (L2 := [some (vr (some w)), some (vi (J x1))]) (st2 := [vi (J x1)]) rfl ?_
  refine R_zif0 (x := x1) rfl r1 (fun c_1 => ?_) (fun c_1 => ?_)
  · have k := k.2 c_1
    refine R_ps 2 (pc2 := 20) (L2 := [some (vr (some w)), some (vi (J x1))]) (st2 := [vr (some w), vi (J 2)]) rfl ?_
    refine R_zgetI (z := 2) rfl t0 rfl ?_
    refine R_ps 2 (pc2 := 25) (L2 := [some (vr (some w)), some (vi (J x1))]) (st2 := [vr (some w), vi ((J 2) * (J (ai h w 2)))]) rfl ?_
    rw [show ((J 2) * (J (ai h w 2))) = J (2 * (ai h w 2)) from J_mul' rfl rfl]
    refine R_zgetI (z := 3) rfl t0 rfl ?_
    refine R_ps 1 (pc2 := 29) (L2 := [some (vr (some w)), some (vi (J x1))]) (st2 := [vi ((J (2 * (ai h w 2))) + (J (ai h w 3)))]) rfl ?_
    rw [show ((J (2 * (ai h w 2))) + (J (ai h w 3))) = J ((2 * (ai h w 2)) + (ai h w 3)) from J_add' rfl rfl]
    obtain ⟨t_5, k⟩ := k
    exact R_iret rfl rfl (R_zr (x := (2 * (ai h w 2)) + (ai h w 3)) (K := K) t_5 k)
  · have k := k.1 (Classical.not_not.mp c_1)
    refine R_ps 2 (pc2 := 6) (L2 := [some (vr (some w)), some (vi (J x1))]) (st2 := [vr (some w), vi (J 2)]) rfl ?_
    refine R_zgetI (z := 2) rfl t0 rfl ?_
    refine R_ps 2 (pc2 := 11) (L2 := [some (vr (some w)), some (vi (J x1))]) (st2 := [vr (some w), vi ((J 2) * (J (ai h w 2)))]) rfl ?_
    rw [show ((J 2) * (J (ai h w 2))) = J (2 * (ai h w 2)) from J_mul' rfl rfl]
    refine R_zgetI (z := 3) rfl t0 rfl ?_
    refine R_ps 2 (pc2 := 29) (L2 := [some (vr (some w)), some (vi (J x1))]) (st2 := [vi ((J (2 * (ai h w 2))) - (J (ai h w 3)))]) rfl ?_
    rw [show ((J (2 * (ai h w 2))) - (J (ai h w 3))) = J ((2 * (ai h w 2)) - (ai h w 3)) from J_sub' rfl rfl]
    obtain ⟨t_9, k⟩ := k
    exact R_iret rfl rfl (R_zr (x := (2 * (ai h w 2)) - (ai h w 3)) (K := K) t_9 k)
/-- DroneCorridors$Corridor.beginOf -/
theorem z11 {T N : Nat → Nat} {h : PH} {w : Nat} {x1 : Int} {K : Int → PH → Prop} (t0 : T w = 2) (r1 : In x1) (k : (((x1 = 0 → (K (ai h w 0) h)) ∧ (¬ (x1 = 0) → (K (ai h w 1) h))))) : ZI T N 11 [vr (some w), vi (J x1)] h K := by
  show WP T N 11 0 [some (vr (some w)), some (vi (J x1))] [] h _
  refine R_ps 1 (pc2 := 1) (L2 := [some (vr (some w)), some (vi (J x1))]) (st2 := [vi (J x1)]) rfl ?_
  refine R_zif0 (x := x1) rfl r1 (fun c_1 => ?_) (fun c_1 => ?_)
  · have k := k.2 c_1
    refine R_ps 1 (pc2 := 12) (L2 := [some (vr (some w)), some (vi (J x1))]) (st2 := [vr (some w)]) rfl ?_
    refine R_zgetI (z := 1) rfl t0 rfl ?_
    exact R_iret rfl rfl (R_zr (x := ai h w 1) (K := K) (ai_in _ _ _) k)
  · have k := k.1 (Classical.not_not.mp c_1)
    refine R_ps 1 (pc2 := 5) (L2 := [some (vr (some w)), some (vi (J x1))]) (st2 := [vr (some w)]) rfl ?_
    refine R_zgetI (z := 0) rfl t0 rfl ?_
    refine R_ps 1 (pc2 := 15) (L2 := [some (vr (some w)), some (vi (J x1))]) (st2 := [vi (J (ai h w 0))]) rfl ?_
    exact R_iret rfl rfl (R_zr (x := ai h w 0) (K := K) (ai_in _ _ _) k)
/-- DroneCorridors$Corridor.endOf -/
theorem z12 {T N : Nat → Nat} {h : PH} {w : Nat} {x1 : Int} {K : Int → PH → Prop} (t0 : T w = 2) (r1 : In x1) (k : (((x1 = 0 → (K (ai h w 1) h)) ∧ (¬ (x1 = 0) → (K (ai h w 0) h))))) : ZI T N 12 [vr (some w), vi (J x1)] h K := by
  show WP T N 12 0 [some (vr (some w)), some (vi (J x1))] [] h _
  refine R_ps 1 (pc2 := 1) (L2 := [some (vr (some w)), some (vi (J x1))]) (st2 := [vi (J x1)]) rfl ?_
  refine R_zif0 (x := x1) rfl r1 (fun c_1 => ?_) (fun c_1 => ?_)
  · have k := k.2 c_1
    refine R_ps 1 (pc2 := 12) (L2 := [some (vr (some w)), some (vi (J x1))]) (st2 := [vr (some w)]) rfl ?_
    refine R_zgetI (z := 0) rfl t0 rfl ?_
    exact R_iret rfl rfl (R_zr (x := ai h w 0) (K := K) (ai_in _ _ _) k)
  · have k := k.1 (Classical.not_not.mp c_1)
    refine R_ps 1 (pc2 := 5) (L2 := [some (vr (some w)), some (vi (J x1))]) (st2 := [vr (some w)]) rfl ?_
    refine R_zgetI (z := 1) rfl t0 rfl ?_
    refine R_ps 1 (pc2 := 15) (L2 := [some (vr (some w)), some (vi (J x1))]) (st2 := [vi (J (ai h w 1))]) rfl ?_
    exact R_iret rfl rfl (R_zr (x := ai h w 1) (K := K) (ai_in _ _ _) k)
/-- DroneCorridors$Corridor.copy -/
theorem z13 {T N : Nat → Nat} {h : PH} {w : Nat} {a1 : Nat} {K : PH → Prop} (t0 : T a1 = 2) (t1 : T w = 2) (k : (∀ h_3, h_3 = wi h w 0 (ai h a1 0) → ∀ h_7, h_7 = wi h_3 w 1 (ai h_3 a1 1) → ∀ h_11, h_11 = wi h_7 w 2 (ai h_7 a1 2) → ∀ h_15, h_15 = wi h_11 w 3 (ai h_11 a1 3) → K h_15)) : CV T N 13 [vr (some w), vr (some a1)] h K := by
  show WP T N 13 0 [some (vr (some w)), some (vr (some a1))] [] h _
  refine R_ps 2 (pc2 := 2) (L2 := [some (vr (some w)), some (vr (some a1))]) (st2 := [vr (some a1), vr (some w)]) rfl ?_
  refine R_zgetI (z := 0) rfl t0 rfl ?_
  refine R_zputI (x := ai h a1 0) (z := 0) rfl t1 rfl ?_
  show WP T N _ _ _ _ (wi h w 0 (ai h a1 0)) _
  generalize e_4 : wi h w 0 (ai h a1 0) = h_3
  replace k := k h_3 e_4.symm
  refine R_ps 2 (pc2 := 10) (L2 := [some (vr (some w)), some (vr (some a1))]) (st2 := [vr (some a1), vr (some w)]) rfl ?_
  refine R_zgetI (z := 1) rfl t0 rfl ?_
  refine R_zputI (x := ai h_3 a1 1) (z := 1) rfl t1 rfl ?_
  show WP T N _ _ _ _ (wi h_3 w 1 (ai h_3 a1 1)) _
  generalize e_8 : wi h_3 w 1 (ai h_3 a1 1) = h_7
  replace k := k h_7 e_8.symm
  refine R_ps 2 (pc2 := 18) (L2 := [some (vr (some w)), some (vr (some a1))]) (st2 := [vr (some a1), vr (some w)]) rfl ?_
  refine R_zgetI (z := 2) rfl t0 rfl ?_
  refine R_zputI (x := ai h_7 a1 2) (z := 2) rfl t1 rfl ?_
  show WP T N _ _ _ _ (wi h_7 w 2 (ai h_7 a1 2)) _
  generalize e_12 : wi h_7 w 2 (ai h_7 a1 2) = h_11
  replace k := k h_11 e_12.symm
  refine R_ps 2 (pc2 := 26) (L2 := [some (vr (some w)), some (vr (some a1))]) (st2 := [vr (some a1), vr (some w)]) rfl ?_
  refine R_zgetI (z := 3) rfl t0 rfl ?_
  refine R_zputI (x := ai h_11 a1 3) (z := 3) rfl t1 rfl ?_
  show WP T N _ _ _ _ (wi h_11 w 3 (ai h_11 a1 3)) _
  generalize e_16 : wi h_11 w 3 (ai h_11 a1 3) = h_15
  replace k := k h_15 e_16.symm
  exact R_ret rfl rfl ⟨rfl, k⟩
/-- DroneCorridors$Drone.<init> -/
theorem z14 {T N : Nat → Nat} {h : PH} {w : Nat} {K : PH → Prop} (t0 : T w = 3) (k : ((T (nx h) = 22 ∧ 5 = (N (nx h) : Int) ∧ N (nx h) ≤ 65536) ∧ ∀ a_3 h_4, a_3 = nx h → h_4 = grow h (N (nx h)) → ∀ h_9, h_9 = sr h_4 w 7 (some a_3) → (T (nx h_9) = 37 ∧ 41 = (N (nx h_9) : Int) ∧ N (nx h_9) ≤ 65536) ∧ ∀ a_12 h_13, a_12 = nx h_9 → h_13 = grow h_9 (N (nx h_9)) → ∀ h_18, h_18 = sr h_13 w 9 (some a_12) → WV T N 14 22 [some (vr (some w)), some (vi (J 0))] [] h_18 K)) : CV T N 14 [vr (some w)] h K := by
  show WP T N 14 0 [some (vr (some w)), none] [] h _
  refine R_ps 1 (pc2 := 1) (L2 := [some (vr (some w)), none]) (st2 := [vr (some w)]) rfl ?_
  refine R_jdk (st2 := []) rfl rfl rfl rfl rfl rfl rfl rfl ?_
  refine R_ps 2 (pc2 := 6) (L2 := [some (vr (some w)), none]) (st2 := [vi (J 5), vr (some w)]) rfl ?_
  obtain ⟨t_7, k⟩ := k
  refine R_znewa (n := 5) rfl t_7 ?_
  generalize e_6 : grow h (N (nx h)) = h_4
  generalize e_5 : nx h = a_3
  replace k := k a_3 h_4 e_5.symm e_6.symm
  refine R_putR rfl t0 ?_
  show WP T N _ _ _ _ (sr h_4 w 7 (some a_3)) _
  generalize e_10 : sr h_4 w 7 (some a_3) = h_9
  replace k := k h_9 e_10.symm
  refine R_ps 2 (pc2 := 14) (L2 := [some (vr (some w)), none]) (st2 := [vi (J 41), vr (some w)]) rfl ?_
  obtain ⟨t_16, k⟩ := k
  refine R_zanew (n := 41) rfl t_16 ?_
  generalize e_15 : grow h_9 (N (nx h_9)) = h_13
  generalize e_14 : nx h_9 = a_12
  replace k := k a_12 h_13 e_14.symm e_15.symm
  refine R_putR rfl t0 ?_
  show WP T N _ _ _ _ (sr h_13 w 9 (some a_12)) _
  generalize e_19 : sr h_13 w 9 (some a_12) = h_18
  replace k := k h_18 e_19.symm
  refine R_ps 2 (pc2 := 22) (L2 := [some (vr (some w)), some (vi (J 0))]) (st2 := []) rfl ?_
  exact k
theorem z14_22 {T N : Nat → Nat} {h : PH} {w : Nat} {x1 : Int} {K : PH → Prop} (t0 : T w = 3) (r1 : In x1) (k : (∃ a_3, (gr h w 9) = some a_3 ∧ 21 ≤ T a_3 ∧ In (N a_3 : Int) ∧ ((x1 < (N a_3 : Int) → (T (nx h) = 7 ∧ ∀ a_11 h_12, a_11 = nx h → h_12 = grow h 5 → CV T N 54 [vr (some a_11)] h_12 (fun h_17 => (∃ a_20, (gr h w 9) = some a_20 ∧ (1 ≤ T a_11 ∧ T a_11 ≤ 12 ∧ T a_11 + 30 = T a_20) ∧ (0 ≤ x1 ∧ x1 < (N a_20 : Int) ∧ x1 < 2147483648) ∧ ∀ h_22, h_22 = sr h_17 a_20 (Int.toNat x1) (some a_11) → WV T N 14 22 [some (vr (some w)), some (vi (J (x1 + 1)))] [] h_22 K)))) ∧ (¬ (x1 < (N a_3 : Int)) → (K h))))) : WV T N 14 22 [some (vr (some w)), some (vi (J x1))] [] h K := by
  show WP T N 14 22 [some (vr (some w)), some (vi (J x1))] [] h _
  refine R_ps 2 (pc2 := 24) (L2 := [some (vr (some w)), some (vi (J x1))]) (st2 := [vr (some w), vi (J x1)]) rfl ?_
  refine R_getR rfl t0 ?_
  obtain ⟨a_3, e_4, k⟩ := k
  rw [e_4]
  obtain ⟨t_5, k⟩ := k
  refine R_zalen rfl t_5 ?_
  obtain ⟨t_7, k⟩ := k
  refine R_zif (x := x1) (z := (N a_3 : Int)) rfl r1 t_7 (fun c_6 => ?_) (fun c_6 => ?_)
  · have k := k.2 c_6
    exact R_ret rfl rfl ⟨rfl, k⟩
  · have k := k.1 (Classical.not_not.mp c_6)
    refine R_ps 1 (pc2 := 32) (L2 := [some (vr (some w)), some (vi (J x1))]) (st2 := [vr (some w)]) rfl ?_
    refine R_getR rfl t0 ?_
    refine R_ps 1 (pc2 := 36) (L2 := [some (vr (some w)), some (vi (J x1))]) (st2 := [vi (J x1), vr (gr h w 9)]) rfl ?_
    obtain ⟨t_15, k⟩ := k
    refine R_new rfl ⟨by decide, t_15⟩ ?_
    show WP T N _ _ _ _ (grow h 5) _
    generalize e_13 : nx h = a_11
    generalize e_14 : grow h 5 = h_12
    replace k := k a_11 h_12 e_13.symm e_14.symm
    refine R_ps 1 (pc2 := 40) (L2 := [some (vr (some w)), some (vi (J x1))]) (st2 := [vr (some a_11), vr (some a_11), vi (J x1), vr (gr h w 9)]) rfl ?_
    refine R_cV (as := [vr (some a_11)]) rfl rfl ⟨Nat.le_of_ble_eq_true rfl, Nat.le_of_ble_eq_true rfl, rfl, (Or.inr ⟨_, rfl, (e_13 ▸ t_15)⟩)⟩ rfl rfl k (fun h_17 k => ?_)
    obtain ⟨a_20, e_21, k⟩ := k
    rw [e_21]
    obtain ⟨t_24, k⟩ := k
    obtain ⟨t_25, k⟩ := k
    refine R_zaast (i := x1) rfl t_24 t_25  ?_
    show WP T N _ _ _ _ (sr h_17 a_20 (Int.toNat x1) (some a_11)) _
    generalize e_23 : sr h_17 a_20 (Int.toNat x1) (some a_11) = h_22
    replace k := k h_22 e_23.symm
    refine R_ps 2 (pc2 := 22) (L2 := [some (vr (some w)), some (vi ((J x1) + J 1))]) (st2 := []) rfl ?_
    rw [show ((J x1) + J 1) = J (x1 + 1) from J_add' rfl rfl]
    exact k
/-- DroneCorridors$Drone.setUp -/
theorem z15 {T N : Nat → Nat} {h : PH} {w : Nat} {x1 : Int} {x2 : Int} {x3 : Int} {K : PH → Prop} (t0 : T w = 3) (r1 : In x1) (r2 : In x2) (r3 : In x3) (k : (((x2 = 0 → (∀ h_3, h_3 = wi h w 0 1 → ∀ h_6, h_6 = wi h_3 w 1 x3 → ∀ h_9, h_9 = wi h_6 w 2 0 → ∀ h_12, h_12 = wi h_9 w 3 x1 → ∀ h_15, h_15 = wi h_12 w 4 (-1) → ∀ h_18, h_18 = wi h_15 w 5 x3 → ∀ h_21, h_21 = wi h_18 w 6 0 → CV T N 254 [vr (gr h_21 w 7), vi (J 0)] h_21 (fun h_25 => (∀ h_28, h_28 = wi h_25 w 8 0 → K h_28)))) ∧ (¬ (x2 = 0) → (∀ h_32, h_32 = wi h w 0 0 → ∀ h_35, h_35 = wi h_32 w 1 x3 → ∀ h_38, h_38 = wi h_35 w 2 0 → ∀ h_41, h_41 = wi h_38 w 3 x1 → ∀ h_44, h_44 = wi h_41 w 4 (-1) → ∀ h_47, h_47 = wi h_44 w 5 x3 → ∀ h_50, h_50 = wi h_47 w 6 0 → CV T N 254 [vr (gr h_50 w 7), vi (J 0)] h_50 (fun h_54 => (∀ h_57, h_57 = wi h_54 w 8 0 → K h_57))))))) : CV T N 15 [vr (some w), vi (J x1), vi (J x2), vi (J x3)] h K := by
  show WP T N 15 0 [some (vr (some w)), some (vi (J x1)), some (vi (J x2)), some (vi (J x3))] [] h _
  refine R_ps 2 (pc2 := 2) (L2 := [some (vr (some w)), some (vi (J x1)), some (vi (J x2)), some (vi (J x3))]) (st2 := [vi (J x2), vr (some w)]) rfl ?_
  refine R_zif0 (x := x2) rfl r2 (fun c_1 => ?_) (fun c_1 => ?_)
  · have k := k.1 c_1
    refine R_ps 1 (pc2 := 10) (L2 := [some (vr (some w)), some (vi (J x1)), some (vi (J x2)), some (vi (J x3))]) (st2 := [vi (J 1), vr (some w)]) rfl ?_
    refine R_zputI (x := 1) (z := 0) rfl t0 rfl ?_
    show WP T N _ _ _ _ (wi h w 0 1) _
    generalize e_4 : wi h w 0 1 = h_3
    replace k := k h_3 e_4.symm
    refine R_ps 2 (pc2 := 15) (L2 := [some (vr (some w)), some (vi (J x1)), some (vi (J x2)), some (vi (J x3))]) (st2 := [vi (J x3), vr (some w)]) rfl ?_
    refine R_zputI (x := x3) (z := 1) rfl t0 rfl ?_
    show WP T N _ _ _ _ (wi h_3 w 1 x3) _
    generalize e_7 : wi h_3 w 1 x3 = h_6
    replace k := k h_6 e_7.symm
    refine R_ps 2 (pc2 := 20) (L2 := [some (vr (some w)), some (vi (J x1)), some (vi (J x2)), some (vi (J x3))]) (st2 := [vi (J 0), vr (some w)]) rfl ?_
    refine R_zputI (x := 0) (z := 2) rfl t0 rfl ?_
    show WP T N _ _ _ _ (wi h_6 w 2 0) _
    generalize e_10 : wi h_6 w 2 0 = h_9
    replace k := k h_9 e_10.symm
    refine R_ps 2 (pc2 := 25) (L2 := [some (vr (some w)), some (vi (J x1)), some (vi (J x2)), some (vi (J x3))]) (st2 := [vi (J x1), vr (some w)]) rfl ?_
    refine R_zputI (x := x1) (z := 3) rfl t0 rfl ?_
    show WP T N _ _ _ _ (wi h_9 w 3 x1) _
    generalize e_13 : wi h_9 w 3 x1 = h_12
    replace k := k h_12 e_13.symm
    refine R_ps 2 (pc2 := 30) (L2 := [some (vr (some w)), some (vi (J x1)), some (vi (J x2)), some (vi (J x3))]) (st2 := [vi (J (-1)), vr (some w)]) rfl ?_
    refine R_zputI (x := (-1)) (z := 4) rfl t0 rfl ?_
    show WP T N _ _ _ _ (wi h_12 w 4 (-1)) _
    generalize e_16 : wi h_12 w 4 (-1) = h_15
    replace k := k h_15 e_16.symm
    refine R_ps 2 (pc2 := 35) (L2 := [some (vr (some w)), some (vi (J x1)), some (vi (J x2)), some (vi (J x3))]) (st2 := [vi (J x3), vr (some w)]) rfl ?_
    refine R_zputI (x := x3) (z := 5) rfl t0 rfl ?_
    show WP T N _ _ _ _ (wi h_15 w 5 x3) _
    generalize e_19 : wi h_15 w 5 x3 = h_18
    replace k := k h_18 e_19.symm
    refine R_ps 2 (pc2 := 40) (L2 := [some (vr (some w)), some (vi (J x1)), some (vi (J x2)), some (vi (J x3))]) (st2 := [vi (J 0), vr (some w)]) rfl ?_
    refine R_zputI (x := 0) (z := 6) rfl t0 rfl ?_
    show WP T N _ _ _ _ (wi h_18 w 6 0) _
    generalize e_22 : wi h_18 w 6 0 = h_21
    replace k := k h_21 e_22.symm
    refine R_ps 1 (pc2 := 44) (L2 := [some (vr (some w)), some (vi (J x1)), some (vi (J x2)), some (vi (J x3))]) (st2 := [vr (some w)]) rfl ?_
    refine R_getR rfl t0 ?_
    refine R_ps 1 (pc2 := 48) (L2 := [some (vr (some w)), some (vi (J x1)), some (vi (J x2)), some (vi (J x3))]) (st2 := [vi (J 0), vr (gr h_21 w 7)]) rfl ?_
    refine R_cV (as := [vr (gr h_21 w 7), vi (J 0)]) rfl rfl ⟨Nat.le_of_ble_eq_true rfl, Nat.le_of_ble_eq_true rfl, rfl, (Or.inl rfl)⟩ rfl rfl k (fun h_25 k => ?_)
    refine R_ps 2 (pc2 := 53) (L2 := [some (vr (some w)), some (vi (J x1)), some (vi (J x2)), some (vi (J x3))]) (st2 := [vi (J 0), vr (some w)]) rfl ?_
    refine R_zputI (x := 0) (z := 8) rfl t0 rfl ?_
    show WP T N _ _ _ _ (wi h_25 w 8 0) _
    generalize e_29 : wi h_25 w 8 0 = h_28
    replace k := k h_28 e_29.symm
    exact R_ret rfl rfl ⟨rfl, k⟩
  · have k := k.2 c_1
    refine R_ps 2 (pc2 := 10) (L2 := [some (vr (some w)), some (vi (J x1)), some (vi (J x2)), some (vi (J x3))]) (st2 := [vi (J 0), vr (some w)]) rfl ?_
    refine R_zputI (x := 0) (z := 0) rfl t0 rfl ?_
    show WP T N _ _ _ _ (wi h w 0 0) _
    generalize e_33 : wi h w 0 0 = h_32
    replace k := k h_32 e_33.symm
    refine R_ps 2 (pc2 := 15) (L2 := [some (vr (some w)), some (vi (J x1)), some (vi (J x2)), some (vi (J x3))]) (st2 := [vi (J x3), vr (some w)]) rfl ?_
    refine R_zputI (x := x3) (z := 1) rfl t0 rfl ?_
    show WP T N _ _ _ _ (wi h_32 w 1 x3) _
    generalize e_36 : wi h_32 w 1 x3 = h_35
    replace k := k h_35 e_36.symm
    refine R_ps 2 (pc2 := 20) (L2 := [some (vr (some w)), some (vi (J x1)), some (vi (J x2)), some (vi (J x3))]) (st2 := [vi (J 0), vr (some w)]) rfl ?_
    refine R_zputI (x := 0) (z := 2) rfl t0 rfl ?_
    show WP T N _ _ _ _ (wi h_35 w 2 0) _
    generalize e_39 : wi h_35 w 2 0 = h_38
    replace k := k h_38 e_39.symm
    refine R_ps 2 (pc2 := 25) (L2 := [some (vr (some w)), some (vi (J x1)), some (vi (J x2)), some (vi (J x3))]) (st2 := [vi (J x1), vr (some w)]) rfl ?_
    refine R_zputI (x := x1) (z := 3) rfl t0 rfl ?_
    show WP T N _ _ _ _ (wi h_38 w 3 x1) _
    generalize e_42 : wi h_38 w 3 x1 = h_41
    replace k := k h_41 e_42.symm
    refine R_ps 2 (pc2 := 30) (L2 := [some (vr (some w)), some (vi (J x1)), some (vi (J x2)), some (vi (J x3))]) (st2 := [vi (J (-1)), vr (some w)]) rfl ?_
    refine R_zputI (x := (-1)) (z := 4) rfl t0 rfl ?_
    show WP T N _ _ _ _ (wi h_41 w 4 (-1)) _
    generalize e_45 : wi h_41 w 4 (-1) = h_44
    replace k := k h_44 e_45.symm
    refine R_ps 2 (pc2 := 35) (L2 := [some (vr (some w)), some (vi (J x1)), some (vi (J x2)), some (vi (J x3))]) (st2 := [vi (J x3), vr (some w)]) rfl ?_
    refine R_zputI (x := x3) (z := 5) rfl t0 rfl ?_
    show WP T N _ _ _ _ (wi h_44 w 5 x3) _
    generalize e_48 : wi h_44 w 5 x3 = h_47
    replace k := k h_47 e_48.symm
    refine R_ps 2 (pc2 := 40) (L2 := [some (vr (some w)), some (vi (J x1)), some (vi (J x2)), some (vi (J x3))]) (st2 := [vi (J 0), vr (some w)]) rfl ?_
    refine R_zputI (x := 0) (z := 6) rfl t0 rfl ?_
    show WP T N _ _ _ _ (wi h_47 w 6 0) _
    generalize e_51 : wi h_47 w 6 0 = h_50
    replace k := k h_50 e_51.symm
    refine R_ps 1 (pc2 := 44) (L2 := [some (vr (some w)), some (vi (J x1)), some (vi (J x2)), some (vi (J x3))]) (st2 := [vr (some w)]) rfl ?_
    refine R_getR rfl t0 ?_
    refine R_ps 1 (pc2 := 48) (L2 := [some (vr (some w)), some (vi (J x1)), some (vi (J x2)), some (vi (J x3))]) (st2 := [vi (J 0), vr (gr h_50 w 7)]) rfl ?_
    refine R_cV (as := [vr (gr h_50 w 7), vi (J 0)]) rfl rfl ⟨Nat.le_of_ble_eq_true rfl, Nat.le_of_ble_eq_true rfl, rfl, (Or.inl rfl)⟩ rfl rfl k (fun h_54 k => ?_)
    refine R_ps 2 (pc2 := 53) (L2 := [some (vr (some w)), some (vi (J x1)), some (vi (J x2)), some (vi (J x3))]) (st2 := [vi (J 0), vr (some w)]) rfl ?_
    refine R_zputI (x := 0) (z := 8) rfl t0 rfl ?_
    show WP T N _ _ _ _ (wi h_54 w 8 0) _
    generalize e_58 : wi h_54 w 8 0 = h_57
    replace k := k h_57 e_58.symm
    exact R_ret rfl rfl ⟨rfl, k⟩
/-- DroneCorridors$Drone.copy -/
theorem z16 {T N : Nat → Nat} {h : PH} {w : Nat} {a1 : Nat} {K : PH → Prop} (t0 : T a1 = 3) (t1 : T w = 3) (k : (∀ h_3, h_3 = wi h w 0 (ai h a1 0) → ∀ h_7, h_7 = wi h_3 w 1 (ai h_3 a1 1) → ∀ h_11, h_11 = wi h_7 w 2 (ai h_7 a1 2) → ∀ h_15, h_15 = wi h_11 w 3 (ai h_11 a1 3) → ∀ h_19, h_19 = wi h_15 w 4 (ai h_15 a1 4) → ∀ h_23, h_23 = wi h_19 w 5 (ai h_19 a1 5) → ∀ h_27, h_27 = wi h_23 w 6 (ai h_23 a1 6) → WV T N 16 58 [some (vr (some w)), some (vr (some a1)), some (vi (J 0)), none, none] [] h_27 K)) : CV T N 16 [vr (some w), vr (some a1)] h K := by
  show WP T N 16 0 [some (vr (some w)), some (vr (some a1)), none, none, none] [] h _
  refine R_ps 2 (pc2 := 2) (L2 := [some (vr (some w)), some (vr (some a1)), none, none, none]) (st2 := [vr (some a1), vr (some w)]) rfl ?_
  refine R_zgetI (z := 0) rfl t0 rfl ?_
  refine R_zputI (x := ai h a1 0) (z := 0) rfl t1 rfl ?_
  show WP T N _ _ _ _ (wi h w 0 (ai h a1 0)) _
  generalize e_4 : wi h w 0 (ai h a1 0) = h_3
  replace k := k h_3 e_4.symm
  refine R_ps 2 (pc2 := 10) (L2 := [some (vr (some w)), some (vr (some a1)), none, none, none]) (st2 := [vr (some a1), vr (some w)]) rfl ?_
  refine R_zgetI (z := 1) rfl t0 rfl ?_
  refine R_zputI (x := ai h_3 a1 1) (z := 1) rfl t1 rfl ?_
  show WP T N _ _ _ _ (wi h_3 w 1 (ai h_3 a1 1)) _
  generalize e_8 : wi h_3 w 1 (ai h_3 a1 1) = h_7
  replace k := k h_7 e_8.symm
  refine R_ps 2 (pc2 := 18) (L2 := [some (vr (some w)), some (vr (some a1)), none, none, none]) (st2 := [vr (some a1), vr (some w)]) rfl ?_
  refine R_zgetI (z := 2) rfl t0 rfl ?_
  refine R_zputI (x := ai h_7 a1 2) (z := 2) rfl t1 rfl ?_
  show WP T N _ _ _ _ (wi h_7 w 2 (ai h_7 a1 2)) _
  generalize e_12 : wi h_7 w 2 (ai h_7 a1 2) = h_11
  replace k := k h_11 e_12.symm
  refine R_ps 2 (pc2 := 26) (L2 := [some (vr (some w)), some (vr (some a1)), none, none, none]) (st2 := [vr (some a1), vr (some w)]) rfl ?_
  refine R_zgetI (z := 3) rfl t0 rfl ?_
  refine R_zputI (x := ai h_11 a1 3) (z := 3) rfl t1 rfl ?_
  show WP T N _ _ _ _ (wi h_11 w 3 (ai h_11 a1 3)) _
  generalize e_16 : wi h_11 w 3 (ai h_11 a1 3) = h_15
  replace k := k h_15 e_16.symm
  refine R_ps 2 (pc2 := 34) (L2 := [some (vr (some w)), some (vr (some a1)), none, none, none]) (st2 := [vr (some a1), vr (some w)]) rfl ?_
  refine R_zgetI (z := 4) rfl t0 rfl ?_
  refine R_zputI (x := ai h_15 a1 4) (z := 4) rfl t1 rfl ?_
  show WP T N _ _ _ _ (wi h_15 w 4 (ai h_15 a1 4)) _
  generalize e_20 : wi h_15 w 4 (ai h_15 a1 4) = h_19
  replace k := k h_19 e_20.symm
  refine R_ps 2 (pc2 := 42) (L2 := [some (vr (some w)), some (vr (some a1)), none, none, none]) (st2 := [vr (some a1), vr (some w)]) rfl ?_
  refine R_zgetI (z := 5) rfl t0 rfl ?_
  refine R_zputI (x := ai h_19 a1 5) (z := 5) rfl t1 rfl ?_
  show WP T N _ _ _ _ (wi h_19 w 5 (ai h_19 a1 5)) _
  generalize e_24 : wi h_19 w 5 (ai h_19 a1 5) = h_23
  replace k := k h_23 e_24.symm
  refine R_ps 2 (pc2 := 50) (L2 := [some (vr (some w)), some (vr (some a1)), none, none, none]) (st2 := [vr (some a1), vr (some w)]) rfl ?_
  refine R_zgetI (z := 6) rfl t0 rfl ?_
  refine R_zputI (x := ai h_23 a1 6) (z := 6) rfl t1 rfl ?_
  show WP T N _ _ _ _ (wi h_23 w 6 (ai h_23 a1 6)) _
  generalize e_28 : wi h_23 w 6 (ai h_23 a1 6) = h_27
  replace k := k h_27 e_28.symm
  refine R_ps 2 (pc2 := 58) (L2 := [some (vr (some w)), some (vr (some a1)), some (vi (J 0)), none, none]) (st2 := []) rfl ?_
  exact k
theorem z16_58 {T N : Nat → Nat} {h : PH} {w : Nat} {a1 : Nat} {x2 : Int} {K : PH → Prop} (t0 : T a1 = 3) (t1 : T w = 3) (r2 : In x2) (k : (((x2 < 5 → (∃ a_9, (gr h a1 7) = some a_9 ∧ T a_9 = 22 ∧ (0 ≤ x2 ∧ x2 < (N a_9 : Int) ∧ x2 < 2147483648) ∧ ∃ a_14, (gr h w 7) = some a_14 ∧ T a_14 = 22 ∧ (0 ≤ x2 ∧ x2 < (N a_14 : Int) ∧ x2 < 2147483648) ∧ ∀ h_16, h_16 = wi h a_14 x2 (ai h a_9 x2) → WV T N 16 58 [some (vr (some w)), some (vr (some a1)), some (vi (J (x2 + 1))), none, none] [] h_16 K)) ∧ (¬ (x2 < 5) → (∀ h_4, h_4 = wi h w 8 (ai h a1 8) → WV T N 16 91 [some (vr (some w)), some (vr (some a1)), some (vi (J 0)), none, none] [] h_4 K))))) : WV T N 16 58 [some (vr (some w)), some (vr (some a1)), some (vi (J x2)), none, none] [] h K := by
  show WP T N 16 58 [some (vr (some w)), some (vr (some a1)), some (vi (J x2)), none, none] [] h _
  refine R_ps 2 (pc2 := 60) (L2 := [some (vr (some w)), some (vr (some a1)), some (vi (J x2)), none, none]) (st2 := [vi (J 5), vi (J x2)]) rfl ?_
  refine R_zif (x := x2) (z := 5) rfl r2 (by decide) (fun c_1 => ?_) (fun c_1 => ?_)
  · have k := k.2 c_1
    refine R_ps 2 (pc2 := 83) (L2 := [some (vr (some w)), some (vr (some a1)), some (vi (J x2)), none, none]) (st2 := [vr (some a1), vr (some w)]) rfl ?_
    refine R_zgetI (z := 8) rfl t0 rfl ?_
    refine R_zputI (x := ai h a1 8) (z := 8) rfl t1 rfl ?_
    show WP T N _ _ _ _ (wi h w 8 (ai h a1 8)) _
    generalize e_5 : wi h w 8 (ai h a1 8) = h_4
    replace k := k h_4 e_5.symm
    refine R_ps 2 (pc2 := 91) (L2 := [some (vr (some w)), some (vr (some a1)), some (vi (J 0)), none, none]) (st2 := []) rfl ?_
    exact k
  · have k := k.1 (Classical.not_not.mp c_1)
    refine R_ps 1 (pc2 := 64) (L2 := [some (vr (some w)), some (vr (some a1)), some (vi (J x2)), none, none]) (st2 := [vr (some w)]) rfl ?_
    refine R_getR rfl t1 ?_
    refine R_ps 2 (pc2 := 69) (L2 := [some (vr (some w)), some (vr (some a1)), some (vi (J x2)), none, none]) (st2 := [vr (some a1), vi (J x2), vr (gr h w 7)]) rfl ?_
    refine R_getR rfl t0 ?_
    refine R_ps 1 (pc2 := 73) (L2 := [some (vr (some w)), some (vr (some a1)), some (vi (J x2)), none, none]) (st2 := [vi (J x2), vr (gr h a1 7), vi (J x2), vr (gr h w 7)]) rfl ?_
    obtain ⟨a_9, e_10, k⟩ := k
    rw [e_10]
    obtain ⟨t_11, k⟩ := k
    obtain ⟨t_12, k⟩ := k
    refine R_ziald (i := x2) rfl (Or.inl t_11) t_12 ?_
    obtain ⟨a_14, e_15, k⟩ := k
    rw [e_15]
    obtain ⟨t_18, k⟩ := k
    obtain ⟨t_19, k⟩ := k
    refine R_ziast (i := x2) (x := ai h a_9 x2) rfl t_18 t_19  ?_
    show WP T N _ _ _ _ (wi h a_14 x2 (ai h a_9 x2)) _
    generalize e_17 : wi h a_14 x2 (ai h a_9 x2) = h_16
    replace k := k h_16 e_17.symm
    refine R_ps 2 (pc2 := 58) (L2 := [some (vr (some w)), some (vr (some a1)), some (vi ((J x2) + J 1)), none, none]) (st2 := []) rfl ?_
    rw [show ((J x2) + J 1) = J (x2 + 1) from J_add' rfl rfl]
    exact k
theorem z16_91 {T N : Nat → Nat} {h : PH} {w : Nat} {a1 : Nat} {x2 : Int} {K : PH → Prop} (t0 : T w = 3) (t1 : T a1 = 3) (r2 : In x2) (k : (((x2 < (ai h w 8) → (CR T N 17 [vr (some w), vi (J x2)] h (fun x_6 h_5 => (CR T N 17 [vr (some a1), vi (J x2)] h_5 (fun x_9 h_8 => (((x_6 = none → (WV T N 16 91 [some (vr (some w)), some (vr (some a1)), some (vi (J (x2 + 1))), none, none] [] h_8 K)) ∧ (∀ a_11, x_6 = some a_11 → (((x_9 = none → (WV T N 16 91 [some (vr (some w)), some (vr (some a1)), some (vi (J (x2 + 1))), none, none] [] h_8 K)) ∧ (∀ a_14, x_9 = some a_14 → (T a_11 = 7 ∧ CV T N 57 [vr (some a_11), vr (some a_14)] h_8 (fun h_18 => (WV T N 16 91 [some (vr (some w)), some (vr (some a1)), some (vi (J (x2 + 1))), none, none] [] h_18 K)))))))))))))) ∧ (¬ (x2 < (ai h w 8)) → (K h))))) : WV T N 16 91 [some (vr (some w)), some (vr (some a1)), some (vi (J x2)), none, none] [] h K := by
  show WP T N 16 91 [some (vr (some w)), some (vr (some a1)), some (vi (J x2)), none, none] [] h _
  refine R_ps 2 (pc2 := 93) (L2 := [some (vr (some w)), some (vr (some a1)), some (vi (J x2)), none, none]) (st2 := [vr (some w), vi (J x2)]) rfl ?_
  refine R_zgetI (z := 8) rfl t0 rfl ?_
  refine R_zif (x := x2) (z := ai h w 8) rfl r2 (ai_in _ _ _) (fun c_2 => ?_) (fun c_2 => ?_)
  · have k := k.2 c_2
    exact R_ret rfl rfl ⟨rfl, k⟩
  · have k := k.1 (Classical.not_not.mp c_2)
    refine R_ps 2 (pc2 := 101) (L2 := [some (vr (some w)), some (vr (some a1)), some (vi (J x2)), none, none]) (st2 := [vi (J x2), vr (some w)]) rfl ?_
    refine R_cR (as := [vr (some w), vi (J x2)]) rfl rfl ⟨Nat.le_of_ble_eq_true rfl, Nat.le_of_ble_eq_true rfl, rfl, (Or.inr ⟨_, rfl, t0⟩)⟩ rfl rfl k (fun x_6 h_5 k => ?_)
    refine R_ps 3 (pc2 := 107) (L2 := [some (vr (some w)), some (vr (some a1)), some (vi (J x2)), some (vr x_6), none]) (st2 := [vi (J x2), vr (some a1)]) rfl ?_
    refine R_cR (as := [vr (some a1), vi (J x2)]) rfl rfl ⟨Nat.le_of_ble_eq_true rfl, Nat.le_of_ble_eq_true rfl, rfl, (Or.inr ⟨_, rfl, t1⟩)⟩ rfl rfl k (fun x_9 h_8 k => ?_)
    refine R_ps 2 (pc2 := 113) (L2 := [some (vr (some w)), some (vr (some a1)), some (vi (J x2)), some (vr x_6), some (vr x_9)]) (st2 := [vr x_6]) rfl ?_
    rcases null_or (x_6) with e_12 | ⟨a_11, e_12⟩
    · have k := k.1 e_12
      rw [e_12]
      refine R_null rfl (fun _ => ?_) (fun _ c_10 => nomatch c_10)
      refine R_ps 2 (pc2 := 91) (L2 := [some (vr (some w)), some (vr (some a1)), some (vi ((J x2) + J 1)), some (vr none), some (vr x_9)]) (st2 := []) rfl ?_
      rw [show ((J x2) + J 1) = J (x2 + 1) from J_add' rfl rfl]
      exact R_drop k (LE_of (L := [some (vr (some w)), some (vr (some a1)), some (vi (J (x2 + 1))), none, none]) (L2 := [some (vr (some w)), some (vr (some a1)), some (vi (J (x2 + 1))), some (vr none), some (vr x_9)]) ⟨rfl, rfl, rfl, trivial⟩)
    · have k := k.2 a_11 e_12
      rw [e_12]
      refine R_null rfl (fun c_10 => nomatch c_10) (fun _ _ => ?_)
      refine R_ps 1 (pc2 := 118) (L2 := [some (vr (some w)), some (vr (some a1)), some (vi (J x2)), some (vr (some a_11)), some (vr x_9)]) (st2 := [vr x_9]) rfl ?_
      rcases null_or (x_9) with e_15 | ⟨a_14, e_15⟩
      · have k := k.1 e_15
        rw [e_15]
        refine R_null rfl (fun _ => ?_) (fun _ c_13 => nomatch c_13)
        refine R_ps 2 (pc2 := 91) (L2 := [some (vr (some w)), some (vr (some a1)), some (vi ((J x2) + J 1)), some (vr (some a_11)), some (vr none)]) (st2 := []) rfl ?_
        rw [show ((J x2) + J 1) = J (x2 + 1) from J_add' rfl rfl]
        exact R_drop k (LE_of (L := [some (vr (some w)), some (vr (some a1)), some (vi (J (x2 + 1))), none, none]) (L2 := [some (vr (some w)), some (vr (some a1)), some (vi (J (x2 + 1))), some (vr (some a_11)), some (vr none)]) ⟨rfl, rfl, rfl, trivial⟩)
      · have k := k.2 a_14 e_15
        rw [e_15]
        refine R_null rfl (fun c_13 => nomatch c_13) (fun _ _ => ?_)
        refine R_ps 2 (pc2 := 124) (L2 := [some (vr (some w)), some (vr (some a1)), some (vi (J x2)), some (vr (some a_11)), some (vr (some a_14))]) (st2 := [vr (some a_14), vr (some a_11)]) rfl ?_
        obtain ⟨t_17, k⟩ := k
        refine R_cV (as := [vr (some a_11), vr (some a_14)]) rfl rfl ⟨Nat.le_of_ble_eq_true rfl, Nat.le_of_ble_eq_true rfl, rfl, (Or.inr ⟨_, rfl, t_17⟩)⟩ rfl rfl k (fun h_18 k => ?_)
        refine R_ps 2 (pc2 := 91) (L2 := [some (vr (some w)), some (vr (some a1)), some (vi ((J x2) + J 1)), some (vr (some a_11)), some (vr (some a_14))]) (st2 := []) rfl ?_
        rw [show ((J x2) + J 1) = J (x2 + 1) from J_add' rfl rfl]
        exact R_drop k (LE_of (L := [some (vr (some w)), some (vr (some a1)), some (vi (J (x2 + 1))), none, none]) (L2 := [some (vr (some w)), some (vr (some a1)), some (vi (J (x2 + 1))), some (vr (some a_11)), some (vr (some a_14))]) ⟨rfl, rfl, rfl, trivial⟩)
/-- DroneCorridors$Drone.legAt -/
theorem z17 {T N : Nat → Nat} {h : PH} {w : Nat} {x1 : Int} {K : Option Nat → PH → Prop} (t0 : T w = 3) (r1 : In x1) (k : (((x1 < 0 → (K none h)) ∧ (¬ (x1 < 0) → (((x1 < (ai h w 8) → (∃ a_8, (gr h w 9) = some a_8 ∧ 21 ≤ T a_8 ∧ In (N a_8 : Int) ∧ ((x1 < (N a_8 : Int) → (∃ a_16, (gr h w 9) = some a_16 ∧ 30 ≤ T a_16 ∧ (0 ≤ x1 ∧ x1 < (N a_16 : Int) ∧ x1 < 2147483648) ∧ K (gr h a_16 (Int.toNat x1)) h)) ∧ (¬ (x1 < (N a_8 : Int)) → (K none h))))) ∧ (¬ (x1 < (ai h w 8)) → (K none h)))))))) : CR T N 17 [vr (some w), vi (J x1)] h K := by
  show WP T N 17 0 [some (vr (some w)), some (vi (J x1))] [] h _
  refine R_ps 1 (pc2 := 1) (L2 := [some (vr (some w)), some (vi (J x1))]) (st2 := [vi (J x1)]) rfl ?_
  refine R_zif0 (x := x1) rfl r1 (fun c_1 => ?_) (fun c_1 => ?_)
  · have k := k.1 c_1
    refine R_ps 1 (pc2 := 31) (L2 := [some (vr (some w)), some (vi (J x1))]) (st2 := [vr none]) rfl ?_
    exact R_aret rfl rfl ⟨_, rfl, k⟩
  · have k := k.2 c_1
    refine R_ps 2 (pc2 := 6) (L2 := [some (vr (some w)), some (vi (J x1))]) (st2 := [vr (some w), vi (J x1)]) rfl ?_
    refine R_zgetI (z := 8) rfl t0 rfl ?_
    refine R_zif (x := x1) (z := ai h w 8) rfl r1 (ai_in _ _ _) (fun c_4 => ?_) (fun c_4 => ?_)
    · have k := k.2 c_4
      refine R_ps 1 (pc2 := 31) (L2 := [some (vr (some w)), some (vi (J x1))]) (st2 := [vr none]) rfl ?_
      exact R_aret rfl rfl ⟨_, rfl, k⟩
    · have k := k.1 (Classical.not_not.mp c_4)
      refine R_ps 2 (pc2 := 14) (L2 := [some (vr (some w)), some (vi (J x1))]) (st2 := [vr (some w), vi (J x1)]) rfl ?_
      refine R_getR rfl t0 ?_
      obtain ⟨a_8, e_9, k⟩ := k
      rw [e_9]
      obtain ⟨t_10, k⟩ := k
      refine R_zalen rfl t_10 ?_
      obtain ⟨t_12, k⟩ := k
      refine R_zif (x := x1) (z := (N a_8 : Int)) rfl r1 t_12 (fun c_11 => ?_) (fun c_11 => ?_)
      · have k := k.2 c_11
        refine R_ps 1 (pc2 := 31) (L2 := [some (vr (some w)), some (vi (J x1))]) (st2 := [vr none]) rfl ?_
        exact R_aret rfl rfl ⟨_, rfl, k⟩
      · have k := k.1 (Classical.not_not.mp c_11)
        refine R_ps 1 (pc2 := 22) (L2 := [some (vr (some w)), some (vi (J x1))]) (st2 := [vr (some w)]) rfl ?_
        refine R_getR rfl t0 ?_
        refine R_ps 1 (pc2 := 26) (L2 := [some (vr (some w)), some (vi (J x1))]) (st2 := [vi (J x1), vr (gr h w 9)]) rfl ?_
        obtain ⟨a_16, e_17, k⟩ := k
        rw [e_17]
        obtain ⟨t_18, k⟩ := k
        obtain ⟨t_19, k⟩ := k
        refine R_zaald (i := x1) rfl t_18 t_19 ?_
        refine R_ps 1 (pc2 := 31) (L2 := [some (vr (some w)), some (vi (J x1))]) (st2 := [vr (gr h a_16 (Int.toNat x1))]) rfl ?_
        exact R_aret rfl rfl ⟨_, rfl, k⟩
/-- DroneCorridors$Drone.sumOf -/
theorem z18 {T N : Nat → Nat} {h : PH} {w : Nat} {x1 : Int} {K : Int → PH → Prop} (t0 : T w = 3) (r1 : In x1) (k : (((x1 < 0 → (K 0 h)) ∧ (¬ (x1 < 0) → (∃ a_5, (gr h w 7) = some a_5 ∧ 21 ≤ T a_5 ∧ In (N a_5 : Int) ∧ ((x1 < (N a_5 : Int) → (∃ a_13, (gr h w 7) = some a_13 ∧ T a_13 = 22 ∧ (0 ≤ x1 ∧ x1 < (N a_13 : Int) ∧ x1 < 2147483648) ∧ K (ai h a_13 x1) h)) ∧ (¬ (x1 < (N a_5 : Int)) → (K 0 h)))))))) : ZI T N 18 [vr (some w), vi (J x1)] h K := by
  show WP T N 18 0 [some (vr (some w)), some (vi (J x1))] [] h _
  refine R_ps 1 (pc2 := 1) (L2 := [some (vr (some w)), some (vi (J x1))]) (st2 := [vi (J x1)]) rfl ?_
  refine R_zif0 (x := x1) rfl r1 (fun c_1 => ?_) (fun c_1 => ?_)
  · have k := k.1 c_1
    refine R_ps 1 (pc2 := 23) (L2 := [some (vr (some w)), some (vi (J x1))]) (st2 := [vi (J 0)]) rfl ?_
    exact R_iret rfl rfl (R_zr (x := 0) (K := K) (by decide) k)
  · have k := k.2 c_1
    refine R_ps 2 (pc2 := 6) (L2 := [some (vr (some w)), some (vi (J x1))]) (st2 := [vr (some w), vi (J x1)]) rfl ?_
    refine R_getR rfl t0 ?_
    obtain ⟨a_5, e_6, k⟩ := k
    rw [e_6]
    obtain ⟨t_7, k⟩ := k
    refine R_zalen rfl t_7 ?_
    obtain ⟨t_9, k⟩ := k
    refine R_zif (x := x1) (z := (N a_5 : Int)) rfl r1 t_9 (fun c_8 => ?_) (fun c_8 => ?_)
    · have k := k.2 c_8
      refine R_ps 1 (pc2 := 23) (L2 := [some (vr (some w)), some (vi (J x1))]) (st2 := [vi (J 0)]) rfl ?_
      exact R_iret rfl rfl (R_zr (x := 0) (K := K) (by decide) k)
    · have k := k.1 (Classical.not_not.mp c_8)
      refine R_ps 1 (pc2 := 14) (L2 := [some (vr (some w)), some (vi (J x1))]) (st2 := [vr (some w)]) rfl ?_
      refine R_getR rfl t0 ?_
      refine R_ps 1 (pc2 := 18) (L2 := [some (vr (some w)), some (vi (J x1))]) (st2 := [vi (J x1), vr (gr h w 7)]) rfl ?_
      obtain ⟨a_13, e_14, k⟩ := k
      rw [e_14]
      obtain ⟨t_15, k⟩ := k
      obtain ⟨t_16, k⟩ := k
      refine R_ziald (i := x1) rfl (Or.inl t_15) t_16 ?_
      refine R_ps 1 (pc2 := 23) (L2 := [some (vr (some w)), some (vi (J x1))]) (st2 := [vi (J (ai h a_13 x1))]) rfl ?_
      exact R_iret rfl rfl (R_zr (x := ai h a_13 x1) (K := K) (ai_in _ _ _) k)
/-- DroneCorridors$Drone.legsBegun -/
theorem z19 {T N : Nat → Nat} {h : PH} {w : Nat} {K : Int → PH → Prop} (t0 : T w = 3) (k : ((((ai h w 0) = 2 → (((0 < (ai h w 8) → (K 1 h)) ∧ (¬ (0 < (ai h w 8)) → (K 0 h))))) ∧ (¬ ((ai h w 0) = 2) → (K 0 h))))) : ZI T N 19 [vr (some w)] h K := by
  show WP T N 19 0 [some (vr (some w))] [] h _
  refine R_ps 1 (pc2 := 1) (L2 := [some (vr (some w))]) (st2 := [vr (some w)]) rfl ?_
  refine R_zgetI (z := 0) rfl t0 rfl ?_
  refine R_ps 1 (pc2 := 5) (L2 := [some (vr (some w))]) (st2 := [vi (J 2), vi (J (ai h w 0))]) rfl ?_
  refine R_zif (x := ai h w 0) (z := 2) rfl (ai_in _ _ _) (by decide) (fun c_2 => ?_) (fun c_2 => ?_)
  · have k := k.2 c_2
    refine R_ps 1 (pc2 := 20) (L2 := [some (vr (some w))]) (st2 := [vi (J 0)]) rfl ?_
    exact R_iret rfl rfl (R_zr (x := 0) (K := K) (by decide) k)
  · have k := k.1 (Classical.not_not.mp c_2)
    refine R_ps 1 (pc2 := 9) (L2 := [some (vr (some w))]) (st2 := [vr (some w)]) rfl ?_
    refine R_zgetI (z := 8) rfl t0 rfl ?_
    refine R_zif0 (x := ai h w 8) rfl (ai_in _ _ _) (fun c_5 => ?_) (fun c_5 => ?_)
    · have k := k.2 c_5
      refine R_ps 1 (pc2 := 20) (L2 := [some (vr (some w))]) (st2 := [vi (J 0)]) rfl ?_
      exact R_iret rfl rfl (R_zr (x := 0) (K := K) (by decide) k)
    · have k := k.1 (Classical.not_not.mp c_5)
      refine R_ps 2 (pc2 := 20) (L2 := [some (vr (some w))]) (st2 := [vi (J 1)]) rfl ?_
      exact R_iret rfl rfl (R_zr (x := 1) (K := K) (by decide) k)
/-- DroneCorridors$Drone.endOfPlan -/
theorem z20 {T N : Nat → Nat} {h : PH} {w : Nat} {x1 : Int} {K : Int → PH → Prop} (t0 : T w = 3) (r1 : In x1) (k : (CR T N 17 [vr (some w), vi (J ((ai h w 8) - 1))] h (fun x_4 h_3 => (((x_4 = none → (K x1 h_3)) ∧ (∀ a_6, x_4 = some a_6 → (T a_6 = 7 ∧ K (ai h_3 a_6 4) h_3))))))) : ZI T N 20 [vr (some w), vi (J x1)] h K := by
  show WP T N 20 0 [some (vr (some w)), some (vi (J x1)), none] [] h _
  refine R_ps 2 (pc2 := 2) (L2 := [some (vr (some w)), some (vi (J x1)), none]) (st2 := [vr (some w), vr (some w)]) rfl ?_
  refine R_zgetI (z := 8) rfl t0 rfl ?_
  refine R_ps 2 (pc2 := 7) (L2 := [some (vr (some w)), some (vi (J x1)), none]) (st2 := [vi ((J (ai h w 8)) - (J 1)), vr (some w)]) rfl ?_
  rw [show ((J (ai h w 8)) - (J 1)) = J ((ai h w 8) - 1) from J_sub' rfl rfl]
  refine R_cR (as := [vr (some w), vi (J ((ai h w 8) - 1))]) rfl rfl ⟨Nat.le_of_ble_eq_true rfl, Nat.le_of_ble_eq_true rfl, rfl, (Or.inr ⟨_, rfl, t0⟩)⟩ rfl rfl k (fun x_4 h_3 k => ?_)
  refine R_ps 2 (pc2 := 12) (L2 := [some (vr (some w)), some (vi (J x1)), some (vr x_4)]) (st2 := [vr x_4]) rfl ?_
  rcases null_or (x_4) with e_7 | ⟨a_6, e_7⟩
  · have k := k.1 e_7
    rw [e_7]
    refine R_nonnull rfl (fun _ => ?_) (fun _ c_5 => nomatch c_5)
    refine R_ps 2 (pc2 := 23) (L2 := [some (vr (some w)), some (vi (J x1)), some (vr none)]) (st2 := [vi (J x1)]) rfl ?_
    exact R_iret rfl rfl (R_zr (x := x1) (K := K) r1 k)
  · have k := k.2 a_6 e_7
    rw [e_7]
    refine R_nonnull rfl (fun c_5 => nomatch c_5) (fun _ _ => ?_)
    refine R_ps 1 (pc2 := 20) (L2 := [some (vr (some w)), some (vi (J x1)), some (vr (some a_6))]) (st2 := [vr (some a_6)]) rfl ?_
    obtain ⟨t_10, k⟩ := k
    refine R_zgetI (z := 4) rfl t_10 rfl ?_
    exact R_iret rfl rfl (R_zr (x := ai h_3 a_6 4) (K := K) (ai_in _ _ _) k)
/-- DroneCorridors$Drone.place -/
theorem z21 {T N : Nat → Nat} {h : PH} {w : Nat} {K : Int → PH → Prop} (t0 : T w = 3) (k : (CR T N 17 [vr (some w), vi (J 0)] h (fun x_3 h_2 => ((((ai h_2 w 0) = 2 → (((x_3 = none → (K (ai h_2 w 3) h_2)) ∧ (∀ a_9, x_3 = some a_9 → (T a_9 = 7 ∧ In (100 + (ai h_2 a_9 0)) ∧ K (100 + (ai h_2 a_9 0)) h_2))))) ∧ (¬ ((ai h_2 w 0) = 2) → (K (ai h_2 w 3) h_2))))))) : ZI T N 21 [vr (some w)] h K := by
  show WP T N 21 0 [some (vr (some w)), none] [] h _
  refine R_ps 2 (pc2 := 2) (L2 := [some (vr (some w)), none]) (st2 := [vi (J 0), vr (some w)]) rfl ?_
  refine R_cR (as := [vr (some w), vi (J 0)]) rfl rfl ⟨Nat.le_of_ble_eq_true rfl, Nat.le_of_ble_eq_true rfl, rfl, (Or.inr ⟨_, rfl, t0⟩)⟩ rfl rfl k (fun x_3 h_2 k => ?_)
  refine R_ps 2 (pc2 := 7) (L2 := [some (vr (some w)), some (vr x_3)]) (st2 := [vr (some w)]) rfl ?_
  refine R_zgetI (z := 0) rfl t0 rfl ?_
  refine R_ps 1 (pc2 := 11) (L2 := [some (vr (some w)), some (vr x_3)]) (st2 := [vi (J 2), vi (J (ai h_2 w 0))]) rfl ?_
  refine R_zif (x := ai h_2 w 0) (z := 2) rfl (ai_in _ _ _) (by decide) (fun c_5 => ?_) (fun c_5 => ?_)
  · have k := k.2 c_5
    refine R_ps 1 (pc2 := 29) (L2 := [some (vr (some w)), some (vr x_3)]) (st2 := [vr (some w)]) rfl ?_
    refine R_zgetI (z := 3) rfl t0 rfl ?_
    exact R_iret rfl rfl (R_zr (x := ai h_2 w 3) (K := K) (ai_in _ _ _) k)
  · have k := k.1 (Classical.not_not.mp c_5)
    refine R_ps 1 (pc2 := 15) (L2 := [some (vr (some w)), some (vr x_3)]) (st2 := [vr x_3]) rfl ?_
    rcases null_or (x_3) with e_10 | ⟨a_9, e_10⟩
    · have k := k.1 e_10
      rw [e_10]
      refine R_null rfl (fun _ => ?_) (fun _ c_8 => nomatch c_8)
      refine R_ps 1 (pc2 := 29) (L2 := [some (vr (some w)), some (vr none)]) (st2 := [vr (some w)]) rfl ?_
      refine R_zgetI (z := 3) rfl t0 rfl ?_
      exact R_iret rfl rfl (R_zr (x := ai h_2 w 3) (K := K) (ai_in _ _ _) k)
    · have k := k.2 a_9 e_10
      rw [e_10]
      refine R_null rfl (fun c_8 => nomatch c_8) (fun _ _ => ?_)
      refine R_ps 2 (pc2 := 21) (L2 := [some (vr (some w)), some (vr (some a_9))]) (st2 := [vr (some a_9), vi (J 100)]) rfl ?_
      obtain ⟨t_14, k⟩ := k
      refine R_zgetI (z := 0) rfl t_14 rfl ?_
      refine R_ps 2 (pc2 := 32) (L2 := [some (vr (some w)), some (vr (some a_9))]) (st2 := [vi ((J 100) + (J (ai h_2 a_9 0)))]) rfl ?_
      rw [show ((J 100) + (J (ai h_2 a_9 0))) = J (100 + (ai h_2 a_9 0)) from J_add' rfl rfl]
      obtain ⟨t_16, k⟩ := k
      exact R_iret rfl rfl (R_zr (x := 100 + (ai h_2 a_9 0)) (K := K) t_16 k)
/-- DroneCorridors$Drone.cutLegs -/
theorem z22 {T N : Nat → Nat} {h : PH} {w : Nat} {K : Int → PH → Prop} (t0 : T w = 3) (k : (ZI T N 19 [vr (some w)] h (fun x_4 h_3 => (∀ h_8, h_8 = wi h_3 w 8 ((ai h_3 w 8) - ((ai h w 8) - x_4)) → In ((ai h w 8) - x_4) ∧ K ((ai h w 8) - x_4) h_8)))) : ZI T N 22 [vr (some w)] h K := by
  show WP T N 22 0 [some (vr (some w)), none] [] h _
  refine R_ps 1 (pc2 := 1) (L2 := [some (vr (some w)), none]) (st2 := [vr (some w)]) rfl ?_
  refine R_zgetI (z := 8) rfl t0 rfl ?_
  refine R_ps 1 (pc2 := 5) (L2 := [some (vr (some w)), none]) (st2 := [vr (some w), vi (J (ai h w 8))]) rfl ?_
  refine R_zcI (as := [vr (some w)]) rfl rfl ⟨Nat.le_of_ble_eq_true rfl, Nat.le_of_ble_eq_true rfl, rfl, (Or.inr ⟨_, rfl, t0⟩)⟩ rfl rfl k (fun x_4 h_3 r_5 k => ?_)
  refine R_ps 4 (pc2 := 12) (L2 := [some (vr (some w)), some (vi ((J (ai h w 8)) - (J x_4)))]) (st2 := [vr (some w), vr (some w)]) rfl ?_
  rw [show ((J (ai h w 8)) - (J x_4)) = J ((ai h w 8) - x_4) from J_sub' rfl rfl]
  refine R_zgetI (z := 8) rfl t0 rfl ?_
  refine R_ps 2 (pc2 := 17) (L2 := [some (vr (some w)), some (vi (J ((ai h w 8) - x_4)))]) (st2 := [vi ((J (ai h_3 w 8)) - (J ((ai h w 8) - x_4))), vr (some w)]) rfl ?_
  rw [show ((J (ai h_3 w 8)) - (J ((ai h w 8) - x_4))) = J ((ai h_3 w 8) - ((ai h w 8) - x_4)) from J_sub' rfl rfl]
  refine R_zputI (x := (ai h_3 w 8) - ((ai h w 8) - x_4)) (z := 8) rfl t0 rfl ?_
  show WP T N _ _ _ _ (wi h_3 w 8 ((ai h_3 w 8) - ((ai h w 8) - x_4))) _
  generalize e_9 : wi h_3 w 8 ((ai h_3 w 8) - ((ai h w 8) - x_4)) = h_8
  replace k := k h_8 e_9.symm
  refine R_ps 1 (pc2 := 21) (L2 := [some (vr (some w)), some (vi (J ((ai h w 8) - x_4)))]) (st2 := [vi (J ((ai h w 8) - x_4))]) rfl ?_
  obtain ⟨t_11, k⟩ := k
  exact R_iret rfl rfl (R_zr (x := (ai h w 8) - x_4) (K := K) t_11 k)
/-- DroneCorridors$Drone.growLegs -/
theorem z23 {T N : Nat → Nat} {h : PH} {w : Nat} {x1 : Int} {K : PH → Prop} (t0 : T w = 3) (r1 : In x1) (k : (((x1 < 0 → (K h)) ∧ (¬ (x1 < 0) → (∃ a_5, (gr h w 9) = some a_5 ∧ 21 ≤ T a_5 ∧ In ((N a_5 : Int) - (ai h w 8)) ∧ ((((N a_5 : Int) - (ai h w 8)) < x1 → (K h)) ∧ (¬ (((N a_5 : Int) - (ai h w 8)) < x1) → (∀ h_14, h_14 = wi h w 8 ((ai h w 8) + x1) → K h_14)))))))) : CV T N 23 [vr (some w), vi (J x1)] h K := by
  show WP T N 23 0 [some (vr (some w)), some (vi (J x1))] [] h _
  refine R_ps 1 (pc2 := 1) (L2 := [some (vr (some w)), some (vi (J x1))]) (st2 := [vi (J x1)]) rfl ?_
  refine R_zif0 (x := x1) rfl r1 (fun c_1 => ?_) (fun c_1 => ?_)
  · have k := k.1 c_1
    exact R_ret rfl rfl ⟨rfl, k⟩
  · have k := k.2 c_1
    refine R_ps 2 (pc2 := 6) (L2 := [some (vr (some w)), some (vi (J x1))]) (st2 := [vr (some w), vi (J x1)]) rfl ?_
    refine R_getR rfl t0 ?_
    obtain ⟨a_5, e_6, k⟩ := k
    rw [e_6]
    obtain ⟨t_7, k⟩ := k
    refine R_zalen rfl t_7 ?_
    refine R_ps 1 (pc2 := 11) (L2 := [some (vr (some w)), some (vi (J x1))]) (st2 := [vr (some w), vi (J (N a_5 : Int)), vi (J x1)]) rfl ?_
    refine R_zgetI (z := 8) rfl t0 rfl ?_
    refine R_ps 1 (pc2 := 15) (L2 := [some (vr (some w)), some (vi (J x1))]) (st2 := [vi ((J (N a_5 : Int)) - (J (ai h w 8))), vi (J x1)]) rfl ?_
    rw [show ((J (N a_5 : Int)) - (J (ai h w 8))) = J ((N a_5 : Int) - (ai h w 8)) from J_sub' rfl rfl]
    obtain ⟨t_10, k⟩ := k
    refine R_zif (x := x1) (z := (N a_5 : Int) - (ai h w 8)) rfl r1 t_10 (fun c_9 => ?_) (fun c_9 => ?_)
    · have k := k.1 c_9
      exact R_ret rfl rfl ⟨rfl, k⟩
    · have k := k.2 c_9
      refine R_ps 2 (pc2 := 20) (L2 := [some (vr (some w)), some (vi (J x1))]) (st2 := [vr (some w), vr (some w)]) rfl ?_
      refine R_zgetI (z := 8) rfl t0 rfl ?_
      refine R_ps 2 (pc2 := 25) (L2 := [some (vr (some w)), some (vi (J x1))]) (st2 := [vi ((J (ai h w 8)) + (J x1)), vr (some w)]) rfl ?_
      rw [show ((J (ai h w 8)) + (J x1)) = J ((ai h w 8) + x1) from J_add' rfl rfl]
      refine R_zputI (x := (ai h w 8) + x1) (z := 8) rfl t0 rfl ?_
      show WP T N _ _ _ _ (wi h w 8 ((ai h w 8) + x1)) _
      generalize e_15 : wi h w 8 ((ai h w 8) + x1) = h_14
      replace k := k h_14 e_15.symm
      exact R_ret rfl rfl ⟨rfl, k⟩
/-- DroneCorridors$Drone.dropFirstLeg -/
theorem z24 {T N : Nat → Nat} {h : PH} {w : Nat} {K : PH → Prop} (t0 : T w = 3) (k : ((((ai h w 8) < 1 → (K h)) ∧ (¬ ((ai h w 8) < 1) → (∃ a_7, (gr h w 9) = some a_7 ∧ 21 ≤ T a_7 ∧ In (N a_7 : Int) ∧ (((N a_7 : Int) < (ai h w 8) → (K h)) ∧ (¬ ((N a_7 : Int) < (ai h w 8)) → (∃ a_14, (gr h w 9) = some a_14 ∧ 30 ≤ T a_14 ∧ (0 ≤ (0 : Int) ∧ (0 : Int) < (N a_14 : Int) ∧ (0 : Int) < 2147483648) ∧ ∃ a_18, (gr h a_14 (Int.toNat 0)) = some a_18 ∧ WV T N 24 30 [some (vr (some w)), some (vr (some a_18)), some (vi (J 1))] [] h K)))))))) : CV T N 24 [vr (some w)] h K := by
  show WP T N 24 0 [some (vr (some w)), none, none] [] h _
  refine R_ps 1 (pc2 := 1) (L2 := [some (vr (some w)), none, none]) (st2 := [vr (some w)]) rfl ?_
  refine R_zgetI (z := 8) rfl t0 rfl ?_
  refine R_ps 1 (pc2 := 5) (L2 := [some (vr (some w)), none, none]) (st2 := [vi (J 1), vi (J (ai h w 8))]) rfl ?_
  refine R_zif (x := ai h w 8) (z := 1) rfl (ai_in _ _ _) (by decide) (fun c_2 => ?_) (fun c_2 => ?_)
  · have k := k.1 c_2
    exact R_ret rfl rfl ⟨rfl, k⟩
  · have k := k.2 c_2
    refine R_ps 1 (pc2 := 9) (L2 := [some (vr (some w)), none, none]) (st2 := [vr (some w)]) rfl ?_
    refine R_zgetI (z := 8) rfl t0 rfl ?_
    refine R_ps 1 (pc2 := 13) (L2 := [some (vr (some w)), none, none]) (st2 := [vr (some w), vi (J (ai h w 8))]) rfl ?_
    refine R_getR rfl t0 ?_
    obtain ⟨a_7, e_8, k⟩ := k
    rw [e_8]
    obtain ⟨t_9, k⟩ := k
    refine R_zalen rfl t_9 ?_
    obtain ⟨t_11, k⟩ := k
    refine R_zif (x := ai h w 8) (z := (N a_7 : Int)) rfl (ai_in _ _ _) t_11 (fun c_10 => ?_) (fun c_10 => ?_)
    · have k := k.2 c_10
      refine R_ps 1 (pc2 := 22) (L2 := [some (vr (some w)), none, none]) (st2 := [vr (some w)]) rfl ?_
      refine R_getR rfl t0 ?_
      refine R_ps 1 (pc2 := 26) (L2 := [some (vr (some w)), none, none]) (st2 := [vi (J 0), vr (gr h w 9)]) rfl ?_
      obtain ⟨a_14, e_15, k⟩ := k
      rw [e_15]
      obtain ⟨t_16, k⟩ := k
      obtain ⟨t_17, k⟩ := k
      refine R_zaald (i := 0) rfl t_16 t_17 ?_
      refine R_ps 3 (pc2 := 30) (L2 := [some (vr (some w)), some (vr (gr h a_14 (Int.toNat 0))), some (vi (J 1))]) (st2 := []) rfl ?_
      obtain ⟨a_18, e_19, k⟩ := k
      rw [e_19]
      exact k
    · have k := k.1 (Classical.not_not.mp c_10)
      exact R_ret rfl rfl ⟨rfl, k⟩
theorem z24_30 {T N : Nat → Nat} {h : PH} {w : Nat} {a1 : Nat} {x2 : Int} {K : PH → Prop} (t0 : T w = 3) (r2 : In x2) (k : (((x2 < (ai h w 8) → (∃ a_20, (gr h w 9) = some a_20 ∧ 30 ≤ T a_20 ∧ (0 ≤ x2 ∧ x2 < (N a_20 : Int) ∧ x2 < 2147483648) ∧ ∃ a_27, (gr h a_20 (Int.toNat x2)) = some a_27 ∧ (1 ≤ T a_27 ∧ T a_27 ≤ 12 ∧ T a_27 + 30 = T a_20) ∧ (0 ≤ (x2 - 1) ∧ (x2 - 1) < (N a_20 : Int) ∧ (x2 - 1) < 2147483648) ∧ ∀ h_25, h_25 = sr h a_20 (Int.toNat (x2 - 1)) (some a_27) → WV T N 24 30 [some (vr (some w)), some (vr (some a1)), some (vi (J (x2 + 1)))] [] h_25 K)) ∧ (¬ (x2 < (ai h w 8)) → (∃ a_6, (gr h w 9) = some a_6 ∧ (1 ≤ T a1 ∧ T a1 ≤ 12 ∧ T a1 + 30 = T a_6) ∧ (0 ≤ ((ai h w 8) - 1) ∧ ((ai h w 8) - 1) < (N a_6 : Int) ∧ ((ai h w 8) - 1) < 2147483648) ∧ ∀ h_8, h_8 = sr h a_6 (Int.toNat ((ai h w 8) - 1)) (some a1) → ∀ h_14, h_14 = wi h_8 w 8 ((ai h_8 w 8) - 1) → K h_14))))) : WV T N 24 30 [some (vr (some w)), some (vr (some a1)), some (vi (J x2))] [] h K := by
  show WP T N 24 30 [some (vr (some w)), some (vr (some a1)), some (vi (J x2))] [] h _
  refine R_ps 2 (pc2 := 32) (L2 := [some (vr (some w)), some (vr (some a1)), some (vi (J x2))]) (st2 := [vr (some w), vi (J x2)]) rfl ?_
  refine R_zgetI (z := 8) rfl t0 rfl ?_
  refine R_zif (x := x2) (z := ai h w 8) rfl r2 (ai_in _ _ _) (fun c_2 => ?_) (fun c_2 => ?_)
  · have k := k.2 c_2
    refine R_ps 1 (pc2 := 59) (L2 := [some (vr (some w)), some (vr (some a1)), some (vi (J x2))]) (st2 := [vr (some w)]) rfl ?_
    refine R_getR rfl t0 ?_
    refine R_ps 1 (pc2 := 63) (L2 := [some (vr (some w)), some (vr (some a1)), some (vi (J x2))]) (st2 := [vr (some w), vr (gr h w 9)]) rfl ?_
    refine R_zgetI (z := 8) rfl t0 rfl ?_
    refine R_ps 3 (pc2 := 69) (L2 := [some (vr (some w)), some (vr (some a1)), some (vi (J x2))]) (st2 := [vr (some a1), vi ((J (ai h w 8)) - (J 1)), vr (gr h w 9)]) rfl ?_
    rw [show ((J (ai h w 8)) - (J 1)) = J ((ai h w 8) - 1) from J_sub' rfl rfl]
    obtain ⟨a_6, e_7, k⟩ := k
    rw [e_7]
    obtain ⟨t_10, k⟩ := k
    obtain ⟨t_11, k⟩ := k
    refine R_zaast (i := (ai h w 8) - 1) rfl t_10 t_11  ?_
    show WP T N _ _ _ _ (sr h a_6 (Int.toNat ((ai h w 8) - 1)) (some a1)) _
    generalize e_9 : sr h a_6 (Int.toNat ((ai h w 8) - 1)) (some a1) = h_8
    replace k := k h_8 e_9.symm
    refine R_ps 2 (pc2 := 72) (L2 := [some (vr (some w)), some (vr (some a1)), some (vi (J x2))]) (st2 := [vr (some w), vr (some w)]) rfl ?_
    refine R_zgetI (z := 8) rfl t0 rfl ?_
    refine R_ps 2 (pc2 := 77) (L2 := [some (vr (some w)), some (vr (some a1)), some (vi (J x2))]) (st2 := [vi ((J (ai h_8 w 8)) - (J 1)), vr (some w)]) rfl ?_
    rw [show ((J (ai h_8 w 8)) - (J 1)) = J ((ai h_8 w 8) - 1) from J_sub' rfl rfl]
    refine R_zputI (x := (ai h_8 w 8) - 1) (z := 8) rfl t0 rfl ?_
    show WP T N _ _ _ _ (wi h_8 w 8 ((ai h_8 w 8) - 1)) _
    generalize e_15 : wi h_8 w 8 ((ai h_8 w 8) - 1) = h_14
    replace k := k h_14 e_15.symm
    exact R_ret rfl rfl ⟨rfl, k⟩
  · have k := k.1 (Classical.not_not.mp c_2)
    refine R_ps 1 (pc2 := 39) (L2 := [some (vr (some w)), some (vr (some a1)), some (vi (J x2))]) (st2 := [vr (some w)]) rfl ?_
    refine R_getR rfl t0 ?_
    refine R_ps 4 (pc2 := 46) (L2 := [some (vr (some w)), some (vr (some a1)), some (vi (J x2))]) (st2 := [vr (some w), vi ((J x2) - (J 1)), vr (gr h w 9)]) rfl ?_
    rw [show ((J x2) - (J 1)) = J (x2 - 1) from J_sub' rfl rfl]
    refine R_getR rfl t0 ?_
    refine R_ps 1 (pc2 := 50) (L2 := [some (vr (some w)), some (vr (some a1)), some (vi (J x2))]) (st2 := [vi (J x2), vr (gr h w 9), vi (J (x2 - 1)), vr (gr h w 9)]) rfl ?_
    obtain ⟨a_20, e_21, k⟩ := k
    rw [e_21]
    obtain ⟨t_22, k⟩ := k
    obtain ⟨t_23, k⟩ := k
    refine R_zaald (i := x2) rfl t_22 t_23 ?_
    obtain ⟨a_27, e_28, k⟩ := k
    rw [e_28]
    obtain ⟨t_29, k⟩ := k
    obtain ⟨t_30, k⟩ := k
    refine R_zaast (i := x2 - 1) rfl t_29 t_30  ?_
    show WP T N _ _ _ _ (sr h a_20 (Int.toNat (x2 - 1)) (some a_27)) _
    generalize e_26 : sr h a_20 (Int.toNat (x2 - 1)) (some a_27) = h_25
    replace k := k h_25 e_26.symm
    refine R_ps 2 (pc2 := 30) (L2 := [some (vr (some w)), some (vr (some a1)), some (vi ((J x2) + J 1))]) (st2 := []) rfl ?_
    rw [show ((J x2) + J 1) = J (x2 + 1) from J_add' rfl rfl]
    exact k
/-- DroneCorridors$Drone.legsIn -/
theorem z25 {T N : Nat → Nat} {h : PH} {w : Nat} {x1 : Int} {x2 : Int} {K : Int → PH → Prop} (r1 : In x1) (r2 : In x2) (k : (ZW T N 25 5 [some (vr (some w)), some (vi (J x1)), some (vi (J x2)), some (vi (J 0)), some (vi (J 0)), none] [] h K)) : ZI T N 25 [vr (some w), vi (J x1), vi (J x2)] h K := by
  show WP T N 25 0 [some (vr (some w)), some (vi (J x1)), some (vi (J x2)), none, none, none] [] h _
  refine R_ps 4 (pc2 := 5) (L2 := [some (vr (some w)), some (vi (J x1)), some (vi (J x2)), some (vi (J 0)), some (vi (J 0)), none]) (st2 := []) rfl ?_
  exact k
theorem z25_5 {T N : Nat → Nat} {h : PH} {w : Nat} {x1 : Int} {x2 : Int} {x3 : Int} {x4 : Int} {K : Int → PH → Prop} (t0 : T w = 3) (r1 : In x1) (r2 : In x2) (r3 : In x3) (r4 : In x4) (k : (((x4 < (ai h w 8) → (CR T N 17 [vr (some w), vi (J x4)] h (fun x_6 h_5 => (((x_6 = none → (ZW T N 25 5 [some (vr (some w)), some (vi (J x1)), some (vi (J x2)), some (vi (J x3)), some (vi (J (x4 + 1))), none] [] h_5 K)) ∧ (∀ a_8, x_6 = some a_8 → (T a_8 = 7 ∧ (((ai h_5 a_8 0) = x1 → (((x2 = (-1) → (ZW T N 25 5 [some (vr (some w)), some (vi (J x1)), some (vi (J x2)), some (vi (J (x3 + 1))), some (vi (J (x4 + 1))), none] [] h_5 K)) ∧ (¬ (x2 = (-1)) → ((((ai h_5 a_8 2) = x2 → (ZW T N 25 5 [some (vr (some w)), some (vi (J x1)), some (vi (J x2)), some (vi (J (x3 + 1))), some (vi (J (x4 + 1))), none] [] h_5 K)) ∧ (¬ ((ai h_5 a_8 2) = x2) → (ZW T N 25 5 [some (vr (some w)), some (vi (J x1)), some (vi (J x2)), some (vi (J x3)), some (vi (J (x4 + 1))), none] [] h_5 K)))))))) ∧ (¬ ((ai h_5 a_8 0) = x1) → (ZW T N 25 5 [some (vr (some w)), some (vi (J x1)), some (vi (J x2)), some (vi (J x3)), some (vi (J (x4 + 1))), none] [] h_5 K)))))))))) ∧ (¬ (x4 < (ai h w 8)) → (K x3 h))))) : ZW T N 25 5 [some (vr (some w)), some (vi (J x1)), some (vi (J x2)), some (vi (J x3)), some (vi (J x4)), none] [] h K := by
  show WP T N 25 5 [some (vr (some w)), some (vi (J x1)), some (vi (J x2)), some (vi (J x3)), some (vi (J x4)), none] [] h _
  refine R_ps 2 (pc2 := 8) (L2 := [some (vr (some w)), some (vi (J x1)), some (vi (J x2)), some (vi (J x3)), some (vi (J x4)), none]) (st2 := [vr (some w), vi (J x4)]) rfl ?_
  refine R_zgetI (z := 8) rfl t0 rfl ?_
  refine R_zif (x := x4) (z := ai h w 8) rfl r4 (ai_in _ _ _) (fun c_2 => ?_) (fun c_2 => ?_)
  · have k := k.2 c_2
    refine R_ps 1 (pc2 := 60) (L2 := [some (vr (some w)), some (vi (J x1)), some (vi (J x2)), some (vi (J x3)), some (vi (J x4)), none]) (st2 := [vi (J x3)]) rfl ?_
    exact R_iret rfl rfl (R_zr (x := x3) (K := K) r3 k)
  · have k := k.1 (Classical.not_not.mp c_2)
    refine R_ps 2 (pc2 := 17) (L2 := [some (vr (some w)), some (vi (J x1)), some (vi (J x2)), some (vi (J x3)), some (vi (J x4)), none]) (st2 := [vi (J x4), vr (some w)]) rfl ?_
    refine R_cR (as := [vr (some w), vi (J x4)]) rfl rfl ⟨Nat.le_of_ble_eq_true rfl, Nat.le_of_ble_eq_true rfl, rfl, (Or.inr ⟨_, rfl, t0⟩)⟩ rfl rfl k (fun x_6 h_5 k => ?_)
    refine R_ps 2 (pc2 := 24) (L2 := [some (vr (some w)), some (vi (J x1)), some (vi (J x2)), some (vi (J x3)), some (vi (J x4)), some (vr x_6)]) (st2 := [vr x_6]) rfl ?_
    rcases null_or (x_6) with e_9 | ⟨a_8, e_9⟩
    · have k := k.1 e_9
      rw [e_9]
      refine R_null rfl (fun _ => ?_) (fun _ c_7 => nomatch c_7)
      refine R_ps 2 (pc2 := 5) (L2 := [some (vr (some w)), some (vi (J x1)), some (vi (J x2)), some (vi (J x3)), some (vi ((J x4) + J 1)), some (vr none)]) (st2 := []) rfl ?_
      rw [show ((J x4) + J 1) = J (x4 + 1) from J_add' rfl rfl]
      exact R_drop k (LE_of (L := [some (vr (some w)), some (vi (J x1)), some (vi (J x2)), some (vi (J x3)), some (vi (J (x4 + 1))), none]) (L2 := [some (vr (some w)), some (vi (J x1)), some (vi (J x2)), some (vi (J x3)), some (vi (J (x4 + 1))), some (vr none)]) ⟨rfl, rfl, rfl, rfl, rfl, trivial⟩)
    · have k := k.2 a_8 e_9
      rw [e_9]
      refine R_null rfl (fun c_7 => nomatch c_7) (fun _ _ => ?_)
      refine R_ps 1 (pc2 := 29) (L2 := [some (vr (some w)), some (vi (J x1)), some (vi (J x2)), some (vi (J x3)), some (vi (J x4)), some (vr (some a_8))]) (st2 := [vr (some a_8)]) rfl ?_
      obtain ⟨t_11, k⟩ := k
      refine R_zgetI (z := 0) rfl t_11 rfl ?_
      refine R_ps 1 (pc2 := 33) (L2 := [some (vr (some w)), some (vi (J x1)), some (vi (J x2)), some (vi (J x3)), some (vi (J x4)), some (vr (some a_8))]) (st2 := [vi (J x1), vi (J (ai h_5 a_8 0))]) rfl ?_
      refine R_zif (x := ai h_5 a_8 0) (z := x1) rfl (ai_in _ _ _) r1 (fun c_12 => ?_) (fun c_12 => ?_)
      · have k := k.2 c_12
        refine R_ps 2 (pc2 := 5) (L2 := [some (vr (some w)), some (vi (J x1)), some (vi (J x2)), some (vi (J x3)), some (vi ((J x4) + J 1)), some (vr (some a_8))]) (st2 := []) rfl ?_
        rw [show ((J x4) + J 1) = J (x4 + 1) from J_add' rfl rfl]
        exact R_drop k (LE_of (L := [some (vr (some w)), some (vi (J x1)), some (vi (J x2)), some (vi (J x3)), some (vi (J (x4 + 1))), none]) (L2 := [some (vr (some w)), some (vi (J x1)), some (vi (J x2)), some (vi (J x3)), some (vi (J (x4 + 1))), some (vr (some a_8))]) ⟨rfl, rfl, rfl, rfl, rfl, trivial⟩)
      · have k := k.1 (Classical.not_not.mp c_12)
        refine R_ps 2 (pc2 := 38) (L2 := [some (vr (some w)), some (vi (J x1)), some (vi (J x2)), some (vi (J x3)), some (vi (J x4)), some (vr (some a_8))]) (st2 := [vi (J (-1)), vi (J x2)]) rfl ?_
        refine R_zif (x := x2) (z := (-1)) rfl r2 (by decide) (fun c_13 => ?_) (fun c_13 => ?_)
        · have k := k.1 c_13
          refine R_ps 3 (pc2 := 5) (L2 := [some (vr (some w)), some (vi (J x1)), some (vi (J x2)), some (vi ((J x3) + J 1)), some (vi ((J x4) + J 1)), some (vr (some a_8))]) (st2 := []) rfl ?_
          rw [show ((J x3) + J 1) = J (x3 + 1) from J_add' rfl rfl]
          rw [show ((J x4) + J 1) = J (x4 + 1) from J_add' rfl rfl]
          exact R_drop k (LE_of (L := [some (vr (some w)), some (vi (J x1)), some (vi (J x2)), some (vi (J (x3 + 1))), some (vi (J (x4 + 1))), none]) (L2 := [some (vr (some w)), some (vi (J x1)), some (vi (J x2)), some (vi (J (x3 + 1))), some (vi (J (x4 + 1))), some (vr (some a_8))]) ⟨rfl, rfl, rfl, rfl, rfl, trivial⟩)
        · have k := k.2 c_13
          refine R_ps 1 (pc2 := 43) (L2 := [some (vr (some w)), some (vi (J x1)), some (vi (J x2)), some (vi (J x3)), some (vi (J x4)), some (vr (some a_8))]) (st2 := [vr (some a_8)]) rfl ?_
          refine R_zgetI (z := 2) rfl t_11 rfl ?_
          refine R_ps 1 (pc2 := 47) (L2 := [some (vr (some w)), some (vi (J x1)), some (vi (J x2)), some (vi (J x3)), some (vi (J x4)), some (vr (some a_8))]) (st2 := [vi (J x2), vi (J (ai h_5 a_8 2))]) rfl ?_
          refine R_zif (x := ai h_5 a_8 2) (z := x2) rfl (ai_in _ _ _) r2 (fun c_15 => ?_) (fun c_15 => ?_)
          · have k := k.2 c_15
            refine R_ps 2 (pc2 := 5) (L2 := [some (vr (some w)), some (vi (J x1)), some (vi (J x2)), some (vi (J x3)), some (vi ((J x4) + J 1)), some (vr (some a_8))]) (st2 := []) rfl ?_
            rw [show ((J x4) + J 1) = J (x4 + 1) from J_add' rfl rfl]
            exact R_drop k (LE_of (L := [some (vr (some w)), some (vi (J x1)), some (vi (J x2)), some (vi (J x3)), some (vi (J (x4 + 1))), none]) (L2 := [some (vr (some w)), some (vi (J x1)), some (vi (J x2)), some (vi (J x3)), some (vi (J (x4 + 1))), some (vr (some a_8))]) ⟨rfl, rfl, rfl, rfl, rfl, trivial⟩)
          · have k := k.1 (Classical.not_not.mp c_15)
            refine R_ps 3 (pc2 := 5) (L2 := [some (vr (some w)), some (vi (J x1)), some (vi (J x2)), some (vi ((J x3) + J 1)), some (vi ((J x4) + J 1)), some (vr (some a_8))]) (st2 := []) rfl ?_
            rw [show ((J x3) + J 1) = J (x3 + 1) from J_add' rfl rfl]
            rw [show ((J x4) + J 1) = J (x4 + 1) from J_add' rfl rfl]
            exact R_drop k (LE_of (L := [some (vr (some w)), some (vi (J x1)), some (vi (J x2)), some (vi (J (x3 + 1))), some (vi (J (x4 + 1))), none]) (L2 := [some (vr (some w)), some (vi (J x1)), some (vi (J x2)), some (vi (J (x3 + 1))), some (vi (J (x4 + 1))), some (vr (some a_8))]) ⟨rfl, rfl, rfl, rfl, rfl, trivial⟩)
/-- DroneCorridors$Drone.pairsWith -/
theorem z26 {T N : Nat → Nat} {h : PH} {w : Nat} {a1 : Nat} {x2 : Int} {K : Int → PH → Prop} (r2 : In x2) (k : (ZW T N 26 5 [some (vr (some w)), some (vr (some a1)), some (vi (J x2)), some (vi (J 0)), some (vi (J 0)), none] [] h K)) : ZI T N 26 [vr (some w), vr (some a1), vi (J x2)] h K := by
  show WP T N 26 0 [some (vr (some w)), some (vr (some a1)), some (vi (J x2)), none, none, none] [] h _
  refine R_ps 4 (pc2 := 5) (L2 := [some (vr (some w)), some (vr (some a1)), some (vi (J x2)), some (vi (J 0)), some (vi (J 0)), none]) (st2 := []) rfl ?_
  exact k
theorem z26_5 {T N : Nat → Nat} {h : PH} {w : Nat} {a1 : Nat} {x2 : Int} {x3 : Int} {x4 : Int} {K : Int → PH → Prop} (t0 : T w = 3) (r2 : In x2) (r3 : In x3) (r4 : In x4) (k : (((x4 < (ai h w 8) → (CR T N 17 [vr (some w), vi (J x4)] h (fun x_6 h_5 => (((x_6 = none → (ZW T N 26 5 [some (vr (some w)), some (vr (some a1)), some (vi (J x2)), some (vi (J x3)), some (vi (J (x4 + 1))), none] [] h_5 K)) ∧ (∀ a_8, x_6 = some a_8 → (T a_8 = 7 ∧ ZI T N 55 [vr (some a_8), vr (some a1)] h_5 (fun x_13 h_12 => (((x_13 = 0 → (ZW T N 26 5 [some (vr (some w)), some (vr (some a1)), some (vi (J x2)), some (vi (J x3)), some (vi (J (x4 + 1))), none] [] h_12 K)) ∧ (¬ (x_13 = 0) → (ZI T N 56 [vr (some a_8), vr (some a1)] h_12 (fun x_18 h_17 => (((x_18 = x2 → (ZW T N 26 5 [some (vr (some w)), some (vr (some a1)), some (vi (J x2)), some (vi (J (x3 + 1))), some (vi (J (x4 + 1))), none] [] h_17 K)) ∧ (¬ (x_18 = x2) → (ZW T N 26 5 [some (vr (some w)), some (vr (some a1)), some (vi (J x2)), some (vi (J x3)), some (vi (J (x4 + 1))), none] [] h_17 K))))))))))))))))) ∧ (¬ (x4 < (ai h w 8)) → (K x3 h))))) : ZW T N 26 5 [some (vr (some w)), some (vr (some a1)), some (vi (J x2)), some (vi (J x3)), some (vi (J x4)), none] [] h K := by
  show WP T N 26 5 [some (vr (some w)), some (vr (some a1)), some (vi (J x2)), some (vi (J x3)), some (vi (J x4)), none] [] h _
  refine R_ps 2 (pc2 := 8) (L2 := [some (vr (some w)), some (vr (some a1)), some (vi (J x2)), some (vi (J x3)), some (vi (J x4)), none]) (st2 := [vr (some w), vi (J x4)]) rfl ?_
  refine R_zgetI (z := 8) rfl t0 rfl ?_
  refine R_zif (x := x4) (z := ai h w 8) rfl r4 (ai_in _ _ _) (fun c_2 => ?_) (fun c_2 => ?_)
  · have k := k.2 c_2
    refine R_ps 1 (pc2 := 56) (L2 := [some (vr (some w)), some (vr (some a1)), some (vi (J x2)), some (vi (J x3)), some (vi (J x4)), none]) (st2 := [vi (J x3)]) rfl ?_
    exact R_iret rfl rfl (R_zr (x := x3) (K := K) r3 k)
  · have k := k.1 (Classical.not_not.mp c_2)
    refine R_ps 2 (pc2 := 17) (L2 := [some (vr (some w)), some (vr (some a1)), some (vi (J x2)), some (vi (J x3)), some (vi (J x4)), none]) (st2 := [vi (J x4), vr (some w)]) rfl ?_
    refine R_cR (as := [vr (some w), vi (J x4)]) rfl rfl ⟨Nat.le_of_ble_eq_true rfl, Nat.le_of_ble_eq_true rfl, rfl, (Or.inr ⟨_, rfl, t0⟩)⟩ rfl rfl k (fun x_6 h_5 k => ?_)
    refine R_ps 2 (pc2 := 24) (L2 := [some (vr (some w)), some (vr (some a1)), some (vi (J x2)), some (vi (J x3)), some (vi (J x4)), some (vr x_6)]) (st2 := [vr x_6]) rfl ?_
    rcases null_or (x_6) with e_9 | ⟨a_8, e_9⟩
    · have k := k.1 e_9
      rw [e_9]
      refine R_null rfl (fun _ => ?_) (fun _ c_7 => nomatch c_7)
      refine R_ps 2 (pc2 := 5) (L2 := [some (vr (some w)), some (vr (some a1)), some (vi (J x2)), some (vi (J x3)), some (vi ((J x4) + J 1)), some (vr none)]) (st2 := []) rfl ?_
      rw [show ((J x4) + J 1) = J (x4 + 1) from J_add' rfl rfl]
      exact R_drop k (LE_of (L := [some (vr (some w)), some (vr (some a1)), some (vi (J x2)), some (vi (J x3)), some (vi (J (x4 + 1))), none]) (L2 := [some (vr (some w)), some (vr (some a1)), some (vi (J x2)), some (vi (J x3)), some (vi (J (x4 + 1))), some (vr none)]) ⟨rfl, rfl, rfl, rfl, rfl, trivial⟩)
    · have k := k.2 a_8 e_9
      rw [e_9]
      refine R_null rfl (fun c_7 => nomatch c_7) (fun _ _ => ?_)
      refine R_ps 2 (pc2 := 30) (L2 := [some (vr (some w)), some (vr (some a1)), some (vi (J x2)), some (vi (J x3)), some (vi (J x4)), some (vr (some a_8))]) (st2 := [vr (some a1), vr (some a_8)]) rfl ?_
      obtain ⟨t_11, k⟩ := k
      refine R_zcI (as := [vr (some a_8), vr (some a1)]) rfl rfl ⟨Nat.le_of_ble_eq_true rfl, Nat.le_of_ble_eq_true rfl, rfl, (Or.inr ⟨_, rfl, t_11⟩)⟩ rfl rfl k (fun x_13 h_12 r_14 k => ?_)
      refine R_zif0 (x := x_13) rfl r_14 (fun c_15 => ?_) (fun c_15 => ?_)
      · have k := k.1 c_15
        refine R_ps 2 (pc2 := 5) (L2 := [some (vr (some w)), some (vr (some a1)), some (vi (J x2)), some (vi (J x3)), some (vi ((J x4) + J 1)), some (vr (some a_8))]) (st2 := []) rfl ?_
        rw [show ((J x4) + J 1) = J (x4 + 1) from J_add' rfl rfl]
        exact R_drop k (LE_of (L := [some (vr (some w)), some (vr (some a1)), some (vi (J x2)), some (vi (J x3)), some (vi (J (x4 + 1))), none]) (L2 := [some (vr (some w)), some (vr (some a1)), some (vi (J x2)), some (vi (J x3)), some (vi (J (x4 + 1))), some (vr (some a_8))]) ⟨rfl, rfl, rfl, rfl, rfl, trivial⟩)
      · have k := k.2 c_15
        refine R_ps 2 (pc2 := 39) (L2 := [some (vr (some w)), some (vr (some a1)), some (vi (J x2)), some (vi (J x3)), some (vi (J x4)), some (vr (some a_8))]) (st2 := [vr (some a1), vr (some a_8)]) rfl ?_
        refine R_zcI (as := [vr (some a_8), vr (some a1)]) rfl rfl ⟨Nat.le_of_ble_eq_true rfl, Nat.le_of_ble_eq_true rfl, rfl, (Or.inr ⟨_, rfl, t_11⟩)⟩ rfl rfl k (fun x_18 h_17 r_19 k => ?_)
        refine R_ps 1 (pc2 := 43) (L2 := [some (vr (some w)), some (vr (some a1)), some (vi (J x2)), some (vi (J x3)), some (vi (J x4)), some (vr (some a_8))]) (st2 := [vi (J x2), vi (J x_18)]) rfl ?_
        refine R_zif (x := x_18) (z := x2) rfl r_19 r2 (fun c_20 => ?_) (fun c_20 => ?_)
        · have k := k.2 c_20
          refine R_ps 2 (pc2 := 5) (L2 := [some (vr (some w)), some (vr (some a1)), some (vi (J x2)), some (vi (J x3)), some (vi ((J x4) + J 1)), some (vr (some a_8))]) (st2 := []) rfl ?_
          rw [show ((J x4) + J 1) = J (x4 + 1) from J_add' rfl rfl]
          exact R_drop k (LE_of (L := [some (vr (some w)), some (vr (some a1)), some (vi (J x2)), some (vi (J x3)), some (vi (J (x4 + 1))), none]) (L2 := [some (vr (some w)), some (vr (some a1)), some (vi (J x2)), some (vi (J x3)), some (vi (J (x4 + 1))), some (vr (some a_8))]) ⟨rfl, rfl, rfl, rfl, rfl, trivial⟩)
        · have k := k.1 (Classical.not_not.mp c_20)
          refine R_ps 3 (pc2 := 5) (L2 := [some (vr (some w)), some (vr (some a1)), some (vi (J x2)), some (vi ((J x3) + J 1)), some (vi ((J x4) + J 1)), some (vr (some a_8))]) (st2 := []) rfl ?_
          rw [show ((J x3) + J 1) = J (x3 + 1) from J_add' rfl rfl]
          rw [show ((J x4) + J 1) = J (x4 + 1) from J_add' rfl rfl]
          exact R_drop k (LE_of (L := [some (vr (some w)), some (vr (some a1)), some (vi (J x2)), some (vi (J (x3 + 1))), some (vi (J (x4 + 1))), none]) (L2 := [some (vr (some w)), some (vr (some a1)), some (vi (J x2)), some (vi (J (x3 + 1))), some (vi (J (x4 + 1))), some (vr (some a_8))]) ⟨rfl, rfl, rfl, rfl, rfl, trivial⟩)
/-- DroneCorridors$Drone.addsUp -/
theorem z27 {T N : Nat → Nat} {h : PH} {w : Nat} {K : Int → PH → Prop} (t0 : T w = 3) (k : (∃ a_3, (gr h w 7) = some a_3 ∧ T a_3 = 22 ∧ (0 ≤ (0 : Int) ∧ (0 : Int) < (N a_3 : Int) ∧ (0 : Int) < 2147483648) ∧ ∃ a_9, (gr h w 7) = some a_9 ∧ T a_9 = 22 ∧ (0 ≤ (1 : Int) ∧ (1 : Int) < (N a_9 : Int) ∧ (1 : Int) < 2147483648) ∧ ∃ a_15, (gr h w 7) = some a_15 ∧ T a_15 = 22 ∧ (0 ≤ (2 : Int) ∧ (2 : Int) < (N a_15 : Int) ∧ (2 : Int) < 2147483648) ∧ ∃ a_23, (gr h w 7) = some a_23 ∧ T a_23 = 22 ∧ (0 ≤ (3 : Int) ∧ (3 : Int) < (N a_23 : Int) ∧ (3 : Int) < 2147483648) ∧ In (((ai h w 5) + (ai h a_23 3)) - ((((ai h a_3 0) + (ai h a_9 1)) + (ai h a_15 2)) + (ai h w 6))) ∧ (((((ai h w 5) + (ai h a_23 3)) - ((((ai h a_3 0) + (ai h a_9 1)) + (ai h a_15 2)) + (ai h w 6))) = (ai h w 1) → (K 1 h)) ∧ (¬ ((((ai h w 5) + (ai h a_23 3)) - ((((ai h a_3 0) + (ai h a_9 1)) + (ai h a_15 2)) + (ai h w 6))) = (ai h w 1)) → (K 0 h))))) : ZI T N 27 [vr (some w)] h K := by
  show WP T N 27 0 [some (vr (some w)), none] [] h _
  refine R_ps 1 (pc2 := 1) (L2 := [some (vr (some w)), none]) (st2 := [vr (some w)]) rfl ?_
  refine R_getR rfl t0 ?_
  refine R_ps 1 (pc2 := 5) (L2 := [some (vr (some w)), none]) (st2 := [vi (J 0), vr (gr h w 7)]) rfl ?_
  obtain ⟨a_3, e_4, k⟩ := k
  rw [e_4]
  obtain ⟨t_5, k⟩ := k
  obtain ⟨t_6, k⟩ := k
  refine R_ziald (i := 0) rfl (Or.inl t_5) t_6 ?_
  refine R_ps 1 (pc2 := 7) (L2 := [some (vr (some w)), none]) (st2 := [vr (some w), vi (J (ai h a_3 0))]) rfl ?_
  refine R_getR rfl t0 ?_
  refine R_ps 1 (pc2 := 11) (L2 := [some (vr (some w)), none]) (st2 := [vi (J 1), vr (gr h w 7), vi (J (ai h a_3 0))]) rfl ?_
  obtain ⟨a_9, e_10, k⟩ := k
  rw [e_10]
  obtain ⟨t_11, k⟩ := k
  obtain ⟨t_12, k⟩ := k
  refine R_ziald (i := 1) rfl (Or.inl t_11) t_12 ?_
  refine R_ps 2 (pc2 := 14) (L2 := [some (vr (some w)), none]) (st2 := [vr (some w), vi ((J (ai h a_3 0)) + (J (ai h a_9 1)))]) rfl ?_
  rw [show ((J (ai h a_3 0)) + (J (ai h a_9 1))) = J ((ai h a_3 0) + (ai h a_9 1)) from J_add' rfl rfl]
  refine R_getR rfl t0 ?_
  refine R_ps 1 (pc2 := 18) (L2 := [some (vr (some w)), none]) (st2 := [vi (J 2), vr (gr h w 7), vi (J ((ai h a_3 0) + (ai h a_9 1)))]) rfl ?_
  obtain ⟨a_15, e_16, k⟩ := k
  rw [e_16]
  obtain ⟨t_17, k⟩ := k
  obtain ⟨t_18, k⟩ := k
  refine R_ziald (i := 2) rfl (Or.inl t_17) t_18 ?_
  refine R_ps 2 (pc2 := 21) (L2 := [some (vr (some w)), none]) (st2 := [vr (some w), vi ((J ((ai h a_3 0) + (ai h a_9 1))) + (J (ai h a_15 2)))]) rfl ?_
  rw [show ((J ((ai h a_3 0) + (ai h a_9 1))) + (J (ai h a_15 2))) = J (((ai h a_3 0) + (ai h a_9 1)) + (ai h a_15 2)) from J_add' rfl rfl]
  refine R_zgetI (z := 6) rfl t0 rfl ?_
  refine R_ps 3 (pc2 := 27) (L2 := [some (vr (some w)), some (vi ((J (((ai h a_3 0) + (ai h a_9 1)) + (ai h a_15 2))) + (J (ai h w 6))))]) (st2 := [vr (some w)]) rfl ?_
  rw [show ((J (((ai h a_3 0) + (ai h a_9 1)) + (ai h a_15 2))) + (J (ai h w 6))) = J ((((ai h a_3 0) + (ai h a_9 1)) + (ai h a_15 2)) + (ai h w 6)) from J_add' rfl rfl]
  refine R_zgetI (z := 5) rfl t0 rfl ?_
  refine R_ps 1 (pc2 := 31) (L2 := [some (vr (some w)), some (vi (J ((((ai h a_3 0) + (ai h a_9 1)) + (ai h a_15 2)) + (ai h w 6))))]) (st2 := [vr (some w), vi (J (ai h w 5))]) rfl ?_
  refine R_getR rfl t0 ?_
  refine R_ps 1 (pc2 := 35) (L2 := [some (vr (some w)), some (vi (J ((((ai h a_3 0) + (ai h a_9 1)) + (ai h a_15 2)) + (ai h w 6))))]) (st2 := [vi (J 3), vr (gr h w 7), vi (J (ai h w 5))]) rfl ?_
  obtain ⟨a_23, e_24, k⟩ := k
  rw [e_24]
  obtain ⟨t_25, k⟩ := k
  obtain ⟨t_26, k⟩ := k
  refine R_ziald (i := 3) rfl (Or.inl t_25) t_26 ?_
  refine R_ps 4 (pc2 := 40) (L2 := [some (vr (some w)), some (vi (J ((((ai h a_3 0) + (ai h a_9 1)) + (ai h a_15 2)) + (ai h w 6))))]) (st2 := [vr (some w), vi (((J (ai h w 5)) + (J (ai h a_23 3))) - (J ((((ai h a_3 0) + (ai h a_9 1)) + (ai h a_15 2)) + (ai h w 6))))]) rfl ?_
  rw [show (((J (ai h w 5)) + (J (ai h a_23 3))) - (J ((((ai h a_3 0) + (ai h a_9 1)) + (ai h a_15 2)) + (ai h w 6)))) = J (((ai h w 5) + (ai h a_23 3)) - ((((ai h a_3 0) + (ai h a_9 1)) + (ai h a_15 2)) + (ai h w 6))) from J_sub' (J_add' rfl rfl) rfl]
  refine R_zgetI (z := 1) rfl t0 rfl ?_
  obtain ⟨t_29, k⟩ := k
  refine R_zif (x := ((ai h w 5) + (ai h a_23 3)) - ((((ai h a_3 0) + (ai h a_9 1)) + (ai h a_15 2)) + (ai h w 6))) (z := ai h w 1) rfl t_29 (ai_in _ _ _) (fun c_28 => ?_) (fun c_28 => ?_)
  · have k := k.2 c_28
    refine R_ps 1 (pc2 := 51) (L2 := [some (vr (some w)), some (vi (J ((((ai h a_3 0) + (ai h a_9 1)) + (ai h a_15 2)) + (ai h w 6))))]) (st2 := [vi (J 0)]) rfl ?_
    exact R_zzret (x := 0) rfl rfl (Or.inl rfl) (R_zr (x := 0) (K := K) (by decide) k)
  · have k := k.1 (Classical.not_not.mp c_28)
    refine R_ps 2 (pc2 := 51) (L2 := [some (vr (some w)), some (vi (J ((((ai h a_3 0) + (ai h a_9 1)) + (ai h a_15 2)) + (ai h w 6))))]) (st2 := [vi (J 1)]) rfl ?_
    exact R_zzret (x := 1) rfl rfl (Or.inr rfl) (R_zr (x := 1) (K := K) (by decide) k)
/-- DroneCorridors$Drone.land -/
theorem z28 {T N : Nat → Nat} {h : PH} {w : Nat} {K : PH → Prop} (t0 : T w = 3) (k : (∀ h_2, h_2 = wi h w 0 0 → ∀ h_5, h_5 = wi h_2 w 2 0 → K h_5)) : CV T N 28 [vr (some w)] h K := by
  show WP T N 28 0 [some (vr (some w))] [] h _
  refine R_ps 2 (pc2 := 2) (L2 := [some (vr (some w))]) (st2 := [vi (J 0), vr (some w)]) rfl ?_
  refine R_zputI (x := 0) (z := 0) rfl t0 rfl ?_
  show WP T N _ _ _ _ (wi h w 0 0) _
  generalize e_3 : wi h w 0 0 = h_2
  replace k := k h_2 e_3.symm
  refine R_ps 2 (pc2 := 7) (L2 := [some (vr (some w))]) (st2 := [vi (J 0), vr (some w)]) rfl ?_
  refine R_zputI (x := 0) (z := 2) rfl t0 rfl ?_
  show WP T N _ _ _ _ (wi h_2 w 2 0) _
  generalize e_6 : wi h_2 w 2 0 = h_5
  replace k := k h_5 e_6.symm
  exact R_ret rfl rfl ⟨rfl, k⟩
/-- DroneCorridors$Drone.beLost -/
theorem z29 {T N : Nat → Nat} {h : PH} {w : Nat} {K : PH → Prop} (t0 : T w = 3) (k : (∀ h_2, h_2 = wi h w 0 3 → ∀ h_5, h_5 = wi h_2 w 8 0 → K h_5)) : CV T N 29 [vr (some w)] h K := by
  show WP T N 29 0 [some (vr (some w))] [] h _
  refine R_ps 2 (pc2 := 2) (L2 := [some (vr (some w))]) (st2 := [vi (J 3), vr (some w)]) rfl ?_
  refine R_zputI (x := 3) (z := 0) rfl t0 rfl ?_
  show WP T N _ _ _ _ (wi h w 0 3) _
  generalize e_3 : wi h w 0 3 = h_2
  replace k := k h_2 e_3.symm
  refine R_ps 2 (pc2 := 7) (L2 := [some (vr (some w))]) (st2 := [vi (J 0), vr (some w)]) rfl ?_
  refine R_zputI (x := 0) (z := 8) rfl t0 rfl ?_
  show WP T N _ _ _ _ (wi h_2 w 8 0) _
  generalize e_6 : wi h_2 w 8 0 = h_5
  replace k := k h_5 e_6.symm
  exact R_ret rfl rfl ⟨rfl, k⟩
/-- DroneCorridors$Drone.loseTo -/
theorem z30 {T N : Nat → Nat} {h : PH} {w : Nat} {x1 : Int} {K : PH → Prop} (t0 : T w = 3) (r1 : In x1) (k : ((((ai h w 0) = 2 → (In ((ai h w 1) - 1) ∧ In (if ((ai h w 1) - 1) < x1 then ((ai h w 1) - 1) else x1) ∧ ∀ h_33, h_33 = wi h w 1 ((ai h w 1) - (if 0 < (if ((ai h w 1) - 1) < x1 then ((ai h w 1) - 1) else x1) then (if ((ai h w 1) - 1) < x1 then ((ai h w 1) - 1) else x1) else 0)) → ∀ h_37, h_37 = wi h_33 w 6 ((ai h_33 w 6) + (if 0 < (if ((ai h w 1) - 1) < x1 then ((ai h w 1) - 1) else x1) then (if ((ai h w 1) - 1) < x1 then ((ai h w 1) - 1) else x1) else 0)) → (((ai h_37 w 0) = 1 → ((((ai h_37 w 1) = 0 → (CV T N 29 [vr (some w)] h_37 (fun h_46 => (K h_46)))) ∧ (¬ ((ai h_37 w 1) = 0) → (K h_37))))) ∧ (¬ ((ai h_37 w 0) = 1) → (K h_37))))) ∧ (¬ ((ai h w 0) = 2) → (In ((ai h w 1) - 0) ∧ In (if ((ai h w 1) - 0) < x1 then ((ai h w 1) - 0) else x1) ∧ ∀ h_10, h_10 = wi h w 1 ((ai h w 1) - (if 0 < (if ((ai h w 1) - 0) < x1 then ((ai h w 1) - 0) else x1) then (if ((ai h w 1) - 0) < x1 then ((ai h w 1) - 0) else x1) else 0)) → ∀ h_14, h_14 = wi h_10 w 6 ((ai h_10 w 6) + (if 0 < (if ((ai h w 1) - 0) < x1 then ((ai h w 1) - 0) else x1) then (if ((ai h w 1) - 0) < x1 then ((ai h w 1) - 0) else x1) else 0)) → (((ai h_14 w 0) = 1 → ((((ai h_14 w 1) = 0 → (CV T N 29 [vr (some w)] h_14 (fun h_23 => (K h_23)))) ∧ (¬ ((ai h_14 w 1) = 0) → (K h_14))))) ∧ (¬ ((ai h_14 w 0) = 1) → (K h_14)))))))) : CV T N 30 [vr (some w), vi (J x1)] h K := by
  show WP T N 30 0 [some (vr (some w)), some (vi (J x1)), none, none] [] h _
  refine R_ps 1 (pc2 := 1) (L2 := [some (vr (some w)), some (vi (J x1)), none, none]) (st2 := [vr (some w)]) rfl ?_
  refine R_zgetI (z := 0) rfl t0 rfl ?_
  refine R_ps 1 (pc2 := 5) (L2 := [some (vr (some w)), some (vi (J x1)), none, none]) (st2 := [vi (J 2), vi (J (ai h w 0))]) rfl ?_
  refine R_zif (x := ai h w 0) (z := 2) rfl (ai_in _ _ _) (by decide) (fun c_2 => ?_) (fun c_2 => ?_)
  · have k := k.2 c_2
    refine R_ps 5 (pc2 := 17) (L2 := [some (vr (some w)), some (vi (J x1)), some (vi (J 0)), none]) (st2 := [vr (some w), vi (J x1), vi (J 0)]) rfl ?_
    refine R_zgetI (z := 1) rfl t0 rfl ?_
    refine R_ps 2 (pc2 := 22) (L2 := [some (vr (some w)), some (vi (J x1)), some (vi (J 0)), none]) (st2 := [vi ((J (ai h w 1)) - (J 0)), vi (J x1), vi (J 0)]) rfl ?_
    rw [show ((J (ai h w 1)) - (J 0)) = J ((ai h w 1) - 0) from J_sub' rfl rfl]
    obtain ⟨t_5, k⟩ := k
    refine R_jdkz (st2 := [vi (if (J ((ai h w 1) - 0)) < (J x1) then (J ((ai h w 1) - 0)) else (J x1)), vi (J 0)]) (st3 := [vi (J (if ((ai h w 1) - 0) < x1 then ((ai h w 1) - 0) else x1)), vi (J 0)]) rfl rfl rfl rfl rfl rfl rfl rfl (congrArg (fun q => vi q :: [vi (J 0)]) (J_min' r1 t_5)) ?_
    obtain ⟨t_7, k⟩ := k
    refine R_jdkz (st2 := [vi (if (J 0) < (J (if ((ai h w 1) - 0) < x1 then ((ai h w 1) - 0) else x1)) then (J (if ((ai h w 1) - 0) < x1 then ((ai h w 1) - 0) else x1)) else (J 0))]) (st3 := [vi (J (if 0 < (if ((ai h w 1) - 0) < x1 then ((ai h w 1) - 0) else x1) then (if ((ai h w 1) - 0) < x1 then ((ai h w 1) - 0) else x1) else 0))]) rfl rfl rfl rfl rfl rfl rfl rfl (congrArg (fun q => vi q :: []) (J_max' (by decide) t_7)) ?_
    refine R_ps 3 (pc2 := 31) (L2 := [some (vr (some w)), some (vi (J x1)), some (vi (J 0)), some (vi (J (if 0 < (if ((ai h w 1) - 0) < x1 then ((ai h w 1) - 0) else x1) then (if ((ai h w 1) - 0) < x1 then ((ai h w 1) - 0) else x1) else 0)))]) (st2 := [vr (some w), vr (some w)]) rfl ?_
    refine R_zgetI (z := 1) rfl t0 rfl ?_
    refine R_ps 2 (pc2 := 36) (L2 := [some (vr (some w)), some (vi (J x1)), some (vi (J 0)), some (vi (J (if 0 < (if ((ai h w 1) - 0) < x1 then ((ai h w 1) - 0) else x1) then (if ((ai h w 1) - 0) < x1 then ((ai h w 1) - 0) else x1) else 0)))]) (st2 := [vi ((J (ai h w 1)) - (J (if 0 < (if ((ai h w 1) - 0) < x1 then ((ai h w 1) - 0) else x1) then (if ((ai h w 1) - 0) < x1 then ((ai h w 1) - 0) else x1) else 0))), vr (some w)]) rfl ?_
    rw [show ((J (ai h w 1)) - (J (if 0 < (if ((ai h w 1) - 0) < x1 then ((ai h w 1) - 0) else x1) then (if ((ai h w 1) - 0) < x1 then ((ai h w 1) - 0) else x1) else 0))) = J ((ai h w 1) - (if 0 < (if ((ai h w 1) - 0) < x1 then ((ai h w 1) - 0) else x1) then (if ((ai h w 1) - 0) < x1 then ((ai h w 1) - 0) else x1) else 0)) from J_sub' rfl rfl]
    refine R_zputI (x := (ai h w 1) - (if 0 < (if ((ai h w 1) - 0) < x1 then ((ai h w 1) - 0) else x1) then (if ((ai h w 1) - 0) < x1 then ((ai h w 1) - 0) else x1) else 0)) (z := 1) rfl t0 rfl ?_
    show WP T N _ _ _ _ (wi h w 1 ((ai h w 1) - (if 0 < (if ((ai h w 1) - 0) < x1 then ((ai h w 1) - 0) else x1) then (if ((ai h w 1) - 0) < x1 then ((ai h w 1) - 0) else x1) else 0))) _
    generalize e_11 : wi h w 1 ((ai h w 1) - (if 0 < (if ((ai h w 1) - 0) < x1 then ((ai h w 1) - 0) else x1) then (if ((ai h w 1) - 0) < x1 then ((ai h w 1) - 0) else x1) else 0)) = h_10
    replace k := k h_10 e_11.symm
    refine R_ps 2 (pc2 := 41) (L2 := [some (vr (some w)), some (vi (J x1)), some (vi (J 0)), some (vi (J (if 0 < (if ((ai h w 1) - 0) < x1 then ((ai h w 1) - 0) else x1) then (if ((ai h w 1) - 0) < x1 then ((ai h w 1) - 0) else x1) else 0)))]) (st2 := [vr (some w), vr (some w)]) rfl ?_
    refine R_zgetI (z := 6) rfl t0 rfl ?_
    refine R_ps 2 (pc2 := 46) (L2 := [some (vr (some w)), some (vi (J x1)), some (vi (J 0)), some (vi (J (if 0 < (if ((ai h w 1) - 0) < x1 then ((ai h w 1) - 0) else x1) then (if ((ai h w 1) - 0) < x1 then ((ai h w 1) - 0) else x1) else 0)))]) (st2 := [vi ((J (ai h_10 w 6)) + (J (if 0 < (if ((ai h w 1) - 0) < x1 then ((ai h w 1) - 0) else x1) then (if ((ai h w 1) - 0) < x1 then ((ai h w 1) - 0) else x1) else 0))), vr (some w)]) rfl ?_
    rw [show ((J (ai h_10 w 6)) + (J (if 0 < (if ((ai h w 1) - 0) < x1 then ((ai h w 1) - 0) else x1) then (if ((ai h w 1) - 0) < x1 then ((ai h w 1) - 0) else x1) else 0))) = J ((ai h_10 w 6) + (if 0 < (if ((ai h w 1) - 0) < x1 then ((ai h w 1) - 0) else x1) then (if ((ai h w 1) - 0) < x1 then ((ai h w 1) - 0) else x1) else 0)) from J_add' rfl rfl]
    refine R_zputI (x := (ai h_10 w 6) + (if 0 < (if ((ai h w 1) - 0) < x1 then ((ai h w 1) - 0) else x1) then (if ((ai h w 1) - 0) < x1 then ((ai h w 1) - 0) else x1) else 0)) (z := 6) rfl t0 rfl ?_
    show WP T N _ _ _ _ (wi h_10 w 6 ((ai h_10 w 6) + (if 0 < (if ((ai h w 1) - 0) < x1 then ((ai h w 1) - 0) else x1) then (if ((ai h w 1) - 0) < x1 then ((ai h w 1) - 0) else x1) else 0))) _
    generalize e_15 : wi h_10 w 6 ((ai h_10 w 6) + (if 0 < (if ((ai h w 1) - 0) < x1 then ((ai h w 1) - 0) else x1) then (if ((ai h w 1) - 0) < x1 then ((ai h w 1) - 0) else x1) else 0)) = h_14
    replace k := k h_14 e_15.symm
    refine R_ps 1 (pc2 := 50) (L2 := [some (vr (some w)), some (vi (J x1)), some (vi (J 0)), some (vi (J (if 0 < (if ((ai h w 1) - 0) < x1 then ((ai h w 1) - 0) else x1) then (if ((ai h w 1) - 0) < x1 then ((ai h w 1) - 0) else x1) else 0)))]) (st2 := [vr (some w)]) rfl ?_
    refine R_zgetI (z := 0) rfl t0 rfl ?_
    refine R_ps 1 (pc2 := 54) (L2 := [some (vr (some w)), some (vi (J x1)), some (vi (J 0)), some (vi (J (if 0 < (if ((ai h w 1) - 0) < x1 then ((ai h w 1) - 0) else x1) then (if ((ai h w 1) - 0) < x1 then ((ai h w 1) - 0) else x1) else 0)))]) (st2 := [vi (J 1), vi (J (ai h_14 w 0))]) rfl ?_
    refine R_zif (x := ai h_14 w 0) (z := 1) rfl (ai_in _ _ _) (by decide) (fun c_17 => ?_) (fun c_17 => ?_)
    · have k := k.2 c_17
      exact R_ret rfl rfl ⟨rfl, k⟩
    · have k := k.1 (Classical.not_not.mp c_17)
      refine R_ps 1 (pc2 := 58) (L2 := [some (vr (some w)), some (vi (J x1)), some (vi (J 0)), some (vi (J (if 0 < (if ((ai h w 1) - 0) < x1 then ((ai h w 1) - 0) else x1) then (if ((ai h w 1) - 0) < x1 then ((ai h w 1) - 0) else x1) else 0)))]) (st2 := [vr (some w)]) rfl ?_
      refine R_zgetI (z := 1) rfl t0 rfl ?_
      refine R_zif0 (x := ai h_14 w 1) rfl (ai_in _ _ _) (fun c_20 => ?_) (fun c_20 => ?_)
      · have k := k.2 c_20
        exact R_ret rfl rfl ⟨rfl, k⟩
      · have k := k.1 (Classical.not_not.mp c_20)
        refine R_ps 1 (pc2 := 65) (L2 := [some (vr (some w)), some (vi (J x1)), some (vi (J 0)), some (vi (J (if 0 < (if ((ai h w 1) - 0) < x1 then ((ai h w 1) - 0) else x1) then (if ((ai h w 1) - 0) < x1 then ((ai h w 1) - 0) else x1) else 0)))]) (st2 := [vr (some w)]) rfl ?_
        refine R_cV (as := [vr (some w)]) rfl rfl ⟨Nat.le_of_ble_eq_true rfl, Nat.le_of_ble_eq_true rfl, rfl, (Or.inr ⟨_, rfl, t0⟩)⟩ rfl rfl k (fun h_23 k => ?_)
        exact R_ret rfl rfl ⟨rfl, k⟩
  · have k := k.1 (Classical.not_not.mp c_2)
    refine R_ps 6 (pc2 := 17) (L2 := [some (vr (some w)), some (vi (J x1)), some (vi (J 1)), none]) (st2 := [vr (some w), vi (J x1), vi (J 0)]) rfl ?_
    refine R_zgetI (z := 1) rfl t0 rfl ?_
    refine R_ps 2 (pc2 := 22) (L2 := [some (vr (some w)), some (vi (J x1)), some (vi (J 1)), none]) (st2 := [vi ((J (ai h w 1)) - (J 1)), vi (J x1), vi (J 0)]) rfl ?_
    rw [show ((J (ai h w 1)) - (J 1)) = J ((ai h w 1) - 1) from J_sub' rfl rfl]
    obtain ⟨t_28, k⟩ := k
    refine R_jdkz (st2 := [vi (if (J ((ai h w 1) - 1)) < (J x1) then (J ((ai h w 1) - 1)) else (J x1)), vi (J 0)]) (st3 := [vi (J (if ((ai h w 1) - 1) < x1 then ((ai h w 1) - 1) else x1)), vi (J 0)]) rfl rfl rfl rfl rfl rfl rfl rfl (congrArg (fun q => vi q :: [vi (J 0)]) (J_min' r1 t_28)) ?_
    obtain ⟨t_30, k⟩ := k
    refine R_jdkz (st2 := [vi (if (J 0) < (J (if ((ai h w 1) - 1) < x1 then ((ai h w 1) - 1) else x1)) then (J (if ((ai h w 1) - 1) < x1 then ((ai h w 1) - 1) else x1)) else (J 0))]) (st3 := [vi (J (if 0 < (if ((ai h w 1) - 1) < x1 then ((ai h w 1) - 1) else x1) then (if ((ai h w 1) - 1) < x1 then ((ai h w 1) - 1) else x1) else 0))]) rfl rfl rfl rfl rfl rfl rfl rfl (congrArg (fun q => vi q :: []) (J_max' (by decide) t_30)) ?_
    refine R_ps 3 (pc2 := 31) (L2 := [some (vr (some w)), some (vi (J x1)), some (vi (J 1)), some (vi (J (if 0 < (if ((ai h w 1) - 1) < x1 then ((ai h w 1) - 1) else x1) then (if ((ai h w 1) - 1) < x1 then ((ai h w 1) - 1) else x1) else 0)))]) (st2 := [vr (some w), vr (some w)]) rfl ?_
    refine R_zgetI (z := 1) rfl t0 rfl ?_
    refine R_ps 2 (pc2 := 36) (L2 := [some (vr (some w)), some (vi (J x1)), some (vi (J 1)), some (vi (J (if 0 < (if ((ai h w 1) - 1) < x1 then ((ai h w 1) - 1) else x1) then (if ((ai h w 1) - 1) < x1 then ((ai h w 1) - 1) else x1) else 0)))]) (st2 := [vi ((J (ai h w 1)) - (J (if 0 < (if ((ai h w 1) - 1) < x1 then ((ai h w 1) - 1) else x1) then (if ((ai h w 1) - 1) < x1 then ((ai h w 1) - 1) else x1) else 0))), vr (some w)]) rfl ?_
    rw [show ((J (ai h w 1)) - (J (if 0 < (if ((ai h w 1) - 1) < x1 then ((ai h w 1) - 1) else x1) then (if ((ai h w 1) - 1) < x1 then ((ai h w 1) - 1) else x1) else 0))) = J ((ai h w 1) - (if 0 < (if ((ai h w 1) - 1) < x1 then ((ai h w 1) - 1) else x1) then (if ((ai h w 1) - 1) < x1 then ((ai h w 1) - 1) else x1) else 0)) from J_sub' rfl rfl]
    refine R_zputI (x := (ai h w 1) - (if 0 < (if ((ai h w 1) - 1) < x1 then ((ai h w 1) - 1) else x1) then (if ((ai h w 1) - 1) < x1 then ((ai h w 1) - 1) else x1) else 0)) (z := 1) rfl t0 rfl ?_
    show WP T N _ _ _ _ (wi h w 1 ((ai h w 1) - (if 0 < (if ((ai h w 1) - 1) < x1 then ((ai h w 1) - 1) else x1) then (if ((ai h w 1) - 1) < x1 then ((ai h w 1) - 1) else x1) else 0))) _
    generalize e_34 : wi h w 1 ((ai h w 1) - (if 0 < (if ((ai h w 1) - 1) < x1 then ((ai h w 1) - 1) else x1) then (if ((ai h w 1) - 1) < x1 then ((ai h w 1) - 1) else x1) else 0)) = h_33
    replace k := k h_33 e_34.symm
    refine R_ps 2 (pc2 := 41) (L2 := [some (vr (some w)), some (vi (J x1)), some (vi (J 1)), some (vi (J (if 0 < (if ((ai h w 1) - 1) < x1 then ((ai h w 1) - 1) else x1) then (if ((ai h w 1) - 1) < x1 then ((ai h w 1) - 1) else x1) else 0)))]) (st2 := [vr (some w), vr (some w)]) rfl ?_
    refine R_zgetI (z := 6) rfl t0 rfl ?_
    refine R_ps 2 (pc2 := 46) (L2 := [some (vr (some w)), some (vi (J x1)), some (vi (J 1)), some (vi (J (if 0 < (if ((ai h w 1) - 1) < x1 then ((ai h w 1) - 1) else x1) then (if ((ai h w 1) - 1) < x1 then ((ai h w 1) - 1) else x1) else 0)))]) (st2 := [vi ((J (ai h_33 w 6)) + (J (if 0 < (if ((ai h w 1) - 1) < x1 then ((ai h w 1) - 1) else x1) then (if ((ai h w 1) - 1) < x1 then ((ai h w 1) - 1) else x1) else 0))), vr (some w)]) rfl ?_
    rw [show ((J (ai h_33 w 6)) + (J (if 0 < (if ((ai h w 1) - 1) < x1 then ((ai h w 1) - 1) else x1) then (if ((ai h w 1) - 1) < x1 then ((ai h w 1) - 1) else x1) else 0))) = J ((ai h_33 w 6) + (if 0 < (if ((ai h w 1) - 1) < x1 then ((ai h w 1) - 1) else x1) then (if ((ai h w 1) - 1) < x1 then ((ai h w 1) - 1) else x1) else 0)) from J_add' rfl rfl]
    refine R_zputI (x := (ai h_33 w 6) + (if 0 < (if ((ai h w 1) - 1) < x1 then ((ai h w 1) - 1) else x1) then (if ((ai h w 1) - 1) < x1 then ((ai h w 1) - 1) else x1) else 0)) (z := 6) rfl t0 rfl ?_
    show WP T N _ _ _ _ (wi h_33 w 6 ((ai h_33 w 6) + (if 0 < (if ((ai h w 1) - 1) < x1 then ((ai h w 1) - 1) else x1) then (if ((ai h w 1) - 1) < x1 then ((ai h w 1) - 1) else x1) else 0))) _
    generalize e_38 : wi h_33 w 6 ((ai h_33 w 6) + (if 0 < (if ((ai h w 1) - 1) < x1 then ((ai h w 1) - 1) else x1) then (if ((ai h w 1) - 1) < x1 then ((ai h w 1) - 1) else x1) else 0)) = h_37
    replace k := k h_37 e_38.symm
    refine R_ps 1 (pc2 := 50) (L2 := [some (vr (some w)), some (vi (J x1)), some (vi (J 1)), some (vi (J (if 0 < (if ((ai h w 1) - 1) < x1 then ((ai h w 1) - 1) else x1) then (if ((ai h w 1) - 1) < x1 then ((ai h w 1) - 1) else x1) else 0)))]) (st2 := [vr (some w)]) rfl ?_
    refine R_zgetI (z := 0) rfl t0 rfl ?_
    refine R_ps 1 (pc2 := 54) (L2 := [some (vr (some w)), some (vi (J x1)), some (vi (J 1)), some (vi (J (if 0 < (if ((ai h w 1) - 1) < x1 then ((ai h w 1) - 1) else x1) then (if ((ai h w 1) - 1) < x1 then ((ai h w 1) - 1) else x1) else 0)))]) (st2 := [vi (J 1), vi (J (ai h_37 w 0))]) rfl ?_
    refine R_zif (x := ai h_37 w 0) (z := 1) rfl (ai_in _ _ _) (by decide) (fun c_40 => ?_) (fun c_40 => ?_)
    · have k := k.2 c_40
      exact R_ret rfl rfl ⟨rfl, k⟩
    · have k := k.1 (Classical.not_not.mp c_40)
      refine R_ps 1 (pc2 := 58) (L2 := [some (vr (some w)), some (vi (J x1)), some (vi (J 1)), some (vi (J (if 0 < (if ((ai h w 1) - 1) < x1 then ((ai h w 1) - 1) else x1) then (if ((ai h w 1) - 1) < x1 then ((ai h w 1) - 1) else x1) else 0)))]) (st2 := [vr (some w)]) rfl ?_
      refine R_zgetI (z := 1) rfl t0 rfl ?_
      refine R_zif0 (x := ai h_37 w 1) rfl (ai_in _ _ _) (fun c_43 => ?_) (fun c_43 => ?_)
      · have k := k.2 c_43
        exact R_ret rfl rfl ⟨rfl, k⟩
      · have k := k.1 (Classical.not_not.mp c_43)
        refine R_ps 1 (pc2 := 65) (L2 := [some (vr (some w)), some (vi (J x1)), some (vi (J 1)), some (vi (J (if 0 < (if ((ai h w 1) - 1) < x1 then ((ai h w 1) - 1) else x1) then (if ((ai h w 1) - 1) < x1 then ((ai h w 1) - 1) else x1) else 0)))]) (st2 := [vr (some w)]) rfl ?_
        refine R_cV (as := [vr (some w)]) rfl rfl ⟨Nat.le_of_ble_eq_true rfl, Nat.le_of_ble_eq_true rfl, rfl, (Or.inr ⟨_, rfl, t0⟩)⟩ rfl rfl k (fun h_46 k => ?_)
        exact R_ret rfl rfl ⟨rfl, k⟩
/-- DroneCorridors$Drone.passTick -/
theorem z31 {T N : Nat → Nat} {h : PH} {w : Nat} {a1 : Nat} {x2 : Int} {K : Int → PH → Prop} (t0 : T w = 3) (r2 : In x2) (k : (CV T N 32 [vr (some w), vr (some a1), vi (J x2)] h (fun h_2 => ((((ai h_2 w 0) = 0 → (CV T N 34 [vr (some w)] h_2 (fun h_7 => (K 0 h_7)))) ∧ (¬ ((ai h_2 w 0) = 0) → (((ai h_2 w 0) = 1 → (CV T N 35 [vr (some w)] h_2 (fun h_11 => (K 0 h_11)))) ∧ (¬ ((ai h_2 w 0) = 1) → (((ai h_2 w 0) = 2 → (ZI T N 33 [vr (some w), vr (some a1), vi (J (x2 + 1))] h_2 (fun x_16 h_15 => ((x_16 = 0 ∨ x_16 = 1) ∧ K x_16 h_15)))) ∧ (¬ ((ai h_2 w 0) = 2) → (K 0 h_2))))))))))) : ZI T N 31 [vr (some w), vr (some a1), vi (J x2)] h K := by
  show WP T N 31 0 [some (vr (some w)), some (vr (some a1)), some (vi (J x2))] [] h _
  refine R_ps 3 (pc2 := 3) (L2 := [some (vr (some w)), some (vr (some a1)), some (vi (J x2))]) (st2 := [vi (J x2), vr (some a1), vr (some w)]) rfl ?_
  refine R_cV (as := [vr (some w), vr (some a1), vi (J x2)]) rfl rfl ⟨Nat.le_of_ble_eq_true rfl, Nat.le_of_ble_eq_true rfl, rfl, (Or.inr ⟨_, rfl, t0⟩)⟩ rfl rfl k (fun h_2 k => ?_)
  refine R_ps 1 (pc2 := 7) (L2 := [some (vr (some w)), some (vr (some a1)), some (vi (J x2))]) (st2 := [vr (some w)]) rfl ?_
  refine R_zgetI (z := 0) rfl t0 rfl ?_
  refine R_ztsw (x := ai h_2 w 0) rfl rfl (ai_in _ _ _) ?_
  refine ⟨fun c_5 => ?_, fun c_5 => ?_⟩
  · have k := k.1 c_5
    show WP T N _ 36 _ _ _ _
    refine R_ps 1 (pc2 := 37) (L2 := [some (vr (some w)), some (vr (some a1)), some (vi (J x2))]) (st2 := [vr (some w)]) rfl ?_
    refine R_cV (as := [vr (some w)]) rfl rfl ⟨Nat.le_of_ble_eq_true rfl, Nat.le_of_ble_eq_true rfl, rfl, (Or.inr ⟨_, rfl, t0⟩)⟩ rfl rfl k (fun h_7 k => ?_)
    refine R_ps 1 (pc2 := 41) (L2 := [some (vr (some w)), some (vr (some a1)), some (vi (J x2))]) (st2 := [vi (J 0)]) rfl ?_
    exact R_zzret (x := 0) rfl rfl (Or.inl rfl) (R_zr (x := 0) (K := K) (by decide) k)
  replace k := k.2 c_5
  refine ⟨fun c_5 => ?_, fun c_5 => ?_⟩
  · have k := k.1 c_5
    show WP T N _ 42 _ _ _ _
    refine R_ps 1 (pc2 := 43) (L2 := [some (vr (some w)), some (vr (some a1)), some (vi (J x2))]) (st2 := [vr (some w)]) rfl ?_
    refine R_cV (as := [vr (some w)]) rfl rfl ⟨Nat.le_of_ble_eq_true rfl, Nat.le_of_ble_eq_true rfl, rfl, (Or.inr ⟨_, rfl, t0⟩)⟩ rfl rfl k (fun h_11 k => ?_)
    refine R_ps 1 (pc2 := 47) (L2 := [some (vr (some w)), some (vr (some a1)), some (vi (J x2))]) (st2 := [vi (J 0)]) rfl ?_
    exact R_zzret (x := 0) rfl rfl (Or.inl rfl) (R_zr (x := 0) (K := K) (by decide) k)
  replace k := k.2 c_5
  refine ⟨fun c_5 => ?_, fun c_5 => ?_⟩
  · have k := k.1 c_5
    show WP T N _ 48 _ _ _ _
    refine R_ps 5 (pc2 := 53) (L2 := [some (vr (some w)), some (vr (some a1)), some (vi (J x2))]) (st2 := [vi ((J x2) + (J 1)), vr (some a1), vr (some w)]) rfl ?_
    rw [show ((J x2) + (J 1)) = J (x2 + 1) from J_add' rfl rfl]
    refine R_zcI (as := [vr (some w), vr (some a1), vi (J (x2 + 1))]) rfl rfl ⟨Nat.le_of_ble_eq_true rfl, Nat.le_of_ble_eq_true rfl, rfl, (Or.inr ⟨_, rfl, t0⟩)⟩ rfl rfl k (fun x_16 h_15 r_17 k => ?_)
    obtain ⟨t_19, k⟩ := k
    exact R_zzret (x := x_16) rfl rfl t_19 (R_zr (x := x_16) (K := K) r_17 k)
  replace k := k.2 c_5
  show WP T N _ 57 _ _ _ _
  refine R_ps 1 (pc2 := 58) (L2 := [some (vr (some w)), some (vr (some a1)), some (vi (J x2))]) (st2 := [vi (J 0)]) rfl ?_
  exact R_zzret (x := 0) rfl rfl (Or.inl rfl) (R_zr (x := 0) (K := K) (by decide) k)
/-- DroneCorridors$Drone.startLegAt -/
theorem z32 {T N : Nat → Nat} {h : PH} {w : Nat} {a1 : Nat} {x2 : Int} {K : PH → Prop} (t0 : T w = 3) (t1 : T a1 = 10) (r2 : In x2) (k : (CR T N 17 [vr (some w), vi (J 0)] h (fun x_3 h_2 => (((x_3 = none → (K h_2)) ∧ (∀ a_5, x_3 = some a_5 → (T a_5 = 7 ∧ (((ai h_2 a_5 3) = x2 → ((((ai h_2 w 0) = 2 → (K h_2)) ∧ (¬ ((ai h_2 w 0) = 2) → ((((ai h_2 w 0) = 3 → (K h_2)) ∧ (¬ ((ai h_2 w 0) = 3) → (CR T N 89 [vr (some a1), vi (J (ai h_2 a_5 0))] h_2 (fun x_20 h_19 => (((x_20 = none → (K h_19)) ∧ (∀ a_22, x_20 = some a_22 → (In ((ai h_19 a_5 2) - (ai h_19 w 2)) ∧ T a_22 = 2 ∧ ZI T N 10 [vr (some a_22), vi (J (ai h_19 a_5 1))] h_19 (fun x_33 h_32 => (In ((if 0 ≤ ((ai h_19 a_5 2) - (ai h_19 w 2)) then ((ai h_19 a_5 2) - (ai h_19 w 2)) else 0 - ((ai h_19 a_5 2) - (ai h_19 w 2))) + x_33) ∧ (((ai h_32 w 1) < ((if 0 ≤ ((ai h_19 a_5 2) - (ai h_19 w 2)) then ((ai h_19 a_5 2) - (ai h_19 w 2)) else 0 - ((ai h_19 a_5 2) - (ai h_19 w 2))) + x_33) → (∀ h_86, h_86 = wi h_32 w 8 0 → ∀ h_89, h_89 = wi h_86 w 4 (-1) → K h_89)) ∧ (¬ ((ai h_32 w 1) < ((if 0 ≤ ((ai h_19 a_5 2) - (ai h_19 w 2)) then ((ai h_19 a_5 2) - (ai h_19 w 2)) else 0 - ((ai h_19 a_5 2) - (ai h_19 w 2))) + x_33)) → (∀ h_40, h_40 = wi h_32 w 1 ((ai h_32 w 1) - ((if 0 ≤ ((ai h_19 a_5 2) - (ai h_19 w 2)) then ((ai h_19 a_5 2) - (ai h_19 w 2)) else 0 - ((ai h_19 a_5 2) - (ai h_19 w 2))) + x_33)) → ∃ a_44, (gr h_40 w 7) = some a_44 ∧ T a_44 = 22 ∧ (0 ≤ (1 : Int) ∧ (1 : Int) < (N a_44 : Int) ∧ (1 : Int) < 2147483648) ∧ ∀ h_49, h_49 = wi h_40 a_44 1 ((ai h_40 a_44 1) + (if 0 ≤ ((ai h_19 a_5 2) - (ai h_19 w 2)) then ((ai h_19 a_5 2) - (ai h_19 w 2)) else 0 - ((ai h_19 a_5 2) - (ai h_19 w 2)))) → ∃ a_53, (gr h_49 w 7) = some a_53 ∧ T a_53 = 22 ∧ (0 ≤ (0 : Int) ∧ (0 : Int) < (N a_53 : Int) ∧ (0 : Int) < 2147483648) ∧ ∀ h_58, h_58 = wi h_49 a_53 0 ((ai h_49 a_53 0) + x_33) → ∃ a_62, (gr h_58 w 7) = some a_62 ∧ T a_62 = 22 ∧ (0 ≤ (4 : Int) ∧ (4 : Int) < (N a_62 : Int) ∧ (4 : Int) < 2147483648) ∧ ∀ h_67, h_67 = wi h_58 a_62 4 ((ai h_58 a_62 4) + 1) → ∀ h_70, h_70 = wi h_67 w 0 2 → ∀ h_74, h_74 = wi h_70 w 2 (ai h_70 a_5 2) → ZI T N 12 [vr (some a_22), vi (J (ai h_74 a_5 1))] h_74 (fun x_79 h_78 => (∀ h_82, h_82 = wi h_78 w 3 x_79 → K h_82)))))))))))))))))))) ∧ (¬ ((ai h_2 a_5 3) = x2) → (K h_2)))))))))) : CV T N 32 [vr (some w), vr (some a1), vi (J x2)] h K := by
  show WP T N 32 0 [some (vr (some w)), some (vr (some a1)), some (vi (J x2)), none, none, none, none] [] h _
  refine R_ps 2 (pc2 := 2) (L2 := [some (vr (some w)), some (vr (some a1)), some (vi (J x2)), none, none, none, none]) (st2 := [vi (J 0), vr (some w)]) rfl ?_
  refine R_cR (as := [vr (some w), vi (J 0)]) rfl rfl ⟨Nat.le_of_ble_eq_true rfl, Nat.le_of_ble_eq_true rfl, rfl, (Or.inr ⟨_, rfl, t0⟩)⟩ rfl rfl k (fun x_3 h_2 k => ?_)
  refine R_ps 2 (pc2 := 7) (L2 := [some (vr (some w)), some (vr (some a1)), some (vi (J x2)), some (vr x_3), none, none, none]) (st2 := [vr x_3]) rfl ?_
  rcases null_or (x_3) with e_6 | ⟨a_5, e_6⟩
  · have k := k.1 e_6
    rw [e_6]
    refine R_null rfl (fun _ => ?_) (fun _ c_4 => nomatch c_4)
    exact R_ret rfl rfl ⟨rfl, k⟩
  · have k := k.2 a_5 e_6
    rw [e_6]
    refine R_null rfl (fun c_4 => nomatch c_4) (fun _ _ => ?_)
    refine R_ps 1 (pc2 := 11) (L2 := [some (vr (some w)), some (vr (some a1)), some (vi (J x2)), some (vr (some a_5)), none, none, none]) (st2 := [vr (some a_5)]) rfl ?_
    obtain ⟨t_9, k⟩ := k
    refine R_zgetI (z := 3) rfl t_9 rfl ?_
    refine R_ps 1 (pc2 := 15) (L2 := [some (vr (some w)), some (vr (some a1)), some (vi (J x2)), some (vr (some a_5)), none, none, none]) (st2 := [vi (J x2), vi (J (ai h_2 a_5 3))]) rfl ?_
    refine R_zif (x := ai h_2 a_5 3) (z := x2) rfl (ai_in _ _ _) r2 (fun c_10 => ?_) (fun c_10 => ?_)
    · have k := k.2 c_10
      exact R_ret rfl rfl ⟨rfl, k⟩
    · have k := k.1 (Classical.not_not.mp c_10)
      refine R_ps 1 (pc2 := 19) (L2 := [some (vr (some w)), some (vr (some a1)), some (vi (J x2)), some (vr (some a_5)), none, none, none]) (st2 := [vr (some w)]) rfl ?_
      refine R_zgetI (z := 0) rfl t0 rfl ?_
      refine R_ps 1 (pc2 := 23) (L2 := [some (vr (some w)), some (vr (some a1)), some (vi (J x2)), some (vr (some a_5)), none, none, none]) (st2 := [vi (J 2), vi (J (ai h_2 w 0))]) rfl ?_
      refine R_zif (x := ai h_2 w 0) (z := 2) rfl (ai_in _ _ _) (by decide) (fun c_13 => ?_) (fun c_13 => ?_)
      · have k := k.1 c_13
        exact R_ret rfl rfl ⟨rfl, k⟩
      · have k := k.2 c_13
        refine R_ps 1 (pc2 := 27) (L2 := [some (vr (some w)), some (vr (some a1)), some (vi (J x2)), some (vr (some a_5)), none, none, none]) (st2 := [vr (some w)]) rfl ?_
        refine R_zgetI (z := 0) rfl t0 rfl ?_
        refine R_ps 1 (pc2 := 31) (L2 := [some (vr (some w)), some (vr (some a1)), some (vi (J x2)), some (vr (some a_5)), none, none, none]) (st2 := [vi (J 3), vi (J (ai h_2 w 0))]) rfl ?_
        refine R_zif (x := ai h_2 w 0) (z := 3) rfl (ai_in _ _ _) (by decide) (fun c_16 => ?_) (fun c_16 => ?_)
        · have k := k.2 c_16
          refine R_ps 2 (pc2 := 37) (L2 := [some (vr (some w)), some (vr (some a1)), some (vi (J x2)), some (vr (some a_5)), none, none, none]) (st2 := [vr (some a_5), vr (some a1)]) rfl ?_
          refine R_zgetI (z := 0) rfl t_9 rfl ?_
          refine R_cR (as := [vr (some a1), vi (J (ai h_2 a_5 0))]) rfl rfl ⟨Nat.le_of_ble_eq_true rfl, Nat.le_of_ble_eq_true rfl, rfl, (Or.inr ⟨_, rfl, t1⟩)⟩ rfl rfl k (fun x_20 h_19 k => ?_)
          refine R_ps 2 (pc2 := 47) (L2 := [some (vr (some w)), some (vr (some a1)), some (vi (J x2)), some (vr (some a_5)), some (vr x_20), none, none]) (st2 := [vr x_20]) rfl ?_
          rcases null_or (x_20) with e_23 | ⟨a_22, e_23⟩
          · have k := k.1 e_23
            rw [e_23]
            refine R_nonnull rfl (fun _ => ?_) (fun _ c_21 => nomatch c_21)
            exact R_ret rfl rfl ⟨rfl, k⟩
          · have k := k.2 a_22 e_23
            rw [e_23]
            refine R_nonnull rfl (fun c_21 => nomatch c_21) (fun _ _ => ?_)
            refine R_ps 1 (pc2 := 52) (L2 := [some (vr (some w)), some (vr (some a1)), some (vi (J x2)), some (vr (some a_5)), some (vr (some a_22)), none, none]) (st2 := [vr (some a_5)]) rfl ?_
            refine R_zgetI (z := 2) rfl t_9 rfl ?_
            refine R_ps 1 (pc2 := 56) (L2 := [some (vr (some w)), some (vr (some a1)), some (vi (J x2)), some (vr (some a_5)), some (vr (some a_22)), none, none]) (st2 := [vr (some w), vi (J (ai h_19 a_5 2))]) rfl ?_
            refine R_zgetI (z := 2) rfl t0 rfl ?_
            refine R_ps 1 (pc2 := 60) (L2 := [some (vr (some w)), some (vr (some a1)), some (vi (J x2)), some (vr (some a_5)), some (vr (some a_22)), none, none]) (st2 := [vi ((J (ai h_19 a_5 2)) - (J (ai h_19 w 2)))]) rfl ?_
            rw [show ((J (ai h_19 a_5 2)) - (J (ai h_19 w 2))) = J ((ai h_19 a_5 2) - (ai h_19 w 2)) from J_sub' rfl rfl]
            obtain ⟨t_28, k⟩ := k
            refine R_jdkz (st2 := [vi (if 0 ≤ (J ((ai h_19 a_5 2) - (ai h_19 w 2))) then (J ((ai h_19 a_5 2) - (ai h_19 w 2))) else 0 - (J ((ai h_19 a_5 2) - (ai h_19 w 2))))]) (st3 := [vi (J (if 0 ≤ ((ai h_19 a_5 2) - (ai h_19 w 2)) then ((ai h_19 a_5 2) - (ai h_19 w 2)) else 0 - ((ai h_19 a_5 2) - (ai h_19 w 2))))]) rfl rfl rfl rfl rfl rfl rfl rfl (congrArg (fun q => vi q :: []) (J_abs' t_28)) ?_
            refine R_ps 3 (pc2 := 68) (L2 := [some (vr (some w)), some (vr (some a1)), some (vi (J x2)), some (vr (some a_5)), some (vr (some a_22)), some (vi (J (if 0 ≤ ((ai h_19 a_5 2) - (ai h_19 w 2)) then ((ai h_19 a_5 2) - (ai h_19 w 2)) else 0 - ((ai h_19 a_5 2) - (ai h_19 w 2))))), none]) (st2 := [vr (some a_5), vr (some a_22)]) rfl ?_
            refine R_zgetI (z := 1) rfl t_9 rfl ?_
            obtain ⟨t_31, k⟩ := k
            refine R_zcI (as := [vr (some a_22), vi (J (ai h_19 a_5 1))]) rfl rfl ⟨Nat.le_of_ble_eq_true rfl, Nat.le_of_ble_eq_true rfl, rfl, (Or.inr ⟨_, rfl, t_31⟩)⟩ rfl rfl k (fun x_33 h_32 r_34 k => ?_)
            refine R_ps 2 (pc2 := 77) (L2 := [some (vr (some w)), some (vr (some a1)), some (vi (J x2)), some (vr (some a_5)), some (vr (some a_22)), some (vi (J (if 0 ≤ ((ai h_19 a_5 2) - (ai h_19 w 2)) then ((ai h_19 a_5 2) - (ai h_19 w 2)) else 0 - ((ai h_19 a_5 2) - (ai h_19 w 2))))), some (vi (J x_33))]) (st2 := [vr (some w)]) rfl ?_
            refine R_zgetI (z := 1) rfl t0 rfl ?_
            refine R_ps 3 (pc2 := 85) (L2 := [some (vr (some w)), some (vr (some a1)), some (vi (J x2)), some (vr (some a_5)), some (vr (some a_22)), some (vi (J (if 0 ≤ ((ai h_19 a_5 2) - (ai h_19 w 2)) then ((ai h_19 a_5 2) - (ai h_19 w 2)) else 0 - ((ai h_19 a_5 2) - (ai h_19 w 2))))), some (vi (J x_33))]) (st2 := [vi ((J (if 0 ≤ ((ai h_19 a_5 2) - (ai h_19 w 2)) then ((ai h_19 a_5 2) - (ai h_19 w 2)) else 0 - ((ai h_19 a_5 2) - (ai h_19 w 2)))) + (J x_33)), vi (J (ai h_32 w 1))]) rfl ?_
            rw [show ((J (if 0 ≤ ((ai h_19 a_5 2) - (ai h_19 w 2)) then ((ai h_19 a_5 2) - (ai h_19 w 2)) else 0 - ((ai h_19 a_5 2) - (ai h_19 w 2)))) + (J x_33)) = J ((if 0 ≤ ((ai h_19 a_5 2) - (ai h_19 w 2)) then ((ai h_19 a_5 2) - (ai h_19 w 2)) else 0 - ((ai h_19 a_5 2) - (ai h_19 w 2))) + x_33) from J_add' rfl rfl]
            obtain ⟨t_37, k⟩ := k
            refine R_zif (x := ai h_32 w 1) (z := (if 0 ≤ ((ai h_19 a_5 2) - (ai h_19 w 2)) then ((ai h_19 a_5 2) - (ai h_19 w 2)) else 0 - ((ai h_19 a_5 2) - (ai h_19 w 2))) + x_33) rfl (ai_in _ _ _) t_37 (fun c_36 => ?_) (fun c_36 => ?_)
            · have k := k.2 c_36
              refine R_ps 2 (pc2 := 101) (L2 := [some (vr (some w)), some (vr (some a1)), some (vi (J x2)), some (vr (some a_5)), some (vr (some a_22)), some (vi (J (if 0 ≤ ((ai h_19 a_5 2) - (ai h_19 w 2)) then ((ai h_19 a_5 2) - (ai h_19 w 2)) else 0 - ((ai h_19 a_5 2) - (ai h_19 w 2))))), some (vi (J x_33))]) (st2 := [vr (some w), vr (some w)]) rfl ?_
              refine R_zgetI (z := 1) rfl t0 rfl ?_
              refine R_ps 4 (pc2 := 110) (L2 := [some (vr (some w)), some (vr (some a1)), some (vi (J x2)), some (vr (some a_5)), some (vr (some a_22)), some (vi (J (if 0 ≤ ((ai h_19 a_5 2) - (ai h_19 w 2)) then ((ai h_19 a_5 2) - (ai h_19 w 2)) else 0 - ((ai h_19 a_5 2) - (ai h_19 w 2))))), some (vi (J x_33))]) (st2 := [vi ((J (ai h_32 w 1)) - ((J (if 0 ≤ ((ai h_19 a_5 2) - (ai h_19 w 2)) then ((ai h_19 a_5 2) - (ai h_19 w 2)) else 0 - ((ai h_19 a_5 2) - (ai h_19 w 2)))) + (J x_33))), vr (some w)]) rfl ?_
              rw [show ((J (ai h_32 w 1)) - ((J (if 0 ≤ ((ai h_19 a_5 2) - (ai h_19 w 2)) then ((ai h_19 a_5 2) - (ai h_19 w 2)) else 0 - ((ai h_19 a_5 2) - (ai h_19 w 2)))) + (J x_33))) = J ((ai h_32 w 1) - ((if 0 ≤ ((ai h_19 a_5 2) - (ai h_19 w 2)) then ((ai h_19 a_5 2) - (ai h_19 w 2)) else 0 - ((ai h_19 a_5 2) - (ai h_19 w 2))) + x_33)) from J_sub' rfl (J_add' rfl rfl)]
              refine R_zputI (x := (ai h_32 w 1) - ((if 0 ≤ ((ai h_19 a_5 2) - (ai h_19 w 2)) then ((ai h_19 a_5 2) - (ai h_19 w 2)) else 0 - ((ai h_19 a_5 2) - (ai h_19 w 2))) + x_33)) (z := 1) rfl t0 rfl ?_
              show WP T N _ _ _ _ (wi h_32 w 1 ((ai h_32 w 1) - ((if 0 ≤ ((ai h_19 a_5 2) - (ai h_19 w 2)) then ((ai h_19 a_5 2) - (ai h_19 w 2)) else 0 - ((ai h_19 a_5 2) - (ai h_19 w 2))) + x_33))) _
              generalize e_41 : wi h_32 w 1 ((ai h_32 w 1) - ((if 0 ≤ ((ai h_19 a_5 2) - (ai h_19 w 2)) then ((ai h_19 a_5 2) - (ai h_19 w 2)) else 0 - ((ai h_19 a_5 2) - (ai h_19 w 2))) + x_33)) = h_40
              replace k := k h_40 e_41.symm
              refine R_ps 1 (pc2 := 114) (L2 := [some (vr (some w)), some (vr (some a1)), some (vi (J x2)), some (vr (some a_5)), some (vr (some a_22)), some (vi (J (if 0 ≤ ((ai h_19 a_5 2) - (ai h_19 w 2)) then ((ai h_19 a_5 2) - (ai h_19 w 2)) else 0 - ((ai h_19 a_5 2) - (ai h_19 w 2))))), some (vi (J x_33))]) (st2 := [vr (some w)]) rfl ?_
              refine R_getR rfl t0 ?_
              refine R_ps 2 (pc2 := 119) (L2 := [some (vr (some w)), some (vr (some a1)), some (vi (J x2)), some (vr (some a_5)), some (vr (some a_22)), some (vi (J (if 0 ≤ ((ai h_19 a_5 2) - (ai h_19 w 2)) then ((ai h_19 a_5 2) - (ai h_19 w 2)) else 0 - ((ai h_19 a_5 2) - (ai h_19 w 2))))), some (vi (J x_33))]) (st2 := [vi (J 1), vr (gr h_40 w 7), vi (J 1), vr (gr h_40 w 7)]) rfl ?_
              obtain ⟨a_44, e_45, k⟩ := k
              rw [e_45]
              obtain ⟨t_46, k⟩ := k
              obtain ⟨t_47, k⟩ := k
              refine R_ziald (i := 1) rfl (Or.inl t_46) t_47 ?_
              refine R_ps 2 (pc2 := 123) (L2 := [some (vr (some w)), some (vr (some a1)), some (vi (J x2)), some (vr (some a_5)), some (vr (some a_22)), some (vi (J (if 0 ≤ ((ai h_19 a_5 2) - (ai h_19 w 2)) then ((ai h_19 a_5 2) - (ai h_19 w 2)) else 0 - ((ai h_19 a_5 2) - (ai h_19 w 2))))), some (vi (J x_33))]) (st2 := [vi ((J (ai h_40 a_44 1)) + (J (if 0 ≤ ((ai h_19 a_5 2) - (ai h_19 w 2)) then ((ai h_19 a_5 2) - (ai h_19 w 2)) else 0 - ((ai h_19 a_5 2) - (ai h_19 w 2))))), vi (J 1), vr (some a_44)]) rfl ?_
              rw [show ((J (ai h_40 a_44 1)) + (J (if 0 ≤ ((ai h_19 a_5 2) - (ai h_19 w 2)) then ((ai h_19 a_5 2) - (ai h_19 w 2)) else 0 - ((ai h_19 a_5 2) - (ai h_19 w 2))))) = J ((ai h_40 a_44 1) + (if 0 ≤ ((ai h_19 a_5 2) - (ai h_19 w 2)) then ((ai h_19 a_5 2) - (ai h_19 w 2)) else 0 - ((ai h_19 a_5 2) - (ai h_19 w 2)))) from J_add' rfl rfl]
              refine R_ziast (i := 1) (x := (ai h_40 a_44 1) + (if 0 ≤ ((ai h_19 a_5 2) - (ai h_19 w 2)) then ((ai h_19 a_5 2) - (ai h_19 w 2)) else 0 - ((ai h_19 a_5 2) - (ai h_19 w 2)))) rfl t_46 t_47  ?_
              show WP T N _ _ _ _ (wi h_40 a_44 1 ((ai h_40 a_44 1) + (if 0 ≤ ((ai h_19 a_5 2) - (ai h_19 w 2)) then ((ai h_19 a_5 2) - (ai h_19 w 2)) else 0 - ((ai h_19 a_5 2) - (ai h_19 w 2))))) _
              generalize e_50 : wi h_40 a_44 1 ((ai h_40 a_44 1) + (if 0 ≤ ((ai h_19 a_5 2) - (ai h_19 w 2)) then ((ai h_19 a_5 2) - (ai h_19 w 2)) else 0 - ((ai h_19 a_5 2) - (ai h_19 w 2)))) = h_49
              replace k := k h_49 e_50.symm
              refine R_ps 1 (pc2 := 125) (L2 := [some (vr (some w)), some (vr (some a1)), some (vi (J x2)), some (vr (some a_5)), some (vr (some a_22)), some (vi (J (if 0 ≤ ((ai h_19 a_5 2) - (ai h_19 w 2)) then ((ai h_19 a_5 2) - (ai h_19 w 2)) else 0 - ((ai h_19 a_5 2) - (ai h_19 w 2))))), some (vi (J x_33))]) (st2 := [vr (some w)]) rfl ?_
              refine R_getR rfl t0 ?_
              refine R_ps 2 (pc2 := 130) (L2 := [some (vr (some w)), some (vr (some a1)), some (vi (J x2)), some (vr (some a_5)), some (vr (some a_22)), some (vi (J (if 0 ≤ ((ai h_19 a_5 2) - (ai h_19 w 2)) then ((ai h_19 a_5 2) - (ai h_19 w 2)) else 0 - ((ai h_19 a_5 2) - (ai h_19 w 2))))), some (vi (J x_33))]) (st2 := [vi (J 0), vr (gr h_49 w 7), vi (J 0), vr (gr h_49 w 7)]) rfl ?_
              obtain ⟨a_53, e_54, k⟩ := k
              rw [e_54]
              obtain ⟨t_55, k⟩ := k
              obtain ⟨t_56, k⟩ := k
              refine R_ziald (i := 0) rfl (Or.inl t_55) t_56 ?_
              refine R_ps 2 (pc2 := 134) (L2 := [some (vr (some w)), some (vr (some a1)), some (vi (J x2)), some (vr (some a_5)), some (vr (some a_22)), some (vi (J (if 0 ≤ ((ai h_19 a_5 2) - (ai h_19 w 2)) then ((ai h_19 a_5 2) - (ai h_19 w 2)) else 0 - ((ai h_19 a_5 2) - (ai h_19 w 2))))), some (vi (J x_33))]) (st2 := [vi ((J (ai h_49 a_53 0)) + (J x_33)), vi (J 0), vr (some a_53)]) rfl ?_
              rw [show ((J (ai h_49 a_53 0)) + (J x_33)) = J ((ai h_49 a_53 0) + x_33) from J_add' rfl rfl]
              refine R_ziast (i := 0) (x := (ai h_49 a_53 0) + x_33) rfl t_55 t_56  ?_
              show WP T N _ _ _ _ (wi h_49 a_53 0 ((ai h_49 a_53 0) + x_33)) _
              generalize e_59 : wi h_49 a_53 0 ((ai h_49 a_53 0) + x_33) = h_58
              replace k := k h_58 e_59.symm
              refine R_ps 1 (pc2 := 136) (L2 := [some (vr (some w)), some (vr (some a1)), some (vi (J x2)), some (vr (some a_5)), some (vr (some a_22)), some (vi (J (if 0 ≤ ((ai h_19 a_5 2) - (ai h_19 w 2)) then ((ai h_19 a_5 2) - (ai h_19 w 2)) else 0 - ((ai h_19 a_5 2) - (ai h_19 w 2))))), some (vi (J x_33))]) (st2 := [vr (some w)]) rfl ?_
              refine R_getR rfl t0 ?_
              refine R_ps 2 (pc2 := 141) (L2 := [some (vr (some w)), some (vr (some a1)), some (vi (J x2)), some (vr (some a_5)), some (vr (some a_22)), some (vi (J (if 0 ≤ ((ai h_19 a_5 2) - (ai h_19 w 2)) then ((ai h_19 a_5 2) - (ai h_19 w 2)) else 0 - ((ai h_19 a_5 2) - (ai h_19 w 2))))), some (vi (J x_33))]) (st2 := [vi (J 4), vr (gr h_58 w 7), vi (J 4), vr (gr h_58 w 7)]) rfl ?_
              obtain ⟨a_62, e_63, k⟩ := k
              rw [e_63]
              obtain ⟨t_64, k⟩ := k
              obtain ⟨t_65, k⟩ := k
              refine R_ziald (i := 4) rfl (Or.inl t_64) t_65 ?_
              refine R_ps 2 (pc2 := 144) (L2 := [some (vr (some w)), some (vr (some a1)), some (vi (J x2)), some (vr (some a_5)), some (vr (some a_22)), some (vi (J (if 0 ≤ ((ai h_19 a_5 2) - (ai h_19 w 2)) then ((ai h_19 a_5 2) - (ai h_19 w 2)) else 0 - ((ai h_19 a_5 2) - (ai h_19 w 2))))), some (vi (J x_33))]) (st2 := [vi ((J (ai h_58 a_62 4)) + (J 1)), vi (J 4), vr (some a_62)]) rfl ?_
              rw [show ((J (ai h_58 a_62 4)) + (J 1)) = J ((ai h_58 a_62 4) + 1) from J_add' rfl rfl]
              refine R_ziast (i := 4) (x := (ai h_58 a_62 4) + 1) rfl t_64 t_65  ?_
              show WP T N _ _ _ _ (wi h_58 a_62 4 ((ai h_58 a_62 4) + 1)) _
              generalize e_68 : wi h_58 a_62 4 ((ai h_58 a_62 4) + 1) = h_67
              replace k := k h_67 e_68.symm
              refine R_ps 2 (pc2 := 147) (L2 := [some (vr (some w)), some (vr (some a1)), some (vi (J x2)), some (vr (some a_5)), some (vr (some a_22)), some (vi (J (if 0 ≤ ((ai h_19 a_5 2) - (ai h_19 w 2)) then ((ai h_19 a_5 2) - (ai h_19 w 2)) else 0 - ((ai h_19 a_5 2) - (ai h_19 w 2))))), some (vi (J x_33))]) (st2 := [vi (J 2), vr (some w)]) rfl ?_
              refine R_zputI (x := 2) (z := 0) rfl t0 rfl ?_
              show WP T N _ _ _ _ (wi h_67 w 0 2) _
              generalize e_71 : wi h_67 w 0 2 = h_70
              replace k := k h_70 e_71.symm
              refine R_ps 2 (pc2 := 152) (L2 := [some (vr (some w)), some (vr (some a1)), some (vi (J x2)), some (vr (some a_5)), some (vr (some a_22)), some (vi (J (if 0 ≤ ((ai h_19 a_5 2) - (ai h_19 w 2)) then ((ai h_19 a_5 2) - (ai h_19 w 2)) else 0 - ((ai h_19 a_5 2) - (ai h_19 w 2))))), some (vi (J x_33))]) (st2 := [vr (some a_5), vr (some w)]) rfl ?_
              refine R_zgetI (z := 2) rfl t_9 rfl ?_
              refine R_zputI (x := ai h_70 a_5 2) (z := 2) rfl t0 rfl ?_
              show WP T N _ _ _ _ (wi h_70 w 2 (ai h_70 a_5 2)) _
              generalize e_75 : wi h_70 w 2 (ai h_70 a_5 2) = h_74
              replace k := k h_74 e_75.symm
              refine R_ps 3 (pc2 := 162) (L2 := [some (vr (some w)), some (vr (some a1)), some (vi (J x2)), some (vr (some a_5)), some (vr (some a_22)), some (vi (J (if 0 ≤ ((ai h_19 a_5 2) - (ai h_19 w 2)) then ((ai h_19 a_5 2) - (ai h_19 w 2)) else 0 - ((ai h_19 a_5 2) - (ai h_19 w 2))))), some (vi (J x_33))]) (st2 := [vr (some a_5), vr (some a_22), vr (some w)]) rfl ?_
              refine R_zgetI (z := 1) rfl t_9 rfl ?_
              refine R_zcI (as := [vr (some a_22), vi (J (ai h_74 a_5 1))]) rfl rfl ⟨Nat.le_of_ble_eq_true rfl, Nat.le_of_ble_eq_true rfl, rfl, (Or.inr ⟨_, rfl, t_31⟩)⟩ rfl rfl k (fun x_79 h_78 r_80 k => ?_)
              refine R_zputI (x := x_79) (z := 3) rfl t0 rfl ?_
              show WP T N _ _ _ _ (wi h_78 w 3 x_79) _
              generalize e_83 : wi h_78 w 3 x_79 = h_82
              replace k := k h_82 e_83.symm
              exact R_ret rfl rfl ⟨rfl, k⟩
            · have k := k.1 (Classical.not_not.mp c_36)
              refine R_ps 2 (pc2 := 90) (L2 := [some (vr (some w)), some (vr (some a1)), some (vi (J x2)), some (vr (some a_5)), some (vr (some a_22)), some (vi (J (if 0 ≤ ((ai h_19 a_5 2) - (ai h_19 w 2)) then ((ai h_19 a_5 2) - (ai h_19 w 2)) else 0 - ((ai h_19 a_5 2) - (ai h_19 w 2))))), some (vi (J x_33))]) (st2 := [vi (J 0), vr (some w)]) rfl ?_
              refine R_zputI (x := 0) (z := 8) rfl t0 rfl ?_
              show WP T N _ _ _ _ (wi h_32 w 8 0) _
              generalize e_87 : wi h_32 w 8 0 = h_86
              replace k := k h_86 e_87.symm
              refine R_ps 2 (pc2 := 95) (L2 := [some (vr (some w)), some (vr (some a1)), some (vi (J x2)), some (vr (some a_5)), some (vr (some a_22)), some (vi (J (if 0 ≤ ((ai h_19 a_5 2) - (ai h_19 w 2)) then ((ai h_19 a_5 2) - (ai h_19 w 2)) else 0 - ((ai h_19 a_5 2) - (ai h_19 w 2))))), some (vi (J x_33))]) (st2 := [vi (J (-1)), vr (some w)]) rfl ?_
              refine R_zputI (x := (-1)) (z := 4) rfl t0 rfl ?_
              show WP T N _ _ _ _ (wi h_86 w 4 (-1)) _
              generalize e_90 : wi h_86 w 4 (-1) = h_89
              replace k := k h_89 e_90.symm
              exact R_ret rfl rfl ⟨rfl, k⟩
        · have k := k.1 (Classical.not_not.mp c_16)
          exact R_ret rfl rfl ⟨rfl, k⟩
/-- DroneCorridors$Drone.endLegAt -/
theorem z33 {T N : Nat → Nat} {h : PH} {w : Nat} {a1 : Nat} {x2 : Int} {K : Int → PH → Prop} (t0 : T w = 3) (t1 : T a1 = 10) (r2 : In x2) (k : (CR T N 17 [vr (some w), vi (J 0)] h (fun x_3 h_2 => (((x_3 = none → (K 0 h_2)) ∧ (∀ a_5, x_3 = some a_5 → (T a_5 = 7 ∧ (((ai h_2 a_5 4) = x2 → (CV T N 24 [vr (some w)] h_2 (fun h_12 => (∀ h_15, h_15 = wi h_12 w 0 1 → ((0 < (ai h_15 w 8) → (K 0 h_15)) ∧ (¬ (0 < (ai h_15 w 8)) → ((((ai h_15 w 4) = (ai h_15 w 3) → (ZI T N 145 [vi (J (ai h_15 a1 2)), vi (J (ai h_15 w 3))] h_15 (fun x_28 h_27 => (((x_28 = 0 → (K 0 h_27)) ∧ (¬ (x_28 = 0) → (CV T N 28 [vr (some w)] h_27 (fun h_32 => (K 1 h_32))))))))) ∧ (¬ ((ai h_15 w 4) = (ai h_15 w 3)) → (K 0 h_15)))))))))) ∧ (¬ ((ai h_2 a_5 4) = x2) → (K 0 h_2)))))))))) : ZI T N 33 [vr (some w), vr (some a1), vi (J x2)] h K := by
  show WP T N 33 0 [some (vr (some w)), some (vr (some a1)), some (vi (J x2)), none] [] h _
  refine R_ps 2 (pc2 := 2) (L2 := [some (vr (some w)), some (vr (some a1)), some (vi (J x2)), none]) (st2 := [vi (J 0), vr (some w)]) rfl ?_
  refine R_cR (as := [vr (some w), vi (J 0)]) rfl rfl ⟨Nat.le_of_ble_eq_true rfl, Nat.le_of_ble_eq_true rfl, rfl, (Or.inr ⟨_, rfl, t0⟩)⟩ rfl rfl k (fun x_3 h_2 k => ?_)
  refine R_ps 2 (pc2 := 7) (L2 := [some (vr (some w)), some (vr (some a1)), some (vi (J x2)), some (vr x_3)]) (st2 := [vr x_3]) rfl ?_
  rcases null_or (x_3) with e_6 | ⟨a_5, e_6⟩
  · have k := k.1 e_6
    rw [e_6]
    refine R_null rfl (fun _ => ?_) (fun _ c_4 => nomatch c_4)
    refine R_ps 1 (pc2 := 19) (L2 := [some (vr (some w)), some (vr (some a1)), some (vi (J x2)), some (vr none)]) (st2 := [vi (J 0)]) rfl ?_
    exact R_zzret (x := 0) rfl rfl (Or.inl rfl) (R_zr (x := 0) (K := K) (by decide) k)
  · have k := k.2 a_5 e_6
    rw [e_6]
    refine R_null rfl (fun c_4 => nomatch c_4) (fun _ _ => ?_)
    refine R_ps 1 (pc2 := 11) (L2 := [some (vr (some w)), some (vr (some a1)), some (vi (J x2)), some (vr (some a_5))]) (st2 := [vr (some a_5)]) rfl ?_
    obtain ⟨t_9, k⟩ := k
    refine R_zgetI (z := 4) rfl t_9 rfl ?_
    refine R_ps 1 (pc2 := 15) (L2 := [some (vr (some w)), some (vr (some a1)), some (vi (J x2)), some (vr (some a_5))]) (st2 := [vi (J x2), vi (J (ai h_2 a_5 4))]) rfl ?_
    refine R_zif (x := ai h_2 a_5 4) (z := x2) rfl (ai_in _ _ _) r2 (fun c_10 => ?_) (fun c_10 => ?_)
    · have k := k.1 c_10
      refine R_ps 1 (pc2 := 21) (L2 := [some (vr (some w)), some (vr (some a1)), some (vi (J x2)), some (vr (some a_5))]) (st2 := [vr (some w)]) rfl ?_
      refine R_cV (as := [vr (some w)]) rfl rfl ⟨Nat.le_of_ble_eq_true rfl, Nat.le_of_ble_eq_true rfl, rfl, (Or.inr ⟨_, rfl, t0⟩)⟩ rfl rfl k (fun h_12 k => ?_)
      refine R_ps 2 (pc2 := 26) (L2 := [some (vr (some w)), some (vr (some a1)), some (vi (J x2)), some (vr (some a_5))]) (st2 := [vi (J 1), vr (some w)]) rfl ?_
      refine R_zputI (x := 1) (z := 0) rfl t0 rfl ?_
      show WP T N _ _ _ _ (wi h_12 w 0 1) _
      generalize e_16 : wi h_12 w 0 1 = h_15
      replace k := k h_15 e_16.symm
      refine R_ps 1 (pc2 := 30) (L2 := [some (vr (some w)), some (vr (some a1)), some (vi (J x2)), some (vr (some a_5))]) (st2 := [vr (some w)]) rfl ?_
      refine R_zgetI (z := 8) rfl t0 rfl ?_
      refine R_zif0 (x := ai h_15 w 8) rfl (ai_in _ _ _) (fun c_18 => ?_) (fun c_18 => ?_)
      · have k := k.1 c_18
        refine R_ps 1 (pc2 := 62) (L2 := [some (vr (some w)), some (vr (some a1)), some (vi (J x2)), some (vr (some a_5))]) (st2 := [vi (J 0)]) rfl ?_
        exact R_zzret (x := 0) rfl rfl (Or.inl rfl) (R_zr (x := 0) (K := K) (by decide) k)
      · have k := k.2 c_18
        refine R_ps 1 (pc2 := 37) (L2 := [some (vr (some w)), some (vr (some a1)), some (vi (J x2)), some (vr (some a_5))]) (st2 := [vr (some w)]) rfl ?_
        refine R_zgetI (z := 4) rfl t0 rfl ?_
        refine R_ps 1 (pc2 := 41) (L2 := [some (vr (some w)), some (vr (some a1)), some (vi (J x2)), some (vr (some a_5))]) (st2 := [vr (some w), vi (J (ai h_15 w 4))]) rfl ?_
        refine R_zgetI (z := 3) rfl t0 rfl ?_
        refine R_zif (x := ai h_15 w 4) (z := ai h_15 w 3) rfl (ai_in _ _ _) (ai_in _ _ _) (fun c_22 => ?_) (fun c_22 => ?_)
        · have k := k.2 c_22
          refine R_ps 1 (pc2 := 62) (L2 := [some (vr (some w)), some (vr (some a1)), some (vi (J x2)), some (vr (some a_5))]) (st2 := [vi (J 0)]) rfl ?_
          exact R_zzret (x := 0) rfl rfl (Or.inl rfl) (R_zr (x := 0) (K := K) (by decide) k)
        · have k := k.1 (Classical.not_not.mp c_22)
          refine R_ps 1 (pc2 := 48) (L2 := [some (vr (some w)), some (vr (some a1)), some (vi (J x2)), some (vr (some a_5))]) (st2 := [vr (some a1)]) rfl ?_
          refine R_zgetI (z := 2) rfl t1 rfl ?_
          refine R_ps 1 (pc2 := 52) (L2 := [some (vr (some w)), some (vr (some a1)), some (vi (J x2)), some (vr (some a_5))]) (st2 := [vr (some w), vi (J (ai h_15 a1 2))]) rfl ?_
          refine R_zgetI (z := 3) rfl t0 rfl ?_
          refine R_zcI (as := [vi (J (ai h_15 a1 2)), vi (J (ai h_15 w 3))]) rfl rfl ⟨Nat.le_of_ble_eq_true rfl, Nat.le_of_ble_eq_true rfl, rfl, (Or.inl rfl)⟩ rfl rfl k (fun x_28 h_27 r_29 k => ?_)
          refine R_zif0 (x := x_28) rfl r_29 (fun c_30 => ?_) (fun c_30 => ?_)
          · have k := k.2 c_30
            refine R_ps 1 (pc2 := 64) (L2 := [some (vr (some w)), some (vr (some a1)), some (vi (J x2)), some (vr (some a_5))]) (st2 := [vr (some w)]) rfl ?_
            refine R_cV (as := [vr (some w)]) rfl rfl ⟨Nat.le_of_ble_eq_true rfl, Nat.le_of_ble_eq_true rfl, rfl, (Or.inr ⟨_, rfl, t0⟩)⟩ rfl rfl k (fun h_32 k => ?_)
            refine R_ps 1 (pc2 := 68) (L2 := [some (vr (some w)), some (vr (some a1)), some (vi (J x2)), some (vr (some a_5))]) (st2 := [vi (J 1)]) rfl ?_
            exact R_zzret (x := 1) rfl rfl (Or.inr rfl) (R_zr (x := 1) (K := K) (by decide) k)
          · have k := k.1 (Classical.not_not.mp c_30)
            refine R_ps 1 (pc2 := 62) (L2 := [some (vr (some w)), some (vr (some a1)), some (vi (J x2)), some (vr (some a_5))]) (st2 := [vi (J 0)]) rfl ?_
            exact R_zzret (x := 0) rfl rfl (Or.inl rfl) (R_zr (x := 0) (K := K) (by decide) k)
    · have k := k.2 c_10
      refine R_ps 1 (pc2 := 19) (L2 := [some (vr (some w)), some (vr (some a1)), some (vi (J x2)), some (vr (some a_5))]) (st2 := [vi (J 0)]) rfl ?_
      exact R_zzret (x := 0) rfl rfl (Or.inl rfl) (R_zr (x := 0) (K := K) (by decide) k)
/-- DroneCorridors$Drone.chargeTick -/
theorem z34 {T N : Nat → Nat} {h : PH} {w : Nat} {K : PH → Prop} (t0 : T w = 3) (k : (In (200 - (ai h w 1)) ∧ ∀ h_6, h_6 = wi h w 1 ((ai h w 1) + (if (200 - (ai h w 1)) < 3 then (200 - (ai h w 1)) else 3)) → ∃ a_10, (gr h_6 w 7) = some a_10 ∧ T a_10 = 22 ∧ (0 ≤ (3 : Int) ∧ (3 : Int) < (N a_10 : Int) ∧ (3 : Int) < 2147483648) ∧ ∀ h_15, h_15 = wi h_6 a_10 3 ((ai h_6 a_10 3) + (if (200 - (ai h w 1)) < 3 then (200 - (ai h w 1)) else 3)) → K h_15)) : CV T N 34 [vr (some w)] h K := by
  show WP T N 34 0 [some (vr (some w)), none] [] h _
  refine R_ps 3 (pc2 := 5) (L2 := [some (vr (some w)), none]) (st2 := [vr (some w), vi (J 200), vi (J 3)]) rfl ?_
  refine R_zgetI (z := 1) rfl t0 rfl ?_
  refine R_ps 1 (pc2 := 9) (L2 := [some (vr (some w)), none]) (st2 := [vi ((J 200) - (J (ai h w 1))), vi (J 3)]) rfl ?_
  rw [show ((J 200) - (J (ai h w 1))) = J (200 - (ai h w 1)) from J_sub' rfl rfl]
  obtain ⟨t_3, k⟩ := k
  refine R_jdkz (st2 := [vi (if (J (200 - (ai h w 1))) < (J 3) then (J (200 - (ai h w 1))) else (J 3))]) (st3 := [vi (J (if (200 - (ai h w 1)) < 3 then (200 - (ai h w 1)) else 3))]) rfl rfl rfl rfl rfl rfl rfl rfl (congrArg (fun q => vi q :: []) (J_min' (by decide) t_3)) ?_
  refine R_ps 3 (pc2 := 15) (L2 := [some (vr (some w)), some (vi (J (if (200 - (ai h w 1)) < 3 then (200 - (ai h w 1)) else 3)))]) (st2 := [vr (some w), vr (some w)]) rfl ?_
  refine R_zgetI (z := 1) rfl t0 rfl ?_
  refine R_ps 2 (pc2 := 20) (L2 := [some (vr (some w)), some (vi (J (if (200 - (ai h w 1)) < 3 then (200 - (ai h w 1)) else 3)))]) (st2 := [vi ((J (ai h w 1)) + (J (if (200 - (ai h w 1)) < 3 then (200 - (ai h w 1)) else 3))), vr (some w)]) rfl ?_
  rw [show ((J (ai h w 1)) + (J (if (200 - (ai h w 1)) < 3 then (200 - (ai h w 1)) else 3))) = J ((ai h w 1) + (if (200 - (ai h w 1)) < 3 then (200 - (ai h w 1)) else 3)) from J_add' rfl rfl]
  refine R_zputI (x := (ai h w 1) + (if (200 - (ai h w 1)) < 3 then (200 - (ai h w 1)) else 3)) (z := 1) rfl t0 rfl ?_
  show WP T N _ _ _ _ (wi h w 1 ((ai h w 1) + (if (200 - (ai h w 1)) < 3 then (200 - (ai h w 1)) else 3))) _
  generalize e_7 : wi h w 1 ((ai h w 1) + (if (200 - (ai h w 1)) < 3 then (200 - (ai h w 1)) else 3)) = h_6
  replace k := k h_6 e_7.symm
  refine R_ps 1 (pc2 := 24) (L2 := [some (vr (some w)), some (vi (J (if (200 - (ai h w 1)) < 3 then (200 - (ai h w 1)) else 3)))]) (st2 := [vr (some w)]) rfl ?_
  refine R_getR rfl t0 ?_
  refine R_ps 2 (pc2 := 29) (L2 := [some (vr (some w)), some (vi (J (if (200 - (ai h w 1)) < 3 then (200 - (ai h w 1)) else 3)))]) (st2 := [vi (J 3), vr (gr h_6 w 7), vi (J 3), vr (gr h_6 w 7)]) rfl ?_
  obtain ⟨a_10, e_11, k⟩ := k
  rw [e_11]
  obtain ⟨t_12, k⟩ := k
  obtain ⟨t_13, k⟩ := k
  refine R_ziald (i := 3) rfl (Or.inl t_12) t_13 ?_
  refine R_ps 2 (pc2 := 32) (L2 := [some (vr (some w)), some (vi (J (if (200 - (ai h w 1)) < 3 then (200 - (ai h w 1)) else 3)))]) (st2 := [vi ((J (ai h_6 a_10 3)) + (J (if (200 - (ai h w 1)) < 3 then (200 - (ai h w 1)) else 3))), vi (J 3), vr (some a_10)]) rfl ?_
  rw [show ((J (ai h_6 a_10 3)) + (J (if (200 - (ai h w 1)) < 3 then (200 - (ai h w 1)) else 3))) = J ((ai h_6 a_10 3) + (if (200 - (ai h w 1)) < 3 then (200 - (ai h w 1)) else 3)) from J_add' rfl rfl]
  refine R_ziast (i := 3) (x := (ai h_6 a_10 3) + (if (200 - (ai h w 1)) < 3 then (200 - (ai h w 1)) else 3)) rfl t_12 t_13  ?_
  show WP T N _ _ _ _ (wi h_6 a_10 3 ((ai h_6 a_10 3) + (if (200 - (ai h w 1)) < 3 then (200 - (ai h w 1)) else 3))) _
  generalize e_16 : wi h_6 a_10 3 ((ai h_6 a_10 3) + (if (200 - (ai h w 1)) < 3 then (200 - (ai h w 1)) else 3)) = h_15
  replace k := k h_15 e_16.symm
  exact R_ret rfl rfl ⟨rfl, k⟩
/-- DroneCorridors$Drone.hoverTick -/
theorem z35 {T N : Nat → Nat} {h : PH} {w : Nat} {K : PH → Prop} (t0 : T w = 3) (k : (((0 < (ai h w 1) → (∀ h_12, h_12 = wi h w 1 ((ai h w 1) - 1) → ∃ a_16, (gr h_12 w 7) = some a_16 ∧ T a_16 = 22 ∧ (0 ≤ (2 : Int) ∧ (2 : Int) < (N a_16 : Int) ∧ (2 : Int) < 2147483648) ∧ ∀ h_21, h_21 = wi h_12 a_16 2 ((ai h_12 a_16 2) + 1) → (((ai h_21 w 1) = 0 → (CV T N 29 [vr (some w)] h_21 (fun h_27 => (K h_27)))) ∧ (¬ ((ai h_21 w 1) = 0) → (K h_21))))) ∧ (¬ (0 < (ai h w 1)) → ((((ai h w 1) = 0 → (CV T N 29 [vr (some w)] h (fun h_7 => (K h_7)))) ∧ (¬ ((ai h w 1) = 0) → (K h)))))))) : CV T N 35 [vr (some w)] h K := by
  show WP T N 35 0 [some (vr (some w))] [] h _
  refine R_ps 1 (pc2 := 1) (L2 := [some (vr (some w))]) (st2 := [vr (some w)]) rfl ?_
  refine R_zgetI (z := 1) rfl t0 rfl ?_
  refine R_zif0 (x := ai h w 1) rfl (ai_in _ _ _) (fun c_2 => ?_) (fun c_2 => ?_)
  · have k := k.2 c_2
    refine R_ps 1 (pc2 := 28) (L2 := [some (vr (some w))]) (st2 := [vr (some w)]) rfl ?_
    refine R_zgetI (z := 1) rfl t0 rfl ?_
    refine R_zif0 (x := ai h w 1) rfl (ai_in _ _ _) (fun c_4 => ?_) (fun c_4 => ?_)
    · have k := k.2 c_4
      exact R_ret rfl rfl ⟨rfl, k⟩
    · have k := k.1 (Classical.not_not.mp c_4)
      refine R_ps 1 (pc2 := 35) (L2 := [some (vr (some w))]) (st2 := [vr (some w)]) rfl ?_
      refine R_cV (as := [vr (some w)]) rfl rfl ⟨Nat.le_of_ble_eq_true rfl, Nat.le_of_ble_eq_true rfl, rfl, (Or.inr ⟨_, rfl, t0⟩)⟩ rfl rfl k (fun h_7 k => ?_)
      exact R_ret rfl rfl ⟨rfl, k⟩
  · have k := k.1 (Classical.not_not.mp c_2)
    refine R_ps 2 (pc2 := 9) (L2 := [some (vr (some w))]) (st2 := [vr (some w), vr (some w)]) rfl ?_
    refine R_zgetI (z := 1) rfl t0 rfl ?_
    refine R_ps 2 (pc2 := 14) (L2 := [some (vr (some w))]) (st2 := [vi ((J (ai h w 1)) - (J 1)), vr (some w)]) rfl ?_
    rw [show ((J (ai h w 1)) - (J 1)) = J ((ai h w 1) - 1) from J_sub' rfl rfl]
    refine R_zputI (x := (ai h w 1) - 1) (z := 1) rfl t0 rfl ?_
    show WP T N _ _ _ _ (wi h w 1 ((ai h w 1) - 1)) _
    generalize e_13 : wi h w 1 ((ai h w 1) - 1) = h_12
    replace k := k h_12 e_13.symm
    refine R_ps 1 (pc2 := 18) (L2 := [some (vr (some w))]) (st2 := [vr (some w)]) rfl ?_
    refine R_getR rfl t0 ?_
    refine R_ps 2 (pc2 := 23) (L2 := [some (vr (some w))]) (st2 := [vi (J 2), vr (gr h_12 w 7), vi (J 2), vr (gr h_12 w 7)]) rfl ?_
    obtain ⟨a_16, e_17, k⟩ := k
    rw [e_17]
    obtain ⟨t_18, k⟩ := k
    obtain ⟨t_19, k⟩ := k
    refine R_ziald (i := 2) rfl (Or.inl t_18) t_19 ?_
    refine R_ps 2 (pc2 := 26) (L2 := [some (vr (some w))]) (st2 := [vi ((J (ai h_12 a_16 2)) + (J 1)), vi (J 2), vr (some a_16)]) rfl ?_
    rw [show ((J (ai h_12 a_16 2)) + (J 1)) = J ((ai h_12 a_16 2) + 1) from J_add' rfl rfl]
    refine R_ziast (i := 2) (x := (ai h_12 a_16 2) + 1) rfl t_18 t_19  ?_
    show WP T N _ _ _ _ (wi h_12 a_16 2 ((ai h_12 a_16 2) + 1)) _
    generalize e_22 : wi h_12 a_16 2 ((ai h_12 a_16 2) + 1) = h_21
    replace k := k h_21 e_22.symm
    refine R_ps 1 (pc2 := 28) (L2 := [some (vr (some w))]) (st2 := [vr (some w)]) rfl ?_
    refine R_zgetI (z := 1) rfl t0 rfl ?_
    refine R_zif0 (x := ai h_21 w 1) rfl (ai_in _ _ _) (fun c_24 => ?_) (fun c_24 => ?_)
    · have k := k.2 c_24
      exact R_ret rfl rfl ⟨rfl, k⟩
    · have k := k.1 (Classical.not_not.mp c_24)
      refine R_ps 1 (pc2 := 35) (L2 := [some (vr (some w))]) (st2 := [vr (some w)]) rfl ?_
      refine R_cV (as := [vr (some w)]) rfl rfl ⟨Nat.le_of_ble_eq_true rfl, Nat.le_of_ble_eq_true rfl, rfl, (Or.inr ⟨_, rfl, t0⟩)⟩ rfl rfl k (fun h_27 k => ?_)
      exact R_ret rfl rfl ⟨rfl, k⟩
/-- DroneCorridors$Fence.<init> -/
theorem z36 {T N : Nat → Nat} {h : PH} {w : Nat} {K : PH → Prop} (k : (K h)) : CV T N 36 [vr (some w)] h K := by
  show WP T N 36 0 [some (vr (some w))] [] h _
  refine R_ps 1 (pc2 := 1) (L2 := [some (vr (some w))]) (st2 := [vr (some w)]) rfl ?_
  refine R_jdk (st2 := []) rfl rfl rfl rfl rfl rfl rfl rfl ?_
  exact R_ret rfl rfl ⟨rfl, k⟩
/-- DroneCorridors$Fence.strikes -/
theorem z37 {T N : Nat → Nat} {h : PH} {w : Nat} {a1 : Nat} {K : Int → PH → Prop} (t0 : T a1 = 7) (t1 : T w = 4) (k : ((((ai h a1 0) = (ai h w 0) → (ZI T N 145 [vi (J (ai h w 1)), vi (J (ai h a1 2))] h (fun x_9 h_8 => (((x_9 = 0 → (K 0 h_8)) ∧ (¬ (x_9 = 0) → ((((ai h_8 a1 3) < (ai h_8 w 3) → ((((ai h_8 w 2) < (ai h_8 a1 4) → (K 1 h_8)) ∧ (¬ ((ai h_8 w 2) < (ai h_8 a1 4)) → (K 0 h_8))))) ∧ (¬ ((ai h_8 a1 3) < (ai h_8 w 3)) → (K 0 h_8)))))))))) ∧ (¬ ((ai h a1 0) = (ai h w 0)) → (K 0 h))))) : ZI T N 37 [vr (some w), vr (some a1)] h K := by
  show WP T N 37 0 [some (vr (some w)), some (vr (some a1))] [] h _
  refine R_ps 1 (pc2 := 1) (L2 := [some (vr (some w)), some (vr (some a1))]) (st2 := [vr (some a1)]) rfl ?_
  refine R_zgetI (z := 0) rfl t0 rfl ?_
  refine R_ps 1 (pc2 := 5) (L2 := [some (vr (some w)), some (vr (some a1))]) (st2 := [vr (some w), vi (J (ai h a1 0))]) rfl ?_
  refine R_zgetI (z := 0) rfl t1 rfl ?_
  refine R_zif (x := ai h a1 0) (z := ai h w 0) rfl (ai_in _ _ _) (ai_in _ _ _) (fun c_3 => ?_) (fun c_3 => ?_)
  · have k := k.2 c_3
    refine R_ps 1 (pc2 := 52) (L2 := [some (vr (some w)), some (vr (some a1))]) (st2 := [vi (J 0)]) rfl ?_
    exact R_zzret (x := 0) rfl rfl (Or.inl rfl) (R_zr (x := 0) (K := K) (by decide) k)
  · have k := k.1 (Classical.not_not.mp c_3)
    refine R_ps 1 (pc2 := 12) (L2 := [some (vr (some w)), some (vr (some a1))]) (st2 := [vr (some w)]) rfl ?_
    refine R_zgetI (z := 1) rfl t1 rfl ?_
    refine R_ps 1 (pc2 := 16) (L2 := [some (vr (some w)), some (vr (some a1))]) (st2 := [vr (some a1), vi (J (ai h w 1))]) rfl ?_
    refine R_zgetI (z := 2) rfl t0 rfl ?_
    refine R_zcI (as := [vi (J (ai h w 1)), vi (J (ai h a1 2))]) rfl rfl ⟨Nat.le_of_ble_eq_true rfl, Nat.le_of_ble_eq_true rfl, rfl, (Or.inl rfl)⟩ rfl rfl k (fun x_9 h_8 r_10 k => ?_)
    refine R_zif0 (x := x_9) rfl r_10 (fun c_11 => ?_) (fun c_11 => ?_)
    · have k := k.1 c_11
      refine R_ps 1 (pc2 := 52) (L2 := [some (vr (some w)), some (vr (some a1))]) (st2 := [vi (J 0)]) rfl ?_
      exact R_zzret (x := 0) rfl rfl (Or.inl rfl) (R_zr (x := 0) (K := K) (by decide) k)
    · have k := k.2 c_11
      refine R_ps 1 (pc2 := 26) (L2 := [some (vr (some w)), some (vr (some a1))]) (st2 := [vr (some a1)]) rfl ?_
      refine R_zgetI (z := 3) rfl t0 rfl ?_
      refine R_ps 1 (pc2 := 30) (L2 := [some (vr (some w)), some (vr (some a1))]) (st2 := [vr (some w), vi (J (ai h_8 a1 3))]) rfl ?_
      refine R_zgetI (z := 3) rfl t1 rfl ?_
      refine R_zif (x := ai h_8 a1 3) (z := ai h_8 w 3) rfl (ai_in _ _ _) (ai_in _ _ _) (fun c_15 => ?_) (fun c_15 => ?_)
      · have k := k.2 c_15
        refine R_ps 1 (pc2 := 52) (L2 := [some (vr (some w)), some (vr (some a1))]) (st2 := [vi (J 0)]) rfl ?_
        exact R_zzret (x := 0) rfl rfl (Or.inl rfl) (R_zr (x := 0) (K := K) (by decide) k)
      · have k := k.1 (Classical.not_not.mp c_15)
        refine R_ps 1 (pc2 := 37) (L2 := [some (vr (some w)), some (vr (some a1))]) (st2 := [vr (some a1)]) rfl ?_
        refine R_zgetI (z := 4) rfl t0 rfl ?_
        refine R_ps 1 (pc2 := 41) (L2 := [some (vr (some w)), some (vr (some a1))]) (st2 := [vr (some w), vi (J (ai h_8 a1 4))]) rfl ?_
        refine R_zgetI (z := 2) rfl t1 rfl ?_
        refine R_zif (x := ai h_8 a1 4) (z := ai h_8 w 2) rfl (ai_in _ _ _) (ai_in _ _ _) (fun c_19 => ?_) (fun c_19 => ?_)
        · have k := k.2 c_19
          refine R_ps 1 (pc2 := 52) (L2 := [some (vr (some w)), some (vr (some a1))]) (st2 := [vi (J 0)]) rfl ?_
          exact R_zzret (x := 0) rfl rfl (Or.inl rfl) (R_zr (x := 0) (K := K) (by decide) k)
        · have k := k.1 (Classical.not_not.mp c_19)
          refine R_ps 2 (pc2 := 52) (L2 := [some (vr (some w)), some (vr (some a1))]) (st2 := [vi (J 1)]) rfl ?_
          exact R_zzret (x := 1) rfl rfl (Or.inr rfl) (R_zr (x := 1) (K := K) (by decide) k)
/-- DroneCorridors$Fence.copy -/
theorem z38 {T N : Nat → Nat} {h : PH} {w : Nat} {a1 : Nat} {K : PH → Prop} (t0 : T a1 = 4) (t1 : T w = 4) (k : (∀ h_3, h_3 = wi h w 0 (ai h a1 0) → ∀ h_7, h_7 = wi h_3 w 1 (ai h_3 a1 1) → ∀ h_11, h_11 = wi h_7 w 2 (ai h_7 a1 2) → ∀ h_15, h_15 = wi h_11 w 3 (ai h_11 a1 3) → K h_15)) : CV T N 38 [vr (some w), vr (some a1)] h K := by
  show WP T N 38 0 [some (vr (some w)), some (vr (some a1))] [] h _
  refine R_ps 2 (pc2 := 2) (L2 := [some (vr (some w)), some (vr (some a1))]) (st2 := [vr (some a1), vr (some w)]) rfl ?_
  refine R_zgetI (z := 0) rfl t0 rfl ?_
  refine R_zputI (x := ai h a1 0) (z := 0) rfl t1 rfl ?_
  show WP T N _ _ _ _ (wi h w 0 (ai h a1 0)) _
  generalize e_4 : wi h w 0 (ai h a1 0) = h_3
  replace k := k h_3 e_4.symm
  refine R_ps 2 (pc2 := 10) (L2 := [some (vr (some w)), some (vr (some a1))]) (st2 := [vr (some a1), vr (some w)]) rfl ?_
  refine R_zgetI (z := 1) rfl t0 rfl ?_
  refine R_zputI (x := ai h_3 a1 1) (z := 1) rfl t1 rfl ?_
  show WP T N _ _ _ _ (wi h_3 w 1 (ai h_3 a1 1)) _
  generalize e_8 : wi h_3 w 1 (ai h_3 a1 1) = h_7
  replace k := k h_7 e_8.symm
  refine R_ps 2 (pc2 := 18) (L2 := [some (vr (some w)), some (vr (some a1))]) (st2 := [vr (some a1), vr (some w)]) rfl ?_
  refine R_zgetI (z := 2) rfl t0 rfl ?_
  refine R_zputI (x := ai h_7 a1 2) (z := 2) rfl t1 rfl ?_
  show WP T N _ _ _ _ (wi h_7 w 2 (ai h_7 a1 2)) _
  generalize e_12 : wi h_7 w 2 (ai h_7 a1 2) = h_11
  replace k := k h_11 e_12.symm
  refine R_ps 2 (pc2 := 26) (L2 := [some (vr (some w)), some (vr (some a1))]) (st2 := [vr (some a1), vr (some w)]) rfl ?_
  refine R_zgetI (z := 3) rfl t0 rfl ?_
  refine R_zputI (x := ai h_11 a1 3) (z := 3) rfl t1 rfl ?_
  show WP T N _ _ _ _ (wi h_11 w 3 (ai h_11 a1 3)) _
  generalize e_16 : wi h_11 w 3 (ai h_11 a1 3) = h_15
  replace k := k h_15 e_16.symm
  exact R_ret rfl rfl ⟨rfl, k⟩
/-- DroneCorridors$History.<init> -/
theorem z39 {T N : Nat → Nat} {h : PH} {w : Nat} {K : PH → Prop} (t0 : T w = 5) (k : ((T (nx h) = 40 ∧ 9 = (N (nx h) : Int) ∧ N (nx h) ≤ 65536) ∧ ∀ a_3 h_4, a_3 = nx h → h_4 = grow h (N (nx h)) → ∀ h_9, h_9 = sr h_4 w 2 (some a_3) → WV T N 39 15 [some (vr (some w)), some (vi (J 0))] [] h_9 K)) : CV T N 39 [vr (some w)] h K := by
  show WP T N 39 0 [some (vr (some w)), none] [] h _
  refine R_ps 1 (pc2 := 1) (L2 := [some (vr (some w)), none]) (st2 := [vr (some w)]) rfl ?_
  refine R_jdk (st2 := []) rfl rfl rfl rfl rfl rfl rfl rfl ?_
  refine R_ps 2 (pc2 := 7) (L2 := [some (vr (some w)), none]) (st2 := [vi (J 9), vr (some w)]) rfl ?_
  obtain ⟨t_7, k⟩ := k
  refine R_zanew (n := 9) rfl t_7 ?_
  generalize e_6 : grow h (N (nx h)) = h_4
  generalize e_5 : nx h = a_3
  replace k := k a_3 h_4 e_5.symm e_6.symm
  refine R_putR rfl t0 ?_
  show WP T N _ _ _ _ (sr h_4 w 2 (some a_3)) _
  generalize e_10 : sr h_4 w 2 (some a_3) = h_9
  replace k := k h_9 e_10.symm
  refine R_ps 2 (pc2 := 15) (L2 := [some (vr (some w)), some (vi (J 0))]) (st2 := []) rfl ?_
  exact k
theorem z39_15 {T N : Nat → Nat} {h : PH} {w : Nat} {x1 : Int} {K : PH → Prop} (t0 : T w = 5) (r1 : In x1) (k : (∃ a_3, (gr h w 2) = some a_3 ∧ 21 ≤ T a_3 ∧ In (N a_3 : Int) ∧ ((x1 < (N a_3 : Int) → (T (nx h) = 10 ∧ ∀ a_11 h_12, a_11 = nx h → h_12 = grow h 9 → CV T N 82 [vr (some a_11)] h_12 (fun h_17 => (∃ a_20, (gr h w 2) = some a_20 ∧ (1 ≤ T a_11 ∧ T a_11 ≤ 12 ∧ T a_11 + 30 = T a_20) ∧ (0 ≤ x1 ∧ x1 < (N a_20 : Int) ∧ x1 < 2147483648) ∧ ∀ h_22, h_22 = sr h_17 a_20 (Int.toNat x1) (some a_11) → WV T N 39 15 [some (vr (some w)), some (vi (J (x1 + 1)))] [] h_22 K)))) ∧ (¬ (x1 < (N a_3 : Int)) → (K h))))) : WV T N 39 15 [some (vr (some w)), some (vi (J x1))] [] h K := by
  show WP T N 39 15 [some (vr (some w)), some (vi (J x1))] [] h _
  refine R_ps 2 (pc2 := 17) (L2 := [some (vr (some w)), some (vi (J x1))]) (st2 := [vr (some w), vi (J x1)]) rfl ?_
  refine R_getR rfl t0 ?_
  obtain ⟨a_3, e_4, k⟩ := k
  rw [e_4]
  obtain ⟨t_5, k⟩ := k
  refine R_zalen rfl t_5 ?_
  obtain ⟨t_7, k⟩ := k
  refine R_zif (x := x1) (z := (N a_3 : Int)) rfl r1 t_7 (fun c_6 => ?_) (fun c_6 => ?_)
  · have k := k.2 c_6
    exact R_ret rfl rfl ⟨rfl, k⟩
  · have k := k.1 (Classical.not_not.mp c_6)
    refine R_ps 1 (pc2 := 25) (L2 := [some (vr (some w)), some (vi (J x1))]) (st2 := [vr (some w)]) rfl ?_
    refine R_getR rfl t0 ?_
    refine R_ps 1 (pc2 := 29) (L2 := [some (vr (some w)), some (vi (J x1))]) (st2 := [vi (J x1), vr (gr h w 2)]) rfl ?_
    obtain ⟨t_15, k⟩ := k
    refine R_new rfl ⟨by decide, t_15⟩ ?_
    show WP T N _ _ _ _ (grow h 9) _
    generalize e_13 : nx h = a_11
    generalize e_14 : grow h 9 = h_12
    replace k := k a_11 h_12 e_13.symm e_14.symm
    refine R_ps 1 (pc2 := 33) (L2 := [some (vr (some w)), some (vi (J x1))]) (st2 := [vr (some a_11), vr (some a_11), vi (J x1), vr (gr h w 2)]) rfl ?_
    refine R_cV (as := [vr (some a_11)]) rfl rfl ⟨Nat.le_of_ble_eq_true rfl, Nat.le_of_ble_eq_true rfl, rfl, (Or.inr ⟨_, rfl, (e_13 ▸ t_15)⟩)⟩ rfl rfl k (fun h_17 k => ?_)
    obtain ⟨a_20, e_21, k⟩ := k
    rw [e_21]
    obtain ⟨t_24, k⟩ := k
    obtain ⟨t_25, k⟩ := k
    refine R_zaast (i := x1) rfl t_24 t_25  ?_
    show WP T N _ _ _ _ (sr h_17 a_20 (Int.toNat x1) (some a_11)) _
    generalize e_23 : sr h_17 a_20 (Int.toNat x1) (some a_11) = h_22
    replace k := k h_22 e_23.symm
    refine R_ps 2 (pc2 := 15) (L2 := [some (vr (some w)), some (vi ((J x1) + J 1))]) (st2 := []) rfl ?_
    rw [show ((J x1) + J 1) = J (x1 + 1) from J_add' rfl rfl]
    exact k
/-- DroneCorridors$History.forget -/
theorem z40 {T N : Nat → Nat} {h : PH} {w : Nat} {K : PH → Prop} (t0 : T w = 5) (k : (∀ h_2, h_2 = wi h w 0 0 → K h_2)) : CV T N 40 [vr (some w)] h K := by
  show WP T N 40 0 [some (vr (some w))] [] h _
  refine R_ps 2 (pc2 := 2) (L2 := [some (vr (some w))]) (st2 := [vi (J 0), vr (some w)]) rfl ?_
  refine R_zputI (x := 0) (z := 0) rfl t0 rfl ?_
  show WP T N _ _ _ _ (wi h w 0 0) _
  generalize e_3 : wi h w 0 0 = h_2
  replace k := k h_2 e_3.symm
  exact R_ret rfl rfl ⟨rfl, k⟩
/-- DroneCorridors$History.remember -/
theorem z41 {T N : Nat → Nat} {h : PH} {w : Nat} {a1 : Nat} {K : PH → Prop} (t0 : T w = 5) (k : (CV T N 42 [vr (some w), vr (some a1)] h (fun h_2 => (CV T N 43 [vr (some w)] h_2 (fun h_5 => (K h_5)))))) : CV T N 41 [vr (some w), vr (some a1)] h K := by
  show WP T N 41 0 [some (vr (some w)), some (vr (some a1))] [] h _
  refine R_ps 2 (pc2 := 2) (L2 := [some (vr (some w)), some (vr (some a1))]) (st2 := [vr (some a1), vr (some w)]) rfl ?_
  refine R_cV (as := [vr (some w), vr (some a1)]) rfl rfl ⟨Nat.le_of_ble_eq_true rfl, Nat.le_of_ble_eq_true rfl, rfl, (Or.inr ⟨_, rfl, t0⟩)⟩ rfl rfl k (fun h_2 k => ?_)
  refine R_ps 1 (pc2 := 6) (L2 := [some (vr (some w)), some (vr (some a1))]) (st2 := [vr (some w)]) rfl ?_
  refine R_cV (as := [vr (some w)]) rfl rfl ⟨Nat.le_of_ble_eq_true rfl, Nat.le_of_ble_eq_true rfl, rfl, (Or.inr ⟨_, rfl, t0⟩)⟩ rfl rfl k (fun h_5 k => ?_)
  exact R_ret rfl rfl ⟨rfl, k⟩
/-- DroneCorridors$History.sketch -/
theorem z42 {T N : Nat → Nat} {h : PH} {w : Nat} {a1 : Nat} {K : PH → Prop} (t0 : T w = 5) (k : (CR T N 46 [vr (some w), vi (J (ai h w 0))] h (fun x_4 h_3 => (((x_4 = none → (K h_3)) ∧ (∀ a_6, x_4 = some a_6 → (T a_6 = 10 ∧ CV T N 84 [vr (some a_6), vr (some a1)] h_3 (fun h_11 => (K h_11))))))))) : CV T N 42 [vr (some w), vr (some a1)] h K := by
  show WP T N 42 0 [some (vr (some w)), some (vr (some a1)), none] [] h _
  refine R_ps 2 (pc2 := 2) (L2 := [some (vr (some w)), some (vr (some a1)), none]) (st2 := [vr (some w), vr (some w)]) rfl ?_
  refine R_zgetI (z := 0) rfl t0 rfl ?_
  refine R_cR (as := [vr (some w), vi (J (ai h w 0))]) rfl rfl ⟨Nat.le_of_ble_eq_true rfl, Nat.le_of_ble_eq_true rfl, rfl, (Or.inr ⟨_, rfl, t0⟩)⟩ rfl rfl k (fun x_4 h_3 k => ?_)
  refine R_ps 2 (pc2 := 10) (L2 := [some (vr (some w)), some (vr (some a1)), some (vr x_4)]) (st2 := [vr x_4]) rfl ?_
  rcases null_or (x_4) with e_7 | ⟨a_6, e_7⟩
  · have k := k.1 e_7
    rw [e_7]
    refine R_null rfl (fun _ => ?_) (fun _ c_5 => nomatch c_5)
    exact R_ret rfl rfl ⟨rfl, k⟩
  · have k := k.2 a_6 e_7
    rw [e_7]
    refine R_null rfl (fun c_5 => nomatch c_5) (fun _ _ => ?_)
    refine R_ps 2 (pc2 := 15) (L2 := [some (vr (some w)), some (vr (some a1)), some (vr (some a_6))]) (st2 := [vr (some a1), vr (some a_6)]) rfl ?_
    obtain ⟨t_10, k⟩ := k
    refine R_cV (as := [vr (some a_6), vr (some a1)]) rfl rfl ⟨Nat.le_of_ble_eq_true rfl, Nat.le_of_ble_eq_true rfl, rfl, (Or.inr ⟨_, rfl, t_10⟩)⟩ rfl rfl k (fun h_11 k => ?_)
    exact R_ret rfl rfl ⟨rfl, k⟩
/-- DroneCorridors$History.keep -/
theorem z43 {T N : Nat → Nat} {h : PH} {w : Nat} {K : PH → Prop} (t0 : T w = 5) (k : ((((ai h w 0) < 8 → (∀ h_12, h_12 = wi h w 0 ((ai h w 0) + 1) → K h_12)) ∧ (¬ ((ai h w 0) < 8) → ((0 ≤ ((ai h w 1) + 1) ∧ ((ai h w 1) + 1) < 2147483648) ∧ ∀ h_7, h_7 = wi h w 1 (((ai h w 1) + 1) % 9) → K h_7))))) : CV T N 43 [vr (some w)] h K := by
  show WP T N 43 0 [some (vr (some w))] [] h _
  refine R_ps 1 (pc2 := 1) (L2 := [some (vr (some w))]) (st2 := [vr (some w)]) rfl ?_
  refine R_zgetI (z := 0) rfl t0 rfl ?_
  refine R_ps 1 (pc2 := 6) (L2 := [some (vr (some w))]) (st2 := [vi (J 8), vi (J (ai h w 0))]) rfl ?_
  refine R_zif (x := ai h w 0) (z := 8) rfl (ai_in _ _ _) (by decide) (fun c_2 => ?_) (fun c_2 => ?_)
  · have k := k.2 c_2
    refine R_ps 2 (pc2 := 24) (L2 := [some (vr (some w))]) (st2 := [vr (some w), vr (some w)]) rfl ?_
    refine R_zgetI (z := 1) rfl t0 rfl ?_
    refine R_ps 3 (pc2 := 31) (L2 := [some (vr (some w))]) (st2 := [vi (J 9), vi ((J (ai h w 1)) + (J 1)), vr (some w)]) rfl ?_
    rw [show ((J (ai h w 1)) + (J 1)) = J ((ai h w 1) + 1) from J_add' rfl rfl]
    obtain ⟨t_5, k⟩ := k
    refine R_zrem (x := (ai h w 1) + 1) (z := 9) rfl (by decide) t_5 ?_
    refine R_zputI (x := ((ai h w 1) + 1) % 9) (z := 1) rfl t0 rfl ?_
    show WP T N _ _ _ _ (wi h w 1 (((ai h w 1) + 1) % 9)) _
    generalize e_8 : wi h w 1 (((ai h w 1) + 1) % 9) = h_7
    replace k := k h_7 e_8.symm
    exact R_ret rfl rfl ⟨rfl, k⟩
  · have k := k.1 (Classical.not_not.mp c_2)
    refine R_ps 2 (pc2 := 11) (L2 := [some (vr (some w))]) (st2 := [vr (some w), vr (some w)]) rfl ?_
    refine R_zgetI (z := 0) rfl t0 rfl ?_
    refine R_ps 2 (pc2 := 16) (L2 := [some (vr (some w))]) (st2 := [vi ((J (ai h w 0)) + (J 1)), vr (some w)]) rfl ?_
    rw [show ((J (ai h w 0)) + (J 1)) = J ((ai h w 0) + 1) from J_add' rfl rfl]
    refine R_zputI (x := (ai h w 0) + 1) (z := 0) rfl t0 rfl ?_
    show WP T N _ _ _ _ (wi h w 0 ((ai h w 0) + 1)) _
    generalize e_13 : wi h w 0 ((ai h w 0) + 1) = h_12
    replace k := k h_12 e_13.symm
    refine R_ps 1 (pc2 := 35) (L2 := [some (vr (some w))]) (st2 := []) rfl ?_
    exact R_ret rfl rfl ⟨rfl, k⟩
/-- DroneCorridors$History.takeBack -/
theorem z44 {T N : Nat → Nat} {h : PH} {w : Nat} {a1 : Nat} {K : PH → Prop} (t0 : T w = 5) (t1 : T a1 = 10) (k : (CR T N 46 [vr (some w), vi (J (ai h w 0))] h (fun x_4 h_3 => (((x_4 = none → (K h_3)) ∧ (∀ a_6, x_4 = some a_6 → (CV T N 84 [vr (some a1), vr (some a_6)] h_3 (fun h_10 => (K h_10))))))))) : CV T N 44 [vr (some w), vr (some a1)] h K := by
  show WP T N 44 0 [some (vr (some w)), some (vr (some a1)), none] [] h _
  refine R_ps 2 (pc2 := 2) (L2 := [some (vr (some w)), some (vr (some a1)), none]) (st2 := [vr (some w), vr (some w)]) rfl ?_
  refine R_zgetI (z := 0) rfl t0 rfl ?_
  refine R_cR (as := [vr (some w), vi (J (ai h w 0))]) rfl rfl ⟨Nat.le_of_ble_eq_true rfl, Nat.le_of_ble_eq_true rfl, rfl, (Or.inr ⟨_, rfl, t0⟩)⟩ rfl rfl k (fun x_4 h_3 k => ?_)
  refine R_ps 2 (pc2 := 10) (L2 := [some (vr (some w)), some (vr (some a1)), some (vr x_4)]) (st2 := [vr x_4]) rfl ?_
  rcases null_or (x_4) with e_7 | ⟨a_6, e_7⟩
  · have k := k.1 e_7
    rw [e_7]
    refine R_null rfl (fun _ => ?_) (fun _ c_5 => nomatch c_5)
    exact R_ret rfl rfl ⟨rfl, k⟩
  · have k := k.2 a_6 e_7
    rw [e_7]
    refine R_null rfl (fun c_5 => nomatch c_5) (fun _ _ => ?_)
    refine R_ps 2 (pc2 := 15) (L2 := [some (vr (some w)), some (vr (some a1)), some (vr (some a_6))]) (st2 := [vr (some a_6), vr (some a1)]) rfl ?_
    refine R_cV (as := [vr (some a1), vr (some a_6)]) rfl rfl ⟨Nat.le_of_ble_eq_true rfl, Nat.le_of_ble_eq_true rfl, rfl, (Or.inr ⟨_, rfl, t1⟩)⟩ rfl rfl k (fun h_10 k => ?_)
    exact R_ret rfl rfl ⟨rfl, k⟩
/-- DroneCorridors$History.stepBack -/
theorem z45 {T N : Nat → Nat} {h : PH} {w : Nat} {a1 : Nat} {K : PH → Prop} (t0 : T w = 5) (k : (((0 < (ai h w 0) → (∀ h_6, h_6 = wi h w 0 ((ai h w 0) - 1) → CV T N 44 [vr (some w), vr (some a1)] h_6 (fun h_9 => (K h_9)))) ∧ (¬ (0 < (ai h w 0)) → (K h))))) : CV T N 45 [vr (some w), vr (some a1)] h K := by
  show WP T N 45 0 [some (vr (some w)), some (vr (some a1))] [] h _
  refine R_ps 1 (pc2 := 1) (L2 := [some (vr (some w)), some (vr (some a1))]) (st2 := [vr (some w)]) rfl ?_
  refine R_zgetI (z := 0) rfl t0 rfl ?_
  refine R_zif0 (x := ai h w 0) rfl (ai_in _ _ _) (fun c_2 => ?_) (fun c_2 => ?_)
  · have k := k.2 c_2
    exact R_ret rfl rfl ⟨rfl, k⟩
  · have k := k.1 (Classical.not_not.mp c_2)
    refine R_ps 2 (pc2 := 9) (L2 := [some (vr (some w)), some (vr (some a1))]) (st2 := [vr (some w), vr (some w)]) rfl ?_
    refine R_zgetI (z := 0) rfl t0 rfl ?_
    refine R_ps 2 (pc2 := 14) (L2 := [some (vr (some w)), some (vr (some a1))]) (st2 := [vi ((J (ai h w 0)) - (J 1)), vr (some w)]) rfl ?_
    rw [show ((J (ai h w 0)) - (J 1)) = J ((ai h w 0) - 1) from J_sub' rfl rfl]
    refine R_zputI (x := (ai h w 0) - 1) (z := 0) rfl t0 rfl ?_
    show WP T N _ _ _ _ (wi h w 0 ((ai h w 0) - 1)) _
    generalize e_7 : wi h w 0 ((ai h w 0) - 1) = h_6
    replace k := k h_6 e_7.symm
    refine R_ps 2 (pc2 := 19) (L2 := [some (vr (some w)), some (vr (some a1))]) (st2 := [vr (some a1), vr (some w)]) rfl ?_
    refine R_cV (as := [vr (some w), vr (some a1)]) rfl rfl ⟨Nat.le_of_ble_eq_true rfl, Nat.le_of_ble_eq_true rfl, rfl, (Or.inr ⟨_, rfl, t0⟩)⟩ rfl rfl k (fun h_9 k => ?_)
    exact R_ret rfl rfl ⟨rfl, k⟩
/-- DroneCorridors$History.placeOf -/
theorem z46 {T N : Nat → Nat} {h : PH} {w : Nat} {x1 : Int} {K : Option Nat → PH → Prop} (t0 : T w = 5) (r1 : In x1) (k : ((0 ≤ ((ai h w 1) + x1) ∧ ((ai h w 1) + x1) < 2147483648) ∧ In (((ai h w 1) + x1) % 9) ∧ (((((ai h w 1) + x1) % 9) < 0 → (K none h)) ∧ (¬ ((((ai h w 1) + x1) % 9) < 0) → (∃ a_9, (gr h w 2) = some a_9 ∧ 21 ≤ T a_9 ∧ In (N a_9 : Int) ∧ (((((ai h w 1) + x1) % 9) < (N a_9 : Int) → (∃ a_17, (gr h w 2) = some a_17 ∧ 30 ≤ T a_17 ∧ (0 ≤ (((ai h w 1) + x1) % 9) ∧ (((ai h w 1) + x1) % 9) < (N a_17 : Int) ∧ (((ai h w 1) + x1) % 9) < 2147483648) ∧ K (gr h a_17 (Int.toNat (((ai h w 1) + x1) % 9))) h)) ∧ (¬ ((((ai h w 1) + x1) % 9) < (N a_9 : Int)) → (K none h)))))))) : CR T N 46 [vr (some w), vi (J x1)] h K := by
  show WP T N 46 0 [some (vr (some w)), some (vi (J x1)), none] [] h _
  refine R_ps 1 (pc2 := 1) (L2 := [some (vr (some w)), some (vi (J x1)), none]) (st2 := [vr (some w)]) rfl ?_
  refine R_zgetI (z := 1) rfl t0 rfl ?_
  refine R_ps 3 (pc2 := 8) (L2 := [some (vr (some w)), some (vi (J x1)), none]) (st2 := [vi (J 9), vi ((J (ai h w 1)) + (J x1))]) rfl ?_
  rw [show ((J (ai h w 1)) + (J x1)) = J ((ai h w 1) + x1) from J_add' rfl rfl]
  obtain ⟨t_3, k⟩ := k
  refine R_zrem (x := (ai h w 1) + x1) (z := 9) rfl (by decide) t_3 ?_
  refine R_ps 2 (pc2 := 11) (L2 := [some (vr (some w)), some (vi (J x1)), some (vi (J (((ai h w 1) + x1) % 9)))]) (st2 := [vi (J (((ai h w 1) + x1) % 9))]) rfl ?_
  obtain ⟨t_5, k⟩ := k
  refine R_zif0 (x := ((ai h w 1) + x1) % 9) rfl t_5 (fun c_4 => ?_) (fun c_4 => ?_)
  · have k := k.1 c_4
    refine R_ps 1 (pc2 := 33) (L2 := [some (vr (some w)), some (vi (J x1)), some (vi (J (((ai h w 1) + x1) % 9)))]) (st2 := [vr none]) rfl ?_
    exact R_aret rfl rfl ⟨_, rfl, k⟩
  · have k := k.2 c_4
    refine R_ps 2 (pc2 := 16) (L2 := [some (vr (some w)), some (vi (J x1)), some (vi (J (((ai h w 1) + x1) % 9)))]) (st2 := [vr (some w), vi (J (((ai h w 1) + x1) % 9))]) rfl ?_
    refine R_getR rfl t0 ?_
    obtain ⟨a_9, e_10, k⟩ := k
    rw [e_10]
    obtain ⟨t_11, k⟩ := k
    refine R_zalen rfl t_11 ?_
    obtain ⟨t_13, k⟩ := k
    refine R_zif (x := ((ai h w 1) + x1) % 9) (z := (N a_9 : Int)) rfl t_5 t_13 (fun c_12 => ?_) (fun c_12 => ?_)
    · have k := k.2 c_12
      refine R_ps 1 (pc2 := 33) (L2 := [some (vr (some w)), some (vi (J x1)), some (vi (J (((ai h w 1) + x1) % 9)))]) (st2 := [vr none]) rfl ?_
      exact R_aret rfl rfl ⟨_, rfl, k⟩
    · have k := k.1 (Classical.not_not.mp c_12)
      refine R_ps 1 (pc2 := 24) (L2 := [some (vr (some w)), some (vi (J x1)), some (vi (J (((ai h w 1) + x1) % 9)))]) (st2 := [vr (some w)]) rfl ?_
      refine R_getR rfl t0 ?_
      refine R_ps 1 (pc2 := 28) (L2 := [some (vr (some w)), some (vi (J x1)), some (vi (J (((ai h w 1) + x1) % 9)))]) (st2 := [vi (J (((ai h w 1) + x1) % 9)), vr (gr h w 2)]) rfl ?_
      obtain ⟨a_17, e_18, k⟩ := k
      rw [e_18]
      obtain ⟨t_19, k⟩ := k
      obtain ⟨t_20, k⟩ := k
      refine R_zaald (i := ((ai h w 1) + x1) % 9) rfl t_19 t_20 ?_
      refine R_ps 1 (pc2 := 33) (L2 := [some (vr (some w)), some (vi (J x1)), some (vi (J (((ai h w 1) + x1) % 9)))]) (st2 := [vr (gr h a_17 (Int.toNat (((ai h w 1) + x1) % 9)))]) rfl ?_
      exact R_aret rfl rfl ⟨_, rfl, k⟩
/-- DroneCorridors$Input.<init> -/
theorem z47 {T N : Nat → Nat} {h : PH} {w : Nat} {K : PH → Prop} (t0 : T w = 6) (k : ((T (nx h) = 23 ∧ 60 = (N (nx h) : Int) ∧ N (nx h) ≤ 65536) ∧ ∀ a_3 h_4, a_3 = nx h → h_4 = grow h (N (nx h)) → ∀ h_9, h_9 = sr h_4 w 1 (some a_3) → K h_9)) : CV T N 47 [vr (some w)] h K := by
  show WP T N 47 0 [some (vr (some w))] [] h _
  refine R_ps 1 (pc2 := 1) (L2 := [some (vr (some w))]) (st2 := [vr (some w)]) rfl ?_
  refine R_jdk (st2 := []) rfl rfl rfl rfl rfl rfl rfl rfl ?_
  refine R_ps 2 (pc2 := 7) (L2 := [some (vr (some w))]) (st2 := [vi (J 60), vr (some w)]) rfl ?_
  obtain ⟨t_7, k⟩ := k
  refine R_znewa (n := 60) rfl t_7 ?_
  generalize e_6 : grow h (N (nx h)) = h_4
  generalize e_5 : nx h = a_3
  replace k := k a_3 h_4 e_5.symm e_6.symm
  refine R_putR rfl t0 ?_
  show WP T N _ _ _ _ (sr h_4 w 1 (some a_3)) _
  generalize e_10 : sr h_4 w 1 (some a_3) = h_9
  replace k := k h_9 e_10.symm
  exact R_ret rfl rfl ⟨rfl, k⟩
/-- DroneCorridors$Input.put -/
theorem z48 {T N : Nat → Nat} {h : PH} {w : Nat} {x1 : Int} {K : PH → Prop} (t0 : T w = 6) (r1 : In x1) (k : ((((ai h w 0) < 0 → (K h)) ∧ (¬ ((ai h w 0) < 0) → (∃ a_7, (gr h w 1) = some a_7 ∧ 21 ≤ T a_7 ∧ In (N a_7 : Int) ∧ (((ai h w 0) < (N a_7 : Int) → (∃ a_16, (gr h w 1) = some a_16 ∧ T a_16 = 23 ∧ (0 ≤ (ai h w 0) ∧ (ai h w 0) < (N a_16 : Int) ∧ (ai h w 0) < 2147483648) ∧ (0 ≤ x1 ∧ x1 < 65536) ∧ ∀ h_18, h_18 = wi h a_16 (ai h w 0) x1 → ∀ h_25, h_25 = wi h_18 w 0 ((ai h_18 w 0) + 1) → K h_25)) ∧ (¬ ((ai h w 0) < (N a_7 : Int)) → (K h)))))))) : CV T N 48 [vr (some w), vi (J x1)] h K := by
  show WP T N 48 0 [some (vr (some w)), some (vi (J x1))] [] h _
  refine R_ps 1 (pc2 := 1) (L2 := [some (vr (some w)), some (vi (J x1))]) (st2 := [vr (some w)]) rfl ?_
  refine R_zgetI (z := 0) rfl t0 rfl ?_
  refine R_zif0 (x := ai h w 0) rfl (ai_in _ _ _) (fun c_2 => ?_) (fun c_2 => ?_)
  · have k := k.1 c_2
    exact R_ret rfl rfl ⟨rfl, k⟩
  · have k := k.2 c_2
    refine R_ps 1 (pc2 := 8) (L2 := [some (vr (some w)), some (vi (J x1))]) (st2 := [vr (some w)]) rfl ?_
    refine R_zgetI (z := 0) rfl t0 rfl ?_
    refine R_ps 1 (pc2 := 12) (L2 := [some (vr (some w)), some (vi (J x1))]) (st2 := [vr (some w), vi (J (ai h w 0))]) rfl ?_
    refine R_getR rfl t0 ?_
    obtain ⟨a_7, e_8, k⟩ := k
    rw [e_8]
    obtain ⟨t_9, k⟩ := k
    refine R_zalen rfl t_9 ?_
    obtain ⟨t_11, k⟩ := k
    refine R_zif (x := ai h w 0) (z := (N a_7 : Int)) rfl (ai_in _ _ _) t_11 (fun c_10 => ?_) (fun c_10 => ?_)
    · have k := k.2 c_10
      exact R_ret rfl rfl ⟨rfl, k⟩
    · have k := k.1 (Classical.not_not.mp c_10)
      refine R_ps 1 (pc2 := 20) (L2 := [some (vr (some w)), some (vi (J x1))]) (st2 := [vr (some w)]) rfl ?_
      refine R_getR rfl t0 ?_
      refine R_ps 1 (pc2 := 24) (L2 := [some (vr (some w)), some (vi (J x1))]) (st2 := [vr (some w), vr (gr h w 1)]) rfl ?_
      refine R_zgetI (z := 0) rfl t0 rfl ?_
      refine R_ps 1 (pc2 := 28) (L2 := [some (vr (some w)), some (vi (J x1))]) (st2 := [vi (J x1), vi (J (ai h w 0)), vr (gr h w 1)]) rfl ?_
      obtain ⟨a_16, e_17, k⟩ := k
      rw [e_17]
      obtain ⟨t_20, k⟩ := k
      obtain ⟨t_21, k⟩ := k
      obtain ⟨t_22, k⟩ := k
      refine R_zcast (i := ai h w 0) (x := x1) rfl t_20 t_21 t_22 ?_
      show WP T N _ _ _ _ (wi h a_16 (ai h w 0) x1) _
      generalize e_19 : wi h a_16 (ai h w 0) x1 = h_18
      replace k := k h_18 e_19.symm
      refine R_ps 2 (pc2 := 31) (L2 := [some (vr (some w)), some (vi (J x1))]) (st2 := [vr (some w), vr (some w)]) rfl ?_
      refine R_zgetI (z := 0) rfl t0 rfl ?_
      refine R_ps 2 (pc2 := 36) (L2 := [some (vr (some w)), some (vi (J x1))]) (st2 := [vi ((J (ai h_18 w 0)) + (J 1)), vr (some w)]) rfl ?_
      rw [show ((J (ai h_18 w 0)) + (J 1)) = J ((ai h_18 w 0) + 1) from J_add' rfl rfl]
      refine R_zputI (x := (ai h_18 w 0) + 1) (z := 0) rfl t0 rfl ?_
      show WP T N _ _ _ _ (wi h_18 w 0 ((ai h_18 w 0) + 1)) _
      generalize e_26 : wi h_18 w 0 ((ai h_18 w 0) + 1) = h_25
      replace k := k h_25 e_26.symm
      exact R_ret rfl rfl ⟨rfl, k⟩
/-- DroneCorridors$Input.signAt -/
theorem z49 {T N : Nat → Nat} {h : PH} {w : Nat} {x1 : Int} {K : Int → PH → Prop} (t0 : T w = 6) (r1 : In x1) (k : (((x1 < 0 → ((0 ≤ (32 : Int) ∧ (32 : Int) < 65536) ∧ K 32 h)) ∧ (¬ (x1 < 0) → (((x1 < (ai h w 0) → (∃ a_10, (gr h w 1) = some a_10 ∧ 21 ≤ T a_10 ∧ In (N a_10 : Int) ∧ ((x1 < (N a_10 : Int) → (∃ a_19, (gr h w 1) = some a_19 ∧ T a_19 = 23 ∧ (0 ≤ x1 ∧ x1 < (N a_19 : Int) ∧ x1 < 2147483648) ∧ (0 ≤ (ai h a_19 x1) ∧ (ai h a_19 x1) < 65536) ∧ K (ai h a_19 x1) h)) ∧ (¬ (x1 < (N a_10 : Int)) → ((0 ≤ (32 : Int) ∧ (32 : Int) < 65536) ∧ K 32 h))))) ∧ (¬ (x1 < (ai h w 0)) → ((0 ≤ (32 : Int) ∧ (32 : Int) < 65536) ∧ K 32 h)))))))) : ZI T N 49 [vr (some w), vi (J x1)] h K := by
  show WP T N 49 0 [some (vr (some w)), some (vi (J x1))] [] h _
  refine R_ps 1 (pc2 := 1) (L2 := [some (vr (some w)), some (vi (J x1))]) (st2 := [vi (J x1)]) rfl ?_
  refine R_zif0 (x := x1) rfl r1 (fun c_1 => ?_) (fun c_1 => ?_)
  · have k := k.1 c_1
    refine R_ps 1 (pc2 := 32) (L2 := [some (vr (some w)), some (vi (J x1))]) (st2 := [vi (J 32)]) rfl ?_
    obtain ⟨t_3, k⟩ := k
    exact R_zcret (x := 32) rfl rfl t_3 (R_zr (x := 32) (K := K) (by decide) k)
  · have k := k.2 c_1
    refine R_ps 2 (pc2 := 6) (L2 := [some (vr (some w)), some (vi (J x1))]) (st2 := [vr (some w), vi (J x1)]) rfl ?_
    refine R_zgetI (z := 0) rfl t0 rfl ?_
    refine R_zif (x := x1) (z := ai h w 0) rfl r1 (ai_in _ _ _) (fun c_5 => ?_) (fun c_5 => ?_)
    · have k := k.2 c_5
      refine R_ps 1 (pc2 := 32) (L2 := [some (vr (some w)), some (vi (J x1))]) (st2 := [vi (J 32)]) rfl ?_
      obtain ⟨t_7, k⟩ := k
      exact R_zcret (x := 32) rfl rfl t_7 (R_zr (x := 32) (K := K) (by decide) k)
    · have k := k.1 (Classical.not_not.mp c_5)
      refine R_ps 2 (pc2 := 14) (L2 := [some (vr (some w)), some (vi (J x1))]) (st2 := [vr (some w), vi (J x1)]) rfl ?_
      refine R_getR rfl t0 ?_
      obtain ⟨a_10, e_11, k⟩ := k
      rw [e_11]
      obtain ⟨t_12, k⟩ := k
      refine R_zalen rfl t_12 ?_
      obtain ⟨t_14, k⟩ := k
      refine R_zif (x := x1) (z := (N a_10 : Int)) rfl r1 t_14 (fun c_13 => ?_) (fun c_13 => ?_)
      · have k := k.2 c_13
        refine R_ps 1 (pc2 := 32) (L2 := [some (vr (some w)), some (vi (J x1))]) (st2 := [vi (J 32)]) rfl ?_
        obtain ⟨t_16, k⟩ := k
        exact R_zcret (x := 32) rfl rfl t_16 (R_zr (x := 32) (K := K) (by decide) k)
      · have k := k.1 (Classical.not_not.mp c_13)
        refine R_ps 1 (pc2 := 22) (L2 := [some (vr (some w)), some (vi (J x1))]) (st2 := [vr (some w)]) rfl ?_
        refine R_getR rfl t0 ?_
        refine R_ps 1 (pc2 := 26) (L2 := [some (vr (some w)), some (vi (J x1))]) (st2 := [vi (J x1), vr (gr h w 1)]) rfl ?_
        obtain ⟨a_19, e_20, k⟩ := k
        rw [e_20]
        obtain ⟨t_21, k⟩ := k
        obtain ⟨t_22, k⟩ := k
        refine R_zcald (i := x1) rfl t_21 t_22 ?_
        refine R_ps 1 (pc2 := 32) (L2 := [some (vr (some w)), some (vi (J x1))]) (st2 := [vi (J (ai h a_19 x1))]) rfl ?_
        obtain ⟨t_24, k⟩ := k
        exact R_zcret (x := ai h a_19 x1) rfl rfl t_24 (R_zr (x := ai h a_19 x1) (K := K) (ai_in _ _ _) k)
/-- DroneCorridors$Input.digitAt -/
theorem z50 {T N : Nat → Nat} {h : PH} {w : Nat} {x1 : Int} {K : Int → PH → Prop} (t0 : T w = 6) (r1 : In x1) (k : (ZI T N 49 [vr (some w), vi (J x1)] h (fun x_3 h_2 => (In (x_3 - 48) ∧ K (x_3 - 48) h_2)))) : ZI T N 50 [vr (some w), vi (J x1)] h K := by
  show WP T N 50 0 [some (vr (some w)), some (vi (J x1))] [] h _
  refine R_ps 2 (pc2 := 2) (L2 := [some (vr (some w)), some (vi (J x1))]) (st2 := [vi (J x1), vr (some w)]) rfl ?_
  refine R_zcI (as := [vr (some w), vi (J x1)]) rfl rfl ⟨Nat.le_of_ble_eq_true rfl, Nat.le_of_ble_eq_true rfl, rfl, (Or.inr ⟨_, rfl, t0⟩)⟩ rfl rfl k (fun x_3 h_2 r_4 k => ?_)
  refine R_ps 2 (pc2 := 8) (L2 := [some (vr (some w)), some (vi (J x1))]) (st2 := [vi ((J x_3) - (J 48))]) rfl ?_
  rw [show ((J x_3) - (J 48)) = J (x_3 - 48) from J_sub' rfl rfl]
  obtain ⟨t_6, k⟩ := k
  exact R_iret rfl rfl (R_zr (x := x_3 - 48) (K := K) t_6 k)
/-- DroneCorridors$Input.restOf -/
theorem z51 {T N : Nat → Nat} {h : PH} {w : Nat} {x1 : Int} {K : Nat → PH → Prop} (t0 : T w = 6) (r1 : In x1) (k : (ZI T N 49 [vr (some w), vi (J x1)] h (fun x_3 h_2 => (((x_3 = 99 → (K 1 h_2)) ∧ (¬ (x_3 = 99) → ((x_3 = 100 → (K 2 h_2)) ∧ (¬ (x_3 = 100) → ((x_3 = 110 → (K 0 h_2)) ∧ (¬ (x_3 = 110) → ((x_3 = 112 → (K 0 h_2)) ∧ (¬ (x_3 = 112) → ((x_3 = 116 → (K 3 h_2)) ∧ (¬ (x_3 = 116) → (K 4 h_2))))))))))))))) : CS T N 51 [vr (some w), vi (J x1)] h K := by
  show WP T N 51 0 [some (vr (some w)), some (vi (J x1))] [] h _
  refine R_ps 2 (pc2 := 2) (L2 := [some (vr (some w)), some (vi (J x1))]) (st2 := [vi (J x1), vr (some w)]) rfl ?_
  refine R_zcI (as := [vr (some w), vi (J x1)]) rfl rfl ⟨Nat.le_of_ble_eq_true rfl, Nat.le_of_ble_eq_true rfl, rfl, (Or.inr ⟨_, rfl, t0⟩)⟩ rfl rfl k (fun x_3 h_2 r_4 k => ?_)
  refine R_zlsw (x := x_3) rfl rfl r_4 ?_
  refine ⟨fun c_5 => ?_, fun c_5 => ?_⟩
  · have k := k.1 c_5
    show WP T N _ 59 _ _ _ _
    refine R_ps 1 (pc2 := 61) (L2 := [some (vr (some w)), some (vi (J x1))]) (st2 := [vs 1]) rfl ?_
    exact R_sret rfl rfl ⟨_, rfl, k⟩
  replace k := k.2 c_5
  refine ⟨fun c_5 => ?_, fun c_5 => ?_⟩
  · have k := k.1 c_5
    show WP T N _ 62 _ _ _ _
    refine R_ps 1 (pc2 := 64) (L2 := [some (vr (some w)), some (vi (J x1))]) (st2 := [vs 2]) rfl ?_
    exact R_sret rfl rfl ⟨_, rfl, k⟩
  replace k := k.2 c_5
  refine ⟨fun c_5 => ?_, fun c_5 => ?_⟩
  · have k := k.1 c_5
    show WP T N _ 56 _ _ _ _
    refine R_ps 1 (pc2 := 58) (L2 := [some (vr (some w)), some (vi (J x1))]) (st2 := [vs 0]) rfl ?_
    exact R_sret rfl rfl ⟨_, rfl, k⟩
  replace k := k.2 c_5
  refine ⟨fun c_5 => ?_, fun c_5 => ?_⟩
  · have k := k.1 c_5
    show WP T N _ 56 _ _ _ _
    refine R_ps 1 (pc2 := 58) (L2 := [some (vr (some w)), some (vi (J x1))]) (st2 := [vs 0]) rfl ?_
    exact R_sret rfl rfl ⟨_, rfl, k⟩
  replace k := k.2 c_5
  refine ⟨fun c_5 => ?_, fun c_5 => ?_⟩
  · have k := k.1 c_5
    show WP T N _ 65 _ _ _ _
    refine R_ps 1 (pc2 := 67) (L2 := [some (vr (some w)), some (vi (J x1))]) (st2 := [vs 3]) rfl ?_
    exact R_sret rfl rfl ⟨_, rfl, k⟩
  replace k := k.2 c_5
  show WP T N _ 68 _ _ _ _
  refine R_ps 1 (pc2 := 70) (L2 := [some (vr (some w)), some (vi (J x1))]) (st2 := [vs 4]) rfl ?_
  exact R_sret rfl rfl ⟨_, rfl, k⟩
/-- DroneCorridors$Input.findError -/
theorem z52 {T N : Nat → Nat} {h : PH} {w : Nat} {K : Int → PH → Prop} (k : (ZW T N 52 2 [some (vr (some w)), some (vi (J 0)), none, none] [] h K)) : ZI T N 52 [vr (some w)] h K := by
  show WP T N 52 0 [some (vr (some w)), none, none, none] [] h _
  refine R_ps 2 (pc2 := 2) (L2 := [some (vr (some w)), some (vi (J 0)), none, none]) (st2 := []) rfl ?_
  exact k
theorem z52_2 {T N : Nat → Nat} {h : PH} {w : Nat} {x1 : Int} {K : Int → PH → Prop} (t0 : T w = 6) (r1 : In x1) (k : (((x1 < (ai h w 0) → (CS T N 51 [vr (some w), vi (J x1)] h (fun x_9 h_8 => (x_9 < 5 ∧ In (if txl x_9 = 0 then (1 : Int) else 0) ∧ (((if txl x_9 = 0 then (1 : Int) else 0) = 0 → (ZW T N 52 27 [some (vr (some w)), some (vi (J x1)), some (vs x_9), some (vi (J 0))] [] h_8 K)) ∧ (¬ ((if txl x_9 = 0 then (1 : Int) else 0) = 0) → (K x1 h_8))))))) ∧ (¬ (x1 < (ai h w 0)) → ((((ai h w 0) = 0 → (K 0 h)) ∧ (¬ ((ai h w 0) = 0) → (K (-1) h)))))))) : ZW T N 52 2 [some (vr (some w)), some (vi (J x1)), none, none] [] h K := by
  show WP T N 52 2 [some (vr (some w)), some (vi (J x1)), none, none] [] h _
  refine R_ps 2 (pc2 := 4) (L2 := [some (vr (some w)), some (vi (J x1)), none, none]) (st2 := [vr (some w), vi (J x1)]) rfl ?_
  refine R_zgetI (z := 0) rfl t0 rfl ?_
  refine R_zif (x := x1) (z := ai h w 0) rfl r1 (ai_in _ _ _) (fun c_2 => ?_) (fun c_2 => ?_)
  · have k := k.2 c_2
    refine R_ps 1 (pc2 := 77) (L2 := [some (vr (some w)), some (vi (J x1)), none, none]) (st2 := [vr (some w)]) rfl ?_
    refine R_zgetI (z := 0) rfl t0 rfl ?_
    refine R_zif0 (x := ai h w 0) rfl (ai_in _ _ _) (fun c_4 => ?_) (fun c_4 => ?_)
    · have k := k.2 c_4
      refine R_ps 1 (pc2 := 88) (L2 := [some (vr (some w)), some (vi (J x1)), none, none]) (st2 := [vi (J (-1))]) rfl ?_
      exact R_iret rfl rfl (R_zr (x := (-1)) (K := K) (by decide) k)
    · have k := k.1 (Classical.not_not.mp c_4)
      refine R_ps 2 (pc2 := 88) (L2 := [some (vr (some w)), some (vi (J x1)), none, none]) (st2 := [vi (J 0)]) rfl ?_
      exact R_iret rfl rfl (R_zr (x := 0) (K := K) (by decide) k)
  · have k := k.1 (Classical.not_not.mp c_2)
    refine R_ps 2 (pc2 := 12) (L2 := [some (vr (some w)), some (vi (J x1)), none, none]) (st2 := [vi (J x1), vr (some w)]) rfl ?_
    refine R_cS (as := [vr (some w), vi (J x1)]) rfl rfl ⟨Nat.le_of_ble_eq_true rfl, Nat.le_of_ble_eq_true rfl, rfl, (Or.inr ⟨_, rfl, t0⟩)⟩ rfl rfl k (fun x_9 h_8 k => ?_)
    refine R_ps 2 (pc2 := 17) (L2 := [some (vr (some w)), some (vi (J x1)), some (vs x_9), none]) (st2 := [vs x_9]) rfl ?_
    obtain ⟨t_11, k⟩ := k
    refine R_jdkz (st2 := [vi (if (txt x_9).length = 0 then (1 : Int32) else 0)]) (st3 := [vi (J (if txl x_9 = 0 then (1 : Int) else 0))]) rfl rfl rfl rfl rfl rfl (pif_pos t_11) rfl (congrArg (fun q => vi q :: []) (zemp _)) ?_
    obtain ⟨t_13, k⟩ := k
    refine R_zif0 (x := (if txl x_9 = 0 then (1 : Int) else 0)) rfl t_13 (fun c_12 => ?_) (fun c_12 => ?_)
    · have k := k.1 c_12
      refine R_ps 2 (pc2 := 27) (L2 := [some (vr (some w)), some (vi (J x1)), some (vs x_9), some (vi (J 0))]) (st2 := []) rfl ?_
      exact k
    · have k := k.2 c_12
      refine R_ps 1 (pc2 := 24) (L2 := [some (vr (some w)), some (vi (J x1)), some (vs x_9), none]) (st2 := [vi (J x1)]) rfl ?_
      exact R_iret rfl rfl (R_zr (x := x1) (K := K) r1 k)
theorem z52_27 {T N : Nat → Nat} {h : PH} {w : Nat} {x1 : Int} {s2 : Nat} {x3 : Int} {K : Int → PH → Prop} (t0 : T w = 6) (r1 : In x1) (r3 : In x3) (k : (s2 < 5 ∧ In (txl s2) ∧ ((x3 < (txl s2) → (In (x1 + 1) ∧ (((x1 + 1) < (ai h w 0) → ((s2 < 5 ∧ 0 ≤ x3 ∧ x3 < txl s2 ∧ x3 < 2147483648) ∧ ZI T N 49 [vr (some w), vi (J (x1 + 1))] h (fun x_13 h_12 => (ZI T N 53 [vi (J (txc s2 x3)), vi (J x_13)] h_12 (fun x_17 h_16 => (((x_17 = 0 → (K (x1 + 1) h_16)) ∧ (¬ (x_17 = 0) → (ZW T N 52 27 [some (vr (some w)), some (vi (J (x1 + 1))), some (vs s2), some (vi (J (x3 + 1)))] [] h_16 K))))))))) ∧ (¬ ((x1 + 1) < (ai h w 0)) → (K (x1 + 1) h))))) ∧ (¬ (x3 < (txl s2)) → (ZW T N 52 2 [some (vr (some w)), some (vi (J (x1 + 1))), none, none] [] h K))))) : ZW T N 52 27 [some (vr (some w)), some (vi (J x1)), some (vs s2), some (vi (J x3))] [] h K := by
  show WP T N 52 27 [some (vr (some w)), some (vi (J x1)), some (vs s2), some (vi (J x3))] [] h _
  refine R_ps 2 (pc2 := 29) (L2 := [some (vr (some w)), some (vi (J x1)), some (vs s2), some (vi (J x3))]) (st2 := [vs s2, vi (J x3)]) rfl ?_
  obtain ⟨t_2, k⟩ := k
  refine R_jdkz (st2 := [vi (Int32.ofNat (txt s2).length), vi (J x3)]) (st3 := [vi (J (txl s2)), vi (J x3)]) rfl rfl rfl rfl rfl rfl (pif_pos t_2) rfl (congrArg (fun q => vi q :: [vi (J x3)]) (Int32.ofInt_eq_ofNat.symm)) ?_
  obtain ⟨t_4, k⟩ := k
  refine R_zif (x := x3) (z := txl s2) rfl r3 t_4 (fun c_3 => ?_) (fun c_3 => ?_)
  · have k := k.2 c_3
    refine R_ps 2 (pc2 := 2) (L2 := [some (vr (some w)), some (vi ((J x1) + J 1)), some (vs s2), some (vi (J x3))]) (st2 := []) rfl ?_
    rw [show ((J x1) + J 1) = J (x1 + 1) from J_add' rfl rfl]
    exact R_drop k (LE_of (L := [some (vr (some w)), some (vi (J (x1 + 1))), none, none]) (L2 := [some (vr (some w)), some (vi (J (x1 + 1))), some (vs s2), some (vi (J x3))]) ⟨rfl, rfl, trivial⟩)
  · have k := k.1 (Classical.not_not.mp c_3)
    refine R_ps 3 (pc2 := 40) (L2 := [some (vr (some w)), some (vi ((J x1) + J 1)), some (vs s2), some (vi (J x3))]) (st2 := [vr (some w), vi ((J x1) + J 1)]) rfl ?_
    rw [show ((J x1) + J 1) = J (x1 + 1) from J_add' rfl rfl]
    refine R_zgetI (z := 0) rfl t0 rfl ?_
    obtain ⟨t_7, k⟩ := k
    refine R_zif (x := x1 + 1) (z := ai h w 0) rfl t_7 (ai_in _ _ _) (fun c_6 => ?_) (fun c_6 => ?_)
    · have k := k.2 c_6
      refine R_ps 1 (pc2 := 63) (L2 := [some (vr (some w)), some (vi (J (x1 + 1))), some (vs s2), some (vi (J x3))]) (st2 := [vi (J (x1 + 1))]) rfl ?_
      exact R_iret rfl rfl (R_zr (x := x1 + 1) (K := K) t_7 k)
    · have k := k.1 (Classical.not_not.mp c_6)
      refine R_ps 2 (pc2 := 48) (L2 := [some (vr (some w)), some (vi (J (x1 + 1))), some (vs s2), some (vi (J x3))]) (st2 := [vi (J x3), vs s2]) rfl ?_
      obtain ⟨t_10, k⟩ := k
      refine R_jdkz (st2 := [vi ((txt s2).getD (Int32.toNatClampNeg (J x3)) 0)]) (st3 := [vi (J (txc s2 x3))]) rfl rfl rfl rfl rfl rfl (pif_pos (zti t_10)) rfl (congrArg (fun q => vi q :: []) (ztc t_10)) ?_
      refine R_ps 2 (pc2 := 53) (L2 := [some (vr (some w)), some (vi (J (x1 + 1))), some (vs s2), some (vi (J x3))]) (st2 := [vi (J (x1 + 1)), vr (some w), vi (J (txc s2 x3))]) rfl ?_
      refine R_zcI (as := [vr (some w), vi (J (x1 + 1))]) rfl rfl ⟨Nat.le_of_ble_eq_true rfl, Nat.le_of_ble_eq_true rfl, rfl, (Or.inr ⟨_, rfl, t0⟩)⟩ rfl rfl k (fun x_13 h_12 r_14 k => ?_)
      refine R_zcI (as := [vi (J (txc s2 x3)), vi (J x_13)]) rfl rfl ⟨Nat.le_of_ble_eq_true rfl, Nat.le_of_ble_eq_true rfl, rfl, (Or.inl rfl)⟩ rfl rfl k (fun x_17 h_16 r_18 k => ?_)
      refine R_zif0 (x := x_17) rfl r_18 (fun c_19 => ?_) (fun c_19 => ?_)
      · have k := k.2 c_19
        refine R_ps 2 (pc2 := 27) (L2 := [some (vr (some w)), some (vi (J (x1 + 1))), some (vs s2), some (vi ((J x3) + J 1))]) (st2 := []) rfl ?_
        rw [show ((J x3) + J 1) = J (x3 + 1) from J_add' rfl rfl]
        exact k
      · have k := k.1 (Classical.not_not.mp c_19)
        refine R_ps 1 (pc2 := 63) (L2 := [some (vr (some w)), some (vi (J (x1 + 1))), some (vs s2), some (vi (J x3))]) (st2 := [vi (J (x1 + 1))]) rfl ?_
        exact R_iret rfl rfl (R_zr (x := x1 + 1) (K := K) t_7 k)
/-- DroneCorridors$Input.isLike -/
theorem z53 {T N : Nat → Nat} {h : PH} {x0 : Int} {x1 : Int} {K : Int → PH → Prop} (r0 : In x0) (r1 : In x1) (k : (((x0 = 35 → (((x1 < 48 → (K 0 h)) ∧ (¬ (x1 < 48) → (((57 < x1 → (K 0 h)) ∧ (¬ (57 < x1) → (K 1 h)))))))) ∧ (¬ (x0 = 35) → ((x0 = 43 → (((x1 < 49 → (K 0 h)) ∧ (¬ (x1 < 49) → (((57 < x1 → (K 0 h)) ∧ (¬ (57 < x1) → (K 1 h)))))))) ∧ (¬ (x0 = 43) → (((x1 = x0 → (K 1 h)) ∧ (¬ (x1 = x0) → (K 0 h)))))))))) : ZI T N 53 [vi (J x0), vi (J x1)] h K := by
  show WP T N 53 0 [some (vi (J x0)), some (vi (J x1))] [] h _
  refine R_ps 1 (pc2 := 1) (L2 := [some (vi (J x0)), some (vi (J x1))]) (st2 := [vi (J x0)]) rfl ?_
  refine R_zlsw (x := x0) rfl rfl r0 ?_
  refine ⟨fun c_1 => ?_, fun c_1 => ?_⟩
  · have k := k.1 c_1
    show WP T N _ 28 _ _ _ _
    refine R_ps 2 (pc2 := 31) (L2 := [some (vi (J x0)), some (vi (J x1))]) (st2 := [vi (J 48), vi (J x1)]) rfl ?_
    refine R_zif (x := x1) (z := 48) rfl r1 (by decide) (fun c_2 => ?_) (fun c_2 => ?_)
    · have k := k.1 c_2
      refine R_ps 1 (pc2 := 45) (L2 := [some (vi (J x0)), some (vi (J x1))]) (st2 := [vi (J 0)]) rfl ?_
      exact R_zzret (x := 0) rfl rfl (Or.inl rfl) (R_zr (x := 0) (K := K) (by decide) k)
    · have k := k.2 c_2
      refine R_ps 2 (pc2 := 37) (L2 := [some (vi (J x0)), some (vi (J x1))]) (st2 := [vi (J 57), vi (J x1)]) rfl ?_
      refine R_zif (x := x1) (z := 57) rfl r1 (by decide) (fun c_4 => ?_) (fun c_4 => ?_)
      · have k := k.1 c_4
        refine R_ps 1 (pc2 := 45) (L2 := [some (vi (J x0)), some (vi (J x1))]) (st2 := [vi (J 0)]) rfl ?_
        exact R_zzret (x := 0) rfl rfl (Or.inl rfl) (R_zr (x := 0) (K := K) (by decide) k)
      · have k := k.2 c_4
        refine R_ps 2 (pc2 := 45) (L2 := [some (vi (J x0)), some (vi (J x1))]) (st2 := [vi (J 1)]) rfl ?_
        exact R_zzret (x := 1) rfl rfl (Or.inr rfl) (R_zr (x := 1) (K := K) (by decide) k)
  replace k := k.2 c_1
  refine ⟨fun c_1 => ?_, fun c_1 => ?_⟩
  · have k := k.1 c_1
    show WP T N _ 46 _ _ _ _
    refine R_ps 2 (pc2 := 49) (L2 := [some (vi (J x0)), some (vi (J x1))]) (st2 := [vi (J 49), vi (J x1)]) rfl ?_
    refine R_zif (x := x1) (z := 49) rfl r1 (by decide) (fun c_7 => ?_) (fun c_7 => ?_)
    · have k := k.1 c_7
      refine R_ps 1 (pc2 := 63) (L2 := [some (vi (J x0)), some (vi (J x1))]) (st2 := [vi (J 0)]) rfl ?_
      exact R_zzret (x := 0) rfl rfl (Or.inl rfl) (R_zr (x := 0) (K := K) (by decide) k)
    · have k := k.2 c_7
      refine R_ps 2 (pc2 := 55) (L2 := [some (vi (J x0)), some (vi (J x1))]) (st2 := [vi (J 57), vi (J x1)]) rfl ?_
      refine R_zif (x := x1) (z := 57) rfl r1 (by decide) (fun c_9 => ?_) (fun c_9 => ?_)
      · have k := k.1 c_9
        refine R_ps 1 (pc2 := 63) (L2 := [some (vi (J x0)), some (vi (J x1))]) (st2 := [vi (J 0)]) rfl ?_
        exact R_zzret (x := 0) rfl rfl (Or.inl rfl) (R_zr (x := 0) (K := K) (by decide) k)
      · have k := k.2 c_9
        refine R_ps 2 (pc2 := 63) (L2 := [some (vi (J x0)), some (vi (J x1))]) (st2 := [vi (J 1)]) rfl ?_
        exact R_zzret (x := 1) rfl rfl (Or.inr rfl) (R_zr (x := 1) (K := K) (by decide) k)
  replace k := k.2 c_1
  show WP T N _ 64 _ _ _ _
  refine R_ps 2 (pc2 := 66) (L2 := [some (vi (J x0)), some (vi (J x1))]) (st2 := [vi (J x0), vi (J x1)]) rfl ?_
  refine R_zif (x := x1) (z := x0) rfl r1 r0 (fun c_12 => ?_) (fun c_12 => ?_)
  · have k := k.2 c_12
    refine R_ps 1 (pc2 := 74) (L2 := [some (vi (J x0)), some (vi (J x1))]) (st2 := [vi (J 0)]) rfl ?_
    exact R_zzret (x := 0) rfl rfl (Or.inl rfl) (R_zr (x := 0) (K := K) (by decide) k)
  · have k := k.1 (Classical.not_not.mp c_12)
    refine R_ps 2 (pc2 := 74) (L2 := [some (vi (J x0)), some (vi (J x1))]) (st2 := [vi (J 1)]) rfl ?_
    exact R_zzret (x := 1) rfl rfl (Or.inr rfl) (R_zr (x := 1) (K := K) (by decide) k)
/-- DroneCorridors$Leg.<init> -/
theorem z54 {T N : Nat → Nat} {h : PH} {w : Nat} {K : PH → Prop} (k : (K h)) : CV T N 54 [vr (some w)] h K := by
  show WP T N 54 0 [some (vr (some w))] [] h _
  refine R_ps 1 (pc2 := 1) (L2 := [some (vr (some w))]) (st2 := [vr (some w)]) rfl ?_
  refine R_jdk (st2 := []) rfl rfl rfl rfl rfl rfl rfl rfl ?_
  exact R_ret rfl rfl ⟨rfl, k⟩
/-- DroneCorridors$Leg.isWhereIs -/
theorem z55 {T N : Nat → Nat} {h : PH} {w : Nat} {a1 : Nat} {K : Int → PH → Prop} (t0 : T w = 7) (t1 : T a1 = 7) (k : ((((ai h w 0) = (ai h a1 0) → ((((ai h w 2) = (ai h a1 2) → (K 1 h)) ∧ (¬ ((ai h w 2) = (ai h a1 2)) → (K 0 h))))) ∧ (¬ ((ai h w 0) = (ai h a1 0)) → (K 0 h))))) : ZI T N 55 [vr (some w), vr (some a1)] h K := by
  show WP T N 55 0 [some (vr (some w)), some (vr (some a1))] [] h _
  refine R_ps 1 (pc2 := 1) (L2 := [some (vr (some w)), some (vr (some a1))]) (st2 := [vr (some w)]) rfl ?_
  refine R_zgetI (z := 0) rfl t0 rfl ?_
  refine R_ps 1 (pc2 := 5) (L2 := [some (vr (some w)), some (vr (some a1))]) (st2 := [vr (some a1), vi (J (ai h w 0))]) rfl ?_
  refine R_zgetI (z := 0) rfl t1 rfl ?_
  refine R_zif (x := ai h w 0) (z := ai h a1 0) rfl (ai_in _ _ _) (ai_in _ _ _) (fun c_3 => ?_) (fun c_3 => ?_)
  · have k := k.2 c_3
    refine R_ps 1 (pc2 := 27) (L2 := [some (vr (some w)), some (vr (some a1))]) (st2 := [vi (J 0)]) rfl ?_
    exact R_zzret (x := 0) rfl rfl (Or.inl rfl) (R_zr (x := 0) (K := K) (by decide) k)
  · have k := k.1 (Classical.not_not.mp c_3)
    refine R_ps 1 (pc2 := 12) (L2 := [some (vr (some w)), some (vr (some a1))]) (st2 := [vr (some w)]) rfl ?_
    refine R_zgetI (z := 2) rfl t0 rfl ?_
    refine R_ps 1 (pc2 := 16) (L2 := [some (vr (some w)), some (vr (some a1))]) (st2 := [vr (some a1), vi (J (ai h w 2))]) rfl ?_
    refine R_zgetI (z := 2) rfl t1 rfl ?_
    refine R_zif (x := ai h w 2) (z := ai h a1 2) rfl (ai_in _ _ _) (ai_in _ _ _) (fun c_7 => ?_) (fun c_7 => ?_)
    · have k := k.2 c_7
      refine R_ps 1 (pc2 := 27) (L2 := [some (vr (some w)), some (vr (some a1))]) (st2 := [vi (J 0)]) rfl ?_
      exact R_zzret (x := 0) rfl rfl (Or.inl rfl) (R_zr (x := 0) (K := K) (by decide) k)
    · have k := k.1 (Classical.not_not.mp c_7)
      refine R_ps 2 (pc2 := 27) (L2 := [some (vr (some w)), some (vr (some a1))]) (st2 := [vi (J 1)]) rfl ?_
      exact R_zzret (x := 1) rfl rfl (Or.inr rfl) (R_zr (x := 1) (K := K) (by decide) k)
/-- DroneCorridors$Leg.isSeparatedFrom -/
theorem z56 {T N : Nat → Nat} {h : PH} {w : Nat} {a1 : Nat} {K : Int → PH → Prop} (t0 : T w = 7) (t1 : T a1 = 7) (k : ((((ai h w 1) = (ai h a1 1) → (In ((ai h w 3) - (ai h a1 3)) ∧ In (if 0 ≤ ((ai h w 3) - (ai h a1 3)) then ((ai h w 3) - (ai h a1 3)) else 0 - ((ai h w 3) - (ai h a1 3))) ∧ (((if 0 ≤ ((ai h w 3) - (ai h a1 3)) then ((ai h w 3) - (ai h a1 3)) else 0 - ((ai h w 3) - (ai h a1 3))) < 2 → (K 0 h)) ∧ (¬ ((if 0 ≤ ((ai h w 3) - (ai h a1 3)) then ((ai h w 3) - (ai h a1 3)) else 0 - ((ai h w 3) - (ai h a1 3))) < 2) → (K 1 h))))) ∧ (¬ ((ai h w 1) = (ai h a1 1)) → ((((ai h a1 3) < (ai h w 4) → ((((ai h w 3) < (ai h a1 4) → (K 0 h)) ∧ (¬ ((ai h w 3) < (ai h a1 4)) → (K 1 h))))) ∧ (¬ ((ai h a1 3) < (ai h w 4)) → (K 1 h)))))))) : ZI T N 56 [vr (some w), vr (some a1)] h K := by
  show WP T N 56 0 [some (vr (some w)), some (vr (some a1))] [] h _
  refine R_ps 1 (pc2 := 1) (L2 := [some (vr (some w)), some (vr (some a1))]) (st2 := [vr (some w)]) rfl ?_
  refine R_zgetI (z := 1) rfl t0 rfl ?_
  refine R_ps 1 (pc2 := 5) (L2 := [some (vr (some w)), some (vr (some a1))]) (st2 := [vr (some a1), vi (J (ai h w 1))]) rfl ?_
  refine R_zgetI (z := 1) rfl t1 rfl ?_
  refine R_zif (x := ai h w 1) (z := ai h a1 1) rfl (ai_in _ _ _) (ai_in _ _ _) (fun c_3 => ?_) (fun c_3 => ?_)
  · have k := k.2 c_3
    refine R_ps 1 (pc2 := 34) (L2 := [some (vr (some w)), some (vr (some a1))]) (st2 := [vr (some w)]) rfl ?_
    refine R_zgetI (z := 4) rfl t0 rfl ?_
    refine R_ps 1 (pc2 := 38) (L2 := [some (vr (some w)), some (vr (some a1))]) (st2 := [vr (some a1), vi (J (ai h w 4))]) rfl ?_
    refine R_zgetI (z := 3) rfl t1 rfl ?_
    refine R_zif (x := ai h w 4) (z := ai h a1 3) rfl (ai_in _ _ _) (ai_in _ _ _) (fun c_6 => ?_) (fun c_6 => ?_)
    · have k := k.2 c_6
      refine R_ps 2 (pc2 := 60) (L2 := [some (vr (some w)), some (vr (some a1))]) (st2 := [vi (J 1)]) rfl ?_
      exact R_zzret (x := 1) rfl rfl (Or.inr rfl) (R_zr (x := 1) (K := K) (by decide) k)
    · have k := k.1 (Classical.not_not.mp c_6)
      refine R_ps 1 (pc2 := 45) (L2 := [some (vr (some w)), some (vr (some a1))]) (st2 := [vr (some a1)]) rfl ?_
      refine R_zgetI (z := 4) rfl t1 rfl ?_
      refine R_ps 1 (pc2 := 49) (L2 := [some (vr (some w)), some (vr (some a1))]) (st2 := [vr (some w), vi (J (ai h a1 4))]) rfl ?_
      refine R_zgetI (z := 3) rfl t0 rfl ?_
      refine R_zif (x := ai h a1 4) (z := ai h w 3) rfl (ai_in _ _ _) (ai_in _ _ _) (fun c_10 => ?_) (fun c_10 => ?_)
      · have k := k.1 c_10
        refine R_ps 1 (pc2 := 60) (L2 := [some (vr (some w)), some (vr (some a1))]) (st2 := [vi (J 0)]) rfl ?_
        exact R_zzret (x := 0) rfl rfl (Or.inl rfl) (R_zr (x := 0) (K := K) (by decide) k)
      · have k := k.2 c_10
        refine R_ps 2 (pc2 := 60) (L2 := [some (vr (some w)), some (vr (some a1))]) (st2 := [vi (J 1)]) rfl ?_
        exact R_zzret (x := 1) rfl rfl (Or.inr rfl) (R_zr (x := 1) (K := K) (by decide) k)
  · have k := k.1 (Classical.not_not.mp c_3)
    refine R_ps 1 (pc2 := 12) (L2 := [some (vr (some w)), some (vr (some a1))]) (st2 := [vr (some w)]) rfl ?_
    refine R_zgetI (z := 3) rfl t0 rfl ?_
    refine R_ps 1 (pc2 := 16) (L2 := [some (vr (some w)), some (vr (some a1))]) (st2 := [vr (some a1), vi (J (ai h w 3))]) rfl ?_
    refine R_zgetI (z := 3) rfl t1 rfl ?_
    refine R_ps 1 (pc2 := 20) (L2 := [some (vr (some w)), some (vr (some a1))]) (st2 := [vi ((J (ai h w 3)) - (J (ai h a1 3)))]) rfl ?_
    rw [show ((J (ai h w 3)) - (J (ai h a1 3))) = J ((ai h w 3) - (ai h a1 3)) from J_sub' rfl rfl]
    obtain ⟨t_16, k⟩ := k
    refine R_jdkz (st2 := [vi (if 0 ≤ (J ((ai h w 3) - (ai h a1 3))) then (J ((ai h w 3) - (ai h a1 3))) else 0 - (J ((ai h w 3) - (ai h a1 3))))]) (st3 := [vi (J (if 0 ≤ ((ai h w 3) - (ai h a1 3)) then ((ai h w 3) - (ai h a1 3)) else 0 - ((ai h w 3) - (ai h a1 3))))]) rfl rfl rfl rfl rfl rfl rfl rfl (congrArg (fun q => vi q :: []) (J_abs' t_16)) ?_
    refine R_ps 1 (pc2 := 24) (L2 := [some (vr (some w)), some (vr (some a1))]) (st2 := [vi (J 2), vi (J (if 0 ≤ ((ai h w 3) - (ai h a1 3)) then ((ai h w 3) - (ai h a1 3)) else 0 - ((ai h w 3) - (ai h a1 3))))]) rfl ?_
    obtain ⟨t_18, k⟩ := k
    refine R_zif (x := (if 0 ≤ ((ai h w 3) - (ai h a1 3)) then ((ai h w 3) - (ai h a1 3)) else 0 - ((ai h w 3) - (ai h a1 3)))) (z := 2) rfl t_18 (by decide) (fun c_17 => ?_) (fun c_17 => ?_)
    · have k := k.1 c_17
      refine R_ps 1 (pc2 := 32) (L2 := [some (vr (some w)), some (vr (some a1))]) (st2 := [vi (J 0)]) rfl ?_
      exact R_zzret (x := 0) rfl rfl (Or.inl rfl) (R_zr (x := 0) (K := K) (by decide) k)
    · have k := k.2 c_17
      refine R_ps 2 (pc2 := 32) (L2 := [some (vr (some w)), some (vr (some a1))]) (st2 := [vi (J 1)]) rfl ?_
      exact R_zzret (x := 1) rfl rfl (Or.inr rfl) (R_zr (x := 1) (K := K) (by decide) k)
/-- DroneCorridors$Leg.copy -/
theorem z57 {T N : Nat → Nat} {h : PH} {w : Nat} {a1 : Nat} {K : PH → Prop} (t0 : T a1 = 7) (t1 : T w = 7) (k : (∀ h_3, h_3 = wi h w 0 (ai h a1 0) → ∀ h_7, h_7 = wi h_3 w 1 (ai h_3 a1 1) → ∀ h_11, h_11 = wi h_7 w 2 (ai h_7 a1 2) → ∀ h_15, h_15 = wi h_11 w 3 (ai h_11 a1 3) → ∀ h_19, h_19 = wi h_15 w 4 (ai h_15 a1 4) → K h_19)) : CV T N 57 [vr (some w), vr (some a1)] h K := by
  show WP T N 57 0 [some (vr (some w)), some (vr (some a1))] [] h _
  refine R_ps 2 (pc2 := 2) (L2 := [some (vr (some w)), some (vr (some a1))]) (st2 := [vr (some a1), vr (some w)]) rfl ?_
  refine R_zgetI (z := 0) rfl t0 rfl ?_
  refine R_zputI (x := ai h a1 0) (z := 0) rfl t1 rfl ?_
  show WP T N _ _ _ _ (wi h w 0 (ai h a1 0)) _
  generalize e_4 : wi h w 0 (ai h a1 0) = h_3
  replace k := k h_3 e_4.symm
  refine R_ps 2 (pc2 := 10) (L2 := [some (vr (some w)), some (vr (some a1))]) (st2 := [vr (some a1), vr (some w)]) rfl ?_
  refine R_zgetI (z := 1) rfl t0 rfl ?_
  refine R_zputI (x := ai h_3 a1 1) (z := 1) rfl t1 rfl ?_
  show WP T N _ _ _ _ (wi h_3 w 1 (ai h_3 a1 1)) _
  generalize e_8 : wi h_3 w 1 (ai h_3 a1 1) = h_7
  replace k := k h_7 e_8.symm
  refine R_ps 2 (pc2 := 18) (L2 := [some (vr (some w)), some (vr (some a1))]) (st2 := [vr (some a1), vr (some w)]) rfl ?_
  refine R_zgetI (z := 2) rfl t0 rfl ?_
  refine R_zputI (x := ai h_7 a1 2) (z := 2) rfl t1 rfl ?_
  show WP T N _ _ _ _ (wi h_7 w 2 (ai h_7 a1 2)) _
  generalize e_12 : wi h_7 w 2 (ai h_7 a1 2) = h_11
  replace k := k h_11 e_12.symm
  refine R_ps 2 (pc2 := 26) (L2 := [some (vr (some w)), some (vr (some a1))]) (st2 := [vr (some a1), vr (some w)]) rfl ?_
  refine R_zgetI (z := 3) rfl t0 rfl ?_
  refine R_zputI (x := ai h_11 a1 3) (z := 3) rfl t1 rfl ?_
  show WP T N _ _ _ _ (wi h_11 w 3 (ai h_11 a1 3)) _
  generalize e_16 : wi h_11 w 3 (ai h_11 a1 3) = h_15
  replace k := k h_15 e_16.symm
  refine R_ps 2 (pc2 := 34) (L2 := [some (vr (some w)), some (vr (some a1))]) (st2 := [vr (some a1), vr (some w)]) rfl ?_
  refine R_zgetI (z := 4) rfl t0 rfl ?_
  refine R_zputI (x := ai h_15 a1 4) (z := 4) rfl t1 rfl ?_
  show WP T N _ _ _ _ (wi h_15 w 4 (ai h_15 a1 4)) _
  generalize e_20 : wi h_15 w 4 (ai h_15 a1 4) = h_19
  replace k := k h_19 e_20.symm
  exact R_ret rfl rfl ⟨rfl, k⟩
