/-! WHAT IS TO BE SHOWN OF EACH METHOD, by program (gen_blk.py): 0 to 58 -/
/-- DroneCorridors$Closures.<init> -/
theorem m0 {T N : Nat → Nat} {h : PH} {w : Nat} {K : PH → Prop} (t0 : T w = 1) (k : ((T (nx h) = 24 ∧ 0 ≤ Int32.toInt 96 ∧ Int32.toInt 96 = N (nx h) ∧ N (nx h) ≤ 65536) ∧ ∀ a_3 h_4, a_3 = nx h → h_4 = grow h (N (nx h)) → ∀ h_9, h_9 = sr h_4 w 0 (some a_3) → K h_9)) : CV T N 0 [vr (some w)] h K := by
  show WP T N 0 0 [some (vr (some w))] [] h _
  refine R_ps 1 (pc2 := 1) (L2 := [some (vr (some w))]) (st2 := [vr (some w)]) rfl ?_
  refine R_jdk (st2 := []) rfl rfl rfl rfl rfl rfl rfl rfl ?_
  refine R_ps 2 (pc2 := 7) (L2 := [some (vr (some w))]) (st2 := [vi 96, vr (some w)]) rfl ?_
  obtain ⟨t_7, k⟩ := k
  refine R_newa rfl t_7 ?_
  generalize e_6 : grow h (N (nx h)) = h_4
  generalize e_5 : nx h = a_3
  replace k := k a_3 h_4 e_5.symm e_6.symm
  refine R_putR rfl t0 ?_
  show WP T N _ _ _ _ (sr h_4 w 0 (some a_3)) _
  generalize e_10 : sr h_4 w 0 (some a_3) = h_9
  replace k := k h_9 e_10.symm
  exact R_ret rfl rfl ⟨rfl, k⟩
/-- DroneCorridors$Closures.isClosed -/
theorem m1 {T N : Nat → Nat} {h : PH} {w : Nat} {x1 : Int32} {x2 : Int32} {K : Int32 → PH → Prop} (t0 : T w = 1) (k : (((x1 < 0 → (K 0 h)) ∧ (¬ (x1 < 0) → (∃ a_5, (gr h w 0) = some a_5 ∧ 21 ≤ T a_5 ∧ ((x1 < (Int32.ofNat (N a_5)) → (∃ a_12, (gr h w 0) = some a_12 ∧ T a_12 = 24 ∧ inb x1 (N a_12) ∧ (((lg_cmp (((gl h a_12 (Int32.toNatClampNeg x1)) >>> (x2.toInt64 &&& 63)) &&& 1) 0) = 0 → (K 0 h)) ∧ (¬ ((lg_cmp (((gl h a_12 (Int32.toNatClampNeg x1)) >>> (x2.toInt64 &&& 63)) &&& 1) 0) = 0) → (K 1 h))))) ∧ (¬ (x1 < (Int32.ofNat (N a_5))) → (K 0 h)))))))) : CI T N 1 [vr (some w), vi x1, vi x2] h K := by
  show WP T N 1 0 [some (vr (some w)), some (vi x1), some (vi x2)] [] h _
  refine R_ps 1 (pc2 := 1) (L2 := [some (vr (some w)), some (vi x1), some (vi x2)]) (st2 := [vi x1]) rfl ?_
  refine R_if0 rfl (fun c_1 => ?_) (fun c_1 => ?_)
  · have k := k.1 c_1
    refine R_ps 1 (pc2 := 33) (L2 := [some (vr (some w)), some (vi x1), some (vi x2)]) (st2 := [vi 0]) rfl ?_
    exact R_zret rfl rfl (Or.inl rfl) ⟨_, rfl, k⟩
  · have k := k.2 c_1
    refine R_ps 2 (pc2 := 6) (L2 := [some (vr (some w)), some (vi x1), some (vi x2)]) (st2 := [vr (some w), vi x1]) rfl ?_
    refine R_getR rfl t0 ?_
    obtain ⟨a_5, e_6, k⟩ := k
    rw [e_6]
    obtain ⟨t_7, k⟩ := k
    refine R_alen rfl t_7 ?_
    refine R_if rfl (fun c_8 => ?_) (fun c_8 => ?_)
    · have k := k.2 (i32_nlt c_8)
      refine R_ps 1 (pc2 := 33) (L2 := [some (vr (some w)), some (vi x1), some (vi x2)]) (st2 := [vi 0]) rfl ?_
      exact R_zret rfl rfl (Or.inl rfl) ⟨_, rfl, k⟩
    · have k := k.1 (i32_lt c_8)
      refine R_ps 1 (pc2 := 14) (L2 := [some (vr (some w)), some (vi x1), some (vi x2)]) (st2 := [vr (some w)]) rfl ?_
      refine R_getR rfl t0 ?_
      refine R_ps 1 (pc2 := 18) (L2 := [some (vr (some w)), some (vi x1), some (vi x2)]) (st2 := [vi x1, vr (gr h w 0)]) rfl ?_
      obtain ⟨a_12, e_13, k⟩ := k
      rw [e_13]
      obtain ⟨t_14, k⟩ := k
      obtain ⟨t_15, k⟩ := k
      refine R_lald rfl t_14 t_15 ?_
      refine R_ps 6 (pc2 := 25) (L2 := [some (vr (some w)), some (vi x1), some (vi x2)]) (st2 := [vi (lg_cmp (((gl h a_12 (Int32.toNatClampNeg x1)) >>> (x2.toInt64 &&& 63)) &&& 1) 0)]) rfl ?_
      refine R_if0 rfl (fun c_16 => ?_) (fun c_16 => ?_)
      · have k := k.1 c_16
        refine R_ps 1 (pc2 := 33) (L2 := [some (vr (some w)), some (vi x1), some (vi x2)]) (st2 := [vi 0]) rfl ?_
        exact R_zret rfl rfl (Or.inl rfl) ⟨_, rfl, k⟩
      · have k := k.2 c_16
        refine R_ps 2 (pc2 := 33) (L2 := [some (vr (some w)), some (vi x1), some (vi x2)]) (st2 := [vi 1]) rfl ?_
        exact R_zret rfl rfl (Or.inr rfl) ⟨_, rfl, k⟩
/-- DroneCorridors$Closures.openAll -/
theorem m2 {T N : Nat → Nat} {h : PH} {w : Nat} {K : PH → Prop} (t0 : T w = 1) (k : (CV T N 253 [vr (gr h w 0), vl 0] h (fun h_3 => (K h_3)))) : CV T N 2 [vr (some w)] h K := by
  show WP T N 2 0 [some (vr (some w))] [] h _
  refine R_ps 1 (pc2 := 1) (L2 := [some (vr (some w))]) (st2 := [vr (some w)]) rfl ?_
  refine R_getR rfl t0 ?_
  refine R_ps 1 (pc2 := 5) (L2 := [some (vr (some w))]) (st2 := [vl 0, vr (gr h w 0)]) rfl ?_
  refine R_cV (as := [vr (gr h w 0), vl 0]) rfl rfl ⟨Nat.le_of_ble_eq_true rfl, Nat.le_of_ble_eq_true rfl, rfl, (Or.inl rfl)⟩ rfl rfl k (fun h_3 k => ?_)
  exact R_ret rfl rfl ⟨rfl, k⟩
/-- DroneCorridors$Closures.closeFences -/
theorem m3 {T N : Nat → Nat} {h : PH} {w : Nat} {a1 : Nat} {K : PH → Prop} (k : (WV T N 3 2 [some (vr (some w)), some (vr (some a1)), some (vi 0), none, none, none, none, none] [] h K)) : CV T N 3 [vr (some w), vr (some a1)] h K := by
  show WP T N 3 0 [some (vr (some w)), some (vr (some a1)), none, none, none, none, none, none] [] h _
  refine R_ps 2 (pc2 := 2) (L2 := [some (vr (some w)), some (vr (some a1)), some (vi 0), none, none, none, none, none]) (st2 := []) rfl ?_
  exact k
theorem m3_2 {T N : Nat → Nat} {h : PH} {w : Nat} {a1 : Nat} {x2 : Int32} {K : PH → Prop} (t0 : T a1 = 10) (k : (((x2 < (gi h a1 4) → (CR T N 90 [vr (some a1), vi x2] h (fun x_6 h_5 => (((x_6 = none → (WV T N 3 2 [some (vr (some w)), some (vr (some a1)), some (vi (x2 + 1)), none, none, none, none, none] [] h_5 K)) ∧ (∀ a_8, x_6 = some a_8 → (T a_8 = 4 ∧ CR T N 89 [vr (some a1), vi (gi h_5 a_8 0)] h_5 (fun x_15 h_14 => (((x_15 = none → (WV T N 3 2 [some (vr (some w)), some (vr (some a1)), some (vi (x2 + 1)), none, none, none, none, none] [] h_14 K)) ∧ (∀ a_17, x_15 = some a_17 → (T a_17 = 2 ∧ CL T N 7 [vi ((((gi h_14 a_8 2) - (gi h_14 a_17 2)) + 1) - (gi h_14 a1 0)), vi (((gi h_14 a_8 3) - 1) - (gi h_14 a1 0))] h_14 (fun x_27 h_26 => (WV T N 3 78 [some (vr (some w)), some (vr (some a1)), some (vi x2), some (vr (some a_8)), none, some (vl x_27), none, some (vi 0)] [] h_26 K)))))))))))))) ∧ (¬ (x2 < (gi h a1 4)) → (K h))))) : WV T N 3 2 [some (vr (some w)), some (vr (some a1)), some (vi x2), none, none, none, none, none] [] h K := by
  show WP T N 3 2 [some (vr (some w)), some (vr (some a1)), some (vi x2), none, none, none, none, none] [] h _
  refine R_ps 2 (pc2 := 4) (L2 := [some (vr (some w)), some (vr (some a1)), some (vi x2), none, none, none, none, none]) (st2 := [vr (some a1), vi x2]) rfl ?_
  refine R_getI rfl t0 ?_
  refine R_if rfl (fun c_2 => ?_) (fun c_2 => ?_)
  · have k := k.2 (i32_nlt c_2)
    exact R_ret rfl rfl ⟨rfl, k⟩
  · have k := k.1 (i32_lt c_2)
    refine R_ps 2 (pc2 := 12) (L2 := [some (vr (some w)), some (vr (some a1)), some (vi x2), none, none, none, none, none]) (st2 := [vi x2, vr (some a1)]) rfl ?_
    refine R_cR (as := [vr (some a1), vi x2]) rfl rfl ⟨Nat.le_of_ble_eq_true rfl, Nat.le_of_ble_eq_true rfl, rfl, (Or.inr ⟨_, rfl, t0⟩)⟩ rfl rfl k (fun x_6 h_5 k => ?_)
    refine R_ps 2 (pc2 := 17) (L2 := [some (vr (some w)), some (vr (some a1)), some (vi x2), some (vr x_6), none, none, none, none]) (st2 := [vr x_6]) rfl ?_
    rcases null_or (x_6) with e_9 | ⟨a_8, e_9⟩
    · have k := k.1 e_9
      rw [e_9]
      refine R_nonnull rfl (fun _ => ?_) (fun _ c_7 => nomatch c_7)
      refine R_ps 4 (pc2 := 36) (L2 := [some (vr (some w)), some (vr (some a1)), some (vi x2), some (vr none), some (vr none), none, none, none]) (st2 := [vr none]) rfl ?_
      refine R_nonnull rfl (fun _ => ?_) (fun _ c_10 => nomatch c_10)
      refine R_ps 3 (pc2 := 2) (L2 := [some (vr (some w)), some (vr (some a1)), some (vi (x2 + 1)), some (vr none), some (vr none), none, none, none]) (st2 := []) rfl ?_
      exact R_drop k (LE_of (L := [some (vr (some w)), some (vr (some a1)), some (vi (x2 + 1)), none, none, none, none, none]) (L2 := [some (vr (some w)), some (vr (some a1)), some (vi (x2 + 1)), some (vr none), some (vr none), none, none, none]) ⟨rfl, rfl, rfl, trivial⟩)
    · have k := k.2 a_8 e_9
      rw [e_9]
      refine R_nonnull rfl (fun c_7 => nomatch c_7) (fun _ _ => ?_)
      refine R_ps 2 (pc2 := 26) (L2 := [some (vr (some w)), some (vr (some a1)), some (vi x2), some (vr (some a_8)), none, none, none, none]) (st2 := [vr (some a_8), vr (some a1)]) rfl ?_
      obtain ⟨t_12, k⟩ := k
      refine R_getI rfl t_12 ?_
      refine R_cR (as := [vr (some a1), vi (gi h_5 a_8 0)]) rfl rfl ⟨Nat.le_of_ble_eq_true rfl, Nat.le_of_ble_eq_true rfl, rfl, (Or.inr ⟨_, rfl, t0⟩)⟩ rfl rfl k (fun x_15 h_14 k => ?_)
      refine R_ps 2 (pc2 := 36) (L2 := [some (vr (some w)), some (vr (some a1)), some (vi x2), some (vr (some a_8)), some (vr x_15), none, none, none]) (st2 := [vr x_15]) rfl ?_
      rcases null_or (x_15) with e_18 | ⟨a_17, e_18⟩
      · have k := k.1 e_18
        rw [e_18]
        refine R_nonnull rfl (fun _ => ?_) (fun _ c_16 => nomatch c_16)
        refine R_ps 3 (pc2 := 2) (L2 := [some (vr (some w)), some (vr (some a1)), some (vi (x2 + 1)), some (vr (some a_8)), some (vr none), none, none, none]) (st2 := []) rfl ?_
        exact R_drop k (LE_of (L := [some (vr (some w)), some (vr (some a1)), some (vi (x2 + 1)), none, none, none, none, none]) (L2 := [some (vr (some w)), some (vr (some a1)), some (vi (x2 + 1)), some (vr (some a_8)), some (vr none), none, none, none]) ⟨rfl, rfl, rfl, trivial⟩)
      · have k := k.2 a_17 e_18
        rw [e_18]
        refine R_nonnull rfl (fun c_16 => nomatch c_16) (fun _ _ => ?_)
        refine R_ps 1 (pc2 := 43) (L2 := [some (vr (some w)), some (vr (some a1)), some (vi x2), some (vr (some a_8)), some (vr (some a_17)), none, none, none]) (st2 := [vr (some a_8)]) rfl ?_
        refine R_getI rfl t_12 ?_
        refine R_ps 1 (pc2 := 48) (L2 := [some (vr (some w)), some (vr (some a1)), some (vi x2), some (vr (some a_8)), some (vr (some a_17)), none, none, none]) (st2 := [vr (some a_17), vi (gi h_14 a_8 2)]) rfl ?_
        obtain ⟨t_21, k⟩ := k
        refine R_getI rfl t_21 ?_
        refine R_ps 4 (pc2 := 55) (L2 := [some (vr (some w)), some (vr (some a1)), some (vi x2), some (vr (some a_8)), some (vr (some a_17)), none, none, none]) (st2 := [vr (some a1), vi (((gi h_14 a_8 2) - (gi h_14 a_17 2)) + 1)]) rfl ?_
        refine R_getI rfl t0 ?_
        refine R_ps 2 (pc2 := 60) (L2 := [some (vr (some w)), some (vr (some a1)), some (vi x2), some (vr (some a_8)), some (vr (some a_17)), none, none, none]) (st2 := [vr (some a_8), vi ((((gi h_14 a_8 2) - (gi h_14 a_17 2)) + 1) - (gi h_14 a1 0))]) rfl ?_
        refine R_getI rfl t_12 ?_
        refine R_ps 3 (pc2 := 66) (L2 := [some (vr (some w)), some (vr (some a1)), some (vi x2), some (vr (some a_8)), some (vr (some a_17)), none, none, none]) (st2 := [vr (some a1), vi ((gi h_14 a_8 3) - 1), vi ((((gi h_14 a_8 2) - (gi h_14 a_17 2)) + 1) - (gi h_14 a1 0))]) rfl ?_
        refine R_getI rfl t0 ?_
        refine R_ps 1 (pc2 := 70) (L2 := [some (vr (some w)), some (vr (some a1)), some (vi x2), some (vr (some a_8)), some (vr (some a_17)), none, none, none]) (st2 := [vi (((gi h_14 a_8 3) - 1) - (gi h_14 a1 0)), vi ((((gi h_14 a_8 2) - (gi h_14 a_17 2)) + 1) - (gi h_14 a1 0))]) rfl ?_
        refine R_cL (as := [vi ((((gi h_14 a_8 2) - (gi h_14 a_17 2)) + 1) - (gi h_14 a1 0)), vi (((gi h_14 a_8 3) - 1) - (gi h_14 a1 0))]) rfl rfl ⟨Nat.le_of_ble_eq_true rfl, Nat.le_of_ble_eq_true rfl, rfl, (Or.inl rfl)⟩ rfl rfl k (fun x_27 h_26 k => ?_)
        refine R_ps 3 (pc2 := 78) (L2 := [some (vr (some w)), some (vr (some a1)), some (vi x2), some (vr (some a_8)), some (vr (some a_17)), some (vl x_27), none, some (vi 0)]) (st2 := []) rfl ?_
        exact R_drop k (LE_of (L := [some (vr (some w)), some (vr (some a1)), some (vi x2), some (vr (some a_8)), none, some (vl x_27), none, some (vi 0)]) (L2 := [some (vr (some w)), some (vr (some a1)), some (vi x2), some (vr (some a_8)), some (vr (some a_17)), some (vl x_27), none, some (vi 0)]) ⟨rfl, rfl, rfl, rfl, rfl, rfl, trivial⟩)
theorem m3_78 {T N : Nat → Nat} {h : PH} {w : Nat} {a1 : Nat} {x2 : Int32} {a3 : Nat} {y5 : Int64} {x7 : Int32} {K : PH → Prop} (t0 : T a3 = 4) (t1 : T w = 1) (k : (((x7 < 3 → (CI T N 145 [vi (gi h a3 1), vi x7] h (fun x_5 h_4 => (((x_5 = 0 → (WV T N 3 78 [some (vr (some w)), some (vr (some a1)), some (vi x2), some (vr (some a3)), none, some (vl y5), none, some (vi (x7 + 1))] [] h_4 K)) ∧ (¬ (x_5 = 0) → (CI T N 8 [vi (gi h_4 a3 0), vi 0, vi x7] h_4 (fun x_10 h_9 => (CV T N 6 [vr (some w), vi x_10, vl y5] h_9 (fun h_12 => (CI T N 8 [vi (gi h_12 a3 0), vi 1, vi x7] h_12 (fun x_17 h_16 => (CV T N 6 [vr (some w), vi x_17, vl y5] h_16 (fun h_19 => (WV T N 3 78 [some (vr (some w)), some (vr (some a1)), some (vi x2), some (vr (some a3)), none, some (vl y5), none, some (vi (x7 + 1))] [] h_19 K))))))))))))))) ∧ (¬ (x7 < 3) → (WV T N 3 2 [some (vr (some w)), some (vr (some a1)), some (vi (x2 + 1)), none, none, none, none, none] [] h K))))) : WV T N 3 78 [some (vr (some w)), some (vr (some a1)), some (vi x2), some (vr (some a3)), none, some (vl y5), none, some (vi x7)] [] h K := by
  show WP T N 3 78 [some (vr (some w)), some (vr (some a1)), some (vi x2), some (vr (some a3)), none, some (vl y5), none, some (vi x7)] [] h _
  refine R_ps 2 (pc2 := 81) (L2 := [some (vr (some w)), some (vr (some a1)), some (vi x2), some (vr (some a3)), none, some (vl y5), none, some (vi x7)]) (st2 := [vi 3, vi x7]) rfl ?_
  refine R_if rfl (fun c_1 => ?_) (fun c_1 => ?_)
  · have k := k.2 (i32_nlt c_1)
    refine R_ps 2 (pc2 := 2) (L2 := [some (vr (some w)), some (vr (some a1)), some (vi (x2 + 1)), some (vr (some a3)), none, some (vl y5), none, some (vi x7)]) (st2 := []) rfl ?_
    exact R_drop k (LE_of (L := [some (vr (some w)), some (vr (some a1)), some (vi (x2 + 1)), none, none, none, none, none]) (L2 := [some (vr (some w)), some (vr (some a1)), some (vi (x2 + 1)), some (vr (some a3)), none, some (vl y5), none, some (vi x7)]) ⟨rfl, rfl, rfl, trivial⟩)
  · have k := k.1 (i32_lt c_1)
    refine R_ps 1 (pc2 := 85) (L2 := [some (vr (some w)), some (vr (some a1)), some (vi x2), some (vr (some a3)), none, some (vl y5), none, some (vi x7)]) (st2 := [vr (some a3)]) rfl ?_
    refine R_getI rfl t0 ?_
    refine R_ps 1 (pc2 := 90) (L2 := [some (vr (some w)), some (vr (some a1)), some (vi x2), some (vr (some a3)), none, some (vl y5), none, some (vi x7)]) (st2 := [vi x7, vi (gi h a3 1)]) rfl ?_
    refine R_cI (as := [vi (gi h a3 1), vi x7]) rfl rfl ⟨Nat.le_of_ble_eq_true rfl, Nat.le_of_ble_eq_true rfl, rfl, (Or.inl rfl)⟩ rfl rfl k (fun x_5 h_4 k => ?_)
    refine R_if0 rfl (fun c_6 => ?_) (fun c_6 => ?_)
    · have k := k.1 c_6
      refine R_ps 2 (pc2 := 78) (L2 := [some (vr (some w)), some (vr (some a1)), some (vi x2), some (vr (some a3)), none, some (vl y5), none, some (vi (x7 + 1))]) (st2 := []) rfl ?_
      exact k
    · have k := k.2 c_6
      refine R_ps 2 (pc2 := 98) (L2 := [some (vr (some w)), some (vr (some a1)), some (vi x2), some (vr (some a3)), none, some (vl y5), none, some (vi x7)]) (st2 := [vr (some a3), vr (some w)]) rfl ?_
      refine R_getI rfl t0 ?_
      refine R_ps 2 (pc2 := 104) (L2 := [some (vr (some w)), some (vr (some a1)), some (vi x2), some (vr (some a3)), none, some (vl y5), none, some (vi x7)]) (st2 := [vi x7, vi 0, vi (gi h_4 a3 0), vr (some w)]) rfl ?_
      refine R_cI (as := [vi (gi h_4 a3 0), vi 0, vi x7]) rfl rfl ⟨Nat.le_of_ble_eq_true rfl, Nat.le_of_ble_eq_true rfl, rfl, (Or.inl rfl)⟩ rfl rfl k (fun x_10 h_9 k => ?_)
      refine R_ps 1 (pc2 := 109) (L2 := [some (vr (some w)), some (vr (some a1)), some (vi x2), some (vr (some a3)), none, some (vl y5), none, some (vi x7)]) (st2 := [vl y5, vi x_10, vr (some w)]) rfl ?_
      refine R_cV (as := [vr (some w), vi x_10, vl y5]) rfl rfl ⟨Nat.le_of_ble_eq_true rfl, Nat.le_of_ble_eq_true rfl, rfl, (Or.inr ⟨_, rfl, t1⟩)⟩ rfl rfl k (fun h_12 k => ?_)
      refine R_ps 2 (pc2 := 114) (L2 := [some (vr (some w)), some (vr (some a1)), some (vi x2), some (vr (some a3)), none, some (vl y5), none, some (vi x7)]) (st2 := [vr (some a3), vr (some w)]) rfl ?_
      refine R_getI rfl t0 ?_
      refine R_ps 2 (pc2 := 120) (L2 := [some (vr (some w)), some (vr (some a1)), some (vi x2), some (vr (some a3)), none, some (vl y5), none, some (vi x7)]) (st2 := [vi x7, vi 1, vi (gi h_12 a3 0), vr (some w)]) rfl ?_
      refine R_cI (as := [vi (gi h_12 a3 0), vi 1, vi x7]) rfl rfl ⟨Nat.le_of_ble_eq_true rfl, Nat.le_of_ble_eq_true rfl, rfl, (Or.inl rfl)⟩ rfl rfl k (fun x_17 h_16 k => ?_)
      refine R_ps 1 (pc2 := 125) (L2 := [some (vr (some w)), some (vr (some a1)), some (vi x2), some (vr (some a3)), none, some (vl y5), none, some (vi x7)]) (st2 := [vl y5, vi x_17, vr (some w)]) rfl ?_
      refine R_cV (as := [vr (some w), vi x_17, vl y5]) rfl rfl ⟨Nat.le_of_ble_eq_true rfl, Nat.le_of_ble_eq_true rfl, rfl, (Or.inr ⟨_, rfl, t1⟩)⟩ rfl rfl k (fun h_19 k => ?_)
      refine R_ps 2 (pc2 := 78) (L2 := [some (vr (some w)), some (vr (some a1)), some (vi x2), some (vr (some a3)), none, some (vl y5), none, some (vi (x7 + 1))]) (st2 := []) rfl ?_
      exact k
/-- DroneCorridors$Closures.closeOthers -/
theorem m4 {T N : Nat → Nat} {h : PH} {w : Nat} {a1 : Nat} {x2 : Int32} {K : PH → Prop} (k : (WV T N 4 2 [some (vr (some w)), some (vr (some a1)), some (vi x2), some (vi 0), none, none, none] [] h K)) : CV T N 4 [vr (some w), vr (some a1), vi x2] h K := by
  show WP T N 4 0 [some (vr (some w)), some (vr (some a1)), some (vi x2), none, none, none, none] [] h _
  refine R_ps 2 (pc2 := 2) (L2 := [some (vr (some w)), some (vr (some a1)), some (vi x2), some (vi 0), none, none, none]) (st2 := []) rfl ?_
  exact k
theorem m4_2 {T N : Nat → Nat} {h : PH} {w : Nat} {a1 : Nat} {x2 : Int32} {x3 : Int32} {K : PH → Prop} (t0 : T a1 = 10) (k : (((x3 < (gi h a1 5) → (CR T N 91 [vr (some a1), vi x3] h (fun x_6 h_5 => (((x_6 = none → (WV T N 4 2 [some (vr (some w)), some (vr (some a1)), some (vi x2), some (vi (x3 + 1)), none, none, none] [] h_5 K)) ∧ (∀ a_8, x_6 = some a_8 → (((x3 = x2 → (WV T N 4 2 [some (vr (some w)), some (vr (some a1)), some (vi x2), some (vi (x3 + 1)), none, none, none] [] h_5 K)) ∧ (¬ (x3 = x2) → (WV T N 4 33 [some (vr (some w)), some (vr (some a1)), some (vi x2), some (vi x3), some (vr (some a_8)), some (vi 0), none] [] h_5 K)))))))))) ∧ (¬ (x3 < (gi h a1 5)) → (K h))))) : WV T N 4 2 [some (vr (some w)), some (vr (some a1)), some (vi x2), some (vi x3), none, none, none] [] h K := by
  show WP T N 4 2 [some (vr (some w)), some (vr (some a1)), some (vi x2), some (vi x3), none, none, none] [] h _
  refine R_ps 2 (pc2 := 4) (L2 := [some (vr (some w)), some (vr (some a1)), some (vi x2), some (vi x3), none, none, none]) (st2 := [vr (some a1), vi x3]) rfl ?_
  refine R_getI rfl t0 ?_
  refine R_if rfl (fun c_2 => ?_) (fun c_2 => ?_)
  · have k := k.2 (i32_nlt c_2)
    exact R_ret rfl rfl ⟨rfl, k⟩
  · have k := k.1 (i32_lt c_2)
    refine R_ps 2 (pc2 := 12) (L2 := [some (vr (some w)), some (vr (some a1)), some (vi x2), some (vi x3), none, none, none]) (st2 := [vi x3, vr (some a1)]) rfl ?_
    refine R_cR (as := [vr (some a1), vi x3]) rfl rfl ⟨Nat.le_of_ble_eq_true rfl, Nat.le_of_ble_eq_true rfl, rfl, (Or.inr ⟨_, rfl, t0⟩)⟩ rfl rfl k (fun x_6 h_5 k => ?_)
    refine R_ps 2 (pc2 := 19) (L2 := [some (vr (some w)), some (vr (some a1)), some (vi x2), some (vi x3), some (vr x_6), none, none]) (st2 := [vr x_6]) rfl ?_
    rcases null_or (x_6) with e_9 | ⟨a_8, e_9⟩
    · have k := k.1 e_9
      rw [e_9]
      refine R_null rfl (fun _ => ?_) (fun _ c_7 => nomatch c_7)
      refine R_ps 2 (pc2 := 2) (L2 := [some (vr (some w)), some (vr (some a1)), some (vi x2), some (vi (x3 + 1)), some (vr none), none, none]) (st2 := []) rfl ?_
      exact R_drop k (LE_of (L := [some (vr (some w)), some (vr (some a1)), some (vi x2), some (vi (x3 + 1)), none, none, none]) (L2 := [some (vr (some w)), some (vr (some a1)), some (vi x2), some (vi (x3 + 1)), some (vr none), none, none]) ⟨rfl, rfl, rfl, rfl, trivial⟩)
    · have k := k.2 a_8 e_9
      rw [e_9]
      refine R_null rfl (fun c_7 => nomatch c_7) (fun _ _ => ?_)
      refine R_ps 2 (pc2 := 24) (L2 := [some (vr (some w)), some (vr (some a1)), some (vi x2), some (vi x3), some (vr (some a_8)), none, none]) (st2 := [vi x2, vi x3]) rfl ?_
      refine R_if rfl (fun c_10 => ?_) (fun c_10 => ?_)
      · have k := k.2 c_10
        refine R_ps 2 (pc2 := 33) (L2 := [some (vr (some w)), some (vr (some a1)), some (vi x2), some (vi x3), some (vr (some a_8)), some (vi 0), none]) (st2 := []) rfl ?_
        exact k
      · have k := k.1 (Classical.not_not.mp c_10)
        refine R_ps 3 (pc2 := 2) (L2 := [some (vr (some w)), some (vr (some a1)), some (vi x2), some (vi (x3 + 1)), some (vr (some a_8)), none, none]) (st2 := []) rfl ?_
        exact R_drop k (LE_of (L := [some (vr (some w)), some (vr (some a1)), some (vi x2), some (vi (x3 + 1)), none, none, none]) (L2 := [some (vr (some w)), some (vr (some a1)), some (vi x2), some (vi (x3 + 1)), some (vr (some a_8)), none, none]) ⟨rfl, rfl, rfl, rfl, trivial⟩)
theorem m4_33 {T N : Nat → Nat} {h : PH} {w : Nat} {a1 : Nat} {x2 : Int32} {x3 : Int32} {a4 : Nat} {x5 : Int32} {K : PH → Prop} (t0 : T a4 = 3) (t1 : T a1 = 10) (t2 : T w = 1) (k : (((x5 < (gi h a4 8) → (CR T N 17 [vr (some a4), vi x5] h (fun x_5 h_4 => (((x_5 = none → (WV T N 4 33 [some (vr (some w)), some (vr (some a1)), some (vi x2), some (vi x3), some (vr (some a4)), some (vi (x5 + 1)), none] [] h_4 K)) ∧ (∀ a_7, x_5 = some a_7 → (CV T N 5 [vr (some w), vr (some a_7), vi (gi h_4 a1 0)] h_4 (fun h_11 => (WV T N 4 33 [some (vr (some w)), some (vr (some a1)), some (vi x2), some (vi x3), some (vr (some a4)), some (vi (x5 + 1)), none] [] h_11 K))))))))) ∧ (¬ (x5 < (gi h a4 8)) → (WV T N 4 2 [some (vr (some w)), some (vr (some a1)), some (vi x2), some (vi (x3 + 1)), none, none, none] [] h K))))) : WV T N 4 33 [some (vr (some w)), some (vr (some a1)), some (vi x2), some (vi x3), some (vr (some a4)), some (vi x5), none] [] h K := by
  show WP T N 4 33 [some (vr (some w)), some (vr (some a1)), some (vi x2), some (vi x3), some (vr (some a4)), some (vi x5), none] [] h _
  refine R_ps 2 (pc2 := 37) (L2 := [some (vr (some w)), some (vr (some a1)), some (vi x2), some (vi x3), some (vr (some a4)), some (vi x5), none]) (st2 := [vr (some a4), vi x5]) rfl ?_
  refine R_getI rfl t0 ?_
  refine R_if rfl (fun c_2 => ?_) (fun c_2 => ?_)
  · have k := k.2 (i32_nlt c_2)
    refine R_ps 2 (pc2 := 2) (L2 := [some (vr (some w)), some (vr (some a1)), some (vi x2), some (vi (x3 + 1)), some (vr (some a4)), some (vi x5), none]) (st2 := []) rfl ?_
    exact R_drop k (LE_of (L := [some (vr (some w)), some (vr (some a1)), some (vi x2), some (vi (x3 + 1)), none, none, none]) (L2 := [some (vr (some w)), some (vr (some a1)), some (vi x2), some (vi (x3 + 1)), some (vr (some a4)), some (vi x5), none]) ⟨rfl, rfl, rfl, rfl, trivial⟩)
  · have k := k.1 (i32_lt c_2)
    refine R_ps 2 (pc2 := 47) (L2 := [some (vr (some w)), some (vr (some a1)), some (vi x2), some (vi x3), some (vr (some a4)), some (vi x5), none]) (st2 := [vi x5, vr (some a4)]) rfl ?_
    refine R_cR (as := [vr (some a4), vi x5]) rfl rfl ⟨Nat.le_of_ble_eq_true rfl, Nat.le_of_ble_eq_true rfl, rfl, (Or.inr ⟨_, rfl, t0⟩)⟩ rfl rfl k (fun x_5 h_4 k => ?_)
    refine R_ps 2 (pc2 := 54) (L2 := [some (vr (some w)), some (vr (some a1)), some (vi x2), some (vi x3), some (vr (some a4)), some (vi x5), some (vr x_5)]) (st2 := [vr x_5]) rfl ?_
    rcases null_or (x_5) with e_8 | ⟨a_7, e_8⟩
    · have k := k.1 e_8
      rw [e_8]
      refine R_null rfl (fun _ => ?_) (fun _ c_6 => nomatch c_6)
      refine R_ps 2 (pc2 := 33) (L2 := [some (vr (some w)), some (vr (some a1)), some (vi x2), some (vi x3), some (vr (some a4)), some (vi (x5 + 1)), some (vr none)]) (st2 := []) rfl ?_
      exact R_drop k (LE_of (L := [some (vr (some w)), some (vr (some a1)), some (vi x2), some (vi x3), some (vr (some a4)), some (vi (x5 + 1)), none]) (L2 := [some (vr (some w)), some (vr (some a1)), some (vi x2), some (vi x3), some (vr (some a4)), some (vi (x5 + 1)), some (vr none)]) ⟨rfl, rfl, rfl, rfl, rfl, rfl, trivial⟩)
    · have k := k.2 a_7 e_8
      rw [e_8]
      refine R_null rfl (fun c_6 => nomatch c_6) (fun _ _ => ?_)
      refine R_ps 3 (pc2 := 61) (L2 := [some (vr (some w)), some (vr (some a1)), some (vi x2), some (vi x3), some (vr (some a4)), some (vi x5), some (vr (some a_7))]) (st2 := [vr (some a1), vr (some a_7), vr (some w)]) rfl ?_
      refine R_getI rfl t1 ?_
      refine R_cV (as := [vr (some w), vr (some a_7), vi (gi h_4 a1 0)]) rfl rfl ⟨Nat.le_of_ble_eq_true rfl, Nat.le_of_ble_eq_true rfl, rfl, (Or.inr ⟨_, rfl, t2⟩)⟩ rfl rfl k (fun h_11 k => ?_)
      refine R_ps 2 (pc2 := 33) (L2 := [some (vr (some w)), some (vr (some a1)), some (vi x2), some (vi x3), some (vr (some a4)), some (vi (x5 + 1)), some (vr (some a_7))]) (st2 := []) rfl ?_
      exact R_drop k (LE_of (L := [some (vr (some w)), some (vr (some a1)), some (vi x2), some (vi x3), some (vr (some a4)), some (vi (x5 + 1)), none]) (L2 := [some (vr (some w)), some (vr (some a1)), some (vi x2), some (vi x3), some (vr (some a4)), some (vi (x5 + 1)), some (vr (some a_7))]) ⟨rfl, rfl, rfl, rfl, rfl, rfl, trivial⟩)
/-- DroneCorridors$Closures.closeAround -/
theorem m5 {T N : Nat → Nat} {h : PH} {w : Nat} {a1 : Nat} {x2 : Int32} {K : PH → Prop} (t0 : T a1 = 7) (t1 : T w = 1) (k : (CI T N 8 [vi (gi h a1 0), vi (gi h a1 1), vi (gi h a1 2)] h (fun x_9 h_8 => (CL T N 7 [vi (((gi h a1 3) - x2) - 1), vi (((gi h a1 3) - x2) + 1)] h_8 (fun x_12 h_11 => (CV T N 6 [vr (some w), vi x_9, vl x_12] h_11 (fun h_14 => ((((gi h_14 a1 1) = 0 → (CI T N 8 [vi (gi h_14 a1 0), vi 1, vi (gi h_14 a1 2)] h_14 (fun x_34 h_33 => (CL T N 7 [vi ((((gi h a1 3) - x2) - ((gi h a1 4) - (gi h a1 3))) + 1), vi ((((gi h a1 3) - x2) + ((gi h a1 4) - (gi h a1 3))) - 1)] h_33 (fun x_37 h_36 => (CV T N 6 [vr (some w), vi x_34, vl x_37] h_36 (fun h_39 => (K h_39)))))))) ∧ (¬ ((gi h_14 a1 1) = 0) → (CI T N 8 [vi (gi h_14 a1 0), vi 0, vi (gi h_14 a1 2)] h_14 (fun x_22 h_21 => (CL T N 7 [vi ((((gi h a1 3) - x2) - ((gi h a1 4) - (gi h a1 3))) + 1), vi ((((gi h a1 3) - x2) + ((gi h a1 4) - (gi h a1 3))) - 1)] h_21 (fun x_25 h_24 => (CV T N 6 [vr (some w), vi x_22, vl x_25] h_24 (fun h_27 => (K h_27))))))))))))))))) : CV T N 5 [vr (some w), vr (some a1), vi x2] h K := by
  show WP T N 5 0 [some (vr (some w)), some (vr (some a1)), some (vi x2), none, none, none] [] h _
  refine R_ps 1 (pc2 := 1) (L2 := [some (vr (some w)), some (vr (some a1)), some (vi x2), none, none, none]) (st2 := [vr (some a1)]) rfl ?_
  refine R_getI rfl t0 ?_
  refine R_ps 4 (pc2 := 8) (L2 := [some (vr (some w)), some (vr (some a1)), some (vi x2), some (vi ((gi h a1 3) - x2)), none, none]) (st2 := [vr (some a1)]) rfl ?_
  refine R_getI rfl t0 ?_
  refine R_ps 1 (pc2 := 12) (L2 := [some (vr (some w)), some (vr (some a1)), some (vi x2), some (vi ((gi h a1 3) - x2)), none, none]) (st2 := [vr (some a1), vi (gi h a1 4)]) rfl ?_
  refine R_getI rfl t0 ?_
  refine R_ps 4 (pc2 := 20) (L2 := [some (vr (some w)), some (vr (some a1)), some (vi x2), some (vi ((gi h a1 3) - x2)), some (vi ((gi h a1 4) - (gi h a1 3))), none]) (st2 := [vr (some a1), vr (some w)]) rfl ?_
  refine R_getI rfl t0 ?_
  refine R_ps 1 (pc2 := 24) (L2 := [some (vr (some w)), some (vr (some a1)), some (vi x2), some (vi ((gi h a1 3) - x2)), some (vi ((gi h a1 4) - (gi h a1 3))), none]) (st2 := [vr (some a1), vi (gi h a1 0), vr (some w)]) rfl ?_
  refine R_getI rfl t0 ?_
  refine R_ps 1 (pc2 := 28) (L2 := [some (vr (some w)), some (vr (some a1)), some (vi x2), some (vi ((gi h a1 3) - x2)), some (vi ((gi h a1 4) - (gi h a1 3))), none]) (st2 := [vr (some a1), vi (gi h a1 1), vi (gi h a1 0), vr (some w)]) rfl ?_
  refine R_getI rfl t0 ?_
  refine R_cI (as := [vi (gi h a1 0), vi (gi h a1 1), vi (gi h a1 2)]) rfl rfl ⟨Nat.le_of_ble_eq_true rfl, Nat.le_of_ble_eq_true rfl, rfl, (Or.inl rfl)⟩ rfl rfl k (fun x_9 h_8 k => ?_)
  refine R_ps 6 (pc2 := 40) (L2 := [some (vr (some w)), some (vr (some a1)), some (vi x2), some (vi ((gi h a1 3) - x2)), some (vi ((gi h a1 4) - (gi h a1 3))), none]) (st2 := [vi (((gi h a1 3) - x2) + 1), vi (((gi h a1 3) - x2) - 1), vi x_9, vr (some w)]) rfl ?_
  refine R_cL (as := [vi (((gi h a1 3) - x2) - 1), vi (((gi h a1 3) - x2) + 1)]) rfl rfl ⟨Nat.le_of_ble_eq_true rfl, Nat.le_of_ble_eq_true rfl, rfl, (Or.inl rfl)⟩ rfl rfl k (fun x_12 h_11 k => ?_)
  refine R_cV (as := [vr (some w), vi x_9, vl x_12]) rfl rfl ⟨Nat.le_of_ble_eq_true rfl, Nat.le_of_ble_eq_true rfl, rfl, (Or.inr ⟨_, rfl, t1⟩)⟩ rfl rfl k (fun h_14 k => ?_)
  refine R_ps 1 (pc2 := 47) (L2 := [some (vr (some w)), some (vr (some a1)), some (vi x2), some (vi ((gi h a1 3) - x2)), some (vi ((gi h a1 4) - (gi h a1 3))), none]) (st2 := [vr (some a1)]) rfl ?_
  refine R_getI rfl t0 ?_
  refine R_if0 rfl (fun c_17 => ?_) (fun c_17 => ?_)
  · have k := k.2 c_17
    refine R_ps 4 (pc2 := 62) (L2 := [some (vr (some w)), some (vr (some a1)), some (vi x2), some (vi ((gi h a1 3) - x2)), some (vi ((gi h a1 4) - (gi h a1 3))), some (vi 0)]) (st2 := [vr (some a1), vr (some w)]) rfl ?_
    refine R_getI rfl t0 ?_
    refine R_ps 2 (pc2 := 68) (L2 := [some (vr (some w)), some (vr (some a1)), some (vi x2), some (vi ((gi h a1 3) - x2)), some (vi ((gi h a1 4) - (gi h a1 3))), some (vi 0)]) (st2 := [vr (some a1), vi 0, vi (gi h_14 a1 0), vr (some w)]) rfl ?_
    refine R_getI rfl t0 ?_
    refine R_cI (as := [vi (gi h_14 a1 0), vi 0, vi (gi h_14 a1 2)]) rfl rfl ⟨Nat.le_of_ble_eq_true rfl, Nat.le_of_ble_eq_true rfl, rfl, (Or.inl rfl)⟩ rfl rfl k (fun x_22 h_21 k => ?_)
    refine R_ps 10 (pc2 := 86) (L2 := [some (vr (some w)), some (vr (some a1)), some (vi x2), some (vi ((gi h a1 3) - x2)), some (vi ((gi h a1 4) - (gi h a1 3))), some (vi 0)]) (st2 := [vi ((((gi h a1 3) - x2) + ((gi h a1 4) - (gi h a1 3))) - 1), vi ((((gi h a1 3) - x2) - ((gi h a1 4) - (gi h a1 3))) + 1), vi x_22, vr (some w)]) rfl ?_
    refine R_cL (as := [vi ((((gi h a1 3) - x2) - ((gi h a1 4) - (gi h a1 3))) + 1), vi ((((gi h a1 3) - x2) + ((gi h a1 4) - (gi h a1 3))) - 1)]) rfl rfl ⟨Nat.le_of_ble_eq_true rfl, Nat.le_of_ble_eq_true rfl, rfl, (Or.inl rfl)⟩ rfl rfl k (fun x_25 h_24 k => ?_)
    refine R_cV (as := [vr (some w), vi x_22, vl x_25]) rfl rfl ⟨Nat.le_of_ble_eq_true rfl, Nat.le_of_ble_eq_true rfl, rfl, (Or.inr ⟨_, rfl, t1⟩)⟩ rfl rfl k (fun h_27 k => ?_)
    exact R_ret rfl rfl ⟨rfl, k⟩
  · have k := k.1 (Classical.not_not.mp c_17)
    refine R_ps 5 (pc2 := 62) (L2 := [some (vr (some w)), some (vr (some a1)), some (vi x2), some (vi ((gi h a1 3) - x2)), some (vi ((gi h a1 4) - (gi h a1 3))), some (vi 1)]) (st2 := [vr (some a1), vr (some w)]) rfl ?_
    refine R_getI rfl t0 ?_
    refine R_ps 2 (pc2 := 68) (L2 := [some (vr (some w)), some (vr (some a1)), some (vi x2), some (vi ((gi h a1 3) - x2)), some (vi ((gi h a1 4) - (gi h a1 3))), some (vi 1)]) (st2 := [vr (some a1), vi 1, vi (gi h_14 a1 0), vr (some w)]) rfl ?_
    refine R_getI rfl t0 ?_
    refine R_cI (as := [vi (gi h_14 a1 0), vi 1, vi (gi h_14 a1 2)]) rfl rfl ⟨Nat.le_of_ble_eq_true rfl, Nat.le_of_ble_eq_true rfl, rfl, (Or.inl rfl)⟩ rfl rfl k (fun x_34 h_33 k => ?_)
    refine R_ps 10 (pc2 := 86) (L2 := [some (vr (some w)), some (vr (some a1)), some (vi x2), some (vi ((gi h a1 3) - x2)), some (vi ((gi h a1 4) - (gi h a1 3))), some (vi 1)]) (st2 := [vi ((((gi h a1 3) - x2) + ((gi h a1 4) - (gi h a1 3))) - 1), vi ((((gi h a1 3) - x2) - ((gi h a1 4) - (gi h a1 3))) + 1), vi x_34, vr (some w)]) rfl ?_
    refine R_cL (as := [vi ((((gi h a1 3) - x2) - ((gi h a1 4) - (gi h a1 3))) + 1), vi ((((gi h a1 3) - x2) + ((gi h a1 4) - (gi h a1 3))) - 1)]) rfl rfl ⟨Nat.le_of_ble_eq_true rfl, Nat.le_of_ble_eq_true rfl, rfl, (Or.inl rfl)⟩ rfl rfl k (fun x_37 h_36 k => ?_)
    refine R_cV (as := [vr (some w), vi x_34, vl x_37]) rfl rfl ⟨Nat.le_of_ble_eq_true rfl, Nat.le_of_ble_eq_true rfl, rfl, (Or.inr ⟨_, rfl, t1⟩)⟩ rfl rfl k (fun h_39 k => ?_)
    exact R_ret rfl rfl ⟨rfl, k⟩
/-- DroneCorridors$Closures.close -/
theorem m6 {T N : Nat → Nat} {h : PH} {w : Nat} {x1 : Int32} {y2 : Int64} {K : PH → Prop} (t0 : T w = 1) (k : (((x1 < 0 → (K h)) ∧ (¬ (x1 < 0) → (∃ a_5, (gr h w 0) = some a_5 ∧ 21 ≤ T a_5 ∧ ((x1 < (Int32.ofNat (N a_5)) → (∃ a_12, (gr h w 0) = some a_12 ∧ T a_12 = 24 ∧ inb x1 (N a_12) ∧ ∀ h_17, h_17 = sL h a_12 (Int32.toNatClampNeg x1) ((gl h a_12 (Int32.toNatClampNeg x1)) ||| y2) → K h_17)) ∧ (¬ (x1 < (Int32.ofNat (N a_5))) → (K h)))))))) : CV T N 6 [vr (some w), vi x1, vl y2] h K := by
  show WP T N 6 0 [some (vr (some w)), some (vi x1), some (vl y2), none] [] h _
  refine R_ps 1 (pc2 := 1) (L2 := [some (vr (some w)), some (vi x1), some (vl y2), none]) (st2 := [vi x1]) rfl ?_
  refine R_if0 rfl (fun c_1 => ?_) (fun c_1 => ?_)
  · have k := k.1 c_1
    exact R_ret rfl rfl ⟨rfl, k⟩
  · have k := k.2 c_1
    refine R_ps 2 (pc2 := 6) (L2 := [some (vr (some w)), some (vi x1), some (vl y2), none]) (st2 := [vr (some w), vi x1]) rfl ?_
    refine R_getR rfl t0 ?_
    obtain ⟨a_5, e_6, k⟩ := k
    rw [e_6]
    obtain ⟨t_7, k⟩ := k
    refine R_alen rfl t_7 ?_
    refine R_if rfl (fun c_8 => ?_) (fun c_8 => ?_)
    · have k := k.2 (i32_nlt c_8)
      exact R_ret rfl rfl ⟨rfl, k⟩
    · have k := k.1 (i32_lt c_8)
      refine R_ps 1 (pc2 := 14) (L2 := [some (vr (some w)), some (vi x1), some (vl y2), none]) (st2 := [vr (some w)]) rfl ?_
      refine R_getR rfl t0 ?_
      refine R_ps 2 (pc2 := 19) (L2 := [some (vr (some w)), some (vi x1), some (vl y2), none]) (st2 := [vi x1, vr (gr h w 0), vi x1, vr (gr h w 0)]) rfl ?_
      obtain ⟨a_12, e_13, k⟩ := k
      rw [e_13]
      obtain ⟨t_14, k⟩ := k
      obtain ⟨t_15, k⟩ := k
      refine R_lald rfl t_14 t_15 ?_
      refine R_ps 2 (pc2 := 22) (L2 := [some (vr (some w)), some (vi x1), some (vl y2), none]) (st2 := [vl ((gl h a_12 (Int32.toNatClampNeg x1)) ||| y2), vi x1, vr (some a_12)]) rfl ?_
      refine R_last rfl t_14 t_15  ?_
      show WP T N _ _ _ _ (sL h a_12 (Int32.toNatClampNeg x1) ((gl h a_12 (Int32.toNatClampNeg x1)) ||| y2)) _
      generalize e_18 : sL h a_12 (Int32.toNatClampNeg x1) ((gl h a_12 (Int32.toNatClampNeg x1)) ||| y2) = h_17
      replace k := k h_17 e_18.symm
      exact R_ret rfl rfl ⟨rfl, k⟩
/-- DroneCorridors$Closures.between -/
theorem m7 {T N : Nat → Nat} {h : PH} {x0 : Int32} {x1 : Int32} {K : Int64 → PH → Prop} (k : ((((if 39 < x1 then 39 else x1) < (if x0 < 0 then 0 else x0) → (K 0 h)) ∧ (¬ ((if 39 < x1 then 39 else x1) < (if x0 < 0 then 0 else x0)) → (K ((1 <<< (((if 39 < x1 then 39 else x1) + 1).toInt64 &&& 63)) - (1 <<< ((if x0 < 0 then 0 else x0).toInt64 &&& 63))) h))))) : CL T N 7 [vi x0, vi x1] h K := by
  show WP T N 7 0 [some (vi x0), some (vi x1), none, none] [] h _
  refine R_ps 2 (pc2 := 2) (L2 := [some (vi x0), some (vi x1), none, none]) (st2 := [vi 0, vi x0]) rfl ?_
  refine R_jdk (st2 := [vi (if x0 < 0 then 0 else x0)]) rfl rfl rfl rfl rfl rfl rfl rfl ?_
  refine R_ps 3 (pc2 := 9) (L2 := [some (vi x0), some (vi x1), some (vi (if x0 < 0 then 0 else x0)), none]) (st2 := [vi 39, vi x1]) rfl ?_
  refine R_jdk (st2 := [vi (if 39 < x1 then 39 else x1)]) rfl rfl rfl rfl rfl rfl rfl rfl ?_
  refine R_ps 3 (pc2 := 15) (L2 := [some (vi x0), some (vi x1), some (vi (if x0 < 0 then 0 else x0)), some (vi (if 39 < x1 then 39 else x1))]) (st2 := [vi (if 39 < x1 then 39 else x1), vi (if x0 < 0 then 0 else x0)]) rfl ?_
  refine R_if rfl (fun c_3 => ?_) (fun c_3 => ?_)
  · have k := k.2 (i32_nlt c_3)
    refine R_ps 9 (pc2 := 31) (L2 := [some (vi x0), some (vi x1), some (vi (if x0 < 0 then 0 else x0)), some (vi (if 39 < x1 then 39 else x1))]) (st2 := [vl ((1 <<< (((if 39 < x1 then 39 else x1) + 1).toInt64 &&& 63)) - (1 <<< ((if x0 < 0 then 0 else x0).toInt64 &&& 63)))]) rfl ?_
    exact R_lret rfl rfl ⟨_, rfl, k⟩
  · have k := k.1 (i32_lt c_3)
    refine R_ps 2 (pc2 := 31) (L2 := [some (vi x0), some (vi x1), some (vi (if x0 < 0 then 0 else x0)), some (vi (if 39 < x1 then 39 else x1))]) (st2 := [vl 0]) rfl ?_
    exact R_lret rfl rfl ⟨_, rfl, k⟩
/-- DroneCorridors$Closures.laneOf -/
theorem m8 {T N : Nat → Nat} {h : PH} {x0 : Int32} {x1 : Int32} {x2 : Int32} {K : Int32 → PH → Prop} (k : (K ((((x0 * 2) + x1) * 3) + x2) h)) : CI T N 8 [vi x0, vi x1, vi x2] h K := by
  show WP T N 8 0 [some (vi x0), some (vi x1), some (vi x2)] [] h _
  refine R_ps 9 (pc2 := 9) (L2 := [some (vi x0), some (vi x1), some (vi x2)]) (st2 := [vi ((((x0 * 2) + x1) * 3) + x2)]) rfl ?_
  exact R_iret rfl rfl ⟨_, rfl, k⟩
/-- DroneCorridors$Corridor.<init> -/
theorem m9 {T N : Nat → Nat} {h : PH} {w : Nat} {K : PH → Prop} (k : (K h)) : CV T N 9 [vr (some w)] h K := by
  show WP T N 9 0 [some (vr (some w))] [] h _
  refine R_ps 1 (pc2 := 1) (L2 := [some (vr (some w))]) (st2 := [vr (some w)]) rfl ?_
  refine R_jdk (st2 := []) rfl rfl rfl rfl rfl rfl rfl rfl ?_
  exact R_ret rfl rfl ⟨rfl, k⟩
/-- DroneCorridors$Corridor.energyOf -/
theorem m10 {T N : Nat → Nat} {h : PH} {w : Nat} {x1 : Int32} {K : Int32 → PH → Prop} (t0 : T w = 2) (k : (((x1 = 0 → (K ((2 * (gi h w 2)) - (gi h w 3)) h)) ∧ (¬ (x1 = 0) → (K ((2 * (gi h w 2)) + (gi h w 3)) h))))) : CI T N 10 [vr (some w), vi x1] h K := by
  show WP T N 10 0 [some (vr (some w)), some (vi x1)] [] h _
  refine R_ps 1 (pc2 := 1) (L2 := [some (vr (some w)), some (vi x1)]) (st2 := [vi x1]) rfl ?_
  refine R_if0 rfl (fun c_1 => ?_) (fun c_1 => ?_)
  · have k := k.2 c_1
    refine R_ps 2 (pc2 := 20) (L2 := [some (vr (some w)), some (vi x1)]) (st2 := [vr (some w), vi 2]) rfl ?_
    refine R_getI rfl t0 ?_
    refine R_ps 2 (pc2 := 25) (L2 := [some (vr (some w)), some (vi x1)]) (st2 := [vr (some w), vi (2 * (gi h w 2))]) rfl ?_
    refine R_getI rfl t0 ?_
    refine R_ps 1 (pc2 := 29) (L2 := [some (vr (some w)), some (vi x1)]) (st2 := [vi ((2 * (gi h w 2)) + (gi h w 3))]) rfl ?_
    exact R_iret rfl rfl ⟨_, rfl, k⟩
  · have k := k.1 (Classical.not_not.mp c_1)
    refine R_ps 2 (pc2 := 6) (L2 := [some (vr (some w)), some (vi x1)]) (st2 := [vr (some w), vi 2]) rfl ?_
    refine R_getI rfl t0 ?_
    refine R_ps 2 (pc2 := 11) (L2 := [some (vr (some w)), some (vi x1)]) (st2 := [vr (some w), vi (2 * (gi h w 2))]) rfl ?_
    refine R_getI rfl t0 ?_
    refine R_ps 2 (pc2 := 29) (L2 := [some (vr (some w)), some (vi x1)]) (st2 := [vi ((2 * (gi h w 2)) - (gi h w 3))]) rfl ?_
    exact R_iret rfl rfl ⟨_, rfl, k⟩
/-- DroneCorridors$Corridor.beginOf -/
theorem m11 {T N : Nat → Nat} {h : PH} {w : Nat} {x1 : Int32} {K : Int32 → PH → Prop} (t0 : T w = 2) (k : (((x1 = 0 → (K (gi h w 0) h)) ∧ (¬ (x1 = 0) → (K (gi h w 1) h))))) : CI T N 11 [vr (some w), vi x1] h K := by
  show WP T N 11 0 [some (vr (some w)), some (vi x1)] [] h _
  refine R_ps 1 (pc2 := 1) (L2 := [some (vr (some w)), some (vi x1)]) (st2 := [vi x1]) rfl ?_
  refine R_if0 rfl (fun c_1 => ?_) (fun c_1 => ?_)
  · have k := k.2 c_1
    refine R_ps 1 (pc2 := 12) (L2 := [some (vr (some w)), some (vi x1)]) (st2 := [vr (some w)]) rfl ?_
    refine R_getI rfl t0 ?_
    exact R_iret rfl rfl ⟨_, rfl, k⟩
  · have k := k.1 (Classical.not_not.mp c_1)
    refine R_ps 1 (pc2 := 5) (L2 := [some (vr (some w)), some (vi x1)]) (st2 := [vr (some w)]) rfl ?_
    refine R_getI rfl t0 ?_
    refine R_ps 1 (pc2 := 15) (L2 := [some (vr (some w)), some (vi x1)]) (st2 := [vi (gi h w 0)]) rfl ?_
    exact R_iret rfl rfl ⟨_, rfl, k⟩
/-- DroneCorridors$Corridor.endOf -/
theorem m12 {T N : Nat → Nat} {h : PH} {w : Nat} {x1 : Int32} {K : Int32 → PH → Prop} (t0 : T w = 2) (k : (((x1 = 0 → (K (gi h w 1) h)) ∧ (¬ (x1 = 0) → (K (gi h w 0) h))))) : CI T N 12 [vr (some w), vi x1] h K := by
  show WP T N 12 0 [some (vr (some w)), some (vi x1)] [] h _
  refine R_ps 1 (pc2 := 1) (L2 := [some (vr (some w)), some (vi x1)]) (st2 := [vi x1]) rfl ?_
  refine R_if0 rfl (fun c_1 => ?_) (fun c_1 => ?_)
  · have k := k.2 c_1
    refine R_ps 1 (pc2 := 12) (L2 := [some (vr (some w)), some (vi x1)]) (st2 := [vr (some w)]) rfl ?_
    refine R_getI rfl t0 ?_
    exact R_iret rfl rfl ⟨_, rfl, k⟩
  · have k := k.1 (Classical.not_not.mp c_1)
    refine R_ps 1 (pc2 := 5) (L2 := [some (vr (some w)), some (vi x1)]) (st2 := [vr (some w)]) rfl ?_
    refine R_getI rfl t0 ?_
    refine R_ps 1 (pc2 := 15) (L2 := [some (vr (some w)), some (vi x1)]) (st2 := [vi (gi h w 1)]) rfl ?_
    exact R_iret rfl rfl ⟨_, rfl, k⟩
/-- DroneCorridors$Corridor.copy -/
theorem m13 {T N : Nat → Nat} {h : PH} {w : Nat} {a1 : Nat} {K : PH → Prop} (t0 : T a1 = 2) (t1 : T w = 2) (k : (∀ h_3, h_3 = si h w 0 (gi h a1 0) → ∀ h_7, h_7 = si h_3 w 1 (gi h_3 a1 1) → ∀ h_11, h_11 = si h_7 w 2 (gi h_7 a1 2) → ∀ h_15, h_15 = si h_11 w 3 (gi h_11 a1 3) → K h_15)) : CV T N 13 [vr (some w), vr (some a1)] h K := by
  show WP T N 13 0 [some (vr (some w)), some (vr (some a1))] [] h _
  refine R_ps 2 (pc2 := 2) (L2 := [some (vr (some w)), some (vr (some a1))]) (st2 := [vr (some a1), vr (some w)]) rfl ?_
  refine R_getI rfl t0 ?_
  refine R_putI rfl t1 ?_
  show WP T N _ _ _ _ (si h w 0 (gi h a1 0)) _
  generalize e_4 : si h w 0 (gi h a1 0) = h_3
  replace k := k h_3 e_4.symm
  refine R_ps 2 (pc2 := 10) (L2 := [some (vr (some w)), some (vr (some a1))]) (st2 := [vr (some a1), vr (some w)]) rfl ?_
  refine R_getI rfl t0 ?_
  refine R_putI rfl t1 ?_
  show WP T N _ _ _ _ (si h_3 w 1 (gi h_3 a1 1)) _
  generalize e_8 : si h_3 w 1 (gi h_3 a1 1) = h_7
  replace k := k h_7 e_8.symm
  refine R_ps 2 (pc2 := 18) (L2 := [some (vr (some w)), some (vr (some a1))]) (st2 := [vr (some a1), vr (some w)]) rfl ?_
  refine R_getI rfl t0 ?_
  refine R_putI rfl t1 ?_
  show WP T N _ _ _ _ (si h_7 w 2 (gi h_7 a1 2)) _
  generalize e_12 : si h_7 w 2 (gi h_7 a1 2) = h_11
  replace k := k h_11 e_12.symm
  refine R_ps 2 (pc2 := 26) (L2 := [some (vr (some w)), some (vr (some a1))]) (st2 := [vr (some a1), vr (some w)]) rfl ?_
  refine R_getI rfl t0 ?_
  refine R_putI rfl t1 ?_
  show WP T N _ _ _ _ (si h_11 w 3 (gi h_11 a1 3)) _
  generalize e_16 : si h_11 w 3 (gi h_11 a1 3) = h_15
  replace k := k h_15 e_16.symm
  exact R_ret rfl rfl ⟨rfl, k⟩
/-- DroneCorridors$Drone.<init> -/
theorem m14 {T N : Nat → Nat} {h : PH} {w : Nat} {K : PH → Prop} (t0 : T w = 3) (k : ((T (nx h) = 22 ∧ 0 ≤ Int32.toInt 5 ∧ Int32.toInt 5 = N (nx h) ∧ N (nx h) ≤ 65536) ∧ ∀ a_3 h_4, a_3 = nx h → h_4 = grow h (N (nx h)) → ∀ h_9, h_9 = sr h_4 w 7 (some a_3) → (T (nx h_9) = 37 ∧ 0 ≤ Int32.toInt 41 ∧ Int32.toInt 41 = N (nx h_9) ∧ N (nx h_9) ≤ 65536) ∧ ∀ a_12 h_13, a_12 = nx h_9 → h_13 = grow h_9 (N (nx h_9)) → ∀ h_18, h_18 = sr h_13 w 9 (some a_12) → WV T N 14 22 [some (vr (some w)), some (vi 0)] [] h_18 K)) : CV T N 14 [vr (some w)] h K := by
  show WP T N 14 0 [some (vr (some w)), none] [] h _
  refine R_ps 1 (pc2 := 1) (L2 := [some (vr (some w)), none]) (st2 := [vr (some w)]) rfl ?_
  refine R_jdk (st2 := []) rfl rfl rfl rfl rfl rfl rfl rfl ?_
  refine R_ps 2 (pc2 := 6) (L2 := [some (vr (some w)), none]) (st2 := [vi 5, vr (some w)]) rfl ?_
  obtain ⟨t_7, k⟩ := k
  refine R_newa rfl t_7 ?_
  generalize e_6 : grow h (N (nx h)) = h_4
  generalize e_5 : nx h = a_3
  replace k := k a_3 h_4 e_5.symm e_6.symm
  refine R_putR rfl t0 ?_
  show WP T N _ _ _ _ (sr h_4 w 7 (some a_3)) _
  generalize e_10 : sr h_4 w 7 (some a_3) = h_9
  replace k := k h_9 e_10.symm
  refine R_ps 2 (pc2 := 14) (L2 := [some (vr (some w)), none]) (st2 := [vi 41, vr (some w)]) rfl ?_
  obtain ⟨t_16, k⟩ := k
  refine R_anew rfl t_16 ?_
  generalize e_15 : grow h_9 (N (nx h_9)) = h_13
  generalize e_14 : nx h_9 = a_12
  replace k := k a_12 h_13 e_14.symm e_15.symm
  refine R_putR rfl t0 ?_
  show WP T N _ _ _ _ (sr h_13 w 9 (some a_12)) _
  generalize e_19 : sr h_13 w 9 (some a_12) = h_18
  replace k := k h_18 e_19.symm
  refine R_ps 2 (pc2 := 22) (L2 := [some (vr (some w)), some (vi 0)]) (st2 := []) rfl ?_
  exact k
theorem m14_22 {T N : Nat → Nat} {h : PH} {w : Nat} {x1 : Int32} {K : PH → Prop} (t0 : T w = 3) (k : (∃ a_3, (gr h w 9) = some a_3 ∧ 21 ≤ T a_3 ∧ ((x1 < (Int32.ofNat (N a_3)) → (T (nx h) = 7 ∧ ∀ a_10 h_11, a_10 = nx h → h_11 = grow h 5 → CV T N 54 [vr (some a_10)] h_11 (fun h_16 => (∃ a_19, (gr h w 9) = some a_19 ∧ (1 ≤ T a_10 ∧ T a_10 ≤ 12 ∧ T a_10 + 30 = T a_19) ∧ inb x1 (N a_19) ∧ ∀ h_21, h_21 = sr h_16 a_19 (Int32.toNatClampNeg x1) (some a_10) → WV T N 14 22 [some (vr (some w)), some (vi (x1 + 1))] [] h_21 K)))) ∧ (¬ (x1 < (Int32.ofNat (N a_3))) → (K h))))) : WV T N 14 22 [some (vr (some w)), some (vi x1)] [] h K := by
  show WP T N 14 22 [some (vr (some w)), some (vi x1)] [] h _
  refine R_ps 2 (pc2 := 24) (L2 := [some (vr (some w)), some (vi x1)]) (st2 := [vr (some w), vi x1]) rfl ?_
  refine R_getR rfl t0 ?_
  obtain ⟨a_3, e_4, k⟩ := k
  rw [e_4]
  obtain ⟨t_5, k⟩ := k
  refine R_alen rfl t_5 ?_
  refine R_if rfl (fun c_6 => ?_) (fun c_6 => ?_)
  · have k := k.2 (i32_nlt c_6)
    exact R_ret rfl rfl ⟨rfl, k⟩
  · have k := k.1 (i32_lt c_6)
    refine R_ps 1 (pc2 := 32) (L2 := [some (vr (some w)), some (vi x1)]) (st2 := [vr (some w)]) rfl ?_
    refine R_getR rfl t0 ?_
    refine R_ps 1 (pc2 := 36) (L2 := [some (vr (some w)), some (vi x1)]) (st2 := [vi x1, vr (gr h w 9)]) rfl ?_
    obtain ⟨t_14, k⟩ := k
    refine R_new rfl ⟨by decide, t_14⟩ ?_
    show WP T N _ _ _ _ (grow h 5) _
    generalize e_12 : nx h = a_10
    generalize e_13 : grow h 5 = h_11
    replace k := k a_10 h_11 e_12.symm e_13.symm
    refine R_ps 1 (pc2 := 40) (L2 := [some (vr (some w)), some (vi x1)]) (st2 := [vr (some a_10), vr (some a_10), vi x1, vr (gr h w 9)]) rfl ?_
    refine R_cV (as := [vr (some a_10)]) rfl rfl ⟨Nat.le_of_ble_eq_true rfl, Nat.le_of_ble_eq_true rfl, rfl, (Or.inr ⟨_, rfl, (e_12 ▸ t_14)⟩)⟩ rfl rfl k (fun h_16 k => ?_)
    obtain ⟨a_19, e_20, k⟩ := k
    rw [e_20]
    obtain ⟨t_23, k⟩ := k
    obtain ⟨t_24, k⟩ := k
    refine R_aast rfl t_23 t_24  ?_
    show WP T N _ _ _ _ (sr h_16 a_19 (Int32.toNatClampNeg x1) (some a_10)) _
    generalize e_22 : sr h_16 a_19 (Int32.toNatClampNeg x1) (some a_10) = h_21
    replace k := k h_21 e_22.symm
    refine R_ps 2 (pc2 := 22) (L2 := [some (vr (some w)), some (vi (x1 + 1))]) (st2 := []) rfl ?_
    exact k
/-- DroneCorridors$Drone.setUp -/
theorem m15 {T N : Nat → Nat} {h : PH} {w : Nat} {x1 : Int32} {x2 : Int32} {x3 : Int32} {K : PH → Prop} (t0 : T w = 3) (k : (((x2 = 0 → (∀ h_3, h_3 = si h w 0 1 → ∀ h_6, h_6 = si h_3 w 1 x3 → ∀ h_9, h_9 = si h_6 w 2 0 → ∀ h_12, h_12 = si h_9 w 3 x1 → ∀ h_15, h_15 = si h_12 w 4 (-1) → ∀ h_18, h_18 = si h_15 w 5 x3 → ∀ h_21, h_21 = si h_18 w 6 0 → CV T N 254 [vr (gr h_21 w 7), vi 0] h_21 (fun h_25 => (∀ h_28, h_28 = si h_25 w 8 0 → K h_28)))) ∧ (¬ (x2 = 0) → (∀ h_32, h_32 = si h w 0 0 → ∀ h_35, h_35 = si h_32 w 1 x3 → ∀ h_38, h_38 = si h_35 w 2 0 → ∀ h_41, h_41 = si h_38 w 3 x1 → ∀ h_44, h_44 = si h_41 w 4 (-1) → ∀ h_47, h_47 = si h_44 w 5 x3 → ∀ h_50, h_50 = si h_47 w 6 0 → CV T N 254 [vr (gr h_50 w 7), vi 0] h_50 (fun h_54 => (∀ h_57, h_57 = si h_54 w 8 0 → K h_57))))))) : CV T N 15 [vr (some w), vi x1, vi x2, vi x3] h K := by
  show WP T N 15 0 [some (vr (some w)), some (vi x1), some (vi x2), some (vi x3)] [] h _
  refine R_ps 2 (pc2 := 2) (L2 := [some (vr (some w)), some (vi x1), some (vi x2), some (vi x3)]) (st2 := [vi x2, vr (some w)]) rfl ?_
  refine R_if0 rfl (fun c_1 => ?_) (fun c_1 => ?_)
  · have k := k.1 c_1
    refine R_ps 1 (pc2 := 10) (L2 := [some (vr (some w)), some (vi x1), some (vi x2), some (vi x3)]) (st2 := [vi 1, vr (some w)]) rfl ?_
    refine R_putI rfl t0 ?_
    show WP T N _ _ _ _ (si h w 0 1) _
    generalize e_4 : si h w 0 1 = h_3
    replace k := k h_3 e_4.symm
    refine R_ps 2 (pc2 := 15) (L2 := [some (vr (some w)), some (vi x1), some (vi x2), some (vi x3)]) (st2 := [vi x3, vr (some w)]) rfl ?_
    refine R_putI rfl t0 ?_
    show WP T N _ _ _ _ (si h_3 w 1 x3) _
    generalize e_7 : si h_3 w 1 x3 = h_6
    replace k := k h_6 e_7.symm
    refine R_ps 2 (pc2 := 20) (L2 := [some (vr (some w)), some (vi x1), some (vi x2), some (vi x3)]) (st2 := [vi 0, vr (some w)]) rfl ?_
    refine R_putI rfl t0 ?_
    show WP T N _ _ _ _ (si h_6 w 2 0) _
    generalize e_10 : si h_6 w 2 0 = h_9
    replace k := k h_9 e_10.symm
    refine R_ps 2 (pc2 := 25) (L2 := [some (vr (some w)), some (vi x1), some (vi x2), some (vi x3)]) (st2 := [vi x1, vr (some w)]) rfl ?_
    refine R_putI rfl t0 ?_
    show WP T N _ _ _ _ (si h_9 w 3 x1) _
    generalize e_13 : si h_9 w 3 x1 = h_12
    replace k := k h_12 e_13.symm
    refine R_ps 2 (pc2 := 30) (L2 := [some (vr (some w)), some (vi x1), some (vi x2), some (vi x3)]) (st2 := [vi (-1), vr (some w)]) rfl ?_
    refine R_putI rfl t0 ?_
    show WP T N _ _ _ _ (si h_12 w 4 (-1)) _
    generalize e_16 : si h_12 w 4 (-1) = h_15
    replace k := k h_15 e_16.symm
    refine R_ps 2 (pc2 := 35) (L2 := [some (vr (some w)), some (vi x1), some (vi x2), some (vi x3)]) (st2 := [vi x3, vr (some w)]) rfl ?_
    refine R_putI rfl t0 ?_
    show WP T N _ _ _ _ (si h_15 w 5 x3) _
    generalize e_19 : si h_15 w 5 x3 = h_18
    replace k := k h_18 e_19.symm
    refine R_ps 2 (pc2 := 40) (L2 := [some (vr (some w)), some (vi x1), some (vi x2), some (vi x3)]) (st2 := [vi 0, vr (some w)]) rfl ?_
    refine R_putI rfl t0 ?_
    show WP T N _ _ _ _ (si h_18 w 6 0) _
    generalize e_22 : si h_18 w 6 0 = h_21
    replace k := k h_21 e_22.symm
    refine R_ps 1 (pc2 := 44) (L2 := [some (vr (some w)), some (vi x1), some (vi x2), some (vi x3)]) (st2 := [vr (some w)]) rfl ?_
    refine R_getR rfl t0 ?_
    refine R_ps 1 (pc2 := 48) (L2 := [some (vr (some w)), some (vi x1), some (vi x2), some (vi x3)]) (st2 := [vi 0, vr (gr h_21 w 7)]) rfl ?_
    refine R_cV (as := [vr (gr h_21 w 7), vi 0]) rfl rfl ⟨Nat.le_of_ble_eq_true rfl, Nat.le_of_ble_eq_true rfl, rfl, (Or.inl rfl)⟩ rfl rfl k (fun h_25 k => ?_)
    refine R_ps 2 (pc2 := 53) (L2 := [some (vr (some w)), some (vi x1), some (vi x2), some (vi x3)]) (st2 := [vi 0, vr (some w)]) rfl ?_
    refine R_putI rfl t0 ?_
    show WP T N _ _ _ _ (si h_25 w 8 0) _
    generalize e_29 : si h_25 w 8 0 = h_28
    replace k := k h_28 e_29.symm
    exact R_ret rfl rfl ⟨rfl, k⟩
  · have k := k.2 c_1
    refine R_ps 2 (pc2 := 10) (L2 := [some (vr (some w)), some (vi x1), some (vi x2), some (vi x3)]) (st2 := [vi 0, vr (some w)]) rfl ?_
    refine R_putI rfl t0 ?_
    show WP T N _ _ _ _ (si h w 0 0) _
    generalize e_33 : si h w 0 0 = h_32
    replace k := k h_32 e_33.symm
    refine R_ps 2 (pc2 := 15) (L2 := [some (vr (some w)), some (vi x1), some (vi x2), some (vi x3)]) (st2 := [vi x3, vr (some w)]) rfl ?_
    refine R_putI rfl t0 ?_
    show WP T N _ _ _ _ (si h_32 w 1 x3) _
    generalize e_36 : si h_32 w 1 x3 = h_35
    replace k := k h_35 e_36.symm
    refine R_ps 2 (pc2 := 20) (L2 := [some (vr (some w)), some (vi x1), some (vi x2), some (vi x3)]) (st2 := [vi 0, vr (some w)]) rfl ?_
    refine R_putI rfl t0 ?_
    show WP T N _ _ _ _ (si h_35 w 2 0) _
    generalize e_39 : si h_35 w 2 0 = h_38
    replace k := k h_38 e_39.symm
    refine R_ps 2 (pc2 := 25) (L2 := [some (vr (some w)), some (vi x1), some (vi x2), some (vi x3)]) (st2 := [vi x1, vr (some w)]) rfl ?_
    refine R_putI rfl t0 ?_
    show WP T N _ _ _ _ (si h_38 w 3 x1) _
    generalize e_42 : si h_38 w 3 x1 = h_41
    replace k := k h_41 e_42.symm
    refine R_ps 2 (pc2 := 30) (L2 := [some (vr (some w)), some (vi x1), some (vi x2), some (vi x3)]) (st2 := [vi (-1), vr (some w)]) rfl ?_
    refine R_putI rfl t0 ?_
    show WP T N _ _ _ _ (si h_41 w 4 (-1)) _
    generalize e_45 : si h_41 w 4 (-1) = h_44
    replace k := k h_44 e_45.symm
    refine R_ps 2 (pc2 := 35) (L2 := [some (vr (some w)), some (vi x1), some (vi x2), some (vi x3)]) (st2 := [vi x3, vr (some w)]) rfl ?_
    refine R_putI rfl t0 ?_
    show WP T N _ _ _ _ (si h_44 w 5 x3) _
    generalize e_48 : si h_44 w 5 x3 = h_47
    replace k := k h_47 e_48.symm
    refine R_ps 2 (pc2 := 40) (L2 := [some (vr (some w)), some (vi x1), some (vi x2), some (vi x3)]) (st2 := [vi 0, vr (some w)]) rfl ?_
    refine R_putI rfl t0 ?_
    show WP T N _ _ _ _ (si h_47 w 6 0) _
    generalize e_51 : si h_47 w 6 0 = h_50
    replace k := k h_50 e_51.symm
    refine R_ps 1 (pc2 := 44) (L2 := [some (vr (some w)), some (vi x1), some (vi x2), some (vi x3)]) (st2 := [vr (some w)]) rfl ?_
    refine R_getR rfl t0 ?_
    refine R_ps 1 (pc2 := 48) (L2 := [some (vr (some w)), some (vi x1), some (vi x2), some (vi x3)]) (st2 := [vi 0, vr (gr h_50 w 7)]) rfl ?_
    refine R_cV (as := [vr (gr h_50 w 7), vi 0]) rfl rfl ⟨Nat.le_of_ble_eq_true rfl, Nat.le_of_ble_eq_true rfl, rfl, (Or.inl rfl)⟩ rfl rfl k (fun h_54 k => ?_)
    refine R_ps 2 (pc2 := 53) (L2 := [some (vr (some w)), some (vi x1), some (vi x2), some (vi x3)]) (st2 := [vi 0, vr (some w)]) rfl ?_
    refine R_putI rfl t0 ?_
    show WP T N _ _ _ _ (si h_54 w 8 0) _
    generalize e_58 : si h_54 w 8 0 = h_57
    replace k := k h_57 e_58.symm
    exact R_ret rfl rfl ⟨rfl, k⟩
/-- DroneCorridors$Drone.copy -/
theorem m16 {T N : Nat → Nat} {h : PH} {w : Nat} {a1 : Nat} {K : PH → Prop} (t0 : T a1 = 3) (t1 : T w = 3) (k : (∀ h_3, h_3 = si h w 0 (gi h a1 0) → ∀ h_7, h_7 = si h_3 w 1 (gi h_3 a1 1) → ∀ h_11, h_11 = si h_7 w 2 (gi h_7 a1 2) → ∀ h_15, h_15 = si h_11 w 3 (gi h_11 a1 3) → ∀ h_19, h_19 = si h_15 w 4 (gi h_15 a1 4) → ∀ h_23, h_23 = si h_19 w 5 (gi h_19 a1 5) → ∀ h_27, h_27 = si h_23 w 6 (gi h_23 a1 6) → WV T N 16 58 [some (vr (some w)), some (vr (some a1)), some (vi 0), none, none] [] h_27 K)) : CV T N 16 [vr (some w), vr (some a1)] h K := by
  show WP T N 16 0 [some (vr (some w)), some (vr (some a1)), none, none, none] [] h _
  refine R_ps 2 (pc2 := 2) (L2 := [some (vr (some w)), some (vr (some a1)), none, none, none]) (st2 := [vr (some a1), vr (some w)]) rfl ?_
  refine R_getI rfl t0 ?_
  refine R_putI rfl t1 ?_
  show WP T N _ _ _ _ (si h w 0 (gi h a1 0)) _
  generalize e_4 : si h w 0 (gi h a1 0) = h_3
  replace k := k h_3 e_4.symm
  refine R_ps 2 (pc2 := 10) (L2 := [some (vr (some w)), some (vr (some a1)), none, none, none]) (st2 := [vr (some a1), vr (some w)]) rfl ?_
  refine R_getI rfl t0 ?_
  refine R_putI rfl t1 ?_
  show WP T N _ _ _ _ (si h_3 w 1 (gi h_3 a1 1)) _
  generalize e_8 : si h_3 w 1 (gi h_3 a1 1) = h_7
  replace k := k h_7 e_8.symm
  refine R_ps 2 (pc2 := 18) (L2 := [some (vr (some w)), some (vr (some a1)), none, none, none]) (st2 := [vr (some a1), vr (some w)]) rfl ?_
  refine R_getI rfl t0 ?_
  refine R_putI rfl t1 ?_
  show WP T N _ _ _ _ (si h_7 w 2 (gi h_7 a1 2)) _
  generalize e_12 : si h_7 w 2 (gi h_7 a1 2) = h_11
  replace k := k h_11 e_12.symm
  refine R_ps 2 (pc2 := 26) (L2 := [some (vr (some w)), some (vr (some a1)), none, none, none]) (st2 := [vr (some a1), vr (some w)]) rfl ?_
  refine R_getI rfl t0 ?_
  refine R_putI rfl t1 ?_
  show WP T N _ _ _ _ (si h_11 w 3 (gi h_11 a1 3)) _
  generalize e_16 : si h_11 w 3 (gi h_11 a1 3) = h_15
  replace k := k h_15 e_16.symm
  refine R_ps 2 (pc2 := 34) (L2 := [some (vr (some w)), some (vr (some a1)), none, none, none]) (st2 := [vr (some a1), vr (some w)]) rfl ?_
  refine R_getI rfl t0 ?_
  refine R_putI rfl t1 ?_
  show WP T N _ _ _ _ (si h_15 w 4 (gi h_15 a1 4)) _
  generalize e_20 : si h_15 w 4 (gi h_15 a1 4) = h_19
  replace k := k h_19 e_20.symm
  refine R_ps 2 (pc2 := 42) (L2 := [some (vr (some w)), some (vr (some a1)), none, none, none]) (st2 := [vr (some a1), vr (some w)]) rfl ?_
  refine R_getI rfl t0 ?_
  refine R_putI rfl t1 ?_
  show WP T N _ _ _ _ (si h_19 w 5 (gi h_19 a1 5)) _
  generalize e_24 : si h_19 w 5 (gi h_19 a1 5) = h_23
  replace k := k h_23 e_24.symm
  refine R_ps 2 (pc2 := 50) (L2 := [some (vr (some w)), some (vr (some a1)), none, none, none]) (st2 := [vr (some a1), vr (some w)]) rfl ?_
  refine R_getI rfl t0 ?_
  refine R_putI rfl t1 ?_
  show WP T N _ _ _ _ (si h_23 w 6 (gi h_23 a1 6)) _
  generalize e_28 : si h_23 w 6 (gi h_23 a1 6) = h_27
  replace k := k h_27 e_28.symm
  refine R_ps 2 (pc2 := 58) (L2 := [some (vr (some w)), some (vr (some a1)), some (vi 0), none, none]) (st2 := []) rfl ?_
  exact k
theorem m16_58 {T N : Nat → Nat} {h : PH} {w : Nat} {a1 : Nat} {x2 : Int32} {K : PH → Prop} (t0 : T a1 = 3) (t1 : T w = 3) (k : (((x2 < 5 → (∃ a_9, (gr h a1 7) = some a_9 ∧ T a_9 = 22 ∧ inb x2 (N a_9) ∧ ∃ a_14, (gr h w 7) = some a_14 ∧ T a_14 = 22 ∧ inb x2 (N a_14) ∧ ∀ h_16, h_16 = si h a_14 (Int32.toNatClampNeg x2) (gi h a_9 (Int32.toNatClampNeg x2)) → WV T N 16 58 [some (vr (some w)), some (vr (some a1)), some (vi (x2 + 1)), none, none] [] h_16 K)) ∧ (¬ (x2 < 5) → (∀ h_4, h_4 = si h w 8 (gi h a1 8) → WV T N 16 91 [some (vr (some w)), some (vr (some a1)), some (vi 0), none, none] [] h_4 K))))) : WV T N 16 58 [some (vr (some w)), some (vr (some a1)), some (vi x2), none, none] [] h K := by
  show WP T N 16 58 [some (vr (some w)), some (vr (some a1)), some (vi x2), none, none] [] h _
  refine R_ps 2 (pc2 := 60) (L2 := [some (vr (some w)), some (vr (some a1)), some (vi x2), none, none]) (st2 := [vi 5, vi x2]) rfl ?_
  refine R_if rfl (fun c_1 => ?_) (fun c_1 => ?_)
  · have k := k.2 (i32_nlt c_1)
    refine R_ps 2 (pc2 := 83) (L2 := [some (vr (some w)), some (vr (some a1)), some (vi x2), none, none]) (st2 := [vr (some a1), vr (some w)]) rfl ?_
    refine R_getI rfl t0 ?_
    refine R_putI rfl t1 ?_
    show WP T N _ _ _ _ (si h w 8 (gi h a1 8)) _
    generalize e_5 : si h w 8 (gi h a1 8) = h_4
    replace k := k h_4 e_5.symm
    refine R_ps 2 (pc2 := 91) (L2 := [some (vr (some w)), some (vr (some a1)), some (vi 0), none, none]) (st2 := []) rfl ?_
    exact k
  · have k := k.1 (i32_lt c_1)
    refine R_ps 1 (pc2 := 64) (L2 := [some (vr (some w)), some (vr (some a1)), some (vi x2), none, none]) (st2 := [vr (some w)]) rfl ?_
    refine R_getR rfl t1 ?_
    refine R_ps 2 (pc2 := 69) (L2 := [some (vr (some w)), some (vr (some a1)), some (vi x2), none, none]) (st2 := [vr (some a1), vi x2, vr (gr h w 7)]) rfl ?_
    refine R_getR rfl t0 ?_
    refine R_ps 1 (pc2 := 73) (L2 := [some (vr (some w)), some (vr (some a1)), some (vi x2), none, none]) (st2 := [vi x2, vr (gr h a1 7), vi x2, vr (gr h w 7)]) rfl ?_
    obtain ⟨a_9, e_10, k⟩ := k
    rw [e_10]
    obtain ⟨t_11, k⟩ := k
    obtain ⟨t_12, k⟩ := k
    refine R_iald rfl (Or.inl t_11) t_12 ?_
    obtain ⟨a_14, e_15, k⟩ := k
    rw [e_15]
    obtain ⟨t_18, k⟩ := k
    obtain ⟨t_19, k⟩ := k
    refine R_iast rfl t_18 t_19  ?_
    show WP T N _ _ _ _ (si h a_14 (Int32.toNatClampNeg x2) (gi h a_9 (Int32.toNatClampNeg x2))) _
    generalize e_17 : si h a_14 (Int32.toNatClampNeg x2) (gi h a_9 (Int32.toNatClampNeg x2)) = h_16
    replace k := k h_16 e_17.symm
    refine R_ps 2 (pc2 := 58) (L2 := [some (vr (some w)), some (vr (some a1)), some (vi (x2 + 1)), none, none]) (st2 := []) rfl ?_
    exact k
theorem m16_91 {T N : Nat → Nat} {h : PH} {w : Nat} {a1 : Nat} {x2 : Int32} {K : PH → Prop} (t0 : T w = 3) (t1 : T a1 = 3) (k : (((x2 < (gi h w 8) → (CR T N 17 [vr (some w), vi x2] h (fun x_6 h_5 => (CR T N 17 [vr (some a1), vi x2] h_5 (fun x_9 h_8 => (((x_6 = none → (WV T N 16 91 [some (vr (some w)), some (vr (some a1)), some (vi (x2 + 1)), none, none] [] h_8 K)) ∧ (∀ a_11, x_6 = some a_11 → (((x_9 = none → (WV T N 16 91 [some (vr (some w)), some (vr (some a1)), some (vi (x2 + 1)), none, none] [] h_8 K)) ∧ (∀ a_14, x_9 = some a_14 → (T a_11 = 7 ∧ CV T N 57 [vr (some a_11), vr (some a_14)] h_8 (fun h_18 => (WV T N 16 91 [some (vr (some w)), some (vr (some a1)), some (vi (x2 + 1)), none, none] [] h_18 K)))))))))))))) ∧ (¬ (x2 < (gi h w 8)) → (K h))))) : WV T N 16 91 [some (vr (some w)), some (vr (some a1)), some (vi x2), none, none] [] h K := by
  show WP T N 16 91 [some (vr (some w)), some (vr (some a1)), some (vi x2), none, none] [] h _
  refine R_ps 2 (pc2 := 93) (L2 := [some (vr (some w)), some (vr (some a1)), some (vi x2), none, none]) (st2 := [vr (some w), vi x2]) rfl ?_
  refine R_getI rfl t0 ?_
  refine R_if rfl (fun c_2 => ?_) (fun c_2 => ?_)
  · have k := k.2 (i32_nlt c_2)
    exact R_ret rfl rfl ⟨rfl, k⟩
  · have k := k.1 (i32_lt c_2)
    refine R_ps 2 (pc2 := 101) (L2 := [some (vr (some w)), some (vr (some a1)), some (vi x2), none, none]) (st2 := [vi x2, vr (some w)]) rfl ?_
    refine R_cR (as := [vr (some w), vi x2]) rfl rfl ⟨Nat.le_of_ble_eq_true rfl, Nat.le_of_ble_eq_true rfl, rfl, (Or.inr ⟨_, rfl, t0⟩)⟩ rfl rfl k (fun x_6 h_5 k => ?_)
    refine R_ps 3 (pc2 := 107) (L2 := [some (vr (some w)), some (vr (some a1)), some (vi x2), some (vr x_6), none]) (st2 := [vi x2, vr (some a1)]) rfl ?_
    refine R_cR (as := [vr (some a1), vi x2]) rfl rfl ⟨Nat.le_of_ble_eq_true rfl, Nat.le_of_ble_eq_true rfl, rfl, (Or.inr ⟨_, rfl, t1⟩)⟩ rfl rfl k (fun x_9 h_8 k => ?_)
    refine R_ps 2 (pc2 := 113) (L2 := [some (vr (some w)), some (vr (some a1)), some (vi x2), some (vr x_6), some (vr x_9)]) (st2 := [vr x_6]) rfl ?_
    rcases null_or (x_6) with e_12 | ⟨a_11, e_12⟩
    · have k := k.1 e_12
      rw [e_12]
      refine R_null rfl (fun _ => ?_) (fun _ c_10 => nomatch c_10)
      refine R_ps 2 (pc2 := 91) (L2 := [some (vr (some w)), some (vr (some a1)), some (vi (x2 + 1)), some (vr none), some (vr x_9)]) (st2 := []) rfl ?_
      exact R_drop k (LE_of (L := [some (vr (some w)), some (vr (some a1)), some (vi (x2 + 1)), none, none]) (L2 := [some (vr (some w)), some (vr (some a1)), some (vi (x2 + 1)), some (vr none), some (vr x_9)]) ⟨rfl, rfl, rfl, trivial⟩)
    · have k := k.2 a_11 e_12
      rw [e_12]
      refine R_null rfl (fun c_10 => nomatch c_10) (fun _ _ => ?_)
      refine R_ps 1 (pc2 := 118) (L2 := [some (vr (some w)), some (vr (some a1)), some (vi x2), some (vr (some a_11)), some (vr x_9)]) (st2 := [vr x_9]) rfl ?_
      rcases null_or (x_9) with e_15 | ⟨a_14, e_15⟩
      · have k := k.1 e_15
        rw [e_15]
        refine R_null rfl (fun _ => ?_) (fun _ c_13 => nomatch c_13)
        refine R_ps 2 (pc2 := 91) (L2 := [some (vr (some w)), some (vr (some a1)), some (vi (x2 + 1)), some (vr (some a_11)), some (vr none)]) (st2 := []) rfl ?_
        exact R_drop k (LE_of (L := [some (vr (some w)), some (vr (some a1)), some (vi (x2 + 1)), none, none]) (L2 := [some (vr (some w)), some (vr (some a1)), some (vi (x2 + 1)), some (vr (some a_11)), some (vr none)]) ⟨rfl, rfl, rfl, trivial⟩)
      · have k := k.2 a_14 e_15
        rw [e_15]
        refine R_null rfl (fun c_13 => nomatch c_13) (fun _ _ => ?_)
        refine R_ps 2 (pc2 := 124) (L2 := [some (vr (some w)), some (vr (some a1)), some (vi x2), some (vr (some a_11)), some (vr (some a_14))]) (st2 := [vr (some a_14), vr (some a_11)]) rfl ?_
        obtain ⟨t_17, k⟩ := k
        refine R_cV (as := [vr (some a_11), vr (some a_14)]) rfl rfl ⟨Nat.le_of_ble_eq_true rfl, Nat.le_of_ble_eq_true rfl, rfl, (Or.inr ⟨_, rfl, t_17⟩)⟩ rfl rfl k (fun h_18 k => ?_)
        refine R_ps 2 (pc2 := 91) (L2 := [some (vr (some w)), some (vr (some a1)), some (vi (x2 + 1)), some (vr (some a_11)), some (vr (some a_14))]) (st2 := []) rfl ?_
        exact R_drop k (LE_of (L := [some (vr (some w)), some (vr (some a1)), some (vi (x2 + 1)), none, none]) (L2 := [some (vr (some w)), some (vr (some a1)), some (vi (x2 + 1)), some (vr (some a_11)), some (vr (some a_14))]) ⟨rfl, rfl, rfl, trivial⟩)
/-- DroneCorridors$Drone.legAt -/
theorem m17 {T N : Nat → Nat} {h : PH} {w : Nat} {x1 : Int32} {K : Option Nat → PH → Prop} (t0 : T w = 3) (k : (((x1 < 0 → (K none h)) ∧ (¬ (x1 < 0) → (((x1 < (gi h w 8) → (∃ a_8, (gr h w 9) = some a_8 ∧ 21 ≤ T a_8 ∧ ((x1 < (Int32.ofNat (N a_8)) → (∃ a_15, (gr h w 9) = some a_15 ∧ 30 ≤ T a_15 ∧ inb x1 (N a_15) ∧ K (gr h a_15 (Int32.toNatClampNeg x1)) h)) ∧ (¬ (x1 < (Int32.ofNat (N a_8))) → (K none h))))) ∧ (¬ (x1 < (gi h w 8)) → (K none h)))))))) : CR T N 17 [vr (some w), vi x1] h K := by
  show WP T N 17 0 [some (vr (some w)), some (vi x1)] [] h _
  refine R_ps 1 (pc2 := 1) (L2 := [some (vr (some w)), some (vi x1)]) (st2 := [vi x1]) rfl ?_
  refine R_if0 rfl (fun c_1 => ?_) (fun c_1 => ?_)
  · have k := k.1 c_1
    refine R_ps 1 (pc2 := 31) (L2 := [some (vr (some w)), some (vi x1)]) (st2 := [vr none]) rfl ?_
    exact R_aret rfl rfl ⟨_, rfl, k⟩
  · have k := k.2 c_1
    refine R_ps 2 (pc2 := 6) (L2 := [some (vr (some w)), some (vi x1)]) (st2 := [vr (some w), vi x1]) rfl ?_
    refine R_getI rfl t0 ?_
    refine R_if rfl (fun c_4 => ?_) (fun c_4 => ?_)
    · have k := k.2 (i32_nlt c_4)
      refine R_ps 1 (pc2 := 31) (L2 := [some (vr (some w)), some (vi x1)]) (st2 := [vr none]) rfl ?_
      exact R_aret rfl rfl ⟨_, rfl, k⟩
    · have k := k.1 (i32_lt c_4)
      refine R_ps 2 (pc2 := 14) (L2 := [some (vr (some w)), some (vi x1)]) (st2 := [vr (some w), vi x1]) rfl ?_
      refine R_getR rfl t0 ?_
      obtain ⟨a_8, e_9, k⟩ := k
      rw [e_9]
      obtain ⟨t_10, k⟩ := k
      refine R_alen rfl t_10 ?_
      refine R_if rfl (fun c_11 => ?_) (fun c_11 => ?_)
      · have k := k.2 (i32_nlt c_11)
        refine R_ps 1 (pc2 := 31) (L2 := [some (vr (some w)), some (vi x1)]) (st2 := [vr none]) rfl ?_
        exact R_aret rfl rfl ⟨_, rfl, k⟩
      · have k := k.1 (i32_lt c_11)
        refine R_ps 1 (pc2 := 22) (L2 := [some (vr (some w)), some (vi x1)]) (st2 := [vr (some w)]) rfl ?_
        refine R_getR rfl t0 ?_
        refine R_ps 1 (pc2 := 26) (L2 := [some (vr (some w)), some (vi x1)]) (st2 := [vi x1, vr (gr h w 9)]) rfl ?_
        obtain ⟨a_15, e_16, k⟩ := k
        rw [e_16]
        obtain ⟨t_17, k⟩ := k
        obtain ⟨t_18, k⟩ := k
        refine R_aald rfl t_17 t_18 ?_
        refine R_ps 1 (pc2 := 31) (L2 := [some (vr (some w)), some (vi x1)]) (st2 := [vr (gr h a_15 (Int32.toNatClampNeg x1))]) rfl ?_
        exact R_aret rfl rfl ⟨_, rfl, k⟩
/-- DroneCorridors$Drone.sumOf -/
theorem m18 {T N : Nat → Nat} {h : PH} {w : Nat} {x1 : Int32} {K : Int32 → PH → Prop} (t0 : T w = 3) (k : (((x1 < 0 → (K 0 h)) ∧ (¬ (x1 < 0) → (∃ a_5, (gr h w 7) = some a_5 ∧ 21 ≤ T a_5 ∧ ((x1 < (Int32.ofNat (N a_5)) → (∃ a_12, (gr h w 7) = some a_12 ∧ T a_12 = 22 ∧ inb x1 (N a_12) ∧ K (gi h a_12 (Int32.toNatClampNeg x1)) h)) ∧ (¬ (x1 < (Int32.ofNat (N a_5))) → (K 0 h)))))))) : CI T N 18 [vr (some w), vi x1] h K := by
  show WP T N 18 0 [some (vr (some w)), some (vi x1)] [] h _
  refine R_ps 1 (pc2 := 1) (L2 := [some (vr (some w)), some (vi x1)]) (st2 := [vi x1]) rfl ?_
  refine R_if0 rfl (fun c_1 => ?_) (fun c_1 => ?_)
  · have k := k.1 c_1
    refine R_ps 1 (pc2 := 23) (L2 := [some (vr (some w)), some (vi x1)]) (st2 := [vi 0]) rfl ?_
    exact R_iret rfl rfl ⟨_, rfl, k⟩
  · have k := k.2 c_1
    refine R_ps 2 (pc2 := 6) (L2 := [some (vr (some w)), some (vi x1)]) (st2 := [vr (some w), vi x1]) rfl ?_
    refine R_getR rfl t0 ?_
    obtain ⟨a_5, e_6, k⟩ := k
    rw [e_6]
    obtain ⟨t_7, k⟩ := k
    refine R_alen rfl t_7 ?_
    refine R_if rfl (fun c_8 => ?_) (fun c_8 => ?_)
    · have k := k.2 (i32_nlt c_8)
      refine R_ps 1 (pc2 := 23) (L2 := [some (vr (some w)), some (vi x1)]) (st2 := [vi 0]) rfl ?_
      exact R_iret rfl rfl ⟨_, rfl, k⟩
    · have k := k.1 (i32_lt c_8)
      refine R_ps 1 (pc2 := 14) (L2 := [some (vr (some w)), some (vi x1)]) (st2 := [vr (some w)]) rfl ?_
      refine R_getR rfl t0 ?_
      refine R_ps 1 (pc2 := 18) (L2 := [some (vr (some w)), some (vi x1)]) (st2 := [vi x1, vr (gr h w 7)]) rfl ?_
      obtain ⟨a_12, e_13, k⟩ := k
      rw [e_13]
      obtain ⟨t_14, k⟩ := k
      obtain ⟨t_15, k⟩ := k
      refine R_iald rfl (Or.inl t_14) t_15 ?_
      refine R_ps 1 (pc2 := 23) (L2 := [some (vr (some w)), some (vi x1)]) (st2 := [vi (gi h a_12 (Int32.toNatClampNeg x1))]) rfl ?_
      exact R_iret rfl rfl ⟨_, rfl, k⟩
/-- DroneCorridors$Drone.legsBegun -/
theorem m19 {T N : Nat → Nat} {h : PH} {w : Nat} {K : Int32 → PH → Prop} (t0 : T w = 3) (k : ((((gi h w 0) = 2 → (((0 < (gi h w 8) → (K 1 h)) ∧ (¬ (0 < (gi h w 8)) → (K 0 h))))) ∧ (¬ ((gi h w 0) = 2) → (K 0 h))))) : CI T N 19 [vr (some w)] h K := by
  show WP T N 19 0 [some (vr (some w))] [] h _
  refine R_ps 1 (pc2 := 1) (L2 := [some (vr (some w))]) (st2 := [vr (some w)]) rfl ?_
  refine R_getI rfl t0 ?_
  refine R_ps 1 (pc2 := 5) (L2 := [some (vr (some w))]) (st2 := [vi 2, vi (gi h w 0)]) rfl ?_
  refine R_if rfl (fun c_2 => ?_) (fun c_2 => ?_)
  · have k := k.2 c_2
    refine R_ps 1 (pc2 := 20) (L2 := [some (vr (some w))]) (st2 := [vi 0]) rfl ?_
    exact R_iret rfl rfl ⟨_, rfl, k⟩
  · have k := k.1 (Classical.not_not.mp c_2)
    refine R_ps 1 (pc2 := 9) (L2 := [some (vr (some w))]) (st2 := [vr (some w)]) rfl ?_
    refine R_getI rfl t0 ?_
    refine R_if0 rfl (fun c_5 => ?_) (fun c_5 => ?_)
    · have k := k.2 (i32_nlt c_5)
      refine R_ps 1 (pc2 := 20) (L2 := [some (vr (some w))]) (st2 := [vi 0]) rfl ?_
      exact R_iret rfl rfl ⟨_, rfl, k⟩
    · have k := k.1 (i32_lt c_5)
      refine R_ps 2 (pc2 := 20) (L2 := [some (vr (some w))]) (st2 := [vi 1]) rfl ?_
      exact R_iret rfl rfl ⟨_, rfl, k⟩
/-- DroneCorridors$Drone.endOfPlan -/
theorem m20 {T N : Nat → Nat} {h : PH} {w : Nat} {x1 : Int32} {K : Int32 → PH → Prop} (t0 : T w = 3) (k : (CR T N 17 [vr (some w), vi ((gi h w 8) - 1)] h (fun x_4 h_3 => (((x_4 = none → (K x1 h_3)) ∧ (∀ a_6, x_4 = some a_6 → (T a_6 = 7 ∧ K (gi h_3 a_6 4) h_3))))))) : CI T N 20 [vr (some w), vi x1] h K := by
  show WP T N 20 0 [some (vr (some w)), some (vi x1), none] [] h _
  refine R_ps 2 (pc2 := 2) (L2 := [some (vr (some w)), some (vi x1), none]) (st2 := [vr (some w), vr (some w)]) rfl ?_
  refine R_getI rfl t0 ?_
  refine R_ps 2 (pc2 := 7) (L2 := [some (vr (some w)), some (vi x1), none]) (st2 := [vi ((gi h w 8) - 1), vr (some w)]) rfl ?_
  refine R_cR (as := [vr (some w), vi ((gi h w 8) - 1)]) rfl rfl ⟨Nat.le_of_ble_eq_true rfl, Nat.le_of_ble_eq_true rfl, rfl, (Or.inr ⟨_, rfl, t0⟩)⟩ rfl rfl k (fun x_4 h_3 k => ?_)
  refine R_ps 2 (pc2 := 12) (L2 := [some (vr (some w)), some (vi x1), some (vr x_4)]) (st2 := [vr x_4]) rfl ?_
  rcases null_or (x_4) with e_7 | ⟨a_6, e_7⟩
  · have k := k.1 e_7
    rw [e_7]
    refine R_nonnull rfl (fun _ => ?_) (fun _ c_5 => nomatch c_5)
    refine R_ps 2 (pc2 := 23) (L2 := [some (vr (some w)), some (vi x1), some (vr none)]) (st2 := [vi x1]) rfl ?_
    exact R_iret rfl rfl ⟨_, rfl, k⟩
  · have k := k.2 a_6 e_7
    rw [e_7]
    refine R_nonnull rfl (fun c_5 => nomatch c_5) (fun _ _ => ?_)
    refine R_ps 1 (pc2 := 20) (L2 := [some (vr (some w)), some (vi x1), some (vr (some a_6))]) (st2 := [vr (some a_6)]) rfl ?_
    obtain ⟨t_10, k⟩ := k
    refine R_getI rfl t_10 ?_
    exact R_iret rfl rfl ⟨_, rfl, k⟩
/-- DroneCorridors$Drone.place -/
theorem m21 {T N : Nat → Nat} {h : PH} {w : Nat} {K : Int32 → PH → Prop} (t0 : T w = 3) (k : (CR T N 17 [vr (some w), vi 0] h (fun x_3 h_2 => ((((gi h_2 w 0) = 2 → (((x_3 = none → (K (gi h_2 w 3) h_2)) ∧ (∀ a_9, x_3 = some a_9 → (T a_9 = 7 ∧ K (100 + (gi h_2 a_9 0)) h_2))))) ∧ (¬ ((gi h_2 w 0) = 2) → (K (gi h_2 w 3) h_2))))))) : CI T N 21 [vr (some w)] h K := by
  show WP T N 21 0 [some (vr (some w)), none] [] h _
  refine R_ps 2 (pc2 := 2) (L2 := [some (vr (some w)), none]) (st2 := [vi 0, vr (some w)]) rfl ?_
  refine R_cR (as := [vr (some w), vi 0]) rfl rfl ⟨Nat.le_of_ble_eq_true rfl, Nat.le_of_ble_eq_true rfl, rfl, (Or.inr ⟨_, rfl, t0⟩)⟩ rfl rfl k (fun x_3 h_2 k => ?_)
  refine R_ps 2 (pc2 := 7) (L2 := [some (vr (some w)), some (vr x_3)]) (st2 := [vr (some w)]) rfl ?_
  refine R_getI rfl t0 ?_
  refine R_ps 1 (pc2 := 11) (L2 := [some (vr (some w)), some (vr x_3)]) (st2 := [vi 2, vi (gi h_2 w 0)]) rfl ?_
  refine R_if rfl (fun c_5 => ?_) (fun c_5 => ?_)
  · have k := k.2 c_5
    refine R_ps 1 (pc2 := 29) (L2 := [some (vr (some w)), some (vr x_3)]) (st2 := [vr (some w)]) rfl ?_
    refine R_getI rfl t0 ?_
    exact R_iret rfl rfl ⟨_, rfl, k⟩
  · have k := k.1 (Classical.not_not.mp c_5)
    refine R_ps 1 (pc2 := 15) (L2 := [some (vr (some w)), some (vr x_3)]) (st2 := [vr x_3]) rfl ?_
    rcases null_or (x_3) with e_10 | ⟨a_9, e_10⟩
    · have k := k.1 e_10
      rw [e_10]
      refine R_null rfl (fun _ => ?_) (fun _ c_8 => nomatch c_8)
      refine R_ps 1 (pc2 := 29) (L2 := [some (vr (some w)), some (vr none)]) (st2 := [vr (some w)]) rfl ?_
      refine R_getI rfl t0 ?_
      exact R_iret rfl rfl ⟨_, rfl, k⟩
    · have k := k.2 a_9 e_10
      rw [e_10]
      refine R_null rfl (fun c_8 => nomatch c_8) (fun _ _ => ?_)
      refine R_ps 2 (pc2 := 21) (L2 := [some (vr (some w)), some (vr (some a_9))]) (st2 := [vr (some a_9), vi 100]) rfl ?_
      obtain ⟨t_14, k⟩ := k
      refine R_getI rfl t_14 ?_
      refine R_ps 2 (pc2 := 32) (L2 := [some (vr (some w)), some (vr (some a_9))]) (st2 := [vi (100 + (gi h_2 a_9 0))]) rfl ?_
      exact R_iret rfl rfl ⟨_, rfl, k⟩
/-- DroneCorridors$Drone.cutLegs -/
theorem m22 {T N : Nat → Nat} {h : PH} {w : Nat} {K : Int32 → PH → Prop} (t0 : T w = 3) (k : (CI T N 19 [vr (some w)] h (fun x_4 h_3 => (∀ h_7, h_7 = si h_3 w 8 ((gi h_3 w 8) - ((gi h w 8) - x_4)) → K ((gi h w 8) - x_4) h_7)))) : CI T N 22 [vr (some w)] h K := by
  show WP T N 22 0 [some (vr (some w)), none] [] h _
  refine R_ps 1 (pc2 := 1) (L2 := [some (vr (some w)), none]) (st2 := [vr (some w)]) rfl ?_
  refine R_getI rfl t0 ?_
  refine R_ps 1 (pc2 := 5) (L2 := [some (vr (some w)), none]) (st2 := [vr (some w), vi (gi h w 8)]) rfl ?_
  refine R_cI (as := [vr (some w)]) rfl rfl ⟨Nat.le_of_ble_eq_true rfl, Nat.le_of_ble_eq_true rfl, rfl, (Or.inr ⟨_, rfl, t0⟩)⟩ rfl rfl k (fun x_4 h_3 k => ?_)
  refine R_ps 4 (pc2 := 12) (L2 := [some (vr (some w)), some (vi ((gi h w 8) - x_4))]) (st2 := [vr (some w), vr (some w)]) rfl ?_
  refine R_getI rfl t0 ?_
  refine R_ps 2 (pc2 := 17) (L2 := [some (vr (some w)), some (vi ((gi h w 8) - x_4))]) (st2 := [vi ((gi h_3 w 8) - ((gi h w 8) - x_4)), vr (some w)]) rfl ?_
  refine R_putI rfl t0 ?_
  show WP T N _ _ _ _ (si h_3 w 8 ((gi h_3 w 8) - ((gi h w 8) - x_4))) _
  generalize e_8 : si h_3 w 8 ((gi h_3 w 8) - ((gi h w 8) - x_4)) = h_7
  replace k := k h_7 e_8.symm
  refine R_ps 1 (pc2 := 21) (L2 := [some (vr (some w)), some (vi ((gi h w 8) - x_4))]) (st2 := [vi ((gi h w 8) - x_4)]) rfl ?_
  exact R_iret rfl rfl ⟨_, rfl, k⟩
/-- DroneCorridors$Drone.growLegs -/
theorem m23 {T N : Nat → Nat} {h : PH} {w : Nat} {x1 : Int32} {K : PH → Prop} (t0 : T w = 3) (k : (((x1 < 0 → (K h)) ∧ (¬ (x1 < 0) → (∃ a_5, (gr h w 9) = some a_5 ∧ 21 ≤ T a_5 ∧ ((((Int32.ofNat (N a_5)) - (gi h w 8)) < x1 → (K h)) ∧ (¬ (((Int32.ofNat (N a_5)) - (gi h w 8)) < x1) → (∀ h_13, h_13 = si h w 8 ((gi h w 8) + x1) → K h_13)))))))) : CV T N 23 [vr (some w), vi x1] h K := by
  show WP T N 23 0 [some (vr (some w)), some (vi x1)] [] h _
  refine R_ps 1 (pc2 := 1) (L2 := [some (vr (some w)), some (vi x1)]) (st2 := [vi x1]) rfl ?_
  refine R_if0 rfl (fun c_1 => ?_) (fun c_1 => ?_)
  · have k := k.1 c_1
    exact R_ret rfl rfl ⟨rfl, k⟩
  · have k := k.2 c_1
    refine R_ps 2 (pc2 := 6) (L2 := [some (vr (some w)), some (vi x1)]) (st2 := [vr (some w), vi x1]) rfl ?_
    refine R_getR rfl t0 ?_
    obtain ⟨a_5, e_6, k⟩ := k
    rw [e_6]
    obtain ⟨t_7, k⟩ := k
    refine R_alen rfl t_7 ?_
    refine R_ps 1 (pc2 := 11) (L2 := [some (vr (some w)), some (vi x1)]) (st2 := [vr (some w), vi (Int32.ofNat (N a_5)), vi x1]) rfl ?_
    refine R_getI rfl t0 ?_
    refine R_ps 1 (pc2 := 15) (L2 := [some (vr (some w)), some (vi x1)]) (st2 := [vi ((Int32.ofNat (N a_5)) - (gi h w 8)), vi x1]) rfl ?_
    refine R_if rfl (fun c_9 => ?_) (fun c_9 => ?_)
    · have k := k.1 c_9
      exact R_ret rfl rfl ⟨rfl, k⟩
    · have k := k.2 c_9
      refine R_ps 2 (pc2 := 20) (L2 := [some (vr (some w)), some (vi x1)]) (st2 := [vr (some w), vr (some w)]) rfl ?_
      refine R_getI rfl t0 ?_
      refine R_ps 2 (pc2 := 25) (L2 := [some (vr (some w)), some (vi x1)]) (st2 := [vi ((gi h w 8) + x1), vr (some w)]) rfl ?_
      refine R_putI rfl t0 ?_
      show WP T N _ _ _ _ (si h w 8 ((gi h w 8) + x1)) _
      generalize e_14 : si h w 8 ((gi h w 8) + x1) = h_13
      replace k := k h_13 e_14.symm
      exact R_ret rfl rfl ⟨rfl, k⟩
/-- DroneCorridors$Drone.dropFirstLeg -/
theorem m24 {T N : Nat → Nat} {h : PH} {w : Nat} {K : PH → Prop} (t0 : T w = 3) (k : ((((gi h w 8) < 1 → (K h)) ∧ (¬ ((gi h w 8) < 1) → (∃ a_7, (gr h w 9) = some a_7 ∧ 21 ≤ T a_7 ∧ (((Int32.ofNat (N a_7)) < (gi h w 8) → (K h)) ∧ (¬ ((Int32.ofNat (N a_7)) < (gi h w 8)) → (∃ a_13, (gr h w 9) = some a_13 ∧ 30 ≤ T a_13 ∧ inb 0 (N a_13) ∧ ∃ a_17, (gr h a_13 0) = some a_17 ∧ WV T N 24 30 [some (vr (some w)), some (vr (some a_17)), some (vi 1)] [] h K)))))))) : CV T N 24 [vr (some w)] h K := by
  show WP T N 24 0 [some (vr (some w)), none, none] [] h _
  refine R_ps 1 (pc2 := 1) (L2 := [some (vr (some w)), none, none]) (st2 := [vr (some w)]) rfl ?_
  refine R_getI rfl t0 ?_
  refine R_ps 1 (pc2 := 5) (L2 := [some (vr (some w)), none, none]) (st2 := [vi 1, vi (gi h w 8)]) rfl ?_
  refine R_if rfl (fun c_2 => ?_) (fun c_2 => ?_)
  · have k := k.1 c_2
    exact R_ret rfl rfl ⟨rfl, k⟩
  · have k := k.2 c_2
    refine R_ps 1 (pc2 := 9) (L2 := [some (vr (some w)), none, none]) (st2 := [vr (some w)]) rfl ?_
    refine R_getI rfl t0 ?_
    refine R_ps 1 (pc2 := 13) (L2 := [some (vr (some w)), none, none]) (st2 := [vr (some w), vi (gi h w 8)]) rfl ?_
    refine R_getR rfl t0 ?_
    obtain ⟨a_7, e_8, k⟩ := k
    rw [e_8]
    obtain ⟨t_9, k⟩ := k
    refine R_alen rfl t_9 ?_
    refine R_if rfl (fun c_10 => ?_) (fun c_10 => ?_)
    · have k := k.2 (i32_nlt c_10)
      refine R_ps 1 (pc2 := 22) (L2 := [some (vr (some w)), none, none]) (st2 := [vr (some w)]) rfl ?_
      refine R_getR rfl t0 ?_
      refine R_ps 1 (pc2 := 26) (L2 := [some (vr (some w)), none, none]) (st2 := [vi 0, vr (gr h w 9)]) rfl ?_
      obtain ⟨a_13, e_14, k⟩ := k
      rw [e_14]
      obtain ⟨t_15, k⟩ := k
      obtain ⟨t_16, k⟩ := k
      refine R_aald rfl t_15 t_16 ?_
      refine R_ps 3 (pc2 := 30) (L2 := [some (vr (some w)), some (vr (gr h a_13 0)), some (vi 1)]) (st2 := []) rfl ?_
      obtain ⟨a_17, e_18, k⟩ := k
      rw [e_18]
      exact k
    · have k := k.1 (i32_lt c_10)
      exact R_ret rfl rfl ⟨rfl, k⟩
theorem m24_30 {T N : Nat → Nat} {h : PH} {w : Nat} {a1 : Nat} {x2 : Int32} {K : PH → Prop} (t0 : T w = 3) (k : (((x2 < (gi h w 8) → (∃ a_20, (gr h w 9) = some a_20 ∧ 30 ≤ T a_20 ∧ inb x2 (N a_20) ∧ ∃ a_27, (gr h a_20 (Int32.toNatClampNeg x2)) = some a_27 ∧ (1 ≤ T a_27 ∧ T a_27 ≤ 12 ∧ T a_27 + 30 = T a_20) ∧ inb (x2 - 1) (N a_20) ∧ ∀ h_25, h_25 = sr h a_20 (Int32.toNatClampNeg (x2 - 1)) (some a_27) → WV T N 24 30 [some (vr (some w)), some (vr (some a1)), some (vi (x2 + 1))] [] h_25 K)) ∧ (¬ (x2 < (gi h w 8)) → (∃ a_6, (gr h w 9) = some a_6 ∧ (1 ≤ T a1 ∧ T a1 ≤ 12 ∧ T a1 + 30 = T a_6) ∧ inb ((gi h w 8) - 1) (N a_6) ∧ ∀ h_8, h_8 = sr h a_6 (Int32.toNatClampNeg ((gi h w 8) - 1)) (some a1) → ∀ h_14, h_14 = si h_8 w 8 ((gi h_8 w 8) - 1) → K h_14))))) : WV T N 24 30 [some (vr (some w)), some (vr (some a1)), some (vi x2)] [] h K := by
  show WP T N 24 30 [some (vr (some w)), some (vr (some a1)), some (vi x2)] [] h _
  refine R_ps 2 (pc2 := 32) (L2 := [some (vr (some w)), some (vr (some a1)), some (vi x2)]) (st2 := [vr (some w), vi x2]) rfl ?_
  refine R_getI rfl t0 ?_
  refine R_if rfl (fun c_2 => ?_) (fun c_2 => ?_)
  · have k := k.2 (i32_nlt c_2)
    refine R_ps 1 (pc2 := 59) (L2 := [some (vr (some w)), some (vr (some a1)), some (vi x2)]) (st2 := [vr (some w)]) rfl ?_
    refine R_getR rfl t0 ?_
    refine R_ps 1 (pc2 := 63) (L2 := [some (vr (some w)), some (vr (some a1)), some (vi x2)]) (st2 := [vr (some w), vr (gr h w 9)]) rfl ?_
    refine R_getI rfl t0 ?_
    refine R_ps 3 (pc2 := 69) (L2 := [some (vr (some w)), some (vr (some a1)), some (vi x2)]) (st2 := [vr (some a1), vi ((gi h w 8) - 1), vr (gr h w 9)]) rfl ?_
    obtain ⟨a_6, e_7, k⟩ := k
    rw [e_7]
    obtain ⟨t_10, k⟩ := k
    obtain ⟨t_11, k⟩ := k
    refine R_aast rfl t_10 t_11  ?_
    show WP T N _ _ _ _ (sr h a_6 (Int32.toNatClampNeg ((gi h w 8) - 1)) (some a1)) _
    generalize e_9 : sr h a_6 (Int32.toNatClampNeg ((gi h w 8) - 1)) (some a1) = h_8
    replace k := k h_8 e_9.symm
    refine R_ps 2 (pc2 := 72) (L2 := [some (vr (some w)), some (vr (some a1)), some (vi x2)]) (st2 := [vr (some w), vr (some w)]) rfl ?_
    refine R_getI rfl t0 ?_
    refine R_ps 2 (pc2 := 77) (L2 := [some (vr (some w)), some (vr (some a1)), some (vi x2)]) (st2 := [vi ((gi h_8 w 8) - 1), vr (some w)]) rfl ?_
    refine R_putI rfl t0 ?_
    show WP T N _ _ _ _ (si h_8 w 8 ((gi h_8 w 8) - 1)) _
    generalize e_15 : si h_8 w 8 ((gi h_8 w 8) - 1) = h_14
    replace k := k h_14 e_15.symm
    exact R_ret rfl rfl ⟨rfl, k⟩
  · have k := k.1 (i32_lt c_2)
    refine R_ps 1 (pc2 := 39) (L2 := [some (vr (some w)), some (vr (some a1)), some (vi x2)]) (st2 := [vr (some w)]) rfl ?_
    refine R_getR rfl t0 ?_
    refine R_ps 4 (pc2 := 46) (L2 := [some (vr (some w)), some (vr (some a1)), some (vi x2)]) (st2 := [vr (some w), vi (x2 - 1), vr (gr h w 9)]) rfl ?_
    refine R_getR rfl t0 ?_
    refine R_ps 1 (pc2 := 50) (L2 := [some (vr (some w)), some (vr (some a1)), some (vi x2)]) (st2 := [vi x2, vr (gr h w 9), vi (x2 - 1), vr (gr h w 9)]) rfl ?_
    obtain ⟨a_20, e_21, k⟩ := k
    rw [e_21]
    obtain ⟨t_22, k⟩ := k
    obtain ⟨t_23, k⟩ := k
    refine R_aald rfl t_22 t_23 ?_
    obtain ⟨a_27, e_28, k⟩ := k
    rw [e_28]
    obtain ⟨t_29, k⟩ := k
    obtain ⟨t_30, k⟩ := k
    refine R_aast rfl t_29 t_30  ?_
    show WP T N _ _ _ _ (sr h a_20 (Int32.toNatClampNeg (x2 - 1)) (some a_27)) _
    generalize e_26 : sr h a_20 (Int32.toNatClampNeg (x2 - 1)) (some a_27) = h_25
    replace k := k h_25 e_26.symm
    refine R_ps 2 (pc2 := 30) (L2 := [some (vr (some w)), some (vr (some a1)), some (vi (x2 + 1))]) (st2 := []) rfl ?_
    exact k
/-- DroneCorridors$Drone.legsIn -/
theorem m25 {T N : Nat → Nat} {h : PH} {w : Nat} {x1 : Int32} {x2 : Int32} {K : Int32 → PH → Prop} (k : (WI T N 25 5 [some (vr (some w)), some (vi x1), some (vi x2), some (vi 0), some (vi 0), none] [] h K)) : CI T N 25 [vr (some w), vi x1, vi x2] h K := by
  show WP T N 25 0 [some (vr (some w)), some (vi x1), some (vi x2), none, none, none] [] h _
  refine R_ps 4 (pc2 := 5) (L2 := [some (vr (some w)), some (vi x1), some (vi x2), some (vi 0), some (vi 0), none]) (st2 := []) rfl ?_
  exact k
theorem m25_5 {T N : Nat → Nat} {h : PH} {w : Nat} {x1 : Int32} {x2 : Int32} {x3 : Int32} {x4 : Int32} {K : Int32 → PH → Prop} (t0 : T w = 3) (k : (((x4 < (gi h w 8) → (CR T N 17 [vr (some w), vi x4] h (fun x_6 h_5 => (((x_6 = none → (WI T N 25 5 [some (vr (some w)), some (vi x1), some (vi x2), some (vi x3), some (vi (x4 + 1)), none] [] h_5 K)) ∧ (∀ a_8, x_6 = some a_8 → (T a_8 = 7 ∧ (((gi h_5 a_8 0) = x1 → (((x2 = (-1) → (WI T N 25 5 [some (vr (some w)), some (vi x1), some (vi x2), some (vi (x3 + 1)), some (vi (x4 + 1)), none] [] h_5 K)) ∧ (¬ (x2 = (-1)) → ((((gi h_5 a_8 2) = x2 → (WI T N 25 5 [some (vr (some w)), some (vi x1), some (vi x2), some (vi (x3 + 1)), some (vi (x4 + 1)), none] [] h_5 K)) ∧ (¬ ((gi h_5 a_8 2) = x2) → (WI T N 25 5 [some (vr (some w)), some (vi x1), some (vi x2), some (vi x3), some (vi (x4 + 1)), none] [] h_5 K)))))))) ∧ (¬ ((gi h_5 a_8 0) = x1) → (WI T N 25 5 [some (vr (some w)), some (vi x1), some (vi x2), some (vi x3), some (vi (x4 + 1)), none] [] h_5 K)))))))))) ∧ (¬ (x4 < (gi h w 8)) → (K x3 h))))) : WI T N 25 5 [some (vr (some w)), some (vi x1), some (vi x2), some (vi x3), some (vi x4), none] [] h K := by
  show WP T N 25 5 [some (vr (some w)), some (vi x1), some (vi x2), some (vi x3), some (vi x4), none] [] h _
  refine R_ps 2 (pc2 := 8) (L2 := [some (vr (some w)), some (vi x1), some (vi x2), some (vi x3), some (vi x4), none]) (st2 := [vr (some w), vi x4]) rfl ?_
  refine R_getI rfl t0 ?_
  refine R_if rfl (fun c_2 => ?_) (fun c_2 => ?_)
  · have k := k.2 (i32_nlt c_2)
    refine R_ps 1 (pc2 := 60) (L2 := [some (vr (some w)), some (vi x1), some (vi x2), some (vi x3), some (vi x4), none]) (st2 := [vi x3]) rfl ?_
    exact R_iret rfl rfl ⟨_, rfl, k⟩
  · have k := k.1 (i32_lt c_2)
    refine R_ps 2 (pc2 := 17) (L2 := [some (vr (some w)), some (vi x1), some (vi x2), some (vi x3), some (vi x4), none]) (st2 := [vi x4, vr (some w)]) rfl ?_
    refine R_cR (as := [vr (some w), vi x4]) rfl rfl ⟨Nat.le_of_ble_eq_true rfl, Nat.le_of_ble_eq_true rfl, rfl, (Or.inr ⟨_, rfl, t0⟩)⟩ rfl rfl k (fun x_6 h_5 k => ?_)
    refine R_ps 2 (pc2 := 24) (L2 := [some (vr (some w)), some (vi x1), some (vi x2), some (vi x3), some (vi x4), some (vr x_6)]) (st2 := [vr x_6]) rfl ?_
    rcases null_or (x_6) with e_9 | ⟨a_8, e_9⟩
    · have k := k.1 e_9
      rw [e_9]
      refine R_null rfl (fun _ => ?_) (fun _ c_7 => nomatch c_7)
      refine R_ps 2 (pc2 := 5) (L2 := [some (vr (some w)), some (vi x1), some (vi x2), some (vi x3), some (vi (x4 + 1)), some (vr none)]) (st2 := []) rfl ?_
      exact R_drop k (LE_of (L := [some (vr (some w)), some (vi x1), some (vi x2), some (vi x3), some (vi (x4 + 1)), none]) (L2 := [some (vr (some w)), some (vi x1), some (vi x2), some (vi x3), some (vi (x4 + 1)), some (vr none)]) ⟨rfl, rfl, rfl, rfl, rfl, trivial⟩)
    · have k := k.2 a_8 e_9
      rw [e_9]
      refine R_null rfl (fun c_7 => nomatch c_7) (fun _ _ => ?_)
      refine R_ps 1 (pc2 := 29) (L2 := [some (vr (some w)), some (vi x1), some (vi x2), some (vi x3), some (vi x4), some (vr (some a_8))]) (st2 := [vr (some a_8)]) rfl ?_
      obtain ⟨t_11, k⟩ := k
      refine R_getI rfl t_11 ?_
      refine R_ps 1 (pc2 := 33) (L2 := [some (vr (some w)), some (vi x1), some (vi x2), some (vi x3), some (vi x4), some (vr (some a_8))]) (st2 := [vi x1, vi (gi h_5 a_8 0)]) rfl ?_
      refine R_if rfl (fun c_12 => ?_) (fun c_12 => ?_)
      · have k := k.2 c_12
        refine R_ps 2 (pc2 := 5) (L2 := [some (vr (some w)), some (vi x1), some (vi x2), some (vi x3), some (vi (x4 + 1)), some (vr (some a_8))]) (st2 := []) rfl ?_
        exact R_drop k (LE_of (L := [some (vr (some w)), some (vi x1), some (vi x2), some (vi x3), some (vi (x4 + 1)), none]) (L2 := [some (vr (some w)), some (vi x1), some (vi x2), some (vi x3), some (vi (x4 + 1)), some (vr (some a_8))]) ⟨rfl, rfl, rfl, rfl, rfl, trivial⟩)
      · have k := k.1 (Classical.not_not.mp c_12)
        refine R_ps 2 (pc2 := 38) (L2 := [some (vr (some w)), some (vi x1), some (vi x2), some (vi x3), some (vi x4), some (vr (some a_8))]) (st2 := [vi (-1), vi x2]) rfl ?_
        refine R_if rfl (fun c_13 => ?_) (fun c_13 => ?_)
        · have k := k.1 c_13
          refine R_ps 3 (pc2 := 5) (L2 := [some (vr (some w)), some (vi x1), some (vi x2), some (vi (x3 + 1)), some (vi (x4 + 1)), some (vr (some a_8))]) (st2 := []) rfl ?_
          exact R_drop k (LE_of (L := [some (vr (some w)), some (vi x1), some (vi x2), some (vi (x3 + 1)), some (vi (x4 + 1)), none]) (L2 := [some (vr (some w)), some (vi x1), some (vi x2), some (vi (x3 + 1)), some (vi (x4 + 1)), some (vr (some a_8))]) ⟨rfl, rfl, rfl, rfl, rfl, trivial⟩)
        · have k := k.2 c_13
          refine R_ps 1 (pc2 := 43) (L2 := [some (vr (some w)), some (vi x1), some (vi x2), some (vi x3), some (vi x4), some (vr (some a_8))]) (st2 := [vr (some a_8)]) rfl ?_
          refine R_getI rfl t_11 ?_
          refine R_ps 1 (pc2 := 47) (L2 := [some (vr (some w)), some (vi x1), some (vi x2), some (vi x3), some (vi x4), some (vr (some a_8))]) (st2 := [vi x2, vi (gi h_5 a_8 2)]) rfl ?_
          refine R_if rfl (fun c_15 => ?_) (fun c_15 => ?_)
          · have k := k.2 c_15
            refine R_ps 2 (pc2 := 5) (L2 := [some (vr (some w)), some (vi x1), some (vi x2), some (vi x3), some (vi (x4 + 1)), some (vr (some a_8))]) (st2 := []) rfl ?_
            exact R_drop k (LE_of (L := [some (vr (some w)), some (vi x1), some (vi x2), some (vi x3), some (vi (x4 + 1)), none]) (L2 := [some (vr (some w)), some (vi x1), some (vi x2), some (vi x3), some (vi (x4 + 1)), some (vr (some a_8))]) ⟨rfl, rfl, rfl, rfl, rfl, trivial⟩)
          · have k := k.1 (Classical.not_not.mp c_15)
            refine R_ps 3 (pc2 := 5) (L2 := [some (vr (some w)), some (vi x1), some (vi x2), some (vi (x3 + 1)), some (vi (x4 + 1)), some (vr (some a_8))]) (st2 := []) rfl ?_
            exact R_drop k (LE_of (L := [some (vr (some w)), some (vi x1), some (vi x2), some (vi (x3 + 1)), some (vi (x4 + 1)), none]) (L2 := [some (vr (some w)), some (vi x1), some (vi x2), some (vi (x3 + 1)), some (vi (x4 + 1)), some (vr (some a_8))]) ⟨rfl, rfl, rfl, rfl, rfl, trivial⟩)
/-- DroneCorridors$Drone.pairsWith -/
theorem m26 {T N : Nat → Nat} {h : PH} {w : Nat} {a1 : Nat} {x2 : Int32} {K : Int32 → PH → Prop} (k : (WI T N 26 5 [some (vr (some w)), some (vr (some a1)), some (vi x2), some (vi 0), some (vi 0), none] [] h K)) : CI T N 26 [vr (some w), vr (some a1), vi x2] h K := by
  show WP T N 26 0 [some (vr (some w)), some (vr (some a1)), some (vi x2), none, none, none] [] h _
  refine R_ps 4 (pc2 := 5) (L2 := [some (vr (some w)), some (vr (some a1)), some (vi x2), some (vi 0), some (vi 0), none]) (st2 := []) rfl ?_
  exact k
theorem m26_5 {T N : Nat → Nat} {h : PH} {w : Nat} {a1 : Nat} {x2 : Int32} {x3 : Int32} {x4 : Int32} {K : Int32 → PH → Prop} (t0 : T w = 3) (k : (((x4 < (gi h w 8) → (CR T N 17 [vr (some w), vi x4] h (fun x_6 h_5 => (((x_6 = none → (WI T N 26 5 [some (vr (some w)), some (vr (some a1)), some (vi x2), some (vi x3), some (vi (x4 + 1)), none] [] h_5 K)) ∧ (∀ a_8, x_6 = some a_8 → (T a_8 = 7 ∧ CI T N 55 [vr (some a_8), vr (some a1)] h_5 (fun x_13 h_12 => (((x_13 = 0 → (WI T N 26 5 [some (vr (some w)), some (vr (some a1)), some (vi x2), some (vi x3), some (vi (x4 + 1)), none] [] h_12 K)) ∧ (¬ (x_13 = 0) → (CI T N 56 [vr (some a_8), vr (some a1)] h_12 (fun x_17 h_16 => (((x_17 = x2 → (WI T N 26 5 [some (vr (some w)), some (vr (some a1)), some (vi x2), some (vi (x3 + 1)), some (vi (x4 + 1)), none] [] h_16 K)) ∧ (¬ (x_17 = x2) → (WI T N 26 5 [some (vr (some w)), some (vr (some a1)), some (vi x2), some (vi x3), some (vi (x4 + 1)), none] [] h_16 K))))))))))))))))) ∧ (¬ (x4 < (gi h w 8)) → (K x3 h))))) : WI T N 26 5 [some (vr (some w)), some (vr (some a1)), some (vi x2), some (vi x3), some (vi x4), none] [] h K := by
  show WP T N 26 5 [some (vr (some w)), some (vr (some a1)), some (vi x2), some (vi x3), some (vi x4), none] [] h _
  refine R_ps 2 (pc2 := 8) (L2 := [some (vr (some w)), some (vr (some a1)), some (vi x2), some (vi x3), some (vi x4), none]) (st2 := [vr (some w), vi x4]) rfl ?_
  refine R_getI rfl t0 ?_
  refine R_if rfl (fun c_2 => ?_) (fun c_2 => ?_)
  · have k := k.2 (i32_nlt c_2)
    refine R_ps 1 (pc2 := 56) (L2 := [some (vr (some w)), some (vr (some a1)), some (vi x2), some (vi x3), some (vi x4), none]) (st2 := [vi x3]) rfl ?_
    exact R_iret rfl rfl ⟨_, rfl, k⟩
  · have k := k.1 (i32_lt c_2)
    refine R_ps 2 (pc2 := 17) (L2 := [some (vr (some w)), some (vr (some a1)), some (vi x2), some (vi x3), some (vi x4), none]) (st2 := [vi x4, vr (some w)]) rfl ?_
    refine R_cR (as := [vr (some w), vi x4]) rfl rfl ⟨Nat.le_of_ble_eq_true rfl, Nat.le_of_ble_eq_true rfl, rfl, (Or.inr ⟨_, rfl, t0⟩)⟩ rfl rfl k (fun x_6 h_5 k => ?_)
    refine R_ps 2 (pc2 := 24) (L2 := [some (vr (some w)), some (vr (some a1)), some (vi x2), some (vi x3), some (vi x4), some (vr x_6)]) (st2 := [vr x_6]) rfl ?_
    rcases null_or (x_6) with e_9 | ⟨a_8, e_9⟩
    · have k := k.1 e_9
      rw [e_9]
      refine R_null rfl (fun _ => ?_) (fun _ c_7 => nomatch c_7)
      refine R_ps 2 (pc2 := 5) (L2 := [some (vr (some w)), some (vr (some a1)), some (vi x2), some (vi x3), some (vi (x4 + 1)), some (vr none)]) (st2 := []) rfl ?_
      exact R_drop k (LE_of (L := [some (vr (some w)), some (vr (some a1)), some (vi x2), some (vi x3), some (vi (x4 + 1)), none]) (L2 := [some (vr (some w)), some (vr (some a1)), some (vi x2), some (vi x3), some (vi (x4 + 1)), some (vr none)]) ⟨rfl, rfl, rfl, rfl, rfl, trivial⟩)
    · have k := k.2 a_8 e_9
      rw [e_9]
      refine R_null rfl (fun c_7 => nomatch c_7) (fun _ _ => ?_)
      refine R_ps 2 (pc2 := 30) (L2 := [some (vr (some w)), some (vr (some a1)), some (vi x2), some (vi x3), some (vi x4), some (vr (some a_8))]) (st2 := [vr (some a1), vr (some a_8)]) rfl ?_
      obtain ⟨t_11, k⟩ := k
      refine R_cI (as := [vr (some a_8), vr (some a1)]) rfl rfl ⟨Nat.le_of_ble_eq_true rfl, Nat.le_of_ble_eq_true rfl, rfl, (Or.inr ⟨_, rfl, t_11⟩)⟩ rfl rfl k (fun x_13 h_12 k => ?_)
      refine R_if0 rfl (fun c_14 => ?_) (fun c_14 => ?_)
      · have k := k.1 c_14
        refine R_ps 2 (pc2 := 5) (L2 := [some (vr (some w)), some (vr (some a1)), some (vi x2), some (vi x3), some (vi (x4 + 1)), some (vr (some a_8))]) (st2 := []) rfl ?_
        exact R_drop k (LE_of (L := [some (vr (some w)), some (vr (some a1)), some (vi x2), some (vi x3), some (vi (x4 + 1)), none]) (L2 := [some (vr (some w)), some (vr (some a1)), some (vi x2), some (vi x3), some (vi (x4 + 1)), some (vr (some a_8))]) ⟨rfl, rfl, rfl, rfl, rfl, trivial⟩)
      · have k := k.2 c_14
        refine R_ps 2 (pc2 := 39) (L2 := [some (vr (some w)), some (vr (some a1)), some (vi x2), some (vi x3), some (vi x4), some (vr (some a_8))]) (st2 := [vr (some a1), vr (some a_8)]) rfl ?_
        refine R_cI (as := [vr (some a_8), vr (some a1)]) rfl rfl ⟨Nat.le_of_ble_eq_true rfl, Nat.le_of_ble_eq_true rfl, rfl, (Or.inr ⟨_, rfl, t_11⟩)⟩ rfl rfl k (fun x_17 h_16 k => ?_)
        refine R_ps 1 (pc2 := 43) (L2 := [some (vr (some w)), some (vr (some a1)), some (vi x2), some (vi x3), some (vi x4), some (vr (some a_8))]) (st2 := [vi x2, vi x_17]) rfl ?_
        refine R_if rfl (fun c_18 => ?_) (fun c_18 => ?_)
        · have k := k.2 c_18
          refine R_ps 2 (pc2 := 5) (L2 := [some (vr (some w)), some (vr (some a1)), some (vi x2), some (vi x3), some (vi (x4 + 1)), some (vr (some a_8))]) (st2 := []) rfl ?_
          exact R_drop k (LE_of (L := [some (vr (some w)), some (vr (some a1)), some (vi x2), some (vi x3), some (vi (x4 + 1)), none]) (L2 := [some (vr (some w)), some (vr (some a1)), some (vi x2), some (vi x3), some (vi (x4 + 1)), some (vr (some a_8))]) ⟨rfl, rfl, rfl, rfl, rfl, trivial⟩)
        · have k := k.1 (Classical.not_not.mp c_18)
          refine R_ps 3 (pc2 := 5) (L2 := [some (vr (some w)), some (vr (some a1)), some (vi x2), some (vi (x3 + 1)), some (vi (x4 + 1)), some (vr (some a_8))]) (st2 := []) rfl ?_
          exact R_drop k (LE_of (L := [some (vr (some w)), some (vr (some a1)), some (vi x2), some (vi (x3 + 1)), some (vi (x4 + 1)), none]) (L2 := [some (vr (some w)), some (vr (some a1)), some (vi x2), some (vi (x3 + 1)), some (vi (x4 + 1)), some (vr (some a_8))]) ⟨rfl, rfl, rfl, rfl, rfl, trivial⟩)
/-- DroneCorridors$Drone.addsUp -/
theorem m27 {T N : Nat → Nat} {h : PH} {w : Nat} {K : Int32 → PH → Prop} (t0 : T w = 3) (k : (∃ a_3, (gr h w 7) = some a_3 ∧ T a_3 = 22 ∧ inb 0 (N a_3) ∧ ∃ a_9, (gr h w 7) = some a_9 ∧ T a_9 = 22 ∧ inb 1 (N a_9) ∧ ∃ a_15, (gr h w 7) = some a_15 ∧ T a_15 = 22 ∧ inb 2 (N a_15) ∧ ∃ a_23, (gr h w 7) = some a_23 ∧ T a_23 = 22 ∧ inb 3 (N a_23) ∧ (((((gi h w 5) + (gi h a_23 3)) - ((((gi h a_3 0) + (gi h a_9 1)) + (gi h a_15 2)) + (gi h w 6))) = (gi h w 1) → (K 1 h)) ∧ (¬ ((((gi h w 5) + (gi h a_23 3)) - ((((gi h a_3 0) + (gi h a_9 1)) + (gi h a_15 2)) + (gi h w 6))) = (gi h w 1)) → (K 0 h))))) : CI T N 27 [vr (some w)] h K := by
  show WP T N 27 0 [some (vr (some w)), none] [] h _
  refine R_ps 1 (pc2 := 1) (L2 := [some (vr (some w)), none]) (st2 := [vr (some w)]) rfl ?_
  refine R_getR rfl t0 ?_
  refine R_ps 1 (pc2 := 5) (L2 := [some (vr (some w)), none]) (st2 := [vi 0, vr (gr h w 7)]) rfl ?_
  obtain ⟨a_3, e_4, k⟩ := k
  rw [e_4]
  obtain ⟨t_5, k⟩ := k
  obtain ⟨t_6, k⟩ := k
  refine R_iald rfl (Or.inl t_5) t_6 ?_
  refine R_ps 1 (pc2 := 7) (L2 := [some (vr (some w)), none]) (st2 := [vr (some w), vi (gi h a_3 0)]) rfl ?_
  refine R_getR rfl t0 ?_
  refine R_ps 1 (pc2 := 11) (L2 := [some (vr (some w)), none]) (st2 := [vi 1, vr (gr h w 7), vi (gi h a_3 0)]) rfl ?_
  obtain ⟨a_9, e_10, k⟩ := k
  rw [e_10]
  obtain ⟨t_11, k⟩ := k
  obtain ⟨t_12, k⟩ := k
  refine R_iald rfl (Or.inl t_11) t_12 ?_
  refine R_ps 2 (pc2 := 14) (L2 := [some (vr (some w)), none]) (st2 := [vr (some w), vi ((gi h a_3 0) + (gi h a_9 1))]) rfl ?_
  refine R_getR rfl t0 ?_
  refine R_ps 1 (pc2 := 18) (L2 := [some (vr (some w)), none]) (st2 := [vi 2, vr (gr h w 7), vi ((gi h a_3 0) + (gi h a_9 1))]) rfl ?_
  obtain ⟨a_15, e_16, k⟩ := k
  rw [e_16]
  obtain ⟨t_17, k⟩ := k
  obtain ⟨t_18, k⟩ := k
  refine R_iald rfl (Or.inl t_17) t_18 ?_
  refine R_ps 2 (pc2 := 21) (L2 := [some (vr (some w)), none]) (st2 := [vr (some w), vi (((gi h a_3 0) + (gi h a_9 1)) + (gi h a_15 2))]) rfl ?_
  refine R_getI rfl t0 ?_
  refine R_ps 3 (pc2 := 27) (L2 := [some (vr (some w)), some (vi ((((gi h a_3 0) + (gi h a_9 1)) + (gi h a_15 2)) + (gi h w 6)))]) (st2 := [vr (some w)]) rfl ?_
  refine R_getI rfl t0 ?_
  refine R_ps 1 (pc2 := 31) (L2 := [some (vr (some w)), some (vi ((((gi h a_3 0) + (gi h a_9 1)) + (gi h a_15 2)) + (gi h w 6)))]) (st2 := [vr (some w), vi (gi h w 5)]) rfl ?_
  refine R_getR rfl t0 ?_
  refine R_ps 1 (pc2 := 35) (L2 := [some (vr (some w)), some (vi ((((gi h a_3 0) + (gi h a_9 1)) + (gi h a_15 2)) + (gi h w 6)))]) (st2 := [vi 3, vr (gr h w 7), vi (gi h w 5)]) rfl ?_
  obtain ⟨a_23, e_24, k⟩ := k
  rw [e_24]
  obtain ⟨t_25, k⟩ := k
  obtain ⟨t_26, k⟩ := k
  refine R_iald rfl (Or.inl t_25) t_26 ?_
  refine R_ps 4 (pc2 := 40) (L2 := [some (vr (some w)), some (vi ((((gi h a_3 0) + (gi h a_9 1)) + (gi h a_15 2)) + (gi h w 6)))]) (st2 := [vr (some w), vi (((gi h w 5) + (gi h a_23 3)) - ((((gi h a_3 0) + (gi h a_9 1)) + (gi h a_15 2)) + (gi h w 6)))]) rfl ?_
  refine R_getI rfl t0 ?_
  refine R_if rfl (fun c_28 => ?_) (fun c_28 => ?_)
  · have k := k.2 c_28
    refine R_ps 1 (pc2 := 51) (L2 := [some (vr (some w)), some (vi ((((gi h a_3 0) + (gi h a_9 1)) + (gi h a_15 2)) + (gi h w 6)))]) (st2 := [vi 0]) rfl ?_
    exact R_zret rfl rfl (Or.inl rfl) ⟨_, rfl, k⟩
  · have k := k.1 (Classical.not_not.mp c_28)
    refine R_ps 2 (pc2 := 51) (L2 := [some (vr (some w)), some (vi ((((gi h a_3 0) + (gi h a_9 1)) + (gi h a_15 2)) + (gi h w 6)))]) (st2 := [vi 1]) rfl ?_
    exact R_zret rfl rfl (Or.inr rfl) ⟨_, rfl, k⟩
/-- DroneCorridors$Drone.land -/
theorem m28 {T N : Nat → Nat} {h : PH} {w : Nat} {K : PH → Prop} (t0 : T w = 3) (k : (∀ h_2, h_2 = si h w 0 0 → ∀ h_5, h_5 = si h_2 w 2 0 → K h_5)) : CV T N 28 [vr (some w)] h K := by
  show WP T N 28 0 [some (vr (some w))] [] h _
  refine R_ps 2 (pc2 := 2) (L2 := [some (vr (some w))]) (st2 := [vi 0, vr (some w)]) rfl ?_
  refine R_putI rfl t0 ?_
  show WP T N _ _ _ _ (si h w 0 0) _
  generalize e_3 : si h w 0 0 = h_2
  replace k := k h_2 e_3.symm
  refine R_ps 2 (pc2 := 7) (L2 := [some (vr (some w))]) (st2 := [vi 0, vr (some w)]) rfl ?_
  refine R_putI rfl t0 ?_
  show WP T N _ _ _ _ (si h_2 w 2 0) _
  generalize e_6 : si h_2 w 2 0 = h_5
  replace k := k h_5 e_6.symm
  exact R_ret rfl rfl ⟨rfl, k⟩
/-- DroneCorridors$Drone.beLost -/
theorem m29 {T N : Nat → Nat} {h : PH} {w : Nat} {K : PH → Prop} (t0 : T w = 3) (k : (∀ h_2, h_2 = si h w 0 3 → ∀ h_5, h_5 = si h_2 w 8 0 → K h_5)) : CV T N 29 [vr (some w)] h K := by
  show WP T N 29 0 [some (vr (some w))] [] h _
  refine R_ps 2 (pc2 := 2) (L2 := [some (vr (some w))]) (st2 := [vi 3, vr (some w)]) rfl ?_
  refine R_putI rfl t0 ?_
  show WP T N _ _ _ _ (si h w 0 3) _
  generalize e_3 : si h w 0 3 = h_2
  replace k := k h_2 e_3.symm
  refine R_ps 2 (pc2 := 7) (L2 := [some (vr (some w))]) (st2 := [vi 0, vr (some w)]) rfl ?_
  refine R_putI rfl t0 ?_
  show WP T N _ _ _ _ (si h_2 w 8 0) _
  generalize e_6 : si h_2 w 8 0 = h_5
  replace k := k h_5 e_6.symm
  exact R_ret rfl rfl ⟨rfl, k⟩
/-- DroneCorridors$Drone.loseTo -/
theorem m30 {T N : Nat → Nat} {h : PH} {w : Nat} {x1 : Int32} {K : PH → Prop} (t0 : T w = 3) (k : ((((gi h w 0) = 2 → (∀ h_29, h_29 = si h w 1 ((gi h w 1) - (if 0 < (if ((gi h w 1) - 1) < x1 then ((gi h w 1) - 1) else x1) then (if ((gi h w 1) - 1) < x1 then ((gi h w 1) - 1) else x1) else 0)) → ∀ h_33, h_33 = si h_29 w 6 ((gi h_29 w 6) + (if 0 < (if ((gi h w 1) - 1) < x1 then ((gi h w 1) - 1) else x1) then (if ((gi h w 1) - 1) < x1 then ((gi h w 1) - 1) else x1) else 0)) → (((gi h_33 w 0) = 1 → ((((gi h_33 w 1) = 0 → (CV T N 29 [vr (some w)] h_33 (fun h_42 => (K h_42)))) ∧ (¬ ((gi h_33 w 1) = 0) → (K h_33))))) ∧ (¬ ((gi h_33 w 0) = 1) → (K h_33))))) ∧ (¬ ((gi h w 0) = 2) → (∀ h_8, h_8 = si h w 1 ((gi h w 1) - (if 0 < (if ((gi h w 1) - 0) < x1 then ((gi h w 1) - 0) else x1) then (if ((gi h w 1) - 0) < x1 then ((gi h w 1) - 0) else x1) else 0)) → ∀ h_12, h_12 = si h_8 w 6 ((gi h_8 w 6) + (if 0 < (if ((gi h w 1) - 0) < x1 then ((gi h w 1) - 0) else x1) then (if ((gi h w 1) - 0) < x1 then ((gi h w 1) - 0) else x1) else 0)) → (((gi h_12 w 0) = 1 → ((((gi h_12 w 1) = 0 → (CV T N 29 [vr (some w)] h_12 (fun h_21 => (K h_21)))) ∧ (¬ ((gi h_12 w 1) = 0) → (K h_12))))) ∧ (¬ ((gi h_12 w 0) = 1) → (K h_12)))))))) : CV T N 30 [vr (some w), vi x1] h K := by
  show WP T N 30 0 [some (vr (some w)), some (vi x1), none, none] [] h _
  refine R_ps 1 (pc2 := 1) (L2 := [some (vr (some w)), some (vi x1), none, none]) (st2 := [vr (some w)]) rfl ?_
  refine R_getI rfl t0 ?_
  refine R_ps 1 (pc2 := 5) (L2 := [some (vr (some w)), some (vi x1), none, none]) (st2 := [vi 2, vi (gi h w 0)]) rfl ?_
  refine R_if rfl (fun c_2 => ?_) (fun c_2 => ?_)
  · have k := k.2 c_2
    refine R_ps 5 (pc2 := 17) (L2 := [some (vr (some w)), some (vi x1), some (vi 0), none]) (st2 := [vr (some w), vi x1, vi 0]) rfl ?_
    refine R_getI rfl t0 ?_
    refine R_ps 2 (pc2 := 22) (L2 := [some (vr (some w)), some (vi x1), some (vi 0), none]) (st2 := [vi ((gi h w 1) - 0), vi x1, vi 0]) rfl ?_
    refine R_jdk (st2 := [vi (if ((gi h w 1) - 0) < x1 then ((gi h w 1) - 0) else x1), vi 0]) rfl rfl rfl rfl rfl rfl rfl rfl ?_
    refine R_jdk (st2 := [vi (if 0 < (if ((gi h w 1) - 0) < x1 then ((gi h w 1) - 0) else x1) then (if ((gi h w 1) - 0) < x1 then ((gi h w 1) - 0) else x1) else 0)]) rfl rfl rfl rfl rfl rfl rfl rfl ?_
    refine R_ps 3 (pc2 := 31) (L2 := [some (vr (some w)), some (vi x1), some (vi 0), some (vi (if 0 < (if ((gi h w 1) - 0) < x1 then ((gi h w 1) - 0) else x1) then (if ((gi h w 1) - 0) < x1 then ((gi h w 1) - 0) else x1) else 0))]) (st2 := [vr (some w), vr (some w)]) rfl ?_
    refine R_getI rfl t0 ?_
    refine R_ps 2 (pc2 := 36) (L2 := [some (vr (some w)), some (vi x1), some (vi 0), some (vi (if 0 < (if ((gi h w 1) - 0) < x1 then ((gi h w 1) - 0) else x1) then (if ((gi h w 1) - 0) < x1 then ((gi h w 1) - 0) else x1) else 0))]) (st2 := [vi ((gi h w 1) - (if 0 < (if ((gi h w 1) - 0) < x1 then ((gi h w 1) - 0) else x1) then (if ((gi h w 1) - 0) < x1 then ((gi h w 1) - 0) else x1) else 0)), vr (some w)]) rfl ?_
    refine R_putI rfl t0 ?_
    show WP T N _ _ _ _ (si h w 1 ((gi h w 1) - (if 0 < (if ((gi h w 1) - 0) < x1 then ((gi h w 1) - 0) else x1) then (if ((gi h w 1) - 0) < x1 then ((gi h w 1) - 0) else x1) else 0))) _
    generalize e_9 : si h w 1 ((gi h w 1) - (if 0 < (if ((gi h w 1) - 0) < x1 then ((gi h w 1) - 0) else x1) then (if ((gi h w 1) - 0) < x1 then ((gi h w 1) - 0) else x1) else 0)) = h_8
    replace k := k h_8 e_9.symm
    refine R_ps 2 (pc2 := 41) (L2 := [some (vr (some w)), some (vi x1), some (vi 0), some (vi (if 0 < (if ((gi h w 1) - 0) < x1 then ((gi h w 1) - 0) else x1) then (if ((gi h w 1) - 0) < x1 then ((gi h w 1) - 0) else x1) else 0))]) (st2 := [vr (some w), vr (some w)]) rfl ?_
    refine R_getI rfl t0 ?_
    refine R_ps 2 (pc2 := 46) (L2 := [some (vr (some w)), some (vi x1), some (vi 0), some (vi (if 0 < (if ((gi h w 1) - 0) < x1 then ((gi h w 1) - 0) else x1) then (if ((gi h w 1) - 0) < x1 then ((gi h w 1) - 0) else x1) else 0))]) (st2 := [vi ((gi h_8 w 6) + (if 0 < (if ((gi h w 1) - 0) < x1 then ((gi h w 1) - 0) else x1) then (if ((gi h w 1) - 0) < x1 then ((gi h w 1) - 0) else x1) else 0)), vr (some w)]) rfl ?_
    refine R_putI rfl t0 ?_
    show WP T N _ _ _ _ (si h_8 w 6 ((gi h_8 w 6) + (if 0 < (if ((gi h w 1) - 0) < x1 then ((gi h w 1) - 0) else x1) then (if ((gi h w 1) - 0) < x1 then ((gi h w 1) - 0) else x1) else 0))) _
    generalize e_13 : si h_8 w 6 ((gi h_8 w 6) + (if 0 < (if ((gi h w 1) - 0) < x1 then ((gi h w 1) - 0) else x1) then (if ((gi h w 1) - 0) < x1 then ((gi h w 1) - 0) else x1) else 0)) = h_12
    replace k := k h_12 e_13.symm
    refine R_ps 1 (pc2 := 50) (L2 := [some (vr (some w)), some (vi x1), some (vi 0), some (vi (if 0 < (if ((gi h w 1) - 0) < x1 then ((gi h w 1) - 0) else x1) then (if ((gi h w 1) - 0) < x1 then ((gi h w 1) - 0) else x1) else 0))]) (st2 := [vr (some w)]) rfl ?_
    refine R_getI rfl t0 ?_
    refine R_ps 1 (pc2 := 54) (L2 := [some (vr (some w)), some (vi x1), some (vi 0), some (vi (if 0 < (if ((gi h w 1) - 0) < x1 then ((gi h w 1) - 0) else x1) then (if ((gi h w 1) - 0) < x1 then ((gi h w 1) - 0) else x1) else 0))]) (st2 := [vi 1, vi (gi h_12 w 0)]) rfl ?_
    refine R_if rfl (fun c_15 => ?_) (fun c_15 => ?_)
    · have k := k.2 c_15
      exact R_ret rfl rfl ⟨rfl, k⟩
    · have k := k.1 (Classical.not_not.mp c_15)
      refine R_ps 1 (pc2 := 58) (L2 := [some (vr (some w)), some (vi x1), some (vi 0), some (vi (if 0 < (if ((gi h w 1) - 0) < x1 then ((gi h w 1) - 0) else x1) then (if ((gi h w 1) - 0) < x1 then ((gi h w 1) - 0) else x1) else 0))]) (st2 := [vr (some w)]) rfl ?_
      refine R_getI rfl t0 ?_
      refine R_if0 rfl (fun c_18 => ?_) (fun c_18 => ?_)
      · have k := k.2 c_18
        exact R_ret rfl rfl ⟨rfl, k⟩
      · have k := k.1 (Classical.not_not.mp c_18)
        refine R_ps 1 (pc2 := 65) (L2 := [some (vr (some w)), some (vi x1), some (vi 0), some (vi (if 0 < (if ((gi h w 1) - 0) < x1 then ((gi h w 1) - 0) else x1) then (if ((gi h w 1) - 0) < x1 then ((gi h w 1) - 0) else x1) else 0))]) (st2 := [vr (some w)]) rfl ?_
        refine R_cV (as := [vr (some w)]) rfl rfl ⟨Nat.le_of_ble_eq_true rfl, Nat.le_of_ble_eq_true rfl, rfl, (Or.inr ⟨_, rfl, t0⟩)⟩ rfl rfl k (fun h_21 k => ?_)
        exact R_ret rfl rfl ⟨rfl, k⟩
  · have k := k.1 (Classical.not_not.mp c_2)
    refine R_ps 6 (pc2 := 17) (L2 := [some (vr (some w)), some (vi x1), some (vi 1), none]) (st2 := [vr (some w), vi x1, vi 0]) rfl ?_
    refine R_getI rfl t0 ?_
    refine R_ps 2 (pc2 := 22) (L2 := [some (vr (some w)), some (vi x1), some (vi 1), none]) (st2 := [vi ((gi h w 1) - 1), vi x1, vi 0]) rfl ?_
    refine R_jdk (st2 := [vi (if ((gi h w 1) - 1) < x1 then ((gi h w 1) - 1) else x1), vi 0]) rfl rfl rfl rfl rfl rfl rfl rfl ?_
    refine R_jdk (st2 := [vi (if 0 < (if ((gi h w 1) - 1) < x1 then ((gi h w 1) - 1) else x1) then (if ((gi h w 1) - 1) < x1 then ((gi h w 1) - 1) else x1) else 0)]) rfl rfl rfl rfl rfl rfl rfl rfl ?_
    refine R_ps 3 (pc2 := 31) (L2 := [some (vr (some w)), some (vi x1), some (vi 1), some (vi (if 0 < (if ((gi h w 1) - 1) < x1 then ((gi h w 1) - 1) else x1) then (if ((gi h w 1) - 1) < x1 then ((gi h w 1) - 1) else x1) else 0))]) (st2 := [vr (some w), vr (some w)]) rfl ?_
    refine R_getI rfl t0 ?_
    refine R_ps 2 (pc2 := 36) (L2 := [some (vr (some w)), some (vi x1), some (vi 1), some (vi (if 0 < (if ((gi h w 1) - 1) < x1 then ((gi h w 1) - 1) else x1) then (if ((gi h w 1) - 1) < x1 then ((gi h w 1) - 1) else x1) else 0))]) (st2 := [vi ((gi h w 1) - (if 0 < (if ((gi h w 1) - 1) < x1 then ((gi h w 1) - 1) else x1) then (if ((gi h w 1) - 1) < x1 then ((gi h w 1) - 1) else x1) else 0)), vr (some w)]) rfl ?_
    refine R_putI rfl t0 ?_
    show WP T N _ _ _ _ (si h w 1 ((gi h w 1) - (if 0 < (if ((gi h w 1) - 1) < x1 then ((gi h w 1) - 1) else x1) then (if ((gi h w 1) - 1) < x1 then ((gi h w 1) - 1) else x1) else 0))) _
    generalize e_30 : si h w 1 ((gi h w 1) - (if 0 < (if ((gi h w 1) - 1) < x1 then ((gi h w 1) - 1) else x1) then (if ((gi h w 1) - 1) < x1 then ((gi h w 1) - 1) else x1) else 0)) = h_29
    replace k := k h_29 e_30.symm
    refine R_ps 2 (pc2 := 41) (L2 := [some (vr (some w)), some (vi x1), some (vi 1), some (vi (if 0 < (if ((gi h w 1) - 1) < x1 then ((gi h w 1) - 1) else x1) then (if ((gi h w 1) - 1) < x1 then ((gi h w 1) - 1) else x1) else 0))]) (st2 := [vr (some w), vr (some w)]) rfl ?_
    refine R_getI rfl t0 ?_
    refine R_ps 2 (pc2 := 46) (L2 := [some (vr (some w)), some (vi x1), some (vi 1), some (vi (if 0 < (if ((gi h w 1) - 1) < x1 then ((gi h w 1) - 1) else x1) then (if ((gi h w 1) - 1) < x1 then ((gi h w 1) - 1) else x1) else 0))]) (st2 := [vi ((gi h_29 w 6) + (if 0 < (if ((gi h w 1) - 1) < x1 then ((gi h w 1) - 1) else x1) then (if ((gi h w 1) - 1) < x1 then ((gi h w 1) - 1) else x1) else 0)), vr (some w)]) rfl ?_
    refine R_putI rfl t0 ?_
    show WP T N _ _ _ _ (si h_29 w 6 ((gi h_29 w 6) + (if 0 < (if ((gi h w 1) - 1) < x1 then ((gi h w 1) - 1) else x1) then (if ((gi h w 1) - 1) < x1 then ((gi h w 1) - 1) else x1) else 0))) _
    generalize e_34 : si h_29 w 6 ((gi h_29 w 6) + (if 0 < (if ((gi h w 1) - 1) < x1 then ((gi h w 1) - 1) else x1) then (if ((gi h w 1) - 1) < x1 then ((gi h w 1) - 1) else x1) else 0)) = h_33
    replace k := k h_33 e_34.symm
    refine R_ps 1 (pc2 := 50) (L2 := [some (vr (some w)), some (vi x1), some (vi 1), some (vi (if 0 < (if ((gi h w 1) - 1) < x1 then ((gi h w 1) - 1) else x1) then (if ((gi h w 1) - 1) < x1 then ((gi h w 1) - 1) else x1) else 0))]) (st2 := [vr (some w)]) rfl ?_
    refine R_getI rfl t0 ?_
    refine R_ps 1 (pc2 := 54) (L2 := [some (vr (some w)), some (vi x1), some (vi 1), some (vi (if 0 < (if ((gi h w 1) - 1) < x1 then ((gi h w 1) - 1) else x1) then (if ((gi h w 1) - 1) < x1 then ((gi h w 1) - 1) else x1) else 0))]) (st2 := [vi 1, vi (gi h_33 w 0)]) rfl ?_
    refine R_if rfl (fun c_36 => ?_) (fun c_36 => ?_)
    · have k := k.2 c_36
      exact R_ret rfl rfl ⟨rfl, k⟩
    · have k := k.1 (Classical.not_not.mp c_36)
      refine R_ps 1 (pc2 := 58) (L2 := [some (vr (some w)), some (vi x1), some (vi 1), some (vi (if 0 < (if ((gi h w 1) - 1) < x1 then ((gi h w 1) - 1) else x1) then (if ((gi h w 1) - 1) < x1 then ((gi h w 1) - 1) else x1) else 0))]) (st2 := [vr (some w)]) rfl ?_
      refine R_getI rfl t0 ?_
      refine R_if0 rfl (fun c_39 => ?_) (fun c_39 => ?_)
      · have k := k.2 c_39
        exact R_ret rfl rfl ⟨rfl, k⟩
      · have k := k.1 (Classical.not_not.mp c_39)
        refine R_ps 1 (pc2 := 65) (L2 := [some (vr (some w)), some (vi x1), some (vi 1), some (vi (if 0 < (if ((gi h w 1) - 1) < x1 then ((gi h w 1) - 1) else x1) then (if ((gi h w 1) - 1) < x1 then ((gi h w 1) - 1) else x1) else 0))]) (st2 := [vr (some w)]) rfl ?_
        refine R_cV (as := [vr (some w)]) rfl rfl ⟨Nat.le_of_ble_eq_true rfl, Nat.le_of_ble_eq_true rfl, rfl, (Or.inr ⟨_, rfl, t0⟩)⟩ rfl rfl k (fun h_42 k => ?_)
        exact R_ret rfl rfl ⟨rfl, k⟩
/-- DroneCorridors$Drone.passTick -/
theorem m31 {T N : Nat → Nat} {h : PH} {w : Nat} {a1 : Nat} {x2 : Int32} {K : Int32 → PH → Prop} (t0 : T w = 3) (k : (CV T N 32 [vr (some w), vr (some a1), vi x2] h (fun h_2 => ((((gi h_2 w 0) = 0 → (CV T N 34 [vr (some w)] h_2 (fun h_7 => (K 0 h_7)))) ∧ (¬ ((gi h_2 w 0) = 0) → (((gi h_2 w 0) = 1 → (CV T N 35 [vr (some w)] h_2 (fun h_11 => (K 0 h_11)))) ∧ (¬ ((gi h_2 w 0) = 1) → (((gi h_2 w 0) = 2 → (CI T N 33 [vr (some w), vr (some a1), vi (x2 + 1)] h_2 (fun x_16 h_15 => ((x_16 = 0 ∨ x_16 = 1) ∧ K x_16 h_15)))) ∧ (¬ ((gi h_2 w 0) = 2) → (K 0 h_2))))))))))) : CI T N 31 [vr (some w), vr (some a1), vi x2] h K := by
  show WP T N 31 0 [some (vr (some w)), some (vr (some a1)), some (vi x2)] [] h _
  refine R_ps 3 (pc2 := 3) (L2 := [some (vr (some w)), some (vr (some a1)), some (vi x2)]) (st2 := [vi x2, vr (some a1), vr (some w)]) rfl ?_
  refine R_cV (as := [vr (some w), vr (some a1), vi x2]) rfl rfl ⟨Nat.le_of_ble_eq_true rfl, Nat.le_of_ble_eq_true rfl, rfl, (Or.inr ⟨_, rfl, t0⟩)⟩ rfl rfl k (fun h_2 k => ?_)
  refine R_ps 1 (pc2 := 7) (L2 := [some (vr (some w)), some (vr (some a1)), some (vi x2)]) (st2 := [vr (some w)]) rfl ?_
  refine R_getI rfl t0 ?_
  refine R_tsw rfl rfl ?_
  refine ⟨fun c_5 => ?_, fun c_5 => ?_⟩
  · have k := k.1 c_5
    show WP T N _ 36 _ _ _ _
    refine R_ps 1 (pc2 := 37) (L2 := [some (vr (some w)), some (vr (some a1)), some (vi x2)]) (st2 := [vr (some w)]) rfl ?_
    refine R_cV (as := [vr (some w)]) rfl rfl ⟨Nat.le_of_ble_eq_true rfl, Nat.le_of_ble_eq_true rfl, rfl, (Or.inr ⟨_, rfl, t0⟩)⟩ rfl rfl k (fun h_7 k => ?_)
    refine R_ps 1 (pc2 := 41) (L2 := [some (vr (some w)), some (vr (some a1)), some (vi x2)]) (st2 := [vi 0]) rfl ?_
    exact R_zret rfl rfl (Or.inl rfl) ⟨_, rfl, k⟩
  replace k := k.2 c_5
  refine ⟨fun c_5 => ?_, fun c_5 => ?_⟩
  · have k := k.1 c_5
    show WP T N _ 42 _ _ _ _
    refine R_ps 1 (pc2 := 43) (L2 := [some (vr (some w)), some (vr (some a1)), some (vi x2)]) (st2 := [vr (some w)]) rfl ?_
    refine R_cV (as := [vr (some w)]) rfl rfl ⟨Nat.le_of_ble_eq_true rfl, Nat.le_of_ble_eq_true rfl, rfl, (Or.inr ⟨_, rfl, t0⟩)⟩ rfl rfl k (fun h_11 k => ?_)
    refine R_ps 1 (pc2 := 47) (L2 := [some (vr (some w)), some (vr (some a1)), some (vi x2)]) (st2 := [vi 0]) rfl ?_
    exact R_zret rfl rfl (Or.inl rfl) ⟨_, rfl, k⟩
  replace k := k.2 c_5
  refine ⟨fun c_5 => ?_, fun c_5 => ?_⟩
  · have k := k.1 c_5
    show WP T N _ 48 _ _ _ _
    refine R_ps 5 (pc2 := 53) (L2 := [some (vr (some w)), some (vr (some a1)), some (vi x2)]) (st2 := [vi (x2 + 1), vr (some a1), vr (some w)]) rfl ?_
    refine R_cI (as := [vr (some w), vr (some a1), vi (x2 + 1)]) rfl rfl ⟨Nat.le_of_ble_eq_true rfl, Nat.le_of_ble_eq_true rfl, rfl, (Or.inr ⟨_, rfl, t0⟩)⟩ rfl rfl k (fun x_16 h_15 k => ?_)
    obtain ⟨t_18, k⟩ := k
    exact R_zret rfl rfl t_18 ⟨_, rfl, k⟩
  replace k := k.2 c_5
  show WP T N _ 57 _ _ _ _
  refine R_ps 1 (pc2 := 58) (L2 := [some (vr (some w)), some (vr (some a1)), some (vi x2)]) (st2 := [vi 0]) rfl ?_
  exact R_zret rfl rfl (Or.inl rfl) ⟨_, rfl, k⟩
/-- DroneCorridors$Drone.startLegAt -/
theorem m32 {T N : Nat → Nat} {h : PH} {w : Nat} {a1 : Nat} {x2 : Int32} {K : PH → Prop} (t0 : T w = 3) (t1 : T a1 = 10) (k : (CR T N 17 [vr (some w), vi 0] h (fun x_3 h_2 => (((x_3 = none → (K h_2)) ∧ (∀ a_5, x_3 = some a_5 → (T a_5 = 7 ∧ (((gi h_2 a_5 3) = x2 → ((((gi h_2 w 0) = 2 → (K h_2)) ∧ (¬ ((gi h_2 w 0) = 2) → ((((gi h_2 w 0) = 3 → (K h_2)) ∧ (¬ ((gi h_2 w 0) = 3) → (CR T N 89 [vr (some a1), vi (gi h_2 a_5 0)] h_2 (fun x_20 h_19 => (((x_20 = none → (K h_19)) ∧ (∀ a_22, x_20 = some a_22 → (T a_22 = 2 ∧ CI T N 10 [vr (some a_22), vi (gi h_19 a_5 1)] h_19 (fun x_32 h_31 => ((((gi h_31 w 1) < ((if 0 ≤ ((gi h_19 a_5 2) - (gi h_19 w 2)) then ((gi h_19 a_5 2) - (gi h_19 w 2)) else 0 - ((gi h_19 a_5 2) - (gi h_19 w 2))) + x_32) → (∀ h_82, h_82 = si h_31 w 8 0 → ∀ h_85, h_85 = si h_82 w 4 (-1) → K h_85)) ∧ (¬ ((gi h_31 w 1) < ((if 0 ≤ ((gi h_19 a_5 2) - (gi h_19 w 2)) then ((gi h_19 a_5 2) - (gi h_19 w 2)) else 0 - ((gi h_19 a_5 2) - (gi h_19 w 2))) + x_32)) → (∀ h_37, h_37 = si h_31 w 1 ((gi h_31 w 1) - ((if 0 ≤ ((gi h_19 a_5 2) - (gi h_19 w 2)) then ((gi h_19 a_5 2) - (gi h_19 w 2)) else 0 - ((gi h_19 a_5 2) - (gi h_19 w 2))) + x_32)) → ∃ a_41, (gr h_37 w 7) = some a_41 ∧ T a_41 = 22 ∧ inb 1 (N a_41) ∧ ∀ h_46, h_46 = si h_37 a_41 1 ((gi h_37 a_41 1) + (if 0 ≤ ((gi h_19 a_5 2) - (gi h_19 w 2)) then ((gi h_19 a_5 2) - (gi h_19 w 2)) else 0 - ((gi h_19 a_5 2) - (gi h_19 w 2)))) → ∃ a_50, (gr h_46 w 7) = some a_50 ∧ T a_50 = 22 ∧ inb 0 (N a_50) ∧ ∀ h_55, h_55 = si h_46 a_50 0 ((gi h_46 a_50 0) + x_32) → ∃ a_59, (gr h_55 w 7) = some a_59 ∧ T a_59 = 22 ∧ inb 4 (N a_59) ∧ ∀ h_64, h_64 = si h_55 a_59 4 ((gi h_55 a_59 4) + 1) → ∀ h_67, h_67 = si h_64 w 0 2 → ∀ h_71, h_71 = si h_67 w 2 (gi h_67 a_5 2) → CI T N 12 [vr (some a_22), vi (gi h_71 a_5 1)] h_71 (fun x_76 h_75 => (∀ h_78, h_78 = si h_75 w 3 x_76 → K h_78)))))))))))))))))))) ∧ (¬ ((gi h_2 a_5 3) = x2) → (K h_2)))))))))) : CV T N 32 [vr (some w), vr (some a1), vi x2] h K := by
  show WP T N 32 0 [some (vr (some w)), some (vr (some a1)), some (vi x2), none, none, none, none] [] h _
  refine R_ps 2 (pc2 := 2) (L2 := [some (vr (some w)), some (vr (some a1)), some (vi x2), none, none, none, none]) (st2 := [vi 0, vr (some w)]) rfl ?_
  refine R_cR (as := [vr (some w), vi 0]) rfl rfl ⟨Nat.le_of_ble_eq_true rfl, Nat.le_of_ble_eq_true rfl, rfl, (Or.inr ⟨_, rfl, t0⟩)⟩ rfl rfl k (fun x_3 h_2 k => ?_)
  refine R_ps 2 (pc2 := 7) (L2 := [some (vr (some w)), some (vr (some a1)), some (vi x2), some (vr x_3), none, none, none]) (st2 := [vr x_3]) rfl ?_
  rcases null_or (x_3) with e_6 | ⟨a_5, e_6⟩
  · have k := k.1 e_6
    rw [e_6]
    refine R_null rfl (fun _ => ?_) (fun _ c_4 => nomatch c_4)
    exact R_ret rfl rfl ⟨rfl, k⟩
  · have k := k.2 a_5 e_6
    rw [e_6]
    refine R_null rfl (fun c_4 => nomatch c_4) (fun _ _ => ?_)
    refine R_ps 1 (pc2 := 11) (L2 := [some (vr (some w)), some (vr (some a1)), some (vi x2), some (vr (some a_5)), none, none, none]) (st2 := [vr (some a_5)]) rfl ?_
    obtain ⟨t_9, k⟩ := k
    refine R_getI rfl t_9 ?_
    refine R_ps 1 (pc2 := 15) (L2 := [some (vr (some w)), some (vr (some a1)), some (vi x2), some (vr (some a_5)), none, none, none]) (st2 := [vi x2, vi (gi h_2 a_5 3)]) rfl ?_
    refine R_if rfl (fun c_10 => ?_) (fun c_10 => ?_)
    · have k := k.2 c_10
      exact R_ret rfl rfl ⟨rfl, k⟩
    · have k := k.1 (Classical.not_not.mp c_10)
      refine R_ps 1 (pc2 := 19) (L2 := [some (vr (some w)), some (vr (some a1)), some (vi x2), some (vr (some a_5)), none, none, none]) (st2 := [vr (some w)]) rfl ?_
      refine R_getI rfl t0 ?_
      refine R_ps 1 (pc2 := 23) (L2 := [some (vr (some w)), some (vr (some a1)), some (vi x2), some (vr (some a_5)), none, none, none]) (st2 := [vi 2, vi (gi h_2 w 0)]) rfl ?_
      refine R_if rfl (fun c_13 => ?_) (fun c_13 => ?_)
      · have k := k.1 c_13
        exact R_ret rfl rfl ⟨rfl, k⟩
      · have k := k.2 c_13
        refine R_ps 1 (pc2 := 27) (L2 := [some (vr (some w)), some (vr (some a1)), some (vi x2), some (vr (some a_5)), none, none, none]) (st2 := [vr (some w)]) rfl ?_
        refine R_getI rfl t0 ?_
        refine R_ps 1 (pc2 := 31) (L2 := [some (vr (some w)), some (vr (some a1)), some (vi x2), some (vr (some a_5)), none, none, none]) (st2 := [vi 3, vi (gi h_2 w 0)]) rfl ?_
        refine R_if rfl (fun c_16 => ?_) (fun c_16 => ?_)
        · have k := k.2 c_16
          refine R_ps 2 (pc2 := 37) (L2 := [some (vr (some w)), some (vr (some a1)), some (vi x2), some (vr (some a_5)), none, none, none]) (st2 := [vr (some a_5), vr (some a1)]) rfl ?_
          refine R_getI rfl t_9 ?_
          refine R_cR (as := [vr (some a1), vi (gi h_2 a_5 0)]) rfl rfl ⟨Nat.le_of_ble_eq_true rfl, Nat.le_of_ble_eq_true rfl, rfl, (Or.inr ⟨_, rfl, t1⟩)⟩ rfl rfl k (fun x_20 h_19 k => ?_)
          refine R_ps 2 (pc2 := 47) (L2 := [some (vr (some w)), some (vr (some a1)), some (vi x2), some (vr (some a_5)), some (vr x_20), none, none]) (st2 := [vr x_20]) rfl ?_
          rcases null_or (x_20) with e_23 | ⟨a_22, e_23⟩
          · have k := k.1 e_23
            rw [e_23]
            refine R_nonnull rfl (fun _ => ?_) (fun _ c_21 => nomatch c_21)
            exact R_ret rfl rfl ⟨rfl, k⟩
          · have k := k.2 a_22 e_23
            rw [e_23]
            refine R_nonnull rfl (fun c_21 => nomatch c_21) (fun _ _ => ?_)
            refine R_ps 1 (pc2 := 52) (L2 := [some (vr (some w)), some (vr (some a1)), some (vi x2), some (vr (some a_5)), some (vr (some a_22)), none, none]) (st2 := [vr (some a_5)]) rfl ?_
            refine R_getI rfl t_9 ?_
            refine R_ps 1 (pc2 := 56) (L2 := [some (vr (some w)), some (vr (some a1)), some (vi x2), some (vr (some a_5)), some (vr (some a_22)), none, none]) (st2 := [vr (some w), vi (gi h_19 a_5 2)]) rfl ?_
            refine R_getI rfl t0 ?_
            refine R_ps 1 (pc2 := 60) (L2 := [some (vr (some w)), some (vr (some a1)), some (vi x2), some (vr (some a_5)), some (vr (some a_22)), none, none]) (st2 := [vi ((gi h_19 a_5 2) - (gi h_19 w 2))]) rfl ?_
            refine R_jdk (st2 := [vi (if 0 ≤ ((gi h_19 a_5 2) - (gi h_19 w 2)) then ((gi h_19 a_5 2) - (gi h_19 w 2)) else 0 - ((gi h_19 a_5 2) - (gi h_19 w 2)))]) rfl rfl rfl rfl rfl rfl rfl rfl ?_
            refine R_ps 3 (pc2 := 68) (L2 := [some (vr (some w)), some (vr (some a1)), some (vi x2), some (vr (some a_5)), some (vr (some a_22)), some (vi (if 0 ≤ ((gi h_19 a_5 2) - (gi h_19 w 2)) then ((gi h_19 a_5 2) - (gi h_19 w 2)) else 0 - ((gi h_19 a_5 2) - (gi h_19 w 2)))), none]) (st2 := [vr (some a_5), vr (some a_22)]) rfl ?_
            refine R_getI rfl t_9 ?_
            obtain ⟨t_30, k⟩ := k
            refine R_cI (as := [vr (some a_22), vi (gi h_19 a_5 1)]) rfl rfl ⟨Nat.le_of_ble_eq_true rfl, Nat.le_of_ble_eq_true rfl, rfl, (Or.inr ⟨_, rfl, t_30⟩)⟩ rfl rfl k (fun x_32 h_31 k => ?_)
            refine R_ps 2 (pc2 := 77) (L2 := [some (vr (some w)), some (vr (some a1)), some (vi x2), some (vr (some a_5)), some (vr (some a_22)), some (vi (if 0 ≤ ((gi h_19 a_5 2) - (gi h_19 w 2)) then ((gi h_19 a_5 2) - (gi h_19 w 2)) else 0 - ((gi h_19 a_5 2) - (gi h_19 w 2)))), some (vi x_32)]) (st2 := [vr (some w)]) rfl ?_
            refine R_getI rfl t0 ?_
            refine R_ps 3 (pc2 := 85) (L2 := [some (vr (some w)), some (vr (some a1)), some (vi x2), some (vr (some a_5)), some (vr (some a_22)), some (vi (if 0 ≤ ((gi h_19 a_5 2) - (gi h_19 w 2)) then ((gi h_19 a_5 2) - (gi h_19 w 2)) else 0 - ((gi h_19 a_5 2) - (gi h_19 w 2)))), some (vi x_32)]) (st2 := [vi ((if 0 ≤ ((gi h_19 a_5 2) - (gi h_19 w 2)) then ((gi h_19 a_5 2) - (gi h_19 w 2)) else 0 - ((gi h_19 a_5 2) - (gi h_19 w 2))) + x_32), vi (gi h_31 w 1)]) rfl ?_
            refine R_if rfl (fun c_34 => ?_) (fun c_34 => ?_)
            · have k := k.2 (i32_nlt c_34)
              refine R_ps 2 (pc2 := 101) (L2 := [some (vr (some w)), some (vr (some a1)), some (vi x2), some (vr (some a_5)), some (vr (some a_22)), some (vi (if 0 ≤ ((gi h_19 a_5 2) - (gi h_19 w 2)) then ((gi h_19 a_5 2) - (gi h_19 w 2)) else 0 - ((gi h_19 a_5 2) - (gi h_19 w 2)))), some (vi x_32)]) (st2 := [vr (some w), vr (some w)]) rfl ?_
              refine R_getI rfl t0 ?_
              refine R_ps 4 (pc2 := 110) (L2 := [some (vr (some w)), some (vr (some a1)), some (vi x2), some (vr (some a_5)), some (vr (some a_22)), some (vi (if 0 ≤ ((gi h_19 a_5 2) - (gi h_19 w 2)) then ((gi h_19 a_5 2) - (gi h_19 w 2)) else 0 - ((gi h_19 a_5 2) - (gi h_19 w 2)))), some (vi x_32)]) (st2 := [vi ((gi h_31 w 1) - ((if 0 ≤ ((gi h_19 a_5 2) - (gi h_19 w 2)) then ((gi h_19 a_5 2) - (gi h_19 w 2)) else 0 - ((gi h_19 a_5 2) - (gi h_19 w 2))) + x_32)), vr (some w)]) rfl ?_
              refine R_putI rfl t0 ?_
              show WP T N _ _ _ _ (si h_31 w 1 ((gi h_31 w 1) - ((if 0 ≤ ((gi h_19 a_5 2) - (gi h_19 w 2)) then ((gi h_19 a_5 2) - (gi h_19 w 2)) else 0 - ((gi h_19 a_5 2) - (gi h_19 w 2))) + x_32))) _
              generalize e_38 : si h_31 w 1 ((gi h_31 w 1) - ((if 0 ≤ ((gi h_19 a_5 2) - (gi h_19 w 2)) then ((gi h_19 a_5 2) - (gi h_19 w 2)) else 0 - ((gi h_19 a_5 2) - (gi h_19 w 2))) + x_32)) = h_37
              replace k := k h_37 e_38.symm
              refine R_ps 1 (pc2 := 114) (L2 := [some (vr (some w)), some (vr (some a1)), some (vi x2), some (vr (some a_5)), some (vr (some a_22)), some (vi (if 0 ≤ ((gi h_19 a_5 2) - (gi h_19 w 2)) then ((gi h_19 a_5 2) - (gi h_19 w 2)) else 0 - ((gi h_19 a_5 2) - (gi h_19 w 2)))), some (vi x_32)]) (st2 := [vr (some w)]) rfl ?_
              refine R_getR rfl t0 ?_
              refine R_ps 2 (pc2 := 119) (L2 := [some (vr (some w)), some (vr (some a1)), some (vi x2), some (vr (some a_5)), some (vr (some a_22)), some (vi (if 0 ≤ ((gi h_19 a_5 2) - (gi h_19 w 2)) then ((gi h_19 a_5 2) - (gi h_19 w 2)) else 0 - ((gi h_19 a_5 2) - (gi h_19 w 2)))), some (vi x_32)]) (st2 := [vi 1, vr (gr h_37 w 7), vi 1, vr (gr h_37 w 7)]) rfl ?_
              obtain ⟨a_41, e_42, k⟩ := k
              rw [e_42]
              obtain ⟨t_43, k⟩ := k
              obtain ⟨t_44, k⟩ := k
              refine R_iald rfl (Or.inl t_43) t_44 ?_
              refine R_ps 2 (pc2 := 123) (L2 := [some (vr (some w)), some (vr (some a1)), some (vi x2), some (vr (some a_5)), some (vr (some a_22)), some (vi (if 0 ≤ ((gi h_19 a_5 2) - (gi h_19 w 2)) then ((gi h_19 a_5 2) - (gi h_19 w 2)) else 0 - ((gi h_19 a_5 2) - (gi h_19 w 2)))), some (vi x_32)]) (st2 := [vi ((gi h_37 a_41 1) + (if 0 ≤ ((gi h_19 a_5 2) - (gi h_19 w 2)) then ((gi h_19 a_5 2) - (gi h_19 w 2)) else 0 - ((gi h_19 a_5 2) - (gi h_19 w 2)))), vi 1, vr (some a_41)]) rfl ?_
              refine R_iast rfl t_43 t_44  ?_
              show WP T N _ _ _ _ (si h_37 a_41 1 ((gi h_37 a_41 1) + (if 0 ≤ ((gi h_19 a_5 2) - (gi h_19 w 2)) then ((gi h_19 a_5 2) - (gi h_19 w 2)) else 0 - ((gi h_19 a_5 2) - (gi h_19 w 2))))) _
              generalize e_47 : si h_37 a_41 1 ((gi h_37 a_41 1) + (if 0 ≤ ((gi h_19 a_5 2) - (gi h_19 w 2)) then ((gi h_19 a_5 2) - (gi h_19 w 2)) else 0 - ((gi h_19 a_5 2) - (gi h_19 w 2)))) = h_46
              replace k := k h_46 e_47.symm
              refine R_ps 1 (pc2 := 125) (L2 := [some (vr (some w)), some (vr (some a1)), some (vi x2), some (vr (some a_5)), some (vr (some a_22)), some (vi (if 0 ≤ ((gi h_19 a_5 2) - (gi h_19 w 2)) then ((gi h_19 a_5 2) - (gi h_19 w 2)) else 0 - ((gi h_19 a_5 2) - (gi h_19 w 2)))), some (vi x_32)]) (st2 := [vr (some w)]) rfl ?_
              refine R_getR rfl t0 ?_
              refine R_ps 2 (pc2 := 130) (L2 := [some (vr (some w)), some (vr (some a1)), some (vi x2), some (vr (some a_5)), some (vr (some a_22)), some (vi (if 0 ≤ ((gi h_19 a_5 2) - (gi h_19 w 2)) then ((gi h_19 a_5 2) - (gi h_19 w 2)) else 0 - ((gi h_19 a_5 2) - (gi h_19 w 2)))), some (vi x_32)]) (st2 := [vi 0, vr (gr h_46 w 7), vi 0, vr (gr h_46 w 7)]) rfl ?_
              obtain ⟨a_50, e_51, k⟩ := k
              rw [e_51]
              obtain ⟨t_52, k⟩ := k
              obtain ⟨t_53, k⟩ := k
              refine R_iald rfl (Or.inl t_52) t_53 ?_
              refine R_ps 2 (pc2 := 134) (L2 := [some (vr (some w)), some (vr (some a1)), some (vi x2), some (vr (some a_5)), some (vr (some a_22)), some (vi (if 0 ≤ ((gi h_19 a_5 2) - (gi h_19 w 2)) then ((gi h_19 a_5 2) - (gi h_19 w 2)) else 0 - ((gi h_19 a_5 2) - (gi h_19 w 2)))), some (vi x_32)]) (st2 := [vi ((gi h_46 a_50 0) + x_32), vi 0, vr (some a_50)]) rfl ?_
              refine R_iast rfl t_52 t_53  ?_
              show WP T N _ _ _ _ (si h_46 a_50 0 ((gi h_46 a_50 0) + x_32)) _
              generalize e_56 : si h_46 a_50 0 ((gi h_46 a_50 0) + x_32) = h_55
              replace k := k h_55 e_56.symm
              refine R_ps 1 (pc2 := 136) (L2 := [some (vr (some w)), some (vr (some a1)), some (vi x2), some (vr (some a_5)), some (vr (some a_22)), some (vi (if 0 ≤ ((gi h_19 a_5 2) - (gi h_19 w 2)) then ((gi h_19 a_5 2) - (gi h_19 w 2)) else 0 - ((gi h_19 a_5 2) - (gi h_19 w 2)))), some (vi x_32)]) (st2 := [vr (some w)]) rfl ?_
              refine R_getR rfl t0 ?_
              refine R_ps 2 (pc2 := 141) (L2 := [some (vr (some w)), some (vr (some a1)), some (vi x2), some (vr (some a_5)), some (vr (some a_22)), some (vi (if 0 ≤ ((gi h_19 a_5 2) - (gi h_19 w 2)) then ((gi h_19 a_5 2) - (gi h_19 w 2)) else 0 - ((gi h_19 a_5 2) - (gi h_19 w 2)))), some (vi x_32)]) (st2 := [vi 4, vr (gr h_55 w 7), vi 4, vr (gr h_55 w 7)]) rfl ?_
              obtain ⟨a_59, e_60, k⟩ := k
              rw [e_60]
              obtain ⟨t_61, k⟩ := k
              obtain ⟨t_62, k⟩ := k
              refine R_iald rfl (Or.inl t_61) t_62 ?_
              refine R_ps 2 (pc2 := 144) (L2 := [some (vr (some w)), some (vr (some a1)), some (vi x2), some (vr (some a_5)), some (vr (some a_22)), some (vi (if 0 ≤ ((gi h_19 a_5 2) - (gi h_19 w 2)) then ((gi h_19 a_5 2) - (gi h_19 w 2)) else 0 - ((gi h_19 a_5 2) - (gi h_19 w 2)))), some (vi x_32)]) (st2 := [vi ((gi h_55 a_59 4) + 1), vi 4, vr (some a_59)]) rfl ?_
              refine R_iast rfl t_61 t_62  ?_
              show WP T N _ _ _ _ (si h_55 a_59 4 ((gi h_55 a_59 4) + 1)) _
              generalize e_65 : si h_55 a_59 4 ((gi h_55 a_59 4) + 1) = h_64
              replace k := k h_64 e_65.symm
              refine R_ps 2 (pc2 := 147) (L2 := [some (vr (some w)), some (vr (some a1)), some (vi x2), some (vr (some a_5)), some (vr (some a_22)), some (vi (if 0 ≤ ((gi h_19 a_5 2) - (gi h_19 w 2)) then ((gi h_19 a_5 2) - (gi h_19 w 2)) else 0 - ((gi h_19 a_5 2) - (gi h_19 w 2)))), some (vi x_32)]) (st2 := [vi 2, vr (some w)]) rfl ?_
              refine R_putI rfl t0 ?_
              show WP T N _ _ _ _ (si h_64 w 0 2) _
              generalize e_68 : si h_64 w 0 2 = h_67
              replace k := k h_67 e_68.symm
              refine R_ps 2 (pc2 := 152) (L2 := [some (vr (some w)), some (vr (some a1)), some (vi x2), some (vr (some a_5)), some (vr (some a_22)), some (vi (if 0 ≤ ((gi h_19 a_5 2) - (gi h_19 w 2)) then ((gi h_19 a_5 2) - (gi h_19 w 2)) else 0 - ((gi h_19 a_5 2) - (gi h_19 w 2)))), some (vi x_32)]) (st2 := [vr (some a_5), vr (some w)]) rfl ?_
              refine R_getI rfl t_9 ?_
              refine R_putI rfl t0 ?_
              show WP T N _ _ _ _ (si h_67 w 2 (gi h_67 a_5 2)) _
              generalize e_72 : si h_67 w 2 (gi h_67 a_5 2) = h_71
              replace k := k h_71 e_72.symm
              refine R_ps 3 (pc2 := 162) (L2 := [some (vr (some w)), some (vr (some a1)), some (vi x2), some (vr (some a_5)), some (vr (some a_22)), some (vi (if 0 ≤ ((gi h_19 a_5 2) - (gi h_19 w 2)) then ((gi h_19 a_5 2) - (gi h_19 w 2)) else 0 - ((gi h_19 a_5 2) - (gi h_19 w 2)))), some (vi x_32)]) (st2 := [vr (some a_5), vr (some a_22), vr (some w)]) rfl ?_
              refine R_getI rfl t_9 ?_
              refine R_cI (as := [vr (some a_22), vi (gi h_71 a_5 1)]) rfl rfl ⟨Nat.le_of_ble_eq_true rfl, Nat.le_of_ble_eq_true rfl, rfl, (Or.inr ⟨_, rfl, t_30⟩)⟩ rfl rfl k (fun x_76 h_75 k => ?_)
              refine R_putI rfl t0 ?_
              show WP T N _ _ _ _ (si h_75 w 3 x_76) _
              generalize e_79 : si h_75 w 3 x_76 = h_78
              replace k := k h_78 e_79.symm
              exact R_ret rfl rfl ⟨rfl, k⟩
            · have k := k.1 (i32_lt c_34)
              refine R_ps 2 (pc2 := 90) (L2 := [some (vr (some w)), some (vr (some a1)), some (vi x2), some (vr (some a_5)), some (vr (some a_22)), some (vi (if 0 ≤ ((gi h_19 a_5 2) - (gi h_19 w 2)) then ((gi h_19 a_5 2) - (gi h_19 w 2)) else 0 - ((gi h_19 a_5 2) - (gi h_19 w 2)))), some (vi x_32)]) (st2 := [vi 0, vr (some w)]) rfl ?_
              refine R_putI rfl t0 ?_
              show WP T N _ _ _ _ (si h_31 w 8 0) _
              generalize e_83 : si h_31 w 8 0 = h_82
              replace k := k h_82 e_83.symm
              refine R_ps 2 (pc2 := 95) (L2 := [some (vr (some w)), some (vr (some a1)), some (vi x2), some (vr (some a_5)), some (vr (some a_22)), some (vi (if 0 ≤ ((gi h_19 a_5 2) - (gi h_19 w 2)) then ((gi h_19 a_5 2) - (gi h_19 w 2)) else 0 - ((gi h_19 a_5 2) - (gi h_19 w 2)))), some (vi x_32)]) (st2 := [vi (-1), vr (some w)]) rfl ?_
              refine R_putI rfl t0 ?_
              show WP T N _ _ _ _ (si h_82 w 4 (-1)) _
              generalize e_86 : si h_82 w 4 (-1) = h_85
              replace k := k h_85 e_86.symm
              exact R_ret rfl rfl ⟨rfl, k⟩
        · have k := k.1 (Classical.not_not.mp c_16)
          exact R_ret rfl rfl ⟨rfl, k⟩
/-- DroneCorridors$Drone.endLegAt -/
theorem m33 {T N : Nat → Nat} {h : PH} {w : Nat} {a1 : Nat} {x2 : Int32} {K : Int32 → PH → Prop} (t0 : T w = 3) (t1 : T a1 = 10) (k : (CR T N 17 [vr (some w), vi 0] h (fun x_3 h_2 => (((x_3 = none → (K 0 h_2)) ∧ (∀ a_5, x_3 = some a_5 → (T a_5 = 7 ∧ (((gi h_2 a_5 4) = x2 → (CV T N 24 [vr (some w)] h_2 (fun h_12 => (∀ h_15, h_15 = si h_12 w 0 1 → ((0 < (gi h_15 w 8) → (K 0 h_15)) ∧ (¬ (0 < (gi h_15 w 8)) → ((((gi h_15 w 4) = (gi h_15 w 3) → (CI T N 145 [vi (gi h_15 a1 2), vi (gi h_15 w 3)] h_15 (fun x_28 h_27 => (((x_28 = 0 → (K 0 h_27)) ∧ (¬ (x_28 = 0) → (CV T N 28 [vr (some w)] h_27 (fun h_31 => (K 1 h_31))))))))) ∧ (¬ ((gi h_15 w 4) = (gi h_15 w 3)) → (K 0 h_15)))))))))) ∧ (¬ ((gi h_2 a_5 4) = x2) → (K 0 h_2)))))))))) : CI T N 33 [vr (some w), vr (some a1), vi x2] h K := by
  show WP T N 33 0 [some (vr (some w)), some (vr (some a1)), some (vi x2), none] [] h _
  refine R_ps 2 (pc2 := 2) (L2 := [some (vr (some w)), some (vr (some a1)), some (vi x2), none]) (st2 := [vi 0, vr (some w)]) rfl ?_
  refine R_cR (as := [vr (some w), vi 0]) rfl rfl ⟨Nat.le_of_ble_eq_true rfl, Nat.le_of_ble_eq_true rfl, rfl, (Or.inr ⟨_, rfl, t0⟩)⟩ rfl rfl k (fun x_3 h_2 k => ?_)
  refine R_ps 2 (pc2 := 7) (L2 := [some (vr (some w)), some (vr (some a1)), some (vi x2), some (vr x_3)]) (st2 := [vr x_3]) rfl ?_
  rcases null_or (x_3) with e_6 | ⟨a_5, e_6⟩
  · have k := k.1 e_6
    rw [e_6]
    refine R_null rfl (fun _ => ?_) (fun _ c_4 => nomatch c_4)
    refine R_ps 1 (pc2 := 19) (L2 := [some (vr (some w)), some (vr (some a1)), some (vi x2), some (vr none)]) (st2 := [vi 0]) rfl ?_
    exact R_zret rfl rfl (Or.inl rfl) ⟨_, rfl, k⟩
  · have k := k.2 a_5 e_6
    rw [e_6]
    refine R_null rfl (fun c_4 => nomatch c_4) (fun _ _ => ?_)
    refine R_ps 1 (pc2 := 11) (L2 := [some (vr (some w)), some (vr (some a1)), some (vi x2), some (vr (some a_5))]) (st2 := [vr (some a_5)]) rfl ?_
    obtain ⟨t_9, k⟩ := k
    refine R_getI rfl t_9 ?_
    refine R_ps 1 (pc2 := 15) (L2 := [some (vr (some w)), some (vr (some a1)), some (vi x2), some (vr (some a_5))]) (st2 := [vi x2, vi (gi h_2 a_5 4)]) rfl ?_
    refine R_if rfl (fun c_10 => ?_) (fun c_10 => ?_)
    · have k := k.1 c_10
      refine R_ps 1 (pc2 := 21) (L2 := [some (vr (some w)), some (vr (some a1)), some (vi x2), some (vr (some a_5))]) (st2 := [vr (some w)]) rfl ?_
      refine R_cV (as := [vr (some w)]) rfl rfl ⟨Nat.le_of_ble_eq_true rfl, Nat.le_of_ble_eq_true rfl, rfl, (Or.inr ⟨_, rfl, t0⟩)⟩ rfl rfl k (fun h_12 k => ?_)
      refine R_ps 2 (pc2 := 26) (L2 := [some (vr (some w)), some (vr (some a1)), some (vi x2), some (vr (some a_5))]) (st2 := [vi 1, vr (some w)]) rfl ?_
      refine R_putI rfl t0 ?_
      show WP T N _ _ _ _ (si h_12 w 0 1) _
      generalize e_16 : si h_12 w 0 1 = h_15
      replace k := k h_15 e_16.symm
      refine R_ps 1 (pc2 := 30) (L2 := [some (vr (some w)), some (vr (some a1)), some (vi x2), some (vr (some a_5))]) (st2 := [vr (some w)]) rfl ?_
      refine R_getI rfl t0 ?_
      refine R_if0 rfl (fun c_18 => ?_) (fun c_18 => ?_)
      · have k := k.1 c_18
        refine R_ps 1 (pc2 := 62) (L2 := [some (vr (some w)), some (vr (some a1)), some (vi x2), some (vr (some a_5))]) (st2 := [vi 0]) rfl ?_
        exact R_zret rfl rfl (Or.inl rfl) ⟨_, rfl, k⟩
      · have k := k.2 c_18
        refine R_ps 1 (pc2 := 37) (L2 := [some (vr (some w)), some (vr (some a1)), some (vi x2), some (vr (some a_5))]) (st2 := [vr (some w)]) rfl ?_
        refine R_getI rfl t0 ?_
        refine R_ps 1 (pc2 := 41) (L2 := [some (vr (some w)), some (vr (some a1)), some (vi x2), some (vr (some a_5))]) (st2 := [vr (some w), vi (gi h_15 w 4)]) rfl ?_
        refine R_getI rfl t0 ?_
        refine R_if rfl (fun c_22 => ?_) (fun c_22 => ?_)
        · have k := k.2 c_22
          refine R_ps 1 (pc2 := 62) (L2 := [some (vr (some w)), some (vr (some a1)), some (vi x2), some (vr (some a_5))]) (st2 := [vi 0]) rfl ?_
          exact R_zret rfl rfl (Or.inl rfl) ⟨_, rfl, k⟩
        · have k := k.1 (Classical.not_not.mp c_22)
          refine R_ps 1 (pc2 := 48) (L2 := [some (vr (some w)), some (vr (some a1)), some (vi x2), some (vr (some a_5))]) (st2 := [vr (some a1)]) rfl ?_
          refine R_getI rfl t1 ?_
          refine R_ps 1 (pc2 := 52) (L2 := [some (vr (some w)), some (vr (some a1)), some (vi x2), some (vr (some a_5))]) (st2 := [vr (some w), vi (gi h_15 a1 2)]) rfl ?_
          refine R_getI rfl t0 ?_
          refine R_cI (as := [vi (gi h_15 a1 2), vi (gi h_15 w 3)]) rfl rfl ⟨Nat.le_of_ble_eq_true rfl, Nat.le_of_ble_eq_true rfl, rfl, (Or.inl rfl)⟩ rfl rfl k (fun x_28 h_27 k => ?_)
          refine R_if0 rfl (fun c_29 => ?_) (fun c_29 => ?_)
          · have k := k.2 c_29
            refine R_ps 1 (pc2 := 64) (L2 := [some (vr (some w)), some (vr (some a1)), some (vi x2), some (vr (some a_5))]) (st2 := [vr (some w)]) rfl ?_
            refine R_cV (as := [vr (some w)]) rfl rfl ⟨Nat.le_of_ble_eq_true rfl, Nat.le_of_ble_eq_true rfl, rfl, (Or.inr ⟨_, rfl, t0⟩)⟩ rfl rfl k (fun h_31 k => ?_)
            refine R_ps 1 (pc2 := 68) (L2 := [some (vr (some w)), some (vr (some a1)), some (vi x2), some (vr (some a_5))]) (st2 := [vi 1]) rfl ?_
            exact R_zret rfl rfl (Or.inr rfl) ⟨_, rfl, k⟩
          · have k := k.1 (Classical.not_not.mp c_29)
            refine R_ps 1 (pc2 := 62) (L2 := [some (vr (some w)), some (vr (some a1)), some (vi x2), some (vr (some a_5))]) (st2 := [vi 0]) rfl ?_
            exact R_zret rfl rfl (Or.inl rfl) ⟨_, rfl, k⟩
    · have k := k.2 c_10
      refine R_ps 1 (pc2 := 19) (L2 := [some (vr (some w)), some (vr (some a1)), some (vi x2), some (vr (some a_5))]) (st2 := [vi 0]) rfl ?_
      exact R_zret rfl rfl (Or.inl rfl) ⟨_, rfl, k⟩
/-- DroneCorridors$Drone.chargeTick -/
theorem m34 {T N : Nat → Nat} {h : PH} {w : Nat} {K : PH → Prop} (t0 : T w = 3) (k : (∀ h_5, h_5 = si h w 1 ((gi h w 1) + (if (200 - (gi h w 1)) < 3 then (200 - (gi h w 1)) else 3)) → ∃ a_9, (gr h_5 w 7) = some a_9 ∧ T a_9 = 22 ∧ inb 3 (N a_9) ∧ ∀ h_14, h_14 = si h_5 a_9 3 ((gi h_5 a_9 3) + (if (200 - (gi h w 1)) < 3 then (200 - (gi h w 1)) else 3)) → K h_14)) : CV T N 34 [vr (some w)] h K := by
  show WP T N 34 0 [some (vr (some w)), none] [] h _
  refine R_ps 3 (pc2 := 5) (L2 := [some (vr (some w)), none]) (st2 := [vr (some w), vi 200, vi 3]) rfl ?_
  refine R_getI rfl t0 ?_
  refine R_ps 1 (pc2 := 9) (L2 := [some (vr (some w)), none]) (st2 := [vi (200 - (gi h w 1)), vi 3]) rfl ?_
  refine R_jdk (st2 := [vi (if (200 - (gi h w 1)) < 3 then (200 - (gi h w 1)) else 3)]) rfl rfl rfl rfl rfl rfl rfl rfl ?_
  refine R_ps 3 (pc2 := 15) (L2 := [some (vr (some w)), some (vi (if (200 - (gi h w 1)) < 3 then (200 - (gi h w 1)) else 3))]) (st2 := [vr (some w), vr (some w)]) rfl ?_
  refine R_getI rfl t0 ?_
  refine R_ps 2 (pc2 := 20) (L2 := [some (vr (some w)), some (vi (if (200 - (gi h w 1)) < 3 then (200 - (gi h w 1)) else 3))]) (st2 := [vi ((gi h w 1) + (if (200 - (gi h w 1)) < 3 then (200 - (gi h w 1)) else 3)), vr (some w)]) rfl ?_
  refine R_putI rfl t0 ?_
  show WP T N _ _ _ _ (si h w 1 ((gi h w 1) + (if (200 - (gi h w 1)) < 3 then (200 - (gi h w 1)) else 3))) _
  generalize e_6 : si h w 1 ((gi h w 1) + (if (200 - (gi h w 1)) < 3 then (200 - (gi h w 1)) else 3)) = h_5
  replace k := k h_5 e_6.symm
  refine R_ps 1 (pc2 := 24) (L2 := [some (vr (some w)), some (vi (if (200 - (gi h w 1)) < 3 then (200 - (gi h w 1)) else 3))]) (st2 := [vr (some w)]) rfl ?_
  refine R_getR rfl t0 ?_
  refine R_ps 2 (pc2 := 29) (L2 := [some (vr (some w)), some (vi (if (200 - (gi h w 1)) < 3 then (200 - (gi h w 1)) else 3))]) (st2 := [vi 3, vr (gr h_5 w 7), vi 3, vr (gr h_5 w 7)]) rfl ?_
  obtain ⟨a_9, e_10, k⟩ := k
  rw [e_10]
  obtain ⟨t_11, k⟩ := k
  obtain ⟨t_12, k⟩ := k
  refine R_iald rfl (Or.inl t_11) t_12 ?_
  refine R_ps 2 (pc2 := 32) (L2 := [some (vr (some w)), some (vi (if (200 - (gi h w 1)) < 3 then (200 - (gi h w 1)) else 3))]) (st2 := [vi ((gi h_5 a_9 3) + (if (200 - (gi h w 1)) < 3 then (200 - (gi h w 1)) else 3)), vi 3, vr (some a_9)]) rfl ?_
  refine R_iast rfl t_11 t_12  ?_
  show WP T N _ _ _ _ (si h_5 a_9 3 ((gi h_5 a_9 3) + (if (200 - (gi h w 1)) < 3 then (200 - (gi h w 1)) else 3))) _
  generalize e_15 : si h_5 a_9 3 ((gi h_5 a_9 3) + (if (200 - (gi h w 1)) < 3 then (200 - (gi h w 1)) else 3)) = h_14
  replace k := k h_14 e_15.symm
  exact R_ret rfl rfl ⟨rfl, k⟩
/-- DroneCorridors$Drone.hoverTick -/
theorem m35 {T N : Nat → Nat} {h : PH} {w : Nat} {K : PH → Prop} (t0 : T w = 3) (k : (((0 < (gi h w 1) → (∀ h_12, h_12 = si h w 1 ((gi h w 1) - 1) → ∃ a_16, (gr h_12 w 7) = some a_16 ∧ T a_16 = 22 ∧ inb 2 (N a_16) ∧ ∀ h_21, h_21 = si h_12 a_16 2 ((gi h_12 a_16 2) + 1) → (((gi h_21 w 1) = 0 → (CV T N 29 [vr (some w)] h_21 (fun h_27 => (K h_27)))) ∧ (¬ ((gi h_21 w 1) = 0) → (K h_21))))) ∧ (¬ (0 < (gi h w 1)) → ((((gi h w 1) = 0 → (CV T N 29 [vr (some w)] h (fun h_7 => (K h_7)))) ∧ (¬ ((gi h w 1) = 0) → (K h)))))))) : CV T N 35 [vr (some w)] h K := by
  show WP T N 35 0 [some (vr (some w))] [] h _
  refine R_ps 1 (pc2 := 1) (L2 := [some (vr (some w))]) (st2 := [vr (some w)]) rfl ?_
  refine R_getI rfl t0 ?_
  refine R_if0 rfl (fun c_2 => ?_) (fun c_2 => ?_)
  · have k := k.2 (i32_nlt c_2)
    refine R_ps 1 (pc2 := 28) (L2 := [some (vr (some w))]) (st2 := [vr (some w)]) rfl ?_
    refine R_getI rfl t0 ?_
    refine R_if0 rfl (fun c_4 => ?_) (fun c_4 => ?_)
    · have k := k.2 c_4
      exact R_ret rfl rfl ⟨rfl, k⟩
    · have k := k.1 (Classical.not_not.mp c_4)
      refine R_ps 1 (pc2 := 35) (L2 := [some (vr (some w))]) (st2 := [vr (some w)]) rfl ?_
      refine R_cV (as := [vr (some w)]) rfl rfl ⟨Nat.le_of_ble_eq_true rfl, Nat.le_of_ble_eq_true rfl, rfl, (Or.inr ⟨_, rfl, t0⟩)⟩ rfl rfl k (fun h_7 k => ?_)
      exact R_ret rfl rfl ⟨rfl, k⟩
  · have k := k.1 (i32_lt c_2)
    refine R_ps 2 (pc2 := 9) (L2 := [some (vr (some w))]) (st2 := [vr (some w), vr (some w)]) rfl ?_
    refine R_getI rfl t0 ?_
    refine R_ps 2 (pc2 := 14) (L2 := [some (vr (some w))]) (st2 := [vi ((gi h w 1) - 1), vr (some w)]) rfl ?_
    refine R_putI rfl t0 ?_
    show WP T N _ _ _ _ (si h w 1 ((gi h w 1) - 1)) _
    generalize e_13 : si h w 1 ((gi h w 1) - 1) = h_12
    replace k := k h_12 e_13.symm
    refine R_ps 1 (pc2 := 18) (L2 := [some (vr (some w))]) (st2 := [vr (some w)]) rfl ?_
    refine R_getR rfl t0 ?_
    refine R_ps 2 (pc2 := 23) (L2 := [some (vr (some w))]) (st2 := [vi 2, vr (gr h_12 w 7), vi 2, vr (gr h_12 w 7)]) rfl ?_
    obtain ⟨a_16, e_17, k⟩ := k
    rw [e_17]
    obtain ⟨t_18, k⟩ := k
    obtain ⟨t_19, k⟩ := k
    refine R_iald rfl (Or.inl t_18) t_19 ?_
    refine R_ps 2 (pc2 := 26) (L2 := [some (vr (some w))]) (st2 := [vi ((gi h_12 a_16 2) + 1), vi 2, vr (some a_16)]) rfl ?_
    refine R_iast rfl t_18 t_19  ?_
    show WP T N _ _ _ _ (si h_12 a_16 2 ((gi h_12 a_16 2) + 1)) _
    generalize e_22 : si h_12 a_16 2 ((gi h_12 a_16 2) + 1) = h_21
    replace k := k h_21 e_22.symm
    refine R_ps 1 (pc2 := 28) (L2 := [some (vr (some w))]) (st2 := [vr (some w)]) rfl ?_
    refine R_getI rfl t0 ?_
    refine R_if0 rfl (fun c_24 => ?_) (fun c_24 => ?_)
    · have k := k.2 c_24
      exact R_ret rfl rfl ⟨rfl, k⟩
    · have k := k.1 (Classical.not_not.mp c_24)
      refine R_ps 1 (pc2 := 35) (L2 := [some (vr (some w))]) (st2 := [vr (some w)]) rfl ?_
      refine R_cV (as := [vr (some w)]) rfl rfl ⟨Nat.le_of_ble_eq_true rfl, Nat.le_of_ble_eq_true rfl, rfl, (Or.inr ⟨_, rfl, t0⟩)⟩ rfl rfl k (fun h_27 k => ?_)
      exact R_ret rfl rfl ⟨rfl, k⟩
/-- DroneCorridors$Fence.<init> -/
theorem m36 {T N : Nat → Nat} {h : PH} {w : Nat} {K : PH → Prop} (k : (K h)) : CV T N 36 [vr (some w)] h K := by
  show WP T N 36 0 [some (vr (some w))] [] h _
  refine R_ps 1 (pc2 := 1) (L2 := [some (vr (some w))]) (st2 := [vr (some w)]) rfl ?_
  refine R_jdk (st2 := []) rfl rfl rfl rfl rfl rfl rfl rfl ?_
  exact R_ret rfl rfl ⟨rfl, k⟩
/-- DroneCorridors$Fence.strikes -/
theorem m37 {T N : Nat → Nat} {h : PH} {w : Nat} {a1 : Nat} {K : Int32 → PH → Prop} (t0 : T a1 = 7) (t1 : T w = 4) (k : ((((gi h a1 0) = (gi h w 0) → (CI T N 145 [vi (gi h w 1), vi (gi h a1 2)] h (fun x_9 h_8 => (((x_9 = 0 → (K 0 h_8)) ∧ (¬ (x_9 = 0) → ((((gi h_8 a1 3) < (gi h_8 w 3) → ((((gi h_8 w 2) < (gi h_8 a1 4) → (K 1 h_8)) ∧ (¬ ((gi h_8 w 2) < (gi h_8 a1 4)) → (K 0 h_8))))) ∧ (¬ ((gi h_8 a1 3) < (gi h_8 w 3)) → (K 0 h_8)))))))))) ∧ (¬ ((gi h a1 0) = (gi h w 0)) → (K 0 h))))) : CI T N 37 [vr (some w), vr (some a1)] h K := by
  show WP T N 37 0 [some (vr (some w)), some (vr (some a1))] [] h _
  refine R_ps 1 (pc2 := 1) (L2 := [some (vr (some w)), some (vr (some a1))]) (st2 := [vr (some a1)]) rfl ?_
  refine R_getI rfl t0 ?_
  refine R_ps 1 (pc2 := 5) (L2 := [some (vr (some w)), some (vr (some a1))]) (st2 := [vr (some w), vi (gi h a1 0)]) rfl ?_
  refine R_getI rfl t1 ?_
  refine R_if rfl (fun c_3 => ?_) (fun c_3 => ?_)
  · have k := k.2 c_3
    refine R_ps 1 (pc2 := 52) (L2 := [some (vr (some w)), some (vr (some a1))]) (st2 := [vi 0]) rfl ?_
    exact R_zret rfl rfl (Or.inl rfl) ⟨_, rfl, k⟩
  · have k := k.1 (Classical.not_not.mp c_3)
    refine R_ps 1 (pc2 := 12) (L2 := [some (vr (some w)), some (vr (some a1))]) (st2 := [vr (some w)]) rfl ?_
    refine R_getI rfl t1 ?_
    refine R_ps 1 (pc2 := 16) (L2 := [some (vr (some w)), some (vr (some a1))]) (st2 := [vr (some a1), vi (gi h w 1)]) rfl ?_
    refine R_getI rfl t0 ?_
    refine R_cI (as := [vi (gi h w 1), vi (gi h a1 2)]) rfl rfl ⟨Nat.le_of_ble_eq_true rfl, Nat.le_of_ble_eq_true rfl, rfl, (Or.inl rfl)⟩ rfl rfl k (fun x_9 h_8 k => ?_)
    refine R_if0 rfl (fun c_10 => ?_) (fun c_10 => ?_)
    · have k := k.1 c_10
      refine R_ps 1 (pc2 := 52) (L2 := [some (vr (some w)), some (vr (some a1))]) (st2 := [vi 0]) rfl ?_
      exact R_zret rfl rfl (Or.inl rfl) ⟨_, rfl, k⟩
    · have k := k.2 c_10
      refine R_ps 1 (pc2 := 26) (L2 := [some (vr (some w)), some (vr (some a1))]) (st2 := [vr (some a1)]) rfl ?_
      refine R_getI rfl t0 ?_
      refine R_ps 1 (pc2 := 30) (L2 := [some (vr (some w)), some (vr (some a1))]) (st2 := [vr (some w), vi (gi h_8 a1 3)]) rfl ?_
      refine R_getI rfl t1 ?_
      refine R_if rfl (fun c_14 => ?_) (fun c_14 => ?_)
      · have k := k.2 (i32_nlt c_14)
        refine R_ps 1 (pc2 := 52) (L2 := [some (vr (some w)), some (vr (some a1))]) (st2 := [vi 0]) rfl ?_
        exact R_zret rfl rfl (Or.inl rfl) ⟨_, rfl, k⟩
      · have k := k.1 (i32_lt c_14)
        refine R_ps 1 (pc2 := 37) (L2 := [some (vr (some w)), some (vr (some a1))]) (st2 := [vr (some a1)]) rfl ?_
        refine R_getI rfl t0 ?_
        refine R_ps 1 (pc2 := 41) (L2 := [some (vr (some w)), some (vr (some a1))]) (st2 := [vr (some w), vi (gi h_8 a1 4)]) rfl ?_
        refine R_getI rfl t1 ?_
        refine R_if rfl (fun c_18 => ?_) (fun c_18 => ?_)
        · have k := k.2 (i32_nlt c_18)
          refine R_ps 1 (pc2 := 52) (L2 := [some (vr (some w)), some (vr (some a1))]) (st2 := [vi 0]) rfl ?_
          exact R_zret rfl rfl (Or.inl rfl) ⟨_, rfl, k⟩
        · have k := k.1 (i32_lt c_18)
          refine R_ps 2 (pc2 := 52) (L2 := [some (vr (some w)), some (vr (some a1))]) (st2 := [vi 1]) rfl ?_
          exact R_zret rfl rfl (Or.inr rfl) ⟨_, rfl, k⟩
/-- DroneCorridors$Fence.copy -/
theorem m38 {T N : Nat → Nat} {h : PH} {w : Nat} {a1 : Nat} {K : PH → Prop} (t0 : T a1 = 4) (t1 : T w = 4) (k : (∀ h_3, h_3 = si h w 0 (gi h a1 0) → ∀ h_7, h_7 = si h_3 w 1 (gi h_3 a1 1) → ∀ h_11, h_11 = si h_7 w 2 (gi h_7 a1 2) → ∀ h_15, h_15 = si h_11 w 3 (gi h_11 a1 3) → K h_15)) : CV T N 38 [vr (some w), vr (some a1)] h K := by
  show WP T N 38 0 [some (vr (some w)), some (vr (some a1))] [] h _
  refine R_ps 2 (pc2 := 2) (L2 := [some (vr (some w)), some (vr (some a1))]) (st2 := [vr (some a1), vr (some w)]) rfl ?_
  refine R_getI rfl t0 ?_
  refine R_putI rfl t1 ?_
  show WP T N _ _ _ _ (si h w 0 (gi h a1 0)) _
  generalize e_4 : si h w 0 (gi h a1 0) = h_3
  replace k := k h_3 e_4.symm
  refine R_ps 2 (pc2 := 10) (L2 := [some (vr (some w)), some (vr (some a1))]) (st2 := [vr (some a1), vr (some w)]) rfl ?_
  refine R_getI rfl t0 ?_
  refine R_putI rfl t1 ?_
  show WP T N _ _ _ _ (si h_3 w 1 (gi h_3 a1 1)) _
  generalize e_8 : si h_3 w 1 (gi h_3 a1 1) = h_7
  replace k := k h_7 e_8.symm
  refine R_ps 2 (pc2 := 18) (L2 := [some (vr (some w)), some (vr (some a1))]) (st2 := [vr (some a1), vr (some w)]) rfl ?_
  refine R_getI rfl t0 ?_
  refine R_putI rfl t1 ?_
  show WP T N _ _ _ _ (si h_7 w 2 (gi h_7 a1 2)) _
  generalize e_12 : si h_7 w 2 (gi h_7 a1 2) = h_11
  replace k := k h_11 e_12.symm
  refine R_ps 2 (pc2 := 26) (L2 := [some (vr (some w)), some (vr (some a1))]) (st2 := [vr (some a1), vr (some w)]) rfl ?_
  refine R_getI rfl t0 ?_
  refine R_putI rfl t1 ?_
  show WP T N _ _ _ _ (si h_11 w 3 (gi h_11 a1 3)) _
  generalize e_16 : si h_11 w 3 (gi h_11 a1 3) = h_15
  replace k := k h_15 e_16.symm
  exact R_ret rfl rfl ⟨rfl, k⟩
/-- DroneCorridors$History.<init> -/
theorem m39 {T N : Nat → Nat} {h : PH} {w : Nat} {K : PH → Prop} (t0 : T w = 5) (k : ((T (nx h) = 40 ∧ 0 ≤ Int32.toInt 9 ∧ Int32.toInt 9 = N (nx h) ∧ N (nx h) ≤ 65536) ∧ ∀ a_3 h_4, a_3 = nx h → h_4 = grow h (N (nx h)) → ∀ h_9, h_9 = sr h_4 w 2 (some a_3) → WV T N 39 15 [some (vr (some w)), some (vi 0)] [] h_9 K)) : CV T N 39 [vr (some w)] h K := by
  show WP T N 39 0 [some (vr (some w)), none] [] h _
  refine R_ps 1 (pc2 := 1) (L2 := [some (vr (some w)), none]) (st2 := [vr (some w)]) rfl ?_
  refine R_jdk (st2 := []) rfl rfl rfl rfl rfl rfl rfl rfl ?_
  refine R_ps 2 (pc2 := 7) (L2 := [some (vr (some w)), none]) (st2 := [vi 9, vr (some w)]) rfl ?_
  obtain ⟨t_7, k⟩ := k
  refine R_anew rfl t_7 ?_
  generalize e_6 : grow h (N (nx h)) = h_4
  generalize e_5 : nx h = a_3
  replace k := k a_3 h_4 e_5.symm e_6.symm
  refine R_putR rfl t0 ?_
  show WP T N _ _ _ _ (sr h_4 w 2 (some a_3)) _
  generalize e_10 : sr h_4 w 2 (some a_3) = h_9
  replace k := k h_9 e_10.symm
  refine R_ps 2 (pc2 := 15) (L2 := [some (vr (some w)), some (vi 0)]) (st2 := []) rfl ?_
  exact k
theorem m39_15 {T N : Nat → Nat} {h : PH} {w : Nat} {x1 : Int32} {K : PH → Prop} (t0 : T w = 5) (k : (∃ a_3, (gr h w 2) = some a_3 ∧ 21 ≤ T a_3 ∧ ((x1 < (Int32.ofNat (N a_3)) → (T (nx h) = 10 ∧ ∀ a_10 h_11, a_10 = nx h → h_11 = grow h 9 → CV T N 82 [vr (some a_10)] h_11 (fun h_16 => (∃ a_19, (gr h w 2) = some a_19 ∧ (1 ≤ T a_10 ∧ T a_10 ≤ 12 ∧ T a_10 + 30 = T a_19) ∧ inb x1 (N a_19) ∧ ∀ h_21, h_21 = sr h_16 a_19 (Int32.toNatClampNeg x1) (some a_10) → WV T N 39 15 [some (vr (some w)), some (vi (x1 + 1))] [] h_21 K)))) ∧ (¬ (x1 < (Int32.ofNat (N a_3))) → (K h))))) : WV T N 39 15 [some (vr (some w)), some (vi x1)] [] h K := by
  show WP T N 39 15 [some (vr (some w)), some (vi x1)] [] h _
  refine R_ps 2 (pc2 := 17) (L2 := [some (vr (some w)), some (vi x1)]) (st2 := [vr (some w), vi x1]) rfl ?_
  refine R_getR rfl t0 ?_
  obtain ⟨a_3, e_4, k⟩ := k
  rw [e_4]
  obtain ⟨t_5, k⟩ := k
  refine R_alen rfl t_5 ?_
  refine R_if rfl (fun c_6 => ?_) (fun c_6 => ?_)
  · have k := k.2 (i32_nlt c_6)
    exact R_ret rfl rfl ⟨rfl, k⟩
  · have k := k.1 (i32_lt c_6)
    refine R_ps 1 (pc2 := 25) (L2 := [some (vr (some w)), some (vi x1)]) (st2 := [vr (some w)]) rfl ?_
    refine R_getR rfl t0 ?_
    refine R_ps 1 (pc2 := 29) (L2 := [some (vr (some w)), some (vi x1)]) (st2 := [vi x1, vr (gr h w 2)]) rfl ?_
    obtain ⟨t_14, k⟩ := k
    refine R_new rfl ⟨by decide, t_14⟩ ?_
    show WP T N _ _ _ _ (grow h 9) _
    generalize e_12 : nx h = a_10
    generalize e_13 : grow h 9 = h_11
    replace k := k a_10 h_11 e_12.symm e_13.symm
    refine R_ps 1 (pc2 := 33) (L2 := [some (vr (some w)), some (vi x1)]) (st2 := [vr (some a_10), vr (some a_10), vi x1, vr (gr h w 2)]) rfl ?_
    refine R_cV (as := [vr (some a_10)]) rfl rfl ⟨Nat.le_of_ble_eq_true rfl, Nat.le_of_ble_eq_true rfl, rfl, (Or.inr ⟨_, rfl, (e_12 ▸ t_14)⟩)⟩ rfl rfl k (fun h_16 k => ?_)
    obtain ⟨a_19, e_20, k⟩ := k
    rw [e_20]
    obtain ⟨t_23, k⟩ := k
    obtain ⟨t_24, k⟩ := k
    refine R_aast rfl t_23 t_24  ?_
    show WP T N _ _ _ _ (sr h_16 a_19 (Int32.toNatClampNeg x1) (some a_10)) _
    generalize e_22 : sr h_16 a_19 (Int32.toNatClampNeg x1) (some a_10) = h_21
    replace k := k h_21 e_22.symm
    refine R_ps 2 (pc2 := 15) (L2 := [some (vr (some w)), some (vi (x1 + 1))]) (st2 := []) rfl ?_
    exact k
/-- DroneCorridors$History.forget -/
theorem m40 {T N : Nat → Nat} {h : PH} {w : Nat} {K : PH → Prop} (t0 : T w = 5) (k : (∀ h_2, h_2 = si h w 0 0 → K h_2)) : CV T N 40 [vr (some w)] h K := by
  show WP T N 40 0 [some (vr (some w))] [] h _
  refine R_ps 2 (pc2 := 2) (L2 := [some (vr (some w))]) (st2 := [vi 0, vr (some w)]) rfl ?_
  refine R_putI rfl t0 ?_
  show WP T N _ _ _ _ (si h w 0 0) _
  generalize e_3 : si h w 0 0 = h_2
  replace k := k h_2 e_3.symm
  exact R_ret rfl rfl ⟨rfl, k⟩
/-- DroneCorridors$History.remember -/
theorem m41 {T N : Nat → Nat} {h : PH} {w : Nat} {a1 : Nat} {K : PH → Prop} (t0 : T w = 5) (k : (CV T N 42 [vr (some w), vr (some a1)] h (fun h_2 => (CV T N 43 [vr (some w)] h_2 (fun h_5 => (K h_5)))))) : CV T N 41 [vr (some w), vr (some a1)] h K := by
  show WP T N 41 0 [some (vr (some w)), some (vr (some a1))] [] h _
  refine R_ps 2 (pc2 := 2) (L2 := [some (vr (some w)), some (vr (some a1))]) (st2 := [vr (some a1), vr (some w)]) rfl ?_
  refine R_cV (as := [vr (some w), vr (some a1)]) rfl rfl ⟨Nat.le_of_ble_eq_true rfl, Nat.le_of_ble_eq_true rfl, rfl, (Or.inr ⟨_, rfl, t0⟩)⟩ rfl rfl k (fun h_2 k => ?_)
  refine R_ps 1 (pc2 := 6) (L2 := [some (vr (some w)), some (vr (some a1))]) (st2 := [vr (some w)]) rfl ?_
  refine R_cV (as := [vr (some w)]) rfl rfl ⟨Nat.le_of_ble_eq_true rfl, Nat.le_of_ble_eq_true rfl, rfl, (Or.inr ⟨_, rfl, t0⟩)⟩ rfl rfl k (fun h_5 k => ?_)
  exact R_ret rfl rfl ⟨rfl, k⟩
/-- DroneCorridors$History.sketch -/
theorem m42 {T N : Nat → Nat} {h : PH} {w : Nat} {a1 : Nat} {K : PH → Prop} (t0 : T w = 5) (k : (CR T N 46 [vr (some w), vi (gi h w 0)] h (fun x_4 h_3 => (((x_4 = none → (K h_3)) ∧ (∀ a_6, x_4 = some a_6 → (T a_6 = 10 ∧ CV T N 84 [vr (some a_6), vr (some a1)] h_3 (fun h_11 => (K h_11))))))))) : CV T N 42 [vr (some w), vr (some a1)] h K := by
  show WP T N 42 0 [some (vr (some w)), some (vr (some a1)), none] [] h _
  refine R_ps 2 (pc2 := 2) (L2 := [some (vr (some w)), some (vr (some a1)), none]) (st2 := [vr (some w), vr (some w)]) rfl ?_
  refine R_getI rfl t0 ?_
  refine R_cR (as := [vr (some w), vi (gi h w 0)]) rfl rfl ⟨Nat.le_of_ble_eq_true rfl, Nat.le_of_ble_eq_true rfl, rfl, (Or.inr ⟨_, rfl, t0⟩)⟩ rfl rfl k (fun x_4 h_3 k => ?_)
  refine R_ps 2 (pc2 := 10) (L2 := [some (vr (some w)), some (vr (some a1)), some (vr x_4)]) (st2 := [vr x_4]) rfl ?_
  rcases null_or (x_4) with e_7 | ⟨a_6, e_7⟩
  · have k := k.1 e_7
    rw [e_7]
    refine R_null rfl (fun _ => ?_) (fun _ c_5 => nomatch c_5)
    exact R_ret rfl rfl ⟨rfl, k⟩
  · have k := k.2 a_6 e_7
    rw [e_7]
    refine R_null rfl (fun c_5 => nomatch c_5) (fun _ _ => ?_)
    refine R_ps 2 (pc2 := 15) (L2 := [some (vr (some w)), some (vr (some a1)), some (vr (some a_6))]) (st2 := [vr (some a1), vr (some a_6)]) rfl ?_
    obtain ⟨t_10, k⟩ := k
    refine R_cV (as := [vr (some a_6), vr (some a1)]) rfl rfl ⟨Nat.le_of_ble_eq_true rfl, Nat.le_of_ble_eq_true rfl, rfl, (Or.inr ⟨_, rfl, t_10⟩)⟩ rfl rfl k (fun h_11 k => ?_)
    exact R_ret rfl rfl ⟨rfl, k⟩
/-- DroneCorridors$History.keep -/
theorem m43 {T N : Nat → Nat} {h : PH} {w : Nat} {K : PH → Prop} (t0 : T w = 5) (k : ((((gi h w 0) < 8 → (∀ h_11, h_11 = si h w 0 ((gi h w 0) + 1) → K h_11)) ∧ (¬ ((gi h w 0) < 8) → (∀ h_6, h_6 = si h w 1 (((gi h w 1) + 1) - ((gi h w 1) + 1) / 9 * 9) → K h_6))))) : CV T N 43 [vr (some w)] h K := by
  show WP T N 43 0 [some (vr (some w))] [] h _
  refine R_ps 1 (pc2 := 1) (L2 := [some (vr (some w))]) (st2 := [vr (some w)]) rfl ?_
  refine R_getI rfl t0 ?_
  refine R_ps 1 (pc2 := 6) (L2 := [some (vr (some w))]) (st2 := [vi 8, vi (gi h w 0)]) rfl ?_
  refine R_if rfl (fun c_2 => ?_) (fun c_2 => ?_)
  · have k := k.2 (i32_nlt c_2)
    refine R_ps 2 (pc2 := 24) (L2 := [some (vr (some w))]) (st2 := [vr (some w), vr (some w)]) rfl ?_
    refine R_getI rfl t0 ?_
    refine R_ps 3 (pc2 := 31) (L2 := [some (vr (some w))]) (st2 := [vi 9, vi ((gi h w 1) + 1), vr (some w)]) rfl ?_
    refine R_rem rfl (by decide) ?_
    refine R_putI rfl t0 ?_
    show WP T N _ _ _ _ (si h w 1 (((gi h w 1) + 1) - ((gi h w 1) + 1) / 9 * 9)) _
    generalize e_7 : si h w 1 (((gi h w 1) + 1) - ((gi h w 1) + 1) / 9 * 9) = h_6
    replace k := k h_6 e_7.symm
    exact R_ret rfl rfl ⟨rfl, k⟩
  · have k := k.1 (i32_lt c_2)
    refine R_ps 2 (pc2 := 11) (L2 := [some (vr (some w))]) (st2 := [vr (some w), vr (some w)]) rfl ?_
    refine R_getI rfl t0 ?_
    refine R_ps 2 (pc2 := 16) (L2 := [some (vr (some w))]) (st2 := [vi ((gi h w 0) + 1), vr (some w)]) rfl ?_
    refine R_putI rfl t0 ?_
    show WP T N _ _ _ _ (si h w 0 ((gi h w 0) + 1)) _
    generalize e_12 : si h w 0 ((gi h w 0) + 1) = h_11
    replace k := k h_11 e_12.symm
    refine R_ps 1 (pc2 := 35) (L2 := [some (vr (some w))]) (st2 := []) rfl ?_
    exact R_ret rfl rfl ⟨rfl, k⟩
/-- DroneCorridors$History.takeBack -/
theorem m44 {T N : Nat → Nat} {h : PH} {w : Nat} {a1 : Nat} {K : PH → Prop} (t0 : T w = 5) (t1 : T a1 = 10) (k : (CR T N 46 [vr (some w), vi (gi h w 0)] h (fun x_4 h_3 => (((x_4 = none → (K h_3)) ∧ (∀ a_6, x_4 = some a_6 → (CV T N 84 [vr (some a1), vr (some a_6)] h_3 (fun h_10 => (K h_10))))))))) : CV T N 44 [vr (some w), vr (some a1)] h K := by
  show WP T N 44 0 [some (vr (some w)), some (vr (some a1)), none] [] h _
  refine R_ps 2 (pc2 := 2) (L2 := [some (vr (some w)), some (vr (some a1)), none]) (st2 := [vr (some w), vr (some w)]) rfl ?_
  refine R_getI rfl t0 ?_
  refine R_cR (as := [vr (some w), vi (gi h w 0)]) rfl rfl ⟨Nat.le_of_ble_eq_true rfl, Nat.le_of_ble_eq_true rfl, rfl, (Or.inr ⟨_, rfl, t0⟩)⟩ rfl rfl k (fun x_4 h_3 k => ?_)
  refine R_ps 2 (pc2 := 10) (L2 := [some (vr (some w)), some (vr (some a1)), some (vr x_4)]) (st2 := [vr x_4]) rfl ?_
  rcases null_or (x_4) with e_7 | ⟨a_6, e_7⟩
  · have k := k.1 e_7
    rw [e_7]
    refine R_null rfl (fun _ => ?_) (fun _ c_5 => nomatch c_5)
    exact R_ret rfl rfl ⟨rfl, k⟩
  · have k := k.2 a_6 e_7
    rw [e_7]
    refine R_null rfl (fun c_5 => nomatch c_5) (fun _ _ => ?_)
    refine R_ps 2 (pc2 := 15) (L2 := [some (vr (some w)), some (vr (some a1)), some (vr (some a_6))]) (st2 := [vr (some a_6), vr (some a1)]) rfl ?_
    refine R_cV (as := [vr (some a1), vr (some a_6)]) rfl rfl ⟨Nat.le_of_ble_eq_true rfl, Nat.le_of_ble_eq_true rfl, rfl, (Or.inr ⟨_, rfl, t1⟩)⟩ rfl rfl k (fun h_10 k => ?_)
    exact R_ret rfl rfl ⟨rfl, k⟩
/-- DroneCorridors$History.stepBack -/
theorem m45 {T N : Nat → Nat} {h : PH} {w : Nat} {a1 : Nat} {K : PH → Prop} (t0 : T w = 5) (k : (((0 < (gi h w 0) → (∀ h_6, h_6 = si h w 0 ((gi h w 0) - 1) → CV T N 44 [vr (some w), vr (some a1)] h_6 (fun h_9 => (K h_9)))) ∧ (¬ (0 < (gi h w 0)) → (K h))))) : CV T N 45 [vr (some w), vr (some a1)] h K := by
  show WP T N 45 0 [some (vr (some w)), some (vr (some a1))] [] h _
  refine R_ps 1 (pc2 := 1) (L2 := [some (vr (some w)), some (vr (some a1))]) (st2 := [vr (some w)]) rfl ?_
  refine R_getI rfl t0 ?_
  refine R_if0 rfl (fun c_2 => ?_) (fun c_2 => ?_)
  · have k := k.2 (i32_nlt c_2)
    exact R_ret rfl rfl ⟨rfl, k⟩
  · have k := k.1 (i32_lt c_2)
    refine R_ps 2 (pc2 := 9) (L2 := [some (vr (some w)), some (vr (some a1))]) (st2 := [vr (some w), vr (some w)]) rfl ?_
    refine R_getI rfl t0 ?_
    refine R_ps 2 (pc2 := 14) (L2 := [some (vr (some w)), some (vr (some a1))]) (st2 := [vi ((gi h w 0) - 1), vr (some w)]) rfl ?_
    refine R_putI rfl t0 ?_
    show WP T N _ _ _ _ (si h w 0 ((gi h w 0) - 1)) _
    generalize e_7 : si h w 0 ((gi h w 0) - 1) = h_6
    replace k := k h_6 e_7.symm
    refine R_ps 2 (pc2 := 19) (L2 := [some (vr (some w)), some (vr (some a1))]) (st2 := [vr (some a1), vr (some w)]) rfl ?_
    refine R_cV (as := [vr (some w), vr (some a1)]) rfl rfl ⟨Nat.le_of_ble_eq_true rfl, Nat.le_of_ble_eq_true rfl, rfl, (Or.inr ⟨_, rfl, t0⟩)⟩ rfl rfl k (fun h_9 k => ?_)
    exact R_ret rfl rfl ⟨rfl, k⟩
/-- DroneCorridors$History.placeOf -/
theorem m46 {T N : Nat → Nat} {h : PH} {w : Nat} {x1 : Int32} {K : Option Nat → PH → Prop} (t0 : T w = 5) (k : ((((((gi h w 1) + x1) - ((gi h w 1) + x1) / 9 * 9) < 0 → (K none h)) ∧ (¬ ((((gi h w 1) + x1) - ((gi h w 1) + x1) / 9 * 9) < 0) → (∃ a_7, (gr h w 2) = some a_7 ∧ 21 ≤ T a_7 ∧ (((((gi h w 1) + x1) - ((gi h w 1) + x1) / 9 * 9) < (Int32.ofNat (N a_7)) → (∃ a_14, (gr h w 2) = some a_14 ∧ 30 ≤ T a_14 ∧ inb (((gi h w 1) + x1) - ((gi h w 1) + x1) / 9 * 9) (N a_14) ∧ K (gr h a_14 (Int32.toNatClampNeg (((gi h w 1) + x1) - ((gi h w 1) + x1) / 9 * 9))) h)) ∧ (¬ ((((gi h w 1) + x1) - ((gi h w 1) + x1) / 9 * 9) < (Int32.ofNat (N a_7))) → (K none h)))))))) : CR T N 46 [vr (some w), vi x1] h K := by
  show WP T N 46 0 [some (vr (some w)), some (vi x1), none] [] h _
  refine R_ps 1 (pc2 := 1) (L2 := [some (vr (some w)), some (vi x1), none]) (st2 := [vr (some w)]) rfl ?_
  refine R_getI rfl t0 ?_
  refine R_ps 3 (pc2 := 8) (L2 := [some (vr (some w)), some (vi x1), none]) (st2 := [vi 9, vi ((gi h w 1) + x1)]) rfl ?_
  refine R_rem rfl (by decide) ?_
  refine R_ps 2 (pc2 := 11) (L2 := [some (vr (some w)), some (vi x1), some (vi (((gi h w 1) + x1) - ((gi h w 1) + x1) / 9 * 9))]) (st2 := [vi (((gi h w 1) + x1) - ((gi h w 1) + x1) / 9 * 9)]) rfl ?_
  refine R_if0 rfl (fun c_3 => ?_) (fun c_3 => ?_)
  · have k := k.1 c_3
    refine R_ps 1 (pc2 := 33) (L2 := [some (vr (some w)), some (vi x1), some (vi (((gi h w 1) + x1) - ((gi h w 1) + x1) / 9 * 9))]) (st2 := [vr none]) rfl ?_
    exact R_aret rfl rfl ⟨_, rfl, k⟩
  · have k := k.2 c_3
    refine R_ps 2 (pc2 := 16) (L2 := [some (vr (some w)), some (vi x1), some (vi (((gi h w 1) + x1) - ((gi h w 1) + x1) / 9 * 9))]) (st2 := [vr (some w), vi (((gi h w 1) + x1) - ((gi h w 1) + x1) / 9 * 9)]) rfl ?_
    refine R_getR rfl t0 ?_
    obtain ⟨a_7, e_8, k⟩ := k
    rw [e_8]
    obtain ⟨t_9, k⟩ := k
    refine R_alen rfl t_9 ?_
    refine R_if rfl (fun c_10 => ?_) (fun c_10 => ?_)
    · have k := k.2 (i32_nlt c_10)
      refine R_ps 1 (pc2 := 33) (L2 := [some (vr (some w)), some (vi x1), some (vi (((gi h w 1) + x1) - ((gi h w 1) + x1) / 9 * 9))]) (st2 := [vr none]) rfl ?_
      exact R_aret rfl rfl ⟨_, rfl, k⟩
    · have k := k.1 (i32_lt c_10)
      refine R_ps 1 (pc2 := 24) (L2 := [some (vr (some w)), some (vi x1), some (vi (((gi h w 1) + x1) - ((gi h w 1) + x1) / 9 * 9))]) (st2 := [vr (some w)]) rfl ?_
      refine R_getR rfl t0 ?_
      refine R_ps 1 (pc2 := 28) (L2 := [some (vr (some w)), some (vi x1), some (vi (((gi h w 1) + x1) - ((gi h w 1) + x1) / 9 * 9))]) (st2 := [vi (((gi h w 1) + x1) - ((gi h w 1) + x1) / 9 * 9), vr (gr h w 2)]) rfl ?_
      obtain ⟨a_14, e_15, k⟩ := k
      rw [e_15]
      obtain ⟨t_16, k⟩ := k
      obtain ⟨t_17, k⟩ := k
      refine R_aald rfl t_16 t_17 ?_
      refine R_ps 1 (pc2 := 33) (L2 := [some (vr (some w)), some (vi x1), some (vi (((gi h w 1) + x1) - ((gi h w 1) + x1) / 9 * 9))]) (st2 := [vr (gr h a_14 (Int32.toNatClampNeg (((gi h w 1) + x1) - ((gi h w 1) + x1) / 9 * 9)))]) rfl ?_
      exact R_aret rfl rfl ⟨_, rfl, k⟩
/-- DroneCorridors$Input.<init> -/
theorem m47 {T N : Nat → Nat} {h : PH} {w : Nat} {K : PH → Prop} (t0 : T w = 6) (k : ((T (nx h) = 23 ∧ 0 ≤ Int32.toInt 60 ∧ Int32.toInt 60 = N (nx h) ∧ N (nx h) ≤ 65536) ∧ ∀ a_3 h_4, a_3 = nx h → h_4 = grow h (N (nx h)) → ∀ h_9, h_9 = sr h_4 w 1 (some a_3) → K h_9)) : CV T N 47 [vr (some w)] h K := by
  show WP T N 47 0 [some (vr (some w))] [] h _
  refine R_ps 1 (pc2 := 1) (L2 := [some (vr (some w))]) (st2 := [vr (some w)]) rfl ?_
  refine R_jdk (st2 := []) rfl rfl rfl rfl rfl rfl rfl rfl ?_
  refine R_ps 2 (pc2 := 7) (L2 := [some (vr (some w))]) (st2 := [vi 60, vr (some w)]) rfl ?_
  obtain ⟨t_7, k⟩ := k
  refine R_newa rfl t_7 ?_
  generalize e_6 : grow h (N (nx h)) = h_4
  generalize e_5 : nx h = a_3
  replace k := k a_3 h_4 e_5.symm e_6.symm
  refine R_putR rfl t0 ?_
  show WP T N _ _ _ _ (sr h_4 w 1 (some a_3)) _
  generalize e_10 : sr h_4 w 1 (some a_3) = h_9
  replace k := k h_9 e_10.symm
  exact R_ret rfl rfl ⟨rfl, k⟩
/-- DroneCorridors$Input.put -/
theorem m48 {T N : Nat → Nat} {h : PH} {w : Nat} {x1 : Int32} {K : PH → Prop} (t0 : T w = 6) (k : ((((gi h w 0) < 0 → (K h)) ∧ (¬ ((gi h w 0) < 0) → (∃ a_7, (gr h w 1) = some a_7 ∧ 21 ≤ T a_7 ∧ (((gi h w 0) < (Int32.ofNat (N a_7)) → (∃ a_15, (gr h w 1) = some a_15 ∧ T a_15 = 23 ∧ inb (gi h w 0) (N a_15) ∧ (0 ≤ Int32.toInt x1 ∧ Int32.toInt x1 < 65536) ∧ ∀ h_17, h_17 = si h a_15 (Int32.toNatClampNeg (gi h w 0)) x1 → ∀ h_24, h_24 = si h_17 w 0 ((gi h_17 w 0) + 1) → K h_24)) ∧ (¬ ((gi h w 0) < (Int32.ofNat (N a_7))) → (K h)))))))) : CV T N 48 [vr (some w), vi x1] h K := by
  show WP T N 48 0 [some (vr (some w)), some (vi x1)] [] h _
  refine R_ps 1 (pc2 := 1) (L2 := [some (vr (some w)), some (vi x1)]) (st2 := [vr (some w)]) rfl ?_
  refine R_getI rfl t0 ?_
  refine R_if0 rfl (fun c_2 => ?_) (fun c_2 => ?_)
  · have k := k.1 c_2
    exact R_ret rfl rfl ⟨rfl, k⟩
  · have k := k.2 c_2
    refine R_ps 1 (pc2 := 8) (L2 := [some (vr (some w)), some (vi x1)]) (st2 := [vr (some w)]) rfl ?_
    refine R_getI rfl t0 ?_
    refine R_ps 1 (pc2 := 12) (L2 := [some (vr (some w)), some (vi x1)]) (st2 := [vr (some w), vi (gi h w 0)]) rfl ?_
    refine R_getR rfl t0 ?_
    obtain ⟨a_7, e_8, k⟩ := k
    rw [e_8]
    obtain ⟨t_9, k⟩ := k
    refine R_alen rfl t_9 ?_
    refine R_if rfl (fun c_10 => ?_) (fun c_10 => ?_)
    · have k := k.2 (i32_nlt c_10)
      exact R_ret rfl rfl ⟨rfl, k⟩
    · have k := k.1 (i32_lt c_10)
      refine R_ps 1 (pc2 := 20) (L2 := [some (vr (some w)), some (vi x1)]) (st2 := [vr (some w)]) rfl ?_
      refine R_getR rfl t0 ?_
      refine R_ps 1 (pc2 := 24) (L2 := [some (vr (some w)), some (vi x1)]) (st2 := [vr (some w), vr (gr h w 1)]) rfl ?_
      refine R_getI rfl t0 ?_
      refine R_ps 1 (pc2 := 28) (L2 := [some (vr (some w)), some (vi x1)]) (st2 := [vi x1, vi (gi h w 0), vr (gr h w 1)]) rfl ?_
      obtain ⟨a_15, e_16, k⟩ := k
      rw [e_16]
      obtain ⟨t_19, k⟩ := k
      obtain ⟨t_20, k⟩ := k
      obtain ⟨t_21, k⟩ := k
      refine R_cast rfl t_19 t_20 t_21 ?_
      show WP T N _ _ _ _ (si h a_15 (Int32.toNatClampNeg (gi h w 0)) x1) _
      generalize e_18 : si h a_15 (Int32.toNatClampNeg (gi h w 0)) x1 = h_17
      replace k := k h_17 e_18.symm
      refine R_ps 2 (pc2 := 31) (L2 := [some (vr (some w)), some (vi x1)]) (st2 := [vr (some w), vr (some w)]) rfl ?_
      refine R_getI rfl t0 ?_
      refine R_ps 2 (pc2 := 36) (L2 := [some (vr (some w)), some (vi x1)]) (st2 := [vi ((gi h_17 w 0) + 1), vr (some w)]) rfl ?_
      refine R_putI rfl t0 ?_
      show WP T N _ _ _ _ (si h_17 w 0 ((gi h_17 w 0) + 1)) _
      generalize e_25 : si h_17 w 0 ((gi h_17 w 0) + 1) = h_24
      replace k := k h_24 e_25.symm
      exact R_ret rfl rfl ⟨rfl, k⟩
/-- DroneCorridors$Input.signAt -/
theorem m49 {T N : Nat → Nat} {h : PH} {w : Nat} {x1 : Int32} {K : Int32 → PH → Prop} (t0 : T w = 6) (k : (((x1 < 0 → ((0 ≤ Int32.toInt 32 ∧ Int32.toInt 32 < 65536) ∧ K 32 h)) ∧ (¬ (x1 < 0) → (((x1 < (gi h w 0) → (∃ a_10, (gr h w 1) = some a_10 ∧ 21 ≤ T a_10 ∧ ((x1 < (Int32.ofNat (N a_10)) → (∃ a_18, (gr h w 1) = some a_18 ∧ T a_18 = 23 ∧ inb x1 (N a_18) ∧ (0 ≤ Int32.toInt (gi h a_18 (Int32.toNatClampNeg x1)) ∧ Int32.toInt (gi h a_18 (Int32.toNatClampNeg x1)) < 65536) ∧ K (gi h a_18 (Int32.toNatClampNeg x1)) h)) ∧ (¬ (x1 < (Int32.ofNat (N a_10))) → ((0 ≤ Int32.toInt 32 ∧ Int32.toInt 32 < 65536) ∧ K 32 h))))) ∧ (¬ (x1 < (gi h w 0)) → ((0 ≤ Int32.toInt 32 ∧ Int32.toInt 32 < 65536) ∧ K 32 h)))))))) : CI T N 49 [vr (some w), vi x1] h K := by
  show WP T N 49 0 [some (vr (some w)), some (vi x1)] [] h _
  refine R_ps 1 (pc2 := 1) (L2 := [some (vr (some w)), some (vi x1)]) (st2 := [vi x1]) rfl ?_
  refine R_if0 rfl (fun c_1 => ?_) (fun c_1 => ?_)
  · have k := k.1 c_1
    refine R_ps 1 (pc2 := 32) (L2 := [some (vr (some w)), some (vi x1)]) (st2 := [vi 32]) rfl ?_
    obtain ⟨t_3, k⟩ := k
    exact R_cret rfl rfl t_3 ⟨_, rfl, k⟩
  · have k := k.2 c_1
    refine R_ps 2 (pc2 := 6) (L2 := [some (vr (some w)), some (vi x1)]) (st2 := [vr (some w), vi x1]) rfl ?_
    refine R_getI rfl t0 ?_
    refine R_if rfl (fun c_5 => ?_) (fun c_5 => ?_)
    · have k := k.2 (i32_nlt c_5)
      refine R_ps 1 (pc2 := 32) (L2 := [some (vr (some w)), some (vi x1)]) (st2 := [vi 32]) rfl ?_
      obtain ⟨t_7, k⟩ := k
      exact R_cret rfl rfl t_7 ⟨_, rfl, k⟩
    · have k := k.1 (i32_lt c_5)
      refine R_ps 2 (pc2 := 14) (L2 := [some (vr (some w)), some (vi x1)]) (st2 := [vr (some w), vi x1]) rfl ?_
      refine R_getR rfl t0 ?_
      obtain ⟨a_10, e_11, k⟩ := k
      rw [e_11]
      obtain ⟨t_12, k⟩ := k
      refine R_alen rfl t_12 ?_
      refine R_if rfl (fun c_13 => ?_) (fun c_13 => ?_)
      · have k := k.2 (i32_nlt c_13)
        refine R_ps 1 (pc2 := 32) (L2 := [some (vr (some w)), some (vi x1)]) (st2 := [vi 32]) rfl ?_
        obtain ⟨t_15, k⟩ := k
        exact R_cret rfl rfl t_15 ⟨_, rfl, k⟩
      · have k := k.1 (i32_lt c_13)
        refine R_ps 1 (pc2 := 22) (L2 := [some (vr (some w)), some (vi x1)]) (st2 := [vr (some w)]) rfl ?_
        refine R_getR rfl t0 ?_
        refine R_ps 1 (pc2 := 26) (L2 := [some (vr (some w)), some (vi x1)]) (st2 := [vi x1, vr (gr h w 1)]) rfl ?_
        obtain ⟨a_18, e_19, k⟩ := k
        rw [e_19]
        obtain ⟨t_20, k⟩ := k
        obtain ⟨t_21, k⟩ := k
        refine R_cald rfl t_20 t_21 ?_
        refine R_ps 1 (pc2 := 32) (L2 := [some (vr (some w)), some (vi x1)]) (st2 := [vi (gi h a_18 (Int32.toNatClampNeg x1))]) rfl ?_
        obtain ⟨t_23, k⟩ := k
        exact R_cret rfl rfl t_23 ⟨_, rfl, k⟩
/-- DroneCorridors$Input.digitAt -/
theorem m50 {T N : Nat → Nat} {h : PH} {w : Nat} {x1 : Int32} {K : Int32 → PH → Prop} (t0 : T w = 6) (k : (CI T N 49 [vr (some w), vi x1] h (fun x_3 h_2 => (K (x_3 - 48) h_2)))) : CI T N 50 [vr (some w), vi x1] h K := by
  show WP T N 50 0 [some (vr (some w)), some (vi x1)] [] h _
  refine R_ps 2 (pc2 := 2) (L2 := [some (vr (some w)), some (vi x1)]) (st2 := [vi x1, vr (some w)]) rfl ?_
  refine R_cI (as := [vr (some w), vi x1]) rfl rfl ⟨Nat.le_of_ble_eq_true rfl, Nat.le_of_ble_eq_true rfl, rfl, (Or.inr ⟨_, rfl, t0⟩)⟩ rfl rfl k (fun x_3 h_2 k => ?_)
  refine R_ps 2 (pc2 := 8) (L2 := [some (vr (some w)), some (vi x1)]) (st2 := [vi (x_3 - 48)]) rfl ?_
  exact R_iret rfl rfl ⟨_, rfl, k⟩
/-- DroneCorridors$Input.restOf -/
theorem m51 {T N : Nat → Nat} {h : PH} {w : Nat} {x1 : Int32} {K : Nat → PH → Prop} (t0 : T w = 6) (k : (CI T N 49 [vr (some w), vi x1] h (fun x_3 h_2 => (((x_3 = 99 → (K 1 h_2)) ∧ (¬ (x_3 = 99) → ((x_3 = 100 → (K 2 h_2)) ∧ (¬ (x_3 = 100) → ((x_3 = 110 → (K 0 h_2)) ∧ (¬ (x_3 = 110) → ((x_3 = 112 → (K 0 h_2)) ∧ (¬ (x_3 = 112) → ((x_3 = 116 → (K 3 h_2)) ∧ (¬ (x_3 = 116) → (K 4 h_2))))))))))))))) : CS T N 51 [vr (some w), vi x1] h K := by
  show WP T N 51 0 [some (vr (some w)), some (vi x1)] [] h _
  refine R_ps 2 (pc2 := 2) (L2 := [some (vr (some w)), some (vi x1)]) (st2 := [vi x1, vr (some w)]) rfl ?_
  refine R_cI (as := [vr (some w), vi x1]) rfl rfl ⟨Nat.le_of_ble_eq_true rfl, Nat.le_of_ble_eq_true rfl, rfl, (Or.inr ⟨_, rfl, t0⟩)⟩ rfl rfl k (fun x_3 h_2 k => ?_)
  refine R_lsw rfl rfl ?_
  refine ⟨fun c_4 => ?_, fun c_4 => ?_⟩
  · have k := k.1 c_4
    show WP T N _ 59 _ _ _ _
    refine R_ps 1 (pc2 := 61) (L2 := [some (vr (some w)), some (vi x1)]) (st2 := [vs 1]) rfl ?_
    exact R_sret rfl rfl ⟨_, rfl, k⟩
  replace k := k.2 c_4
  refine ⟨fun c_4 => ?_, fun c_4 => ?_⟩
  · have k := k.1 c_4
    show WP T N _ 62 _ _ _ _
    refine R_ps 1 (pc2 := 64) (L2 := [some (vr (some w)), some (vi x1)]) (st2 := [vs 2]) rfl ?_
    exact R_sret rfl rfl ⟨_, rfl, k⟩
  replace k := k.2 c_4
  refine ⟨fun c_4 => ?_, fun c_4 => ?_⟩
  · have k := k.1 c_4
    show WP T N _ 56 _ _ _ _
    refine R_ps 1 (pc2 := 58) (L2 := [some (vr (some w)), some (vi x1)]) (st2 := [vs 0]) rfl ?_
    exact R_sret rfl rfl ⟨_, rfl, k⟩
  replace k := k.2 c_4
  refine ⟨fun c_4 => ?_, fun c_4 => ?_⟩
  · have k := k.1 c_4
    show WP T N _ 56 _ _ _ _
    refine R_ps 1 (pc2 := 58) (L2 := [some (vr (some w)), some (vi x1)]) (st2 := [vs 0]) rfl ?_
    exact R_sret rfl rfl ⟨_, rfl, k⟩
  replace k := k.2 c_4
  refine ⟨fun c_4 => ?_, fun c_4 => ?_⟩
  · have k := k.1 c_4
    show WP T N _ 65 _ _ _ _
    refine R_ps 1 (pc2 := 67) (L2 := [some (vr (some w)), some (vi x1)]) (st2 := [vs 3]) rfl ?_
    exact R_sret rfl rfl ⟨_, rfl, k⟩
  replace k := k.2 c_4
  show WP T N _ 68 _ _ _ _
  refine R_ps 1 (pc2 := 70) (L2 := [some (vr (some w)), some (vi x1)]) (st2 := [vs 4]) rfl ?_
  exact R_sret rfl rfl ⟨_, rfl, k⟩
/-- DroneCorridors$Input.findError -/
theorem m52 {T N : Nat → Nat} {h : PH} {w : Nat} {K : Int32 → PH → Prop} (k : (WI T N 52 2 [some (vr (some w)), some (vi 0), none, none] [] h K)) : CI T N 52 [vr (some w)] h K := by
  show WP T N 52 0 [some (vr (some w)), none, none, none] [] h _
  refine R_ps 2 (pc2 := 2) (L2 := [some (vr (some w)), some (vi 0), none, none]) (st2 := []) rfl ?_
  exact k
theorem m52_2 {T N : Nat → Nat} {h : PH} {w : Nat} {x1 : Int32} {K : Int32 → PH → Prop} (t0 : T w = 6) (k : (((x1 < (gi h w 0) → (CS T N 51 [vr (some w), vi x1] h (fun x_9 h_8 => (x_9 < 5 ∧ (((if (txt x_9).length = 0 then (1 : Int32) else 0) = 0 → (WI T N 52 27 [some (vr (some w)), some (vi x1), some (vs x_9), some (vi 0)] [] h_8 K)) ∧ (¬ ((if (txt x_9).length = 0 then (1 : Int32) else 0) = 0) → (K x1 h_8))))))) ∧ (¬ (x1 < (gi h w 0)) → ((((gi h w 0) = 0 → (K 0 h)) ∧ (¬ ((gi h w 0) = 0) → (K (-1) h)))))))) : WI T N 52 2 [some (vr (some w)), some (vi x1), none, none] [] h K := by
  show WP T N 52 2 [some (vr (some w)), some (vi x1), none, none] [] h _
  refine R_ps 2 (pc2 := 4) (L2 := [some (vr (some w)), some (vi x1), none, none]) (st2 := [vr (some w), vi x1]) rfl ?_
  refine R_getI rfl t0 ?_
  refine R_if rfl (fun c_2 => ?_) (fun c_2 => ?_)
  · have k := k.2 (i32_nlt c_2)
    refine R_ps 1 (pc2 := 77) (L2 := [some (vr (some w)), some (vi x1), none, none]) (st2 := [vr (some w)]) rfl ?_
    refine R_getI rfl t0 ?_
    refine R_if0 rfl (fun c_4 => ?_) (fun c_4 => ?_)
    · have k := k.2 c_4
      refine R_ps 1 (pc2 := 88) (L2 := [some (vr (some w)), some (vi x1), none, none]) (st2 := [vi (-1)]) rfl ?_
      exact R_iret rfl rfl ⟨_, rfl, k⟩
    · have k := k.1 (Classical.not_not.mp c_4)
      refine R_ps 2 (pc2 := 88) (L2 := [some (vr (some w)), some (vi x1), none, none]) (st2 := [vi 0]) rfl ?_
      exact R_iret rfl rfl ⟨_, rfl, k⟩
  · have k := k.1 (i32_lt c_2)
    refine R_ps 2 (pc2 := 12) (L2 := [some (vr (some w)), some (vi x1), none, none]) (st2 := [vi x1, vr (some w)]) rfl ?_
    refine R_cS (as := [vr (some w), vi x1]) rfl rfl ⟨Nat.le_of_ble_eq_true rfl, Nat.le_of_ble_eq_true rfl, rfl, (Or.inr ⟨_, rfl, t0⟩)⟩ rfl rfl k (fun x_9 h_8 k => ?_)
    refine R_ps 2 (pc2 := 17) (L2 := [some (vr (some w)), some (vi x1), some (vs x_9), none]) (st2 := [vs x_9]) rfl ?_
    obtain ⟨t_11, k⟩ := k
    refine R_jdk (st2 := [vi (if (txt x_9).length = 0 then (1 : Int32) else 0)]) rfl rfl rfl rfl rfl rfl (pif_pos t_11) rfl ?_
    refine R_if0 rfl (fun c_12 => ?_) (fun c_12 => ?_)
    · have k := k.1 c_12
      refine R_ps 2 (pc2 := 27) (L2 := [some (vr (some w)), some (vi x1), some (vs x_9), some (vi 0)]) (st2 := []) rfl ?_
      exact k
    · have k := k.2 c_12
      refine R_ps 1 (pc2 := 24) (L2 := [some (vr (some w)), some (vi x1), some (vs x_9), none]) (st2 := [vi x1]) rfl ?_
      exact R_iret rfl rfl ⟨_, rfl, k⟩
theorem m52_27 {T N : Nat → Nat} {h : PH} {w : Nat} {x1 : Int32} {s2 : Nat} {x3 : Int32} {K : Int32 → PH → Prop} (t0 : T w = 6) (k : (s2 < 5 ∧ ((x3 < (Int32.ofNat (txt s2).length) → ((((x1 + 1) < (gi h w 0) → ((s2 < 5 ∧ inb x3 (txt s2).length) ∧ CI T N 49 [vr (some w), vi (x1 + 1)] h (fun x_11 h_10 => (CI T N 53 [vi ((txt s2).getD (Int32.toNatClampNeg x3) 0), vi x_11] h_10 (fun x_14 h_13 => (((x_14 = 0 → (K (x1 + 1) h_13)) ∧ (¬ (x_14 = 0) → (WI T N 52 27 [some (vr (some w)), some (vi (x1 + 1)), some (vs s2), some (vi (x3 + 1))] [] h_13 K))))))))) ∧ (¬ ((x1 + 1) < (gi h w 0)) → (K (x1 + 1) h))))) ∧ (¬ (x3 < (Int32.ofNat (txt s2).length)) → (WI T N 52 2 [some (vr (some w)), some (vi (x1 + 1)), none, none] [] h K))))) : WI T N 52 27 [some (vr (some w)), some (vi x1), some (vs s2), some (vi x3)] [] h K := by
  show WP T N 52 27 [some (vr (some w)), some (vi x1), some (vs s2), some (vi x3)] [] h _
  refine R_ps 2 (pc2 := 29) (L2 := [some (vr (some w)), some (vi x1), some (vs s2), some (vi x3)]) (st2 := [vs s2, vi x3]) rfl ?_
  obtain ⟨t_2, k⟩ := k
  refine R_jdk (st2 := [vi (Int32.ofNat (txt s2).length), vi x3]) rfl rfl rfl rfl rfl rfl (pif_pos t_2) rfl ?_
  refine R_if rfl (fun c_3 => ?_) (fun c_3 => ?_)
  · have k := k.2 (i32_nlt c_3)
    refine R_ps 2 (pc2 := 2) (L2 := [some (vr (some w)), some (vi (x1 + 1)), some (vs s2), some (vi x3)]) (st2 := []) rfl ?_
    exact R_drop k (LE_of (L := [some (vr (some w)), some (vi (x1 + 1)), none, none]) (L2 := [some (vr (some w)), some (vi (x1 + 1)), some (vs s2), some (vi x3)]) ⟨rfl, rfl, trivial⟩)
  · have k := k.1 (i32_lt c_3)
    refine R_ps 3 (pc2 := 40) (L2 := [some (vr (some w)), some (vi (x1 + 1)), some (vs s2), some (vi x3)]) (st2 := [vr (some w), vi (x1 + 1)]) rfl ?_
    refine R_getI rfl t0 ?_
    refine R_if rfl (fun c_5 => ?_) (fun c_5 => ?_)
    · have k := k.2 (i32_nlt c_5)
      refine R_ps 1 (pc2 := 63) (L2 := [some (vr (some w)), some (vi (x1 + 1)), some (vs s2), some (vi x3)]) (st2 := [vi (x1 + 1)]) rfl ?_
      exact R_iret rfl rfl ⟨_, rfl, k⟩
    · have k := k.1 (i32_lt c_5)
      refine R_ps 2 (pc2 := 48) (L2 := [some (vr (some w)), some (vi (x1 + 1)), some (vs s2), some (vi x3)]) (st2 := [vi x3, vs s2]) rfl ?_
      obtain ⟨t_8, k⟩ := k
      refine R_jdk (st2 := [vi ((txt s2).getD (Int32.toNatClampNeg x3) 0)]) rfl rfl rfl rfl rfl rfl (pif_pos t_8) rfl ?_
      refine R_ps 2 (pc2 := 53) (L2 := [some (vr (some w)), some (vi (x1 + 1)), some (vs s2), some (vi x3)]) (st2 := [vi (x1 + 1), vr (some w), vi ((txt s2).getD (Int32.toNatClampNeg x3) 0)]) rfl ?_
      refine R_cI (as := [vr (some w), vi (x1 + 1)]) rfl rfl ⟨Nat.le_of_ble_eq_true rfl, Nat.le_of_ble_eq_true rfl, rfl, (Or.inr ⟨_, rfl, t0⟩)⟩ rfl rfl k (fun x_11 h_10 k => ?_)
      refine R_cI (as := [vi ((txt s2).getD (Int32.toNatClampNeg x3) 0), vi x_11]) rfl rfl ⟨Nat.le_of_ble_eq_true rfl, Nat.le_of_ble_eq_true rfl, rfl, (Or.inl rfl)⟩ rfl rfl k (fun x_14 h_13 k => ?_)
      refine R_if0 rfl (fun c_15 => ?_) (fun c_15 => ?_)
      · have k := k.2 c_15
        refine R_ps 2 (pc2 := 27) (L2 := [some (vr (some w)), some (vi (x1 + 1)), some (vs s2), some (vi (x3 + 1))]) (st2 := []) rfl ?_
        exact k
      · have k := k.1 (Classical.not_not.mp c_15)
        refine R_ps 1 (pc2 := 63) (L2 := [some (vr (some w)), some (vi (x1 + 1)), some (vs s2), some (vi x3)]) (st2 := [vi (x1 + 1)]) rfl ?_
        exact R_iret rfl rfl ⟨_, rfl, k⟩
/-- DroneCorridors$Input.isLike -/
theorem m53 {T N : Nat → Nat} {h : PH} {x0 : Int32} {x1 : Int32} {K : Int32 → PH → Prop} (k : (((x0 = 35 → (((x1 < 48 → (K 0 h)) ∧ (¬ (x1 < 48) → (((57 < x1 → (K 0 h)) ∧ (¬ (57 < x1) → (K 1 h)))))))) ∧ (¬ (x0 = 35) → ((x0 = 43 → (((x1 < 49 → (K 0 h)) ∧ (¬ (x1 < 49) → (((57 < x1 → (K 0 h)) ∧ (¬ (57 < x1) → (K 1 h)))))))) ∧ (¬ (x0 = 43) → (((x1 = x0 → (K 1 h)) ∧ (¬ (x1 = x0) → (K 0 h)))))))))) : CI T N 53 [vi x0, vi x1] h K := by
  show WP T N 53 0 [some (vi x0), some (vi x1)] [] h _
  refine R_ps 1 (pc2 := 1) (L2 := [some (vi x0), some (vi x1)]) (st2 := [vi x0]) rfl ?_
  refine R_lsw rfl rfl ?_
  refine ⟨fun c_1 => ?_, fun c_1 => ?_⟩
  · have k := k.1 c_1
    show WP T N _ 28 _ _ _ _
    refine R_ps 2 (pc2 := 31) (L2 := [some (vi x0), some (vi x1)]) (st2 := [vi 48, vi x1]) rfl ?_
    refine R_if rfl (fun c_2 => ?_) (fun c_2 => ?_)
    · have k := k.1 c_2
      refine R_ps 1 (pc2 := 45) (L2 := [some (vi x0), some (vi x1)]) (st2 := [vi 0]) rfl ?_
      exact R_zret rfl rfl (Or.inl rfl) ⟨_, rfl, k⟩
    · have k := k.2 c_2
      refine R_ps 2 (pc2 := 37) (L2 := [some (vi x0), some (vi x1)]) (st2 := [vi 57, vi x1]) rfl ?_
      refine R_if rfl (fun c_4 => ?_) (fun c_4 => ?_)
      · have k := k.1 c_4
        refine R_ps 1 (pc2 := 45) (L2 := [some (vi x0), some (vi x1)]) (st2 := [vi 0]) rfl ?_
        exact R_zret rfl rfl (Or.inl rfl) ⟨_, rfl, k⟩
      · have k := k.2 c_4
        refine R_ps 2 (pc2 := 45) (L2 := [some (vi x0), some (vi x1)]) (st2 := [vi 1]) rfl ?_
        exact R_zret rfl rfl (Or.inr rfl) ⟨_, rfl, k⟩
  replace k := k.2 c_1
  refine ⟨fun c_1 => ?_, fun c_1 => ?_⟩
  · have k := k.1 c_1
    show WP T N _ 46 _ _ _ _
    refine R_ps 2 (pc2 := 49) (L2 := [some (vi x0), some (vi x1)]) (st2 := [vi 49, vi x1]) rfl ?_
    refine R_if rfl (fun c_7 => ?_) (fun c_7 => ?_)
    · have k := k.1 c_7
      refine R_ps 1 (pc2 := 63) (L2 := [some (vi x0), some (vi x1)]) (st2 := [vi 0]) rfl ?_
      exact R_zret rfl rfl (Or.inl rfl) ⟨_, rfl, k⟩
    · have k := k.2 c_7
      refine R_ps 2 (pc2 := 55) (L2 := [some (vi x0), some (vi x1)]) (st2 := [vi 57, vi x1]) rfl ?_
      refine R_if rfl (fun c_9 => ?_) (fun c_9 => ?_)
      · have k := k.1 c_9
        refine R_ps 1 (pc2 := 63) (L2 := [some (vi x0), some (vi x1)]) (st2 := [vi 0]) rfl ?_
        exact R_zret rfl rfl (Or.inl rfl) ⟨_, rfl, k⟩
      · have k := k.2 c_9
        refine R_ps 2 (pc2 := 63) (L2 := [some (vi x0), some (vi x1)]) (st2 := [vi 1]) rfl ?_
        exact R_zret rfl rfl (Or.inr rfl) ⟨_, rfl, k⟩
  replace k := k.2 c_1
  show WP T N _ 64 _ _ _ _
  refine R_ps 2 (pc2 := 66) (L2 := [some (vi x0), some (vi x1)]) (st2 := [vi x0, vi x1]) rfl ?_
  refine R_if rfl (fun c_12 => ?_) (fun c_12 => ?_)
  · have k := k.2 c_12
    refine R_ps 1 (pc2 := 74) (L2 := [some (vi x0), some (vi x1)]) (st2 := [vi 0]) rfl ?_
    exact R_zret rfl rfl (Or.inl rfl) ⟨_, rfl, k⟩
  · have k := k.1 (Classical.not_not.mp c_12)
    refine R_ps 2 (pc2 := 74) (L2 := [some (vi x0), some (vi x1)]) (st2 := [vi 1]) rfl ?_
    exact R_zret rfl rfl (Or.inr rfl) ⟨_, rfl, k⟩
/-- DroneCorridors$Leg.<init> -/
theorem m54 {T N : Nat → Nat} {h : PH} {w : Nat} {K : PH → Prop} (k : (K h)) : CV T N 54 [vr (some w)] h K := by
  show WP T N 54 0 [some (vr (some w))] [] h _
  refine R_ps 1 (pc2 := 1) (L2 := [some (vr (some w))]) (st2 := [vr (some w)]) rfl ?_
  refine R_jdk (st2 := []) rfl rfl rfl rfl rfl rfl rfl rfl ?_
  exact R_ret rfl rfl ⟨rfl, k⟩
/-- DroneCorridors$Leg.isWhereIs -/
theorem m55 {T N : Nat → Nat} {h : PH} {w : Nat} {a1 : Nat} {K : Int32 → PH → Prop} (t0 : T w = 7) (t1 : T a1 = 7) (k : ((((gi h w 0) = (gi h a1 0) → ((((gi h w 2) = (gi h a1 2) → (K 1 h)) ∧ (¬ ((gi h w 2) = (gi h a1 2)) → (K 0 h))))) ∧ (¬ ((gi h w 0) = (gi h a1 0)) → (K 0 h))))) : CI T N 55 [vr (some w), vr (some a1)] h K := by
  show WP T N 55 0 [some (vr (some w)), some (vr (some a1))] [] h _
  refine R_ps 1 (pc2 := 1) (L2 := [some (vr (some w)), some (vr (some a1))]) (st2 := [vr (some w)]) rfl ?_
  refine R_getI rfl t0 ?_
  refine R_ps 1 (pc2 := 5) (L2 := [some (vr (some w)), some (vr (some a1))]) (st2 := [vr (some a1), vi (gi h w 0)]) rfl ?_
  refine R_getI rfl t1 ?_
  refine R_if rfl (fun c_3 => ?_) (fun c_3 => ?_)
  · have k := k.2 c_3
    refine R_ps 1 (pc2 := 27) (L2 := [some (vr (some w)), some (vr (some a1))]) (st2 := [vi 0]) rfl ?_
    exact R_zret rfl rfl (Or.inl rfl) ⟨_, rfl, k⟩
  · have k := k.1 (Classical.not_not.mp c_3)
    refine R_ps 1 (pc2 := 12) (L2 := [some (vr (some w)), some (vr (some a1))]) (st2 := [vr (some w)]) rfl ?_
    refine R_getI rfl t0 ?_
    refine R_ps 1 (pc2 := 16) (L2 := [some (vr (some w)), some (vr (some a1))]) (st2 := [vr (some a1), vi (gi h w 2)]) rfl ?_
    refine R_getI rfl t1 ?_
    refine R_if rfl (fun c_7 => ?_) (fun c_7 => ?_)
    · have k := k.2 c_7
      refine R_ps 1 (pc2 := 27) (L2 := [some (vr (some w)), some (vr (some a1))]) (st2 := [vi 0]) rfl ?_
      exact R_zret rfl rfl (Or.inl rfl) ⟨_, rfl, k⟩
    · have k := k.1 (Classical.not_not.mp c_7)
      refine R_ps 2 (pc2 := 27) (L2 := [some (vr (some w)), some (vr (some a1))]) (st2 := [vi 1]) rfl ?_
      exact R_zret rfl rfl (Or.inr rfl) ⟨_, rfl, k⟩
/-- DroneCorridors$Leg.isSeparatedFrom -/
theorem m56 {T N : Nat → Nat} {h : PH} {w : Nat} {a1 : Nat} {K : Int32 → PH → Prop} (t0 : T w = 7) (t1 : T a1 = 7) (k : ((((gi h w 1) = (gi h a1 1) → ((((if 0 ≤ ((gi h w 3) - (gi h a1 3)) then ((gi h w 3) - (gi h a1 3)) else 0 - ((gi h w 3) - (gi h a1 3))) < 2 → (K 0 h)) ∧ (¬ ((if 0 ≤ ((gi h w 3) - (gi h a1 3)) then ((gi h w 3) - (gi h a1 3)) else 0 - ((gi h w 3) - (gi h a1 3))) < 2) → (K 1 h))))) ∧ (¬ ((gi h w 1) = (gi h a1 1)) → ((((gi h a1 3) < (gi h w 4) → ((((gi h w 3) < (gi h a1 4) → (K 0 h)) ∧ (¬ ((gi h w 3) < (gi h a1 4)) → (K 1 h))))) ∧ (¬ ((gi h a1 3) < (gi h w 4)) → (K 1 h)))))))) : CI T N 56 [vr (some w), vr (some a1)] h K := by
  show WP T N 56 0 [some (vr (some w)), some (vr (some a1))] [] h _
  refine R_ps 1 (pc2 := 1) (L2 := [some (vr (some w)), some (vr (some a1))]) (st2 := [vr (some w)]) rfl ?_
  refine R_getI rfl t0 ?_
  refine R_ps 1 (pc2 := 5) (L2 := [some (vr (some w)), some (vr (some a1))]) (st2 := [vr (some a1), vi (gi h w 1)]) rfl ?_
  refine R_getI rfl t1 ?_
  refine R_if rfl (fun c_3 => ?_) (fun c_3 => ?_)
  · have k := k.2 c_3
    refine R_ps 1 (pc2 := 34) (L2 := [some (vr (some w)), some (vr (some a1))]) (st2 := [vr (some w)]) rfl ?_
    refine R_getI rfl t0 ?_
    refine R_ps 1 (pc2 := 38) (L2 := [some (vr (some w)), some (vr (some a1))]) (st2 := [vr (some a1), vi (gi h w 4)]) rfl ?_
    refine R_getI rfl t1 ?_
    refine R_if rfl (fun c_6 => ?_) (fun c_6 => ?_)
    · have k := k.2 (i32_nlt c_6)
      refine R_ps 2 (pc2 := 60) (L2 := [some (vr (some w)), some (vr (some a1))]) (st2 := [vi 1]) rfl ?_
      exact R_zret rfl rfl (Or.inr rfl) ⟨_, rfl, k⟩
    · have k := k.1 (i32_lt c_6)
      refine R_ps 1 (pc2 := 45) (L2 := [some (vr (some w)), some (vr (some a1))]) (st2 := [vr (some a1)]) rfl ?_
      refine R_getI rfl t1 ?_
      refine R_ps 1 (pc2 := 49) (L2 := [some (vr (some w)), some (vr (some a1))]) (st2 := [vr (some w), vi (gi h a1 4)]) rfl ?_
      refine R_getI rfl t0 ?_
      refine R_if rfl (fun c_10 => ?_) (fun c_10 => ?_)
      · have k := k.1 c_10
        refine R_ps 1 (pc2 := 60) (L2 := [some (vr (some w)), some (vr (some a1))]) (st2 := [vi 0]) rfl ?_
        exact R_zret rfl rfl (Or.inl rfl) ⟨_, rfl, k⟩
      · have k := k.2 c_10
        refine R_ps 2 (pc2 := 60) (L2 := [some (vr (some w)), some (vr (some a1))]) (st2 := [vi 1]) rfl ?_
        exact R_zret rfl rfl (Or.inr rfl) ⟨_, rfl, k⟩
  · have k := k.1 (Classical.not_not.mp c_3)
    refine R_ps 1 (pc2 := 12) (L2 := [some (vr (some w)), some (vr (some a1))]) (st2 := [vr (some w)]) rfl ?_
    refine R_getI rfl t0 ?_
    refine R_ps 1 (pc2 := 16) (L2 := [some (vr (some w)), some (vr (some a1))]) (st2 := [vr (some a1), vi (gi h w 3)]) rfl ?_
    refine R_getI rfl t1 ?_
    refine R_ps 1 (pc2 := 20) (L2 := [some (vr (some w)), some (vr (some a1))]) (st2 := [vi ((gi h w 3) - (gi h a1 3))]) rfl ?_
    refine R_jdk (st2 := [vi (if 0 ≤ ((gi h w 3) - (gi h a1 3)) then ((gi h w 3) - (gi h a1 3)) else 0 - ((gi h w 3) - (gi h a1 3)))]) rfl rfl rfl rfl rfl rfl rfl rfl ?_
    refine R_ps 1 (pc2 := 24) (L2 := [some (vr (some w)), some (vr (some a1))]) (st2 := [vi 2, vi (if 0 ≤ ((gi h w 3) - (gi h a1 3)) then ((gi h w 3) - (gi h a1 3)) else 0 - ((gi h w 3) - (gi h a1 3)))]) rfl ?_
    refine R_if rfl (fun c_16 => ?_) (fun c_16 => ?_)
    · have k := k.1 c_16
      refine R_ps 1 (pc2 := 32) (L2 := [some (vr (some w)), some (vr (some a1))]) (st2 := [vi 0]) rfl ?_
      exact R_zret rfl rfl (Or.inl rfl) ⟨_, rfl, k⟩
    · have k := k.2 c_16
      refine R_ps 2 (pc2 := 32) (L2 := [some (vr (some w)), some (vr (some a1))]) (st2 := [vi 1]) rfl ?_
      exact R_zret rfl rfl (Or.inr rfl) ⟨_, rfl, k⟩
/-- DroneCorridors$Leg.copy -/
theorem m57 {T N : Nat → Nat} {h : PH} {w : Nat} {a1 : Nat} {K : PH → Prop} (t0 : T a1 = 7) (t1 : T w = 7) (k : (∀ h_3, h_3 = si h w 0 (gi h a1 0) → ∀ h_7, h_7 = si h_3 w 1 (gi h_3 a1 1) → ∀ h_11, h_11 = si h_7 w 2 (gi h_7 a1 2) → ∀ h_15, h_15 = si h_11 w 3 (gi h_11 a1 3) → ∀ h_19, h_19 = si h_15 w 4 (gi h_15 a1 4) → K h_19)) : CV T N 57 [vr (some w), vr (some a1)] h K := by
  show WP T N 57 0 [some (vr (some w)), some (vr (some a1))] [] h _
  refine R_ps 2 (pc2 := 2) (L2 := [some (vr (some w)), some (vr (some a1))]) (st2 := [vr (some a1), vr (some w)]) rfl ?_
  refine R_getI rfl t0 ?_
  refine R_putI rfl t1 ?_
  show WP T N _ _ _ _ (si h w 0 (gi h a1 0)) _
  generalize e_4 : si h w 0 (gi h a1 0) = h_3
  replace k := k h_3 e_4.symm
  refine R_ps 2 (pc2 := 10) (L2 := [some (vr (some w)), some (vr (some a1))]) (st2 := [vr (some a1), vr (some w)]) rfl ?_
  refine R_getI rfl t0 ?_
  refine R_putI rfl t1 ?_
  show WP T N _ _ _ _ (si h_3 w 1 (gi h_3 a1 1)) _
  generalize e_8 : si h_3 w 1 (gi h_3 a1 1) = h_7
  replace k := k h_7 e_8.symm
  refine R_ps 2 (pc2 := 18) (L2 := [some (vr (some w)), some (vr (some a1))]) (st2 := [vr (some a1), vr (some w)]) rfl ?_
  refine R_getI rfl t0 ?_
  refine R_putI rfl t1 ?_
  show WP T N _ _ _ _ (si h_7 w 2 (gi h_7 a1 2)) _
  generalize e_12 : si h_7 w 2 (gi h_7 a1 2) = h_11
  replace k := k h_11 e_12.symm
  refine R_ps 2 (pc2 := 26) (L2 := [some (vr (some w)), some (vr (some a1))]) (st2 := [vr (some a1), vr (some w)]) rfl ?_
  refine R_getI rfl t0 ?_
  refine R_putI rfl t1 ?_
  show WP T N _ _ _ _ (si h_11 w 3 (gi h_11 a1 3)) _
  generalize e_16 : si h_11 w 3 (gi h_11 a1 3) = h_15
  replace k := k h_15 e_16.symm
  refine R_ps 2 (pc2 := 34) (L2 := [some (vr (some w)), some (vr (some a1))]) (st2 := [vr (some a1), vr (some w)]) rfl ?_
  refine R_getI rfl t0 ?_
  refine R_putI rfl t1 ?_
  show WP T N _ _ _ _ (si h_15 w 4 (gi h_15 a1 4)) _
  generalize e_20 : si h_15 w 4 (gi h_15 a1 4) = h_19
  replace k := k h_19 e_20.symm
  exact R_ret rfl rfl ⟨rfl, k⟩
