/-! LEG, DRONE, DESCRIBE -/
section OB3
variable {T N : Nat → Nat} {bs A a b w : Nat} {h h1 h2 h3 h7 h10 : PH} {v u sv tx e : Int → Int} {hs hs2 : Int → Int → Int} {iss n tn re er d t : Int} {i : Nat} {K : Int → PH → Prop} {KP : PR → PH → Prop} {Q : Int → Int → Int → PH → Prop}
/-- what a leg says -/
def legV (v : Int → Int) (x w : Int) : Int := if w = 0 then x % 16 else if w = 1 then x / 16 % 2 else if w = 2 then x / 32 % 4 else if w = 3 then x / 128 else endV v x
theorem endV_b (I : Iv v) {x : Int} (L : legOK v x) : 0 ≤ endV v x ∧ endV v x ≤ 10109 ∧ x < 1300000 := by
  have b := I.b
  unfold legOK at L
  have cO := I.c (n := x % 16) (by omega) (by omega)
  unfold corOK at cO
  unfold endV; omega
theorem legV_in (I : Iv v) {x w : Int} (L : legOK v x) (hw : 0 ≤ w ∧ w ≤ 4) : In (legV v x w) := by
  have g := endV_b I L
  unfold legOK at L
  unfold legV
  rcases (show w = 0 ∨ w = 1 ∨ w = 2 ∨ w = 3 ∨ w = 4 by omega) with z | z | z | z | z <;> subst z
  · rw [if_pos rfl]; omega
  · rw [if_neg (by decide), if_pos rfl]; omega
  · rw [if_neg (by decide), if_neg (by decide), if_pos rfl]; omega
  · rw [if_neg (by decide), if_neg (by decide), if_neg (by decide), if_pos rfl]; omega
  · rw [if_neg (by decide), if_neg (by decide), if_neg (by decide), if_neg (by decide)]; omega
theorem rc_leg (I : Iv v) {f j : Int} (hf : 0 ≤ f ∧ f < v 117) (hj : 0 ≤ j ∧ j < rc v f 5) : legOK v (rc v f (13 + j)) := (I.d hf.1 hf.2).2.2.2.2.2.2.2.2.2.2.2.2.2.2.2.2.2 j hj.1 hj.2
theorem rc_5 (I : Iv v) {f : Int} (hf : 0 ≤ f ∧ f < v 117) : 0 ≤ rc v f 5 ∧ rc v f 5 ≤ 41 := (I.d hf.1 hf.2).2.2.2.2.2.1
theorem c_leg (C : Com T N bs h i) (I : IvS v iss sv n hs tn tx re er) (D : SD T N bs h v iss sv n hs tn tx re er) {f j w : Int} (hf : In f) (hj : In j) (hw : In w) (k0 : 0 ≤ f ∧ f < v 117 → 0 ≤ j ∧ j < rc v f 5 → 0 ≤ w ∧ w ≤ 4 → KP (.inl (some (vi (J (legV v (rc v f (13 + j)) w))))) h) (k1 : ¬ ((0 ≤ f ∧ f < v 117) ∧ 0 ≤ j ∧ j < rc v f 5) → KP (.inr 2) (bump h)) (k2 : 0 ≤ f ∧ f < v 117 → 0 ≤ j ∧ j < rc v f 5 → ¬ (0 ≤ w ∧ w ≤ 4) → KP (.inr 1) (bump h)) : CALL T N 122 [vr (some bs), vi (J f), vi (J j), vi (J w)] h KP := by
  have b := I.1.b
  have o := C.o
  have eb := D.1.b
  refine z122 o.1 hf hj hw ⟨bs + 1, o.2.1, C.2.1.1.t, d_dro C.2.1.1 hf (by omega) (fun c1 => ⟨fun z => by (cases z), fun a' ea => ?_⟩) (fun c1 => ⟨fun _ => ⟨C.t0, k1 (by omega)⟩, fun a' ea => by (cases ea)⟩)⟩
  cases ea
  have cf : 0 ≤ f ∧ f < v 117 := by omega
  have Dt := (C.2.1.1.d (c := f) (by omega)).2
  have Dd := D.1.d cf.1 cf.2
  have e8 := Dd.1.2.2.2.2.2.2.2
  have h5 := rc_5 I.1 cf
  refine ⟨Dt.t, d_legAt Dt hj (by omega) (fun c2 x hx q1 q2 tx => ⟨fun z => by (cases z), fun a' ea => ?_⟩) (fun c2 => ⟨fun _ => ⟨C.t0, k1 (by omega)⟩, fun a' ea => by (cases ea)⟩)⟩
  cases ea
  have cj : 0 ≤ j ∧ j < rc v f 5 := by omega
  obtain ⟨l0, l1, l2, l3, l4⟩ := Dd.2.2 j cj.1 cj.2 x hx
  rw [l0, l1, l2, l3, l4]
  refine ⟨fun z => ⟨tx, ?_⟩, fun z0 => ⟨fun z => ⟨tx, ?_⟩, fun z1 => ⟨fun z => ⟨tx, ?_⟩, fun z2 => ⟨fun z => ⟨tx, ?_⟩, fun z3 => ⟨fun z => ⟨tx, ?_⟩, fun z4 => ⟨C.t0, k2 cf cj (by omega)⟩⟩⟩⟩⟩⟩
  · have := k0 cf cj (by omega); unfold legV at this; rw [if_pos z] at this; exact this
  · have := k0 cf cj (by omega); unfold legV at this; rw [if_neg z0, if_pos z] at this; exact this
  · have := k0 cf cj (by omega); unfold legV at this; rw [if_neg z0, if_neg z1, if_pos z] at this; exact this
  · have := k0 cf cj (by omega); unfold legV at this; rw [if_neg z0, if_neg z1, if_neg z2, if_pos z] at this; exact this
  · have := k0 cf cj (by omega); unfold legV at this; rw [if_neg z0, if_neg z1, if_neg z2, if_neg z3] at this; exact this
theorem s_eOf (T7 : RT T N A h7) (I : Iv v) (R7 : Rv A h7 v) {x : Int} (L : legOK v x) (k : K (endV v x) h7) : ZI T N 191 [vr (some A), vi (J x)] h7 K := by
  have b := I.b
  have g := endV_b I L
  unfold legOK at L
  have cO := I.c (n := x % 16) (by omega) (by omega)
  unfold corOK at cO
  have e2 := R7 (12 + 4 * (x % 16) + 2) (by omega) (by omega)
  exact r_eOf T7 (by omega) (by omega) (by rw [endV_cg2 (v := v) fun j a1 a2 => R7 j a1 (by omega)]; exact k)
theorem q_leg (T7 : RT T N A h7) (I : IvS v iss sv n hs tn tx re er) (R7 : SR A h7 v iss sv n hs tn tx re er) {f j w : Int} (hf : In f) (hj : In j) (hw : In w) (k0 : 0 ≤ f ∧ f < v 117 → 0 ≤ j ∧ j < rc v f 5 → 0 ≤ w ∧ w ≤ 4 → ∀ h8, FR (Scr A) h7 h8 → SR A h8 v iss sv n hs tn tx re er → ai h8 A 0 = 0 → K (legV v (rc v f (13 + j)) w) h8) (k1 : ¬ ((0 ≤ f ∧ f < v 117) ∧ 0 ≤ j ∧ j < rc v f 5) → ∀ h8, FR (Scr A) h7 h8 → SR A h8 v iss sv n hs tn tx re er → ai h8 A 0 = 1 → K 0 h8) (k2 : 0 ≤ f ∧ f < v 117 → 0 ≤ j ∧ j < rc v f 5 → ¬ (0 ≤ w ∧ w ≤ 4) → ∀ h8, FR (Scr A) h7 h8 → SR A h8 v iss sv n hs tn tx re er → ai h8 A 0 = 2 → K 0 h8) : ZI T N 198 [vr (some A), vi (J f), vi (J j), vi (J w)] h7 K := by
  have b := I.1.b
  have n1 := T7.a1.2.1
  have e0 := R7.1 117 (by omega) (by omega)
  refine z198 T7.t hf hj hw (r_isDrone T7 hf (by omega) (fun c1 => ⟨(fun z => absurd z (by decide)), fun _ => ?_⟩) (fun c1 => ⟨fun _ => ?_, (fun z => absurd rfl z)⟩))
  rotate_left
  · intro h8 z8; obtain ⟨R8, F8⟩ := R7.th (x := 1); rw [← z8] at R8 F8; have e8 : ai h8 A 0 = 1 := (by subst z8; exact rd_eq rfl rfl (by decide)); have T8 := T7.fr F8; rw [e8]; clear z8
    exact ⟨fun _ => k1 (by omega) h8 F8 R8 e8, fun z => absurd (by decide) z⟩
  have cf : 0 ≤ f ∧ f < v 117 := by omega
  have h5 := rc_5 I.1 cf
  refine r_of T7 (by omega) (by omega) ?_
  rw [R7.1 _ (by omega) (by omega)]
  show ZI T N 158 [vi (J j), vi (J 0), vi (J (rc v f 5 - 1))] h7 _
  refine r_in hj (by decide) (by omega) (fun c2 => ⟨(fun z => absurd z (by decide)), fun _ => ?_⟩) (fun c2 => ⟨fun _ => ?_, (fun z => absurd rfl z)⟩)
  rotate_left
  · intro h8 z8; obtain ⟨R8, F8⟩ := R7.th (x := 1); rw [← z8] at R8 F8; have e8 : ai h8 A 0 = 1 := (by subst z8; exact rd_eq rfl rfl (by decide)); have T8 := T7.fr F8; rw [e8]; clear z8
    exact ⟨fun _ => k1 (by omega) h8 F8 R8 e8, fun z => absurd (by decide) z⟩
  have cj : 0 ≤ j ∧ j < rc v f 5 := by omega
  refine r_in hw (by decide) (by decide) (fun c3 => ⟨(fun z => absurd z (by decide)), fun _ => ?_⟩) (fun c3 => ⟨fun _ => ?_, (fun z => absurd rfl z)⟩)
  rotate_left
  · intro h8 z8; obtain ⟨R8, F8⟩ := R7.th (x := 2); rw [← z8] at R8 F8; have e8 : ai h8 A 0 = 2 := (by subst z8; exact rd_eq rfl rfl (by decide)); have T8 := T7.fr F8; rw [e8]; clear z8
    exact ⟨fun _ => k2 cf cj c3 h8 F8 R8 e8, fun z => absurd (by decide) z⟩
  intro h8 z8; obtain ⟨R8, F8⟩ := R7.th (x := 0); rw [← z8] at R8 F8; have e8 : ai h8 A 0 = 0 := (by subst z8; exact rd_eq rfl rfl (by decide)); have T8 := T7.fr F8; rw [e8]; clear z8
  have L := rc_leg I.1 cf cj
  have g := endV_b I.1 L
  have kk := k0 cf cj c3 h8 F8 R8 e8
  unfold legV at kk
  have L2 := L
  unfold legOK at L2
  refine ⟨(fun z => absurd z (by decide)), fun _ => r_leg T8 (by omega) (by omega) ?_⟩
  rw [R8.1 _ (by omega) (by omega)]
  show (w = 0 → ZI T N 187 [vi (J (rc v f (13 + j)))] h8 _) ∧ _
  refine ⟨fun z => r_cOf (by omega) ?_, fun z0 => ⟨fun z => r_wOf (show 0 ≤ rc v f (13 + j) ∧ rc v f (13 + j) < _ by omega) ?_, fun z1 => ⟨fun z => r_lOf (show 0 ≤ rc v f (13 + j) ∧ rc v f (13 + j) < _ by omega) ?_, fun z2 => ⟨fun z => r_sOf (show 0 ≤ rc v f (13 + j) ∧ rc v f (13 + j) < _ by omega) ?_, fun z3 => s_eOf T8 I.1 R8.1 L ?_⟩⟩⟩⟩
  · rw [if_pos z] at kk; exact kk
  · rw [if_neg z0, if_pos z] at kk; exact kk
  · rw [if_neg z0, if_neg z1, if_pos z] at kk; exact kk
  · rw [if_neg z0, if_neg z1, if_neg z2, if_pos z] at kk; exact kk
  · rw [if_neg z0, if_neg z1, if_neg z2, if_neg z3] at kk; exact kk
theorem P_leg (S : Sim T N bs h i) {f j w : Int} (hf : In f) (hj : In j) (hw : In w) (k : Cont T N bs i h Q) : ZI T N 271 [vr (some bs), vi (J f), vi (J j), vi (J w), vr (some (bs + 3309))] h (fun c h1 => ZI T N 198 [vr (some (bs + 3296)), vi (J f), vi (J j), vi (J w)] h1 (fun b h2 => ZI T N 156 [vr (some (bs + 3296))] h2 (fun t h3 => Q c b t h3))) := by
  obtain ⟨v, iss, sv, n, hs, tn, tx, re, er, C, I, D, R⟩ := S; have b := I.1.b; have o := C.o; have out := C.out
  refine z271 o.1 out.1 hf hj hw (c_leg C I D hf hj hw (fun a1 a2 a3 => Or.inl ⟨_, rfl, legV_in I.1 (rc_leg I.1 a1 a2) a3, by omega, ?_⟩) (fun a1 => Or.inr (Or.inl ⟨rfl, ?_⟩)) (fun a1 a2 a3 => Or.inr (Or.inr ⟨rfl, ?_⟩)))
  · intro h7 z7; subst z7; obtain ⟨C7, D7, F7, G7⟩ := tail0 (h := h) C D I Fcl.rf (x := (J (legV v (rc v f (13 + j)) w)).toInt64); generalize sL h (bs + 3309) (Int.toNat 0) (J (legV v (rc v f (13 + j)) w)).toInt64 = h7 at *; have R7 := R.fd F7
    exact q_leg C7.rt I R7 hf hj hw (fun _ _ _ h8 F8 R8 e8 => fin k C7 I D7 F7 F8.sk R8 e8 (legV_in I.1 (rc_leg I.1 a1 a2) a3) fun _ => G7) (fun z => absurd ⟨a1, a2⟩ z) (fun _ _ z => absurd a3 z)
  · have C7 := C.bm; have D7 := D.bm I; have F7 : Fcl bs h (bump h) := Fcl.bm; generalize bump h = h7 at *; have R7 := R.fd F7
    exact q_leg C7.rt I R7 hf hj hw (fun z z2 => absurd ⟨z, z2⟩ a1) (fun _ h8 F8 R8 e8 => fin k C7 I D7 F7 F8.sk R8 e8 (by decide) fun z => by omega) (fun z z2 => absurd ⟨z, z2⟩ a1)
  · have C7 := C.bm; have D7 := D.bm I; have F7 : Fcl bs h (bump h) := Fcl.bm; generalize bump h = h7 at *; have R7 := R.fd F7
    exact q_leg C7.rt I R7 hf hj hw (fun _ _ z => absurd z a3) (fun z => absurd ⟨a1, a2⟩ z) (fun _ _ _ h8 F8 R8 e8 => fin k C7 I D7 F7 F8.sk R8 e8 (by decide) fun z => by omega)
/-! drone -/
def drnV (v : Int → Int) (f w : Int) : Int := if w < 6 then rc v f w else if rc v f 5 = 0 then v 448 else endV v (rc v f (13 + (rc v f 5 - 1)))
theorem drnV_in (I : Iv v) {f w : Int} (hf : 0 ≤ f ∧ f < v 117) (hw : 0 ≤ w ∧ w ≤ 6) : In (drnV v f w) := by
  have b := I.b
  have h5 := rc_5 I hf
  obtain ⟨o0, o1, o2, o3, o4, o5, o6, -⟩ := I.d hf.1 hf.2
  unfold drnV
  by_cases c : w < 6
  · rw [if_pos c]
    rcases (show w = 0 ∨ w = 1 ∨ w = 2 ∨ w = 3 ∨ w = 4 ∨ w = 5 by omega) with z | z | z | z | z | z <;> subst z <;> omega
  · rw [if_neg c]
    by_cases c2 : rc v f 5 = 0
    · rw [if_pos c2]; omega
    · rw [if_neg c2]
      have := endV_b I (rc_leg I hf (j := rc v f 5 - 1) (by omega)); omega
theorem c_drone (C : Com T N bs h i) (I : IvS v iss sv n hs tn tx re er) (D : SD T N bs h v iss sv n hs tn tx re er) {f w : Int} (hf : In f) (hw : In w) (k0 : 0 ≤ f ∧ f < v 117 → 0 ≤ w ∧ w ≤ 6 → KP (.inl (some (vi (J (drnV v f w))))) h) (k1 : ¬ (0 ≤ f ∧ f < v 117) → KP (.inr 2) (bump h)) (k2 : 0 ≤ f ∧ f < v 117 → ¬ (0 ≤ w ∧ w ≤ 6) → KP (.inr 1) (bump h)) : CALL T N 118 [vr (some bs), vi (J f), vi (J w)] h KP := by
  have b := I.1.b
  have o := C.o
  have eb := D.1.b
  refine z118 o.1 hf hw ⟨bs + 1, o.2.1, C.2.1.1.t, d_dro C.2.1.1 hf (by omega) (fun c1 => ⟨fun z => by (cases z), fun a' ea => ?_⟩) (fun c1 => ⟨fun _ => ⟨C.t0, k1 (by omega)⟩, fun a' ea => by (cases ea)⟩)⟩
  cases ea
  have cf : 0 ≤ f ∧ f < v 117 := by omega
  have Dt := (C.2.1.1.d (c := f) (by omega)).2
  have Dd := D.1.d cf.1 cf.2
  obtain ⟨g0, g1, g2, g3, g4, g5, g6, g8⟩ := Dd.1
  have h5 := rc_5 I.1 cf
  have kk := k0 cf
  unfold drnV at kk
  rw [g0, g1, g2, g3, g4, g8]
  refine ⟨fun z => ⟨Dt.t, ?_⟩, fun z0 => ⟨fun z => ⟨Dt.t, ?_⟩, fun z1 => ⟨fun z => ⟨Dt.t, ?_⟩, fun z2 => ⟨fun z => ⟨Dt.t, ?_⟩, fun z3 => ⟨fun z => ⟨Dt.t, ?_⟩, fun z4 => ⟨fun z => ⟨Dt.t, ?_⟩, fun z5 => ⟨fun z => ⟨bs + 1, o.2.1, C.2.1.1.t, Dt.t, ?_⟩, fun z6 => ⟨C.t0, k2 cf (by omega)⟩⟩⟩⟩⟩⟩⟩⟩
  · subst z; exact kk (by decide)
  · subst z; exact kk (by decide)
  · subst z; exact kk (by decide)
  · subst z; exact kk (by decide)
  · subst z; exact kk (by decide)
  · subst z; exact kk (by decide)
  · have k6 := kk (by omega)
    rw [if_neg (by omega)] at k6
    rw [eb.1]
    refine z20 Dt.t (by omega) (d_legAt Dt (n := ai h (dA (bs + 1) f) 8 - 1) (by omega) (by omega) (fun c2 x hx q1 q2 tx => ⟨fun z => by (cases z), fun a' ea => ⟨?_, ?_⟩⟩) (fun c2 => ⟨fun _ => ?_, fun a' ea => by (cases ea)⟩))
    · cases ea; exact tx
    · cases ea
      rw [if_neg (by omega)] at k6
      have L := Dd.2.2 (rc v f 5 - 1) (by omega) (by omega) x (by rw [← g8]; exact hx)
      rw [L.2.2.2.2]; exact k6
    · rw [if_pos (by omega)] at k6; exact k6
theorem q_drone (T7 : RT T N A h7) (I : IvS v iss sv n hs tn tx re er) (R7 : SR A h7 v iss sv n hs tn tx re er) {f w : Int} (hf : In f) (hw : In w) (k0 : 0 ≤ f ∧ f < v 117 → 0 ≤ w ∧ w ≤ 6 → ∀ h8, FR (Scr A) h7 h8 → SR A h8 v iss sv n hs tn tx re er → ai h8 A 0 = 0 → K (drnV v f w) h8) (k1 : ¬ (0 ≤ f ∧ f < v 117) → ∀ h8, FR (Scr A) h7 h8 → SR A h8 v iss sv n hs tn tx re er → ai h8 A 0 = 1 → K 0 h8) (k2 : 0 ≤ f ∧ f < v 117 → ¬ (0 ≤ w ∧ w ≤ 6) → ∀ h8, FR (Scr A) h7 h8 → SR A h8 v iss sv n hs tn tx re er → ai h8 A 0 = 2 → K 0 h8) : ZI T N 197 [vr (some A), vi (J f), vi (J w)] h7 K := by
  have b := I.1.b
  have n1 := T7.a1.2.1
  have e0 := R7.1 117 (by omega) (by omega)
  refine z197 T7.t hf hw (r_isDrone T7 hf (by omega) (fun c1 => ⟨(fun z => absurd z (by decide)), fun _ => ?_⟩) (fun c1 => ⟨fun _ => ?_, (fun z => absurd rfl z)⟩))
  rotate_left
  · intro h8 z8; obtain ⟨R8, F8⟩ := R7.th (x := 1); rw [← z8] at R8 F8; have e8 : ai h8 A 0 = 1 := (by subst z8; exact rd_eq rfl rfl (by decide)); have T8 := T7.fr F8; rw [e8]; clear z8
    exact ⟨fun _ => k1 (by omega) h8 F8 R8 e8, fun z => absurd (by decide) z⟩
  have cf : 0 ≤ f ∧ f < v 117 := by omega
  have h5 := rc_5 I.1 cf
  refine r_in hw (by decide) (by decide) (fun c3 => ⟨(fun z => absurd z (by decide)), fun _ => ?_⟩) (fun c3 => ⟨fun _ => ?_, (fun z => absurd rfl z)⟩)
  rotate_left
  · intro h8 z8; obtain ⟨R8, F8⟩ := R7.th (x := 2); rw [← z8] at R8 F8; have e8 : ai h8 A 0 = 2 := (by subst z8; exact rd_eq rfl rfl (by decide)); have T8 := T7.fr F8; rw [e8]; clear z8
    exact ⟨fun _ => k2 cf c3 h8 F8 R8 e8, fun z => absurd (by decide) z⟩
  intro h8 z8; obtain ⟨R8, F8⟩ := R7.th (x := 0); rw [← z8] at R8 F8; have e8 : ai h8 A 0 = 0 := (by subst z8; exact rd_eq rfl rfl (by decide)); have T8 := T7.fr F8; rw [e8]; clear z8
  have kk := k0 cf c3 h8 F8 R8 e8
  unfold drnV at kk
  refine ⟨(fun z => absurd z (by decide)), fun _ => ⟨fun c => r_of T8 (by omega) (by omega) ?_, fun c => r_of T8 (by omega) (by omega) ?_⟩⟩
  · rw [if_pos c] at kk
    rw [R8.1 _ (by omega) (by omega)]; exact kk
  · rw [if_neg c] at kk
    rw [R8.1 _ (by omega) (by omega)]
    refine ⟨fun c2 => ⟨A + 1, T8.a1.2.2, T8.a1.1, by omega, ?_⟩, fun c2 => r_of T8 (by omega) (by omega) ?_⟩
    · rw [if_pos (show rc v f 5 = 0 from c2)] at kk
      rw [R8.1 _ (by omega) (by omega)]; exact kk
    · rw [if_neg (show ¬ rc v f 5 = 0 from c2)] at kk
      rw [R8.1 _ (by omega) (by omega)]
      have c2' : ¬ rc v f 5 = 0 := c2
      show ZI T N 186 [vr (some A), vi (J f), vi (J (rc v f 5 - 1))] h8 _
      refine r_leg T8 (by omega) (by omega) ?_
      rw [R8.1 _ (by omega) (by omega)]
      exact s_eOf T8 I.1 R8.1 (rc_leg I.1 cf (j := rc v f 5 - 1) (by omega)) kk
theorem P_drone (S : Sim T N bs h i) {f w : Int} (hf : In f) (hw : In w) (k : Cont T N bs i h Q) : ZI T N 267 [vr (some bs), vi (J f), vi (J w), vr (some (bs + 3309))] h (fun c h1 => ZI T N 197 [vr (some (bs + 3296)), vi (J f), vi (J w)] h1 (fun b h2 => ZI T N 156 [vr (some (bs + 3296))] h2 (fun t h3 => Q c b t h3))) := by
  obtain ⟨v, iss, sv, n, hs, tn, tx, re, er, C, I, D, R⟩ := S; have b := I.1.b; have o := C.o; have out := C.out
  refine z267 o.1 out.1 hf hw (c_drone C I D hf hw (fun a1 a2 => Or.inl ⟨_, rfl, drnV_in I.1 a1 a2, by omega, ?_⟩) (fun a1 => Or.inr (Or.inl ⟨rfl, ?_⟩)) (fun a1 a2 => Or.inr (Or.inr ⟨rfl, ?_⟩)))
  · intro h7 z7; subst z7; obtain ⟨C7, D7, F7, G7⟩ := tail0 (h := h) C D I Fcl.rf (x := (J (drnV v f w)).toInt64); generalize sL h (bs + 3309) (Int.toNat 0) (J (drnV v f w)).toInt64 = h7 at *; have R7 := R.fd F7
    exact q_drone C7.rt I R7 hf hw (fun _ _ h8 F8 R8 e8 => fin k C7 I D7 F7 F8.sk R8 e8 (drnV_in I.1 a1 a2) fun _ => G7) (fun z => absurd a1 z) (fun _ z => absurd a2 z)
  · have C7 := C.bm; have D7 := D.bm I; have F7 : Fcl bs h (bump h) := Fcl.bm; generalize bump h = h7 at *; have R7 := R.fd F7
    exact q_drone C7.rt I R7 hf hw (fun z => absurd z a1) (fun _ h8 F8 R8 e8 => fin k C7 I D7 F7 F8.sk R8 e8 (by decide) fun z => by omega) (fun z => absurd z a1)
  · have C7 := C.bm; have D7 := D.bm I; have F7 : Fcl bs h (bump h) := Fcl.bm; generalize bump h = h7 at *; have R7 := R.fd F7
    exact q_drone C7.rt I R7 hf hw (fun _ z => absurd z a2) (fun z => absurd a1 z) (fun _ _ h8 F8 R8 e8 => fin k C7 I D7 F7 F8.sk R8 e8 (by decide) fun z => by omega)
end OB3
