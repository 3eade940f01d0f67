/-! AUDIT, COUNT, DESCRIBE -/
section OB4
variable {T N : Nat → Nat} {bs A a b w : Nat} {h h1 h2 h3 h7 h10 : PH} {v u sv tx e : Int → Int} {hs hs2 : Int → Int → Int} {iss n tn re er d t : Int} {i : Nat} {K : Int → PH → Prop} {KP : PR → PH → Prop} {Q : Int → Int → Int → PH → Prop} {f g : Int → Int}
theorem d_audLoop (C : Com T N bs h i) (I : IvS v iss sv n hs tn tx re er) (D : SD T N bs h v iss sv n hs tn tx re er) (k : K 0 h) : ∀ (m j : Nat), (j : Int) + m = v 117 → ZW T N 135 4 [some (vr (some bs)), some (vi (J 0)), some (vi (J (j : Int))), none] [] h K := by
  have b := I.1.b
  have o := C.o
  have eb := D.1.b
  intro m
  induction m with
  | zero =>
    intro j hj
    exact z135_4 o.1 (by decide) (by omega) ⟨bs + 1, o.2.1, C.2.1.1.t, fun c => by omega, fun c => k⟩
  | succ m ih =>
    intro j hj
    have nxt := ih (j + 1) (by omega)
    rw [show ((j + 1 : Nat) : Int) = (j : Int) + 1 by omega] at nxt
    refine z135_4 o.1 (by decide) (by omega) ⟨bs + 1, o.2.1, C.2.1.1.t, fun c => ⟨bs + 1, o.2.1, C.2.1.1.t, ?_⟩, fun c => absurd (by omega) c⟩
    refine d_dro (n := (j : Int)) C.2.1.1 (by omega) (by omega) (fun c1 => ⟨fun z => by (cases z), fun a' ea => ?_⟩) (fun c1 => absurd (by omega) c1)
    cases ea
    have Dt := (C.2.1.1.d (c := (j : Int)) (by omega)).2
    have Dd := D.1.d (d := (j : Int)) (by omega) (by omega)
    obtain ⟨o0, o1, o2, o3, o4, o5, o6, o7, o8, o9, o10, o11, o12, os, oa, ob, oc, ol⟩ := I.1.d (n := (j : Int)) (by omega) (by omega)
    obtain ⟨g0, g1, g2, g3, g4, g5, g6, g8⟩ := Dd.1
    have s0 : ai h (dA (bs + 1) j + 1) 0 = rc v j 7 := Dd.2.1 0 (by omega) (by omega)
    have s1 : ai h (dA (bs + 1) j + 1) 1 = rc v j 8 := Dd.2.1 1 (by omega) (by omega)
    have s2 : ai h (dA (bs + 1) j + 1) 2 = rc v j 9 := Dd.2.1 2 (by omega) (by omega)
    have s3 : ai h (dA (bs + 1) j + 1) 3 = rc v j 10 := Dd.2.1 3 (by omega) (by omega)
    have n1 := Dt.su.2.1
    refine ⟨Dt.t, z27 Dt.t ⟨_, Dt.su.2.2, Dt.su.1, by omega, _, Dt.su.2.2, Dt.su.1, by omega, _, Dt.su.2.2, Dt.su.1, by omega, _, Dt.su.2.2, Dt.su.1, by omega, ?_⟩⟩
    rw [s0, s1, s2, s3, g5, g6, g1]
    exact ⟨by omega, fun c2 => ⟨fun z => absurd z (by decide), fun _ => nxt⟩, fun c2 => absurd (by omega) c2⟩
theorem r_audLoop (R : RT T N A h) (V : Rv A h v) (I : Iv v) (k : K 0 h) : ∀ (m j : Nat), (j : Int) + m = v 117 → ZW T N 237 9 [some (vr (some A)), some (vi (J 0)), some (vi (J (j : Int))), none] [] h K := by
  have b := I.b
  have n1 := R.a1.2.1
  have e117 := V 117 (by omega) (by omega)
  intro m
  induction m with
  | zero =>
    intro j hj
    exact z237_9 R.t (by decide) (by omega) ⟨A + 1, R.a1.2.2, R.a1.1, by omega, fun c => by omega, fun c => k⟩
  | succ m ih =>
    intro j hj
    have nxt := ih (j + 1) (by omega)
    rw [show ((j + 1 : Nat) : Int) = (j : Int) + 1 by omega] at nxt
    obtain ⟨o0, o1, o2, o3, o4, o5, o6, o7, o8, o9, o10, o11, o12, os, oa, ob, oc, ol⟩ := I.d (n := (j : Int)) (by omega) (by omega)
    unfold rc at *
    refine z237_9 R.t (by decide) (by omega) ⟨A + 1, R.a1.2.2, R.a1.1, by omega, fun c => ?_, fun c => absurd (by omega) c⟩
    refine r_of R (by omega) (by omega) (r_of R (by omega) (by omega) (r_of R (by omega) (by omega) (r_of R (by omega) (by omega) (r_of R (by omega) (by omega) (r_of R (by omega) (by omega) (r_of R (by omega) (by omega) ?_))))))
    rw [V _ (by omega) (by omega), V _ (by omega) (by omega), V _ (by omega) (by omega), V _ (by omega) (by omega), V _ (by omega) (by omega), V _ (by omega) (by omega), V _ (by omega) (by omega)]
    exact ⟨by omega, fun c2 => nxt, fun c2 => absurd (by omega) c2⟩
theorem P_audit (S : Sim T N bs h i) {Q2 : Int → Int → PH → Prop} (k2 : ∀ h3, Sim T N bs h3 (i + 1) → Scp bs h h3 → Q2 0 0 h3) : ZI T N 135 [vr (some bs)] h (fun x h1 => ZI T N 237 [vr (some (bs + 3296))] h1 (fun y h2 => Q2 x y h2)) := by
  obtain ⟨v, iss, sv, n, hs, tn, tx, re, er, C, I, D, R⟩ := S; have b := I.1.b; have o := C.o; have out := C.out
  refine z135 (d_audLoop C I D ?_ (v 117).toNat 0 (by omega))
  refine z237 C.rt.t ?_
  intro h8 z8
  obtain ⟨R8, F8⟩ := R.th (x := 0)
  rw [← z8] at R8 F8
  refine r_audLoop (C.rt.fr F8) R8.1 I.1 ?_ (v 117).toNat 0 (by omega)
  obtain ⟨S10, s10, -⟩ := Sim.mk' C.up I D F8.sk RKw_in R8
  exact k2 h8 S10 s10
/-! describe -/
def desV (v : Int → Int) (c w : Int) : Int := if w = -1 then 7 else if w = 0 then 99 else if w = 1 then 48 + v (12 + 4 * c + 0) else if w = 2 then 45 else if w = 3 then 48 + v (12 + 4 * c + 1) else if w = 4 then 42 else if w = 5 then 48 + v (12 + 4 * c + 2) else 59
theorem desV_in (I : Iv v) {c w : Int} (hc : 0 ≤ c ∧ c < v 11) : In (desV v c w) := by
  have b := I.b
  have g := I.c hc.1 hc.2
  unfold corOK at g
  unfold desV
  repeat' split
  all_goals omega
theorem P_describe (S : Sim T N bs h i) {f w : Int} (hf : In f) (hw : In w) (k : Cont T N bs i h Q) : ZI T N 285 [vr (some bs), vi (J f), vi (J w), vr (some (bs + 3309))] h (fun c h1 => ZI T N 249 [vr (some (bs + 3296)), vi (J f), vi (J w)] h1 (fun b h2 => ZI T N 156 [vr (some (bs + 3296))] h2 (fun t h3 => Q c b t h3))) := by
  obtain ⟨v, iss, sv, n, hs, tn, tx, re, er, C, I, D, R⟩ := S; have b := I.1.b; have o := C.o; have out := C.out
  have eb := D.1.b
  have qq : ∀ {h7 : PH} {KK : Int → PH → Prop}, RT T N (bs + 3296) h7 → SR (bs + 3296) h7 v iss sv n hs tn tx re er → (0 ≤ f ∧ f < v 11 → -1 ≤ w ∧ w ≤ 6 → ∀ h8, FR (Scr (bs + 3296)) h7 h8 → SR (bs + 3296) h8 v iss sv n hs tn tx re er → ai h8 (bs + 3296) 0 = 0 → KK (desV v f w) h8) → (¬ (0 ≤ f ∧ f < v 11) → ∀ h8, FR (Scr (bs + 3296)) h7 h8 → SR (bs + 3296) h8 v iss sv n hs tn tx re er → ai h8 (bs + 3296) 0 = 1 → KK 0 h8) → (0 ≤ f ∧ f < v 11 → ¬ (-1 ≤ w ∧ w ≤ 6) → ∀ h8, FR (Scr (bs + 3296)) h7 h8 → SR (bs + 3296) h8 v iss sv n hs tn tx re er → ai h8 (bs + 3296) 0 = 2 → KK 0 h8) → ZI T N 249 [vr (some (bs + 3296)), vi (J f), vi (J w)] h7 KK := by
    intro h7 KK T7 R7 k0 k1 k2
    generalize bs + 3296 = A at *
    have e0 := R7.1 11 (by omega) (by omega)
    refine z249 T7.t hf hw (r_isCor T7 hf (by omega) (fun c1 => ⟨(fun z => absurd z (by decide)), fun _ => ?_⟩) (fun c1 => ⟨fun _ => ?_, (fun z => absurd rfl z)⟩))
    rotate_left
    · intro h8 z8; obtain ⟨R8, F8⟩ := R7.th (x := 1); rw [← z8] at R8 F8; have e8 : ai h8 A 0 = 1 := (by subst z8; exact rd_eq rfl rfl (by decide)); have T8 := T7.fr F8; rw [e8]; clear z8
      exact ⟨fun _ => k1 (by omega) h8 F8 R8 e8, fun z => absurd (by decide) z⟩
    have cf : 0 ≤ f ∧ f < v 11 := by omega
    refine r_in hw (by decide) (by decide) (fun c3 => ⟨(fun z => absurd z (by decide)), fun _ => ?_⟩) (fun c3 => ⟨fun _ => ?_, (fun z => absurd rfl z)⟩)
    rotate_left
    · intro h8 z8; obtain ⟨R8, F8⟩ := R7.th (x := 2); rw [← z8] at R8 F8; have e8 : ai h8 A 0 = 2 := (by subst z8; exact rd_eq rfl rfl (by decide)); have T8 := T7.fr F8; rw [e8]; clear z8
      exact ⟨fun _ => k2 cf c3 h8 F8 R8 e8, fun z => absurd (by decide) z⟩
    intro h8 z8; obtain ⟨R8, F8⟩ := R7.th (x := 0); rw [← z8] at R8 F8; have e8 : ai h8 A 0 = 0 := (by subst z8; exact rd_eq rfl rfl (by decide)); have T8 := T7.fr F8; rw [e8]; clear z8
    have kk := k0 cf c3 h8 F8 R8 e8
    have g := I.1.c cf.1 cf.2
    unfold corOK at g
    unfold desV at kk
    have v0 := R8.1 (12 + 4 * f + 0) (by omega) (by omega)
    have v1 := R8.1 (12 + 4 * f + 1) (by omega) (by omega)
    have v2 := R8.1 (12 + 4 * f + 2) (by omega) (by omega)
    refine ⟨(fun z => absurd z (by decide)), fun _ => ⟨fun z => ?_, fun z0 => ⟨fun z => ?_, fun z1 => ⟨fun z => r_end T8 (by omega) (by omega) ?_, fun z2 => ⟨fun z => ?_, fun z3 => ⟨fun z => r_end T8 (by omega) (by omega) ?_, fun z4 => ⟨fun z => ?_, fun z5 => ⟨fun z => r_len T8 (by omega) ?_, fun z6 => ?_⟩⟩⟩⟩⟩⟩⟩⟩
    · rw [if_pos z] at kk; exact kk
    · rw [if_neg z0, if_pos z] at kk; exact kk
    · rw [if_neg z0, if_neg z1, if_pos z] at kk; rw [v0]; exact ⟨by omega, kk⟩
    · rw [if_neg z0, if_neg z1, if_neg z2, if_pos z] at kk; exact kk
    · rw [if_neg z0, if_neg z1, if_neg z2, if_neg z3, if_pos z] at kk; rw [v1]; exact ⟨by omega, kk⟩
    · rw [if_neg z0, if_neg z1, if_neg z2, if_neg z3, if_neg z4, if_pos z] at kk; exact kk
    · rw [if_neg z0, if_neg z1, if_neg z2, if_neg z3, if_neg z4, if_neg z5, if_pos z] at kk; rw [v2]; exact ⟨by omega, kk⟩
    · rw [if_neg z0, if_neg z1, if_neg z2, if_neg z3, if_neg z4, if_neg z5, if_neg z6] at kk; exact kk
  have ok : 0 ≤ f ∧ f < v 11 → -1 ≤ w ∧ w ≤ 6 → ∀ r, r = desV v f w → In r ∧ ((0 ≤ (0 : Int) ∧ (0 : Int) < (N (bs + 3309) : Int) ∧ (0 : Int) < 2147483648) ∧ ∀ h7, h7 = sL h (bs + 3309) (Int.toNat 0) ((J r).toInt64) → ZI T N 249 [vr (some (bs + 3296)), vi (J f), vi (J w)] h7 (fun b h2 => ZI T N 156 [vr (some (bs + 3296))] h2 (fun t h3 => Q 0 b t h3))) := by
    intro a1 a2 r hr
    subst hr
    refine ⟨desV_in I.1 a1, by omega, ?_⟩
    intro h7 z7; subst z7; obtain ⟨C7, D7, F7, G7⟩ := tail0 (h := h) C D I Fcl.rf (x := (J (desV v f w)).toInt64); generalize sL h (bs + 3309) (Int.toNat 0) (J (desV v f w)).toInt64 = h7 at *; have R7 := R.fd F7
    exact qq C7.rt R7 (fun _ _ h8 F8 R8 e8 => fin k C7 I D7 F7 F8.sk R8 e8 (desV_in I.1 a1) fun _ => G7) (fun z => absurd a1 z) (fun _ z => absurd a2 z)
  refine z285 o.1 out.1 hf hw (z141 o.1 hf hw ⟨bs + 1, o.2.1, C.2.1.1.t, d_cor C.2.1.1 hf (by omega) (fun c1 => ⟨fun z => by (cases z), fun a' ea => ?_⟩) (fun c1 => ⟨fun _ => ⟨C.t0, Or.inr (Or.inl ⟨rfl, ?_⟩)⟩, fun a' ea => by (cases ea)⟩)⟩)
  · cases ea
    have cf : 0 ≤ f ∧ f < v 11 := by omega
    have tc := (C.2.1.1.c (c := f) (by omega)).1
    have w0 := D.1.c (c := f) (k := 0) cf.1 cf.2 (by omega) (by omega)
    have w1 := D.1.c (c := f) (k := 1) cf.1 cf.2 (by omega) (by omega)
    have w2 := D.1.c (c := f) (k := 2) cf.1 cf.2 (by omega) (by omega)
    rw [w0, w1, w2]
    unfold desV at ok
    refine ⟨fun z => ?_, fun z0 => ⟨fun z => ?_, fun z1 => ⟨fun z => ⟨tc, ?_⟩, fun z2 => ⟨fun z => ?_, fun z3 => ⟨fun z => ⟨tc, ?_⟩, fun z4 => ⟨fun z => ?_, fun z5 => ⟨fun z => ⟨tc, ?_⟩, fun z6 => ⟨fun z => ?_, fun z7 => ⟨C.t0, Or.inr (Or.inr ⟨rfl, ?_⟩)⟩⟩⟩⟩⟩⟩⟩⟩⟩
    · exact Or.inl ⟨_, rfl, ok cf (by omega) _ (by rw [if_pos z])⟩
    · exact Or.inl ⟨_, rfl, ok cf (by omega) _ (by rw [if_neg z0, if_pos z])⟩
    · exact Or.inl ⟨_, rfl, ok cf (by omega) _ (by rw [if_neg z0, if_neg z1, if_pos z])⟩
    · exact Or.inl ⟨_, rfl, ok cf (by omega) _ (by rw [if_neg z0, if_neg z1, if_neg z2, if_pos z])⟩
    · exact Or.inl ⟨_, rfl, ok cf (by omega) _ (by rw [if_neg z0, if_neg z1, if_neg z2, if_neg z3, if_pos z])⟩
    · exact Or.inl ⟨_, rfl, ok cf (by omega) _ (by rw [if_neg z0, if_neg z1, if_neg z2, if_neg z3, if_neg z4, if_pos z])⟩
    · exact Or.inl ⟨_, rfl, ok cf (by omega) _ (by rw [if_neg z0, if_neg z1, if_neg z2, if_neg z3, if_neg z4, if_neg z5, if_pos z])⟩
    · exact Or.inl ⟨_, rfl, ok cf (by omega) _ (by rw [if_neg z0, if_neg z1, if_neg z2, if_neg z3, if_neg z4, if_neg z5, if_neg z6])⟩
    · clear ok
      have C7 := C.bm; have D7 := D.bm I; have F7 : Fcl bs h (bump h) := Fcl.bm; generalize bump h = h7 at *; have R7 := R.fd F7
      exact qq C7.rt R7 (fun _ z => by omega) (fun z => absurd cf z) (fun _ _ h8 F8 R8 e8 => fin k C7 I D7 F7 F8.sk R8 e8 (by decide) fun z => by omega)
  · clear ok
    have C7 := C.bm; have D7 := D.bm I; have F7 : Fcl bs h (bump h) := Fcl.bm; generalize bump h = h7 at *; have R7 := R.fd F7
    exact qq C7.rt R7 (fun z => by omega) (fun _ h8 F8 R8 e8 => fin k C7 I D7 F7 F8.sk R8 e8 (by decide) fun z => by omega) (fun z => by omega)
end OB4
