/-! FLYING SHARE -/
def ContD (T N : Nat → Nat) (bs i : Nat) (h : PH) (Q : Int → UInt64 → Int → PH → Prop) : Prop := ∀ c (x : UInt64) h3, Sim T N bs h3 (i + 1) → Scp bs h h3 → In c → (c = 0 → gd h3 (bs + 3310) 0 = x) → Q c x c h3
section SHR
variable {T N : Nat → Nat} {bs A p q w x : Nat} {h h1 h2 h3 h7 h10 : PH} {v u sv tx e e2 : Int → Int} {hs hs2 : Int → Int → Int} {iss n tn re er d t a b l m c y : Int} {i : Nat} {K : Int → PH → Prop} {KV : PH → Prop} {KP : PR → PH → Prop} {Q : Int → UInt64 → Int → PH → Prop} {f g : Int → Int}
theorem finD (k : ContD T N bs i h Q) (C7 : Com T N bs h7 (i + 1)) (I : IvS v iss sv n hs tn tx re er) (D7 : SD T N bs h7 v iss sv n hs tn tx re er) (F7 : Fcl bs h h7) (FF : FR (RKw (bs + 3296)) h7 h10) (R10 : SR (bs + 3296) h10 v iss sv n hs tn tx re er) {c : Int} {z : UInt64} (e0 : ai h10 (bs + 3296) 0 = c) (G7 : c = 0 → gd h7 (bs + 3310) 0 = z) : ZI T N 156 [vr (some (bs + 3296))] h10 (fun t h3 => Q c z t h3) := by
  refine r_thrown (C7.rt.fr FF) ?_
  rw [e0]
  obtain ⟨S10, s10, g10⟩ := Sim.mk' C7 I D7 FF RKw_in R10
  exact k c z h10 S10 ((Scp.cl F7).tr s10) (by rw [← e0]; exact ai_in _ _ _) fun y => by
    rw [← G7 y]
    show h10.2.2.1 _ _ = h7.2.2.1 _ _
    rw [FF.1]
def smV (v : Int → Int) (c : Int) : Int := sumI (fun d => rc v d (7 + c)) (v 117).toNat
theorem smV_b (I : Iv v) (hc : 0 ≤ c ∧ c < 5) : 0 ≤ smV v c ∧ smV v c ≤ 600000 := by
  have b := I.b
  have := sumI_bd2 (f := fun d => rc v d (7 + c)) (B := 100000) (by decide) (v 117).toNat fun j hj => acc_in I ⟨by omega, by omega⟩ ⟨by omega, by omega⟩
  unfold smV; omega
theorem gd_sd {k a : Nat} {x : UInt64} : gd (sd h a k x) a k = x := if_pos ⟨rfl, rfl⟩
theorem sm_sd {k a b : Nat} {x : UInt64} : sm b h (sd h a k x) := ⟨fun _ => rfl, fun _ => rfl, fun _ => rfl⟩
theorem Com.sd (C : Com T N bs h i) {k a : Nat} {x : UInt64} : Com T N bs (sd h a k x) (i + 1) := ⟨C.1.to rfl, C.2.1.to rfl, C.2.2.1, by have := C.2.2.2.1; show ce h ≤ _; omega, by have := C.2.2.2.2; show sl h ≤ _; omega⟩
theorem P_flyingShare (S : Sim T N bs h i) (k : ContD T N bs i h Q) : ZI T N 280 [vr (some bs), vr (some (bs + 3310))] h (fun z1 h1 => CD T N 239 [vr (some (bs + 3296))] h1 (fun z2 h2 => ZI T N 156 [vr (some (bs + 3296))] h2 (fun z3 h3 => Q z1 z2 z3 h3))) := by
  obtain ⟨v, iss, sv, n, hs, tn, tx, re, er, C, I, D, R⟩ := S; have b := I.1.b; have o := C.o; have out := C.out
  have s0 := smV_b (c := 0) I.1 (by omega)
  have s1 := smV_b (c := 1) I.1 (by omega)
  have s2 := smV_b (c := 2) I.1 (by omega)
  refine z280 o.1 out.2.2.1 (z136 o.1 ⟨bs + 1, o.2.1, C.2.1.1.t, d_sum D.1 I.1 (c := 0) (by omega) ⟨bs + 1, o.2.1, C.2.1.1.t, d_sum D.1 I.1 (c := 1) (by omega) ⟨bs + 1, o.2.1, C.2.1.1.t, d_sum D.1 I.1 (c := 2) (by omega) ?_⟩⟩⟩)
  show In ((smV v 0 + smV v 1) + smV v 2) ∧ ((smV v 0 + smV v 1) + smV v 2 = 0 → _ ∧ _) ∧ (¬ (smV v 0 + smV v 1) + smV v 2 = 0 → vf_n64 (FP.ddiv (FP.i2d (J (smV v 0))) (FP.i2d (J ((smV v 0 + smV v 1) + smV v 2)))) ∧ _)
  have vf : ¬ (smV v 0 + smV v 1) + smV v 2 = 0 → vf_n64 (FP.ddiv (FP.i2d (J (smV v 0))) (FP.i2d (J ((smV v 0 + smV v 1) + smV v 2)))) := fun z => vf_div (by omega) (by omega)
  generalize hX : FP.ddiv (FP.i2d (J (smV v 0))) (FP.i2d (J ((smV v 0 + smV v 1) + smV v 2))) = X at *
  refine ⟨by omega, fun c0 => ⟨C.t0, Or.inr ⟨rfl, ?_⟩⟩, fun c0 => ⟨vf c0, Or.inl ⟨X, (by rw [← hX]; rfl), by omega, ?_⟩⟩⟩
  · have C7 := C.bm; have D7 := D.bm I; have F7 : Fcl bs h (bump h) := Fcl.bm; generalize bump h = h7 at *; have R7 := R.fd F7
    refine z239 C7.rt.t (r_sum C7.rt R7.1 I.1 (c := 0) (by omega) (r_sum C7.rt R7.1 I.1 (c := 1) (by omega) (r_sum C7.rt R7.1 I.1 (c := 2) (by omega) ?_)))
    show In ((smV v 0 + smV v 1) + smV v 2) ∧ ((smV v 0 + smV v 1) + smV v 2 = 0 → _) ∧ (¬ (smV v 0 + smV v 1) + smV v 2 = 0 → _)
    refine ⟨by omega, fun _ => ?_, fun z => absurd c0 z⟩
    intro h8 z8
    obtain ⟨R8, F8⟩ := R7.th (x := 1)
    rw [← z8] at R8 F8
    have e8 : ai h8 (bs + 3296) 0 = 1 := by subst z8; exact rd_eq rfl rfl (by decide)
    refine ⟨fun _ => finD k C7 I D7 F7 F8.sk R8 e8 fun z => absurd z (by decide), fun z => absurd c0 z⟩
  · intro h7 z7; subst z7
    have C7 : Com T N bs (sd h (bs + 3310) (Int.toNat 0) X) (i + 1) := C.sd
    have D7 : SD T N bs (sd h (bs + 3310) (Int.toNat 0) X) v iss sv n hs tn tx re er := D.fr I fun y q1 q2 q3 => sm_sd
    have F7 : Fcl bs h (sd h (bs + 3310) (Int.toNat 0) X) := fun y _ => sm_sd
    have G7 : gd (sd h (bs + 3310) (Int.toNat 0) X) (bs + 3310) 0 = X := gd_sd
    generalize sd h (bs + 3310) (Int.toNat 0) X = h7 at *
    have R7 := R.fd F7
    refine z239 C7.rt.t (r_sum C7.rt R7.1 I.1 (c := 0) (by omega) (r_sum C7.rt R7.1 I.1 (c := 1) (by omega) (r_sum C7.rt R7.1 I.1 (c := 2) (by omega) ?_)))
    show In ((smV v 0 + smV v 1) + smV v 2) ∧ ((smV v 0 + smV v 1) + smV v 2 = 0 → _) ∧ (¬ (smV v 0 + smV v 1) + smV v 2 = 0 → _)
    refine ⟨by omega, fun z => absurd z c0, fun _ => ?_⟩
    intro h8 z8
    obtain ⟨R8, F8⟩ := R7.th (x := 0)
    rw [← z8] at R8 F8
    have e8 : ai h8 (bs + 3296) 0 = 0 := by subst z8; exact rd_eq rfl rfl (by decide)
    refine ⟨fun z => absurd z c0, fun _ => r_sum (C7.rt.fr F8) R8.1 I.1 (c := 0) (by omega) ?_⟩
    show vf_n64 (FP.ddiv (FP.i2d (J (smV v 0))) (FP.i2d (J ((smV v 0 + smV v 1) + smV v 2)))) ∧ ZI T N 156 [vr (some (bs + 3296))] _ (fun t h3 => Q 0 (FP.ddiv (FP.i2d (J (smV v 0))) (FP.i2d (J ((smV v 0 + smV v 1) + smV v 2)))) t h3)
    rw [hX]
    exact ⟨vf c0, finD k C7 I D7 F7 F8.sk R8 e8 fun _ => G7⟩
end SHR
