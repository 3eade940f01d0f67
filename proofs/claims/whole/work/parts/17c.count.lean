/-! COUNT, CORRIDOR -/
section CCO
variable {T N : Nat → Nat} {bs A p q w x : Nat} {h h1 h2 h3 h7 h10 : PH} {v u sv tx e e2 : Int → Int} {hs hs2 : Int → Int → Int} {iss n tn re er d t a b l m c y : Int} {i : Nat} {K : Int → PH → Prop} {KV : PH → Prop} {KP : PR → PH → Prop} {Q : Int → Int → Int → PH → Prop} {f g : Int → Int}
def stC (v : Int → Int) (s : Int) : Int → Int := fun d => if rc v d 0 = s then 1 else 0
theorem stC_b : stC v a d = 0 ∨ stC v a d = 1 := by unfold stC; split; exact Or.inr rfl; exact Or.inl rfl
theorem d_stLoop (W : Wo T N h w v) (I : Iv v) (ha : In a) (k : K (sumI (stC v a) (v 117).toNat) h) : ∀ (m i : Nat), (i : Int) + m = v 117 → ZW T N 97 4 [some (vr (some w)), some (vi (J a)), some (vi (J (sumI (stC v a) i))), some (vi (J (i : Int))), none] [] h K := by
  have b := I.b
  have eb := W.b
  intro m
  induction m with
  | zero =>
    intro i hi
    have sb := sumI_b (f := stC v a) (fun n => stC_b) i
    refine z97_4 W.o.t ha (by omega) (by omega) ⟨fun c => by omega, fun c => ?_⟩
    rw [show i = (v 117).toNat by omega]; exact k
  | succ m ih =>
    intro i hi
    have sb := sumI_b (f := stC v a) (fun n => stC_b) i
    refine z97_4 W.o.t ha (by omega) (by omega) ⟨fun c => ?_, fun c => absurd (by omega) c⟩
    refine d_dro (n := (i : Int)) W.o (by omega) (by omega) (fun c1 => ⟨fun z => by (cases z), fun a' ea => ?_⟩) (fun c1 => absurd (by omega) c1)
    cases ea
    have Dt := (W.o.d (c := (i : Int)) (by omega)).2
    have nxt := ih (i + 1) (by omega)
    rw [show ((i + 1 : Nat) : Int) = (i : Int) + 1 by omega] at nxt
    have es : sumI (stC v a) (i + 1) = sumI (stC v a) i + stC v a i := rfl
    rw [es] at nxt
    rw [(W.d (d := (i : Int)) (by omega) (by omega)).1.1]
    refine ⟨Dt.t, fun c2 => ?_, fun c2 => ?_⟩
    · rw [show stC v a i = 1 from if_pos c2] at nxt; exact nxt
    · rw [show stC v a i = 0 from if_neg c2, Int.add_zero] at nxt; exact nxt
theorem r_stLoop (R : RT T N A h) (V : Rv A h v) (I : Iv v) (ha : 5 ≤ a ∧ a ≤ 8) (k : K (sumI (stC v (a - 5)) (v 117).toNat) h) : ∀ (m i : Nat), (i : Int) + m = v 117 → ZW T N 185 85 [some (vr (some A)), some (vi (J a)), some (vi (J (sumI (stC v (a - 5)) i))), some (vi (J (i : Int)))] [] h K := by
  have b := I.b
  have n1 := R.a1.2.1
  have e117 := V 117 (by omega) (by omega)
  intro m
  induction m with
  | zero =>
    intro i hi
    have sb := sumI_b (f := stC v (a - 5)) (fun n => stC_b) i
    refine z185_85 R.t (by omega) (by omega) (by omega) ⟨A + 1, R.a1.2.2, R.a1.1, by omega, fun c => by omega, fun c => ?_⟩
    rw [show i = (v 117).toNat by omega]; exact k
  | succ m ih =>
    intro i hi
    have sb := sumI_b (f := stC v (a - 5)) (fun n => stC_b) i
    have nxt := ih (i + 1) (by omega)
    rw [show ((i + 1 : Nat) : Int) = (i : Int) + 1 by omega] at nxt
    have es : sumI (stC v (a - 5)) (i + 1) = sumI (stC v (a - 5)) i + stC v (a - 5) i := rfl
    rw [es] at nxt
    refine z185_85 R.t (by omega) (by omega) (by omega) ⟨A + 1, R.a1.2.2, R.a1.1, by omega, fun c => r_of R (by omega) (by omega) ?_, fun c => absurd (by omega) c⟩
    rw [V _ (by omega) (by omega)]
    refine ⟨by omega, fun c2 => ?_, fun c2 => ?_⟩
    · rw [show stC v (a - 5) i = 1 from if_pos c2] at nxt; exact nxt
    · rw [show stC v (a - 5) i = 0 from if_neg c2] at nxt; exact nxt
def cntV (v : Int → Int) (a : Int) : Int := if a = 0 then v 0 else if a = 1 then v 11 else if a = 2 then v 117 else if a = 3 then v 76 else if a = 4 then v 448 else sumI (stC v (a - 5)) (v 117).toNat
theorem cntV_in (I : Iv v) : In (cntV v a) := by
  have b := I.b
  have sb := sumI_b (f := stC v (a - 5)) (fun n => stC_b) (v 117).toNat
  unfold cntV
  repeat' split
  all_goals omega
theorem P_count (S : Sim T N bs h i) (ha : In a) (k : Cont T N bs i h Q) : ZI T N 265 [vr (some bs), vi (J a), vr (some (bs + 3309))] h (fun z1 h1 => ZI T N 185 [vr (some (bs + 3296)), vi (J a)] h1 (fun z2 h2 => ZI T N 156 [vr (some (bs + 3296))] h2 (fun z3 h3 => Q z1 z2 z3 h3))) := by
  obtain ⟨v, iss, sv, n, hs, tn, tx, re, er, C, I, D, R⟩ := S; have b := I.1.b; have o := C.o; have out := C.out
  have eb := D.1.b
  have rq : ∀ {h7 : PH} {KK : Int → PH → Prop}, RT T N (bs + 3296) h7 → SR (bs + 3296) h7 v iss sv n hs tn tx re er → (0 ≤ a ∧ a ≤ 8 → ∀ h8, FR (Scr (bs + 3296)) h7 h8 → SR (bs + 3296) h8 v iss sv n hs tn tx re er → ai h8 (bs + 3296) 0 = 0 → KK (cntV v a) h8) → (¬ (0 ≤ a ∧ a ≤ 8) → ∀ h8, FR (Scr (bs + 3296)) h7 h8 → SR (bs + 3296) h8 v iss sv n hs tn tx re er → ai h8 (bs + 3296) 0 = 1 → KK 0 h8) → ZI T N 185 [vr (some (bs + 3296)), vi (J a)] h7 KK := by
    intro h7 KK T7 R7 k0 k1
    generalize bs + 3296 = A at *
    refine z185 T7.t ha (r_in ha (by decide) (by decide) (fun c1 => ⟨(fun z => absurd z (by decide)), fun _ => ?_⟩) (fun c1 => ⟨fun _ => ?_, (fun z => absurd rfl z)⟩))
    · intro h8 z8; obtain ⟨R8, F8⟩ := R7.th (x := 0); rw [← z8] at R8 F8; have e8 : ai h8 A 0 = 0 := (by subst z8; exact rd_eq rfl rfl (by decide)); have T8 := T7.fr F8; rw [e8]; clear z8
      have n1 := T8.a1.2.1
      have kk := k0 c1 h8 F8 R8 e8
      unfold cntV at kk
      refine ⟨(fun z => absurd z (by decide)), fun _ => ⟨fun c2 => ⟨fun z => ⟨A + 1, T8.a1.2.2, T8.a1.1, by omega, ?_⟩, fun z0 => ⟨fun z => ⟨A + 1, T8.a1.2.2, T8.a1.1, by omega, ?_⟩, fun z1 => ⟨fun z => ⟨A + 1, T8.a1.2.2, T8.a1.1, by omega, ?_⟩, fun z2 => ⟨fun z => ⟨A + 1, T8.a1.2.2, T8.a1.1, by omega, ?_⟩, fun z3 => ⟨A + 1, T8.a1.2.2, T8.a1.1, by omega, ?_⟩⟩⟩⟩⟩, fun c2 => ?_⟩⟩
      · rw [if_pos z] at kk; rw [R8.1 _ (by omega) (by omega)]; exact kk
      · rw [if_neg z0, if_pos z] at kk; rw [R8.1 _ (by omega) (by omega)]; exact kk
      · rw [if_neg z0, if_neg z1, if_pos z] at kk; rw [R8.1 _ (by omega) (by omega)]; exact kk
      · rw [if_neg z0, if_neg z1, if_neg z2, if_pos z] at kk; rw [R8.1 _ (by omega) (by omega)]; exact kk
      · rw [if_neg z0, if_neg z1, if_neg z2, if_neg z3, if_pos (by omega)] at kk; rw [R8.1 _ (by omega) (by omega)]; exact kk
      · rw [if_neg (by omega), if_neg (by omega), if_neg (by omega), if_neg (by omega), if_neg (by omega)] at kk
        exact r_stLoop T8 R8.1 I.1 (by omega) kk (v 117).toNat 0 (by omega)
    · intro h8 z8; obtain ⟨R8, F8⟩ := R7.th (x := 1); rw [← z8] at R8 F8; have e8 : ai h8 A 0 = 1 := (by subst z8; exact rd_eq rfl rfl (by decide)); have T8 := T7.fr F8; rw [e8]; clear z8
      exact ⟨fun _ => k1 c1 h8 F8 R8 e8, fun z => absurd rfl z⟩
  have ok : 0 ≤ a ∧ a ≤ 8 → ∀ r, r = cntV v a → In r ∧ ((0 ≤ (0 : Int) ∧ (0 : Int) < (N (bs + 3309) : Int) ∧ (0 : Int) < 2147483648) ∧ ∀ h7, h7 = sL h (bs + 3309) (Int.toNat 0) ((J r).toInt64) → ZI T N 185 [vr (some (bs + 3296)), vi (J a)] h7 (fun b h2 => ZI T N 156 [vr (some (bs + 3296))] h2 (fun t h3 => Q 0 b t h3))) := by
    intro a1 r hr
    subst hr
    refine ⟨cntV_in I.1, by omega, ?_⟩
    intro h7 z7; subst z7; obtain ⟨C7, D7, F7, G7⟩ := tail0 (h := h) C D I Fcl.rf (x := (J (cntV v a)).toInt64); generalize sL h (bs + 3309) (Int.toNat 0) (J (cntV v a)).toInt64 = h7 at *; have R7 := R.fd F7
    exact rq C7.rt R7 (fun _ h8 F8 R8 e8 => fin k C7 I D7 F7 F8.sk R8 e8 (cntV_in I.1) fun _ => G7) (fun z => absurd a1 z)
  have bad : ¬ (0 ≤ a ∧ a ≤ 8) → ZI T N 185 [vr (some (bs + 3296)), vi (J a)] (bump h) (fun b h2 => ZI T N 156 [vr (some (bs + 3296))] h2 (fun t h3 => Q 1 b t h3)) := fun a1 =>
    rq C.bm.rt (R.fd Fcl.bm) (fun z => absurd z a1) (fun _ h8 F8 R8 e8 => fin k C.bm I (D.bm I) Fcl.bm F8.sk R8 e8 (by decide) fun z => by omega)
  refine z265 o.1 out.1 ha ?_
  unfold cntV at ok
  rw [← eb.1, ← eb.2.1, ← eb.2.2.1, ← eb.2.2.2.1] at ok
  have e5 : v 117 = ai h (bs + 1) 5 := eb.2.2.2.2.symm
  have sl : ∀ {KK : Int → PH → Prop}, 5 ≤ a → a ≤ 8 → KK (sumI (stC v (a - 5)) (v 117).toNat) h → ZI T N 97 [vr (some (bs + 1)), vi (J (a - 5))] h KK := fun q1 q2 kk => z97 (by omega) (d_stLoop D.1 I.1 (by omega) kk (v 117).toNat 0 (by omega))
  refine z116 o.1 ha ⟨fun z => ⟨bs + 1, o.2.1, C.2.1.1.t, Or.inl ⟨_, rfl, ok (by omega) _ (by rw [if_pos z])⟩⟩, fun z0 => ⟨fun z => ⟨bs + 1, o.2.1, C.2.1.1.t, Or.inl ⟨_, rfl, ok (by omega) _ (by rw [if_neg z0, if_pos z])⟩⟩, fun z1 => ⟨fun z => ⟨bs + 1, o.2.1, C.2.1.1.t, Or.inl ⟨_, rfl, ok (by omega) _ (by rw [if_neg z0, if_neg z1, if_pos z, e5])⟩⟩, fun z2 => ⟨fun z => ⟨bs + 1, o.2.1, C.2.1.1.t, Or.inl ⟨_, rfl, ok (by omega) _ (by rw [if_neg z0, if_neg z1, if_neg z2, if_pos z])⟩⟩, fun z3 => ⟨fun z => ⟨bs + 1, o.2.1, C.2.1.1.t, Or.inl ⟨_, rfl, ok (by omega) _ (by rw [if_neg z0, if_neg z1, if_neg z2, if_neg z3, if_pos z])⟩⟩, fun z4 => ⟨fun z => ⟨bs + 1, o.2.1, C.2.1.1.t, sl (by omega) (by omega) (Or.inl ⟨_, rfl, ok (by omega) _ (by rw [if_neg z0, if_neg z1, if_neg z2, if_neg z3, if_neg z4])⟩)⟩, fun z5 => ⟨fun z => ⟨bs + 1, o.2.1, C.2.1.1.t, sl (by omega) (by omega) (Or.inl ⟨_, rfl, ok (by omega) _ (by rw [if_neg z0, if_neg z1, if_neg z2, if_neg z3, if_neg z4])⟩)⟩, fun z6 => ⟨fun z => ⟨bs + 1, o.2.1, C.2.1.1.t, sl (by omega) (by omega) (Or.inl ⟨_, rfl, ok (by omega) _ (by rw [if_neg z0, if_neg z1, if_neg z2, if_neg z3, if_neg z4])⟩)⟩, fun z7 => ⟨fun z => ⟨bs + 1, o.2.1, C.2.1.1.t, sl (by omega) (by omega) (Or.inl ⟨_, rfl, ok (by omega) _ (by rw [if_neg z0, if_neg z1, if_neg z2, if_neg z3, if_neg z4])⟩)⟩, fun z8 => ⟨C.t0, Or.inr ⟨rfl, bad (by omega)⟩⟩⟩⟩⟩⟩⟩⟩⟩⟩⟩
end CCO
