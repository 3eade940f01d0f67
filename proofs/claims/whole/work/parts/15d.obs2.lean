/-! MORE CALLS THAT ONLY ANSWER -/
/-- a mask of the numbers below n for which f is 1 -/
def mkI (f : Int → Int) : Nat → Int
  | 0 => 0
  | n + 1 => if f n = 1 then zor (mkI f n) (zshl 1 n) else mkI f n
section OB2
variable {T N : Nat → Nat} {bs A a b w : Nat} {h h1 h2 h3 h7 h10 : PH} {v u sv tx e : Int → Int} {hs hs2 : Int → Int → Int} {iss n tn re er d t : Int} {i : Nat} {K : Int → PH → Prop} {KP : PR → PH → Prop} {Q : Int → Int → Int → PH → Prop}
theorem q_isPad (T7 : RT T N A h7) (I : IvS v iss sv n hs tn tx re er) (R7 : SR A h7 v iss sv n hs tn tx re er) {f : Int} (hf : In f) (k0 : 0 ≤ f ∧ f < v 0 → ∀ h8, FR (Scr A) h7 h8 → SR A h8 v iss sv n hs tn tx re er → ai h8 A 0 = 0 → K (if v (1 + f) = 1 then 1 else 0) h8) (k1 : ¬ (0 ≤ f ∧ f < v 0) → ∀ h8, FR (Scr A) h7 h8 → SR A h8 v iss sv n hs tn tx re er → ai h8 A 0 = 1 → K 0 h8) : ZI T N 181 [vr (some A), vi (J f)] h7 K := by
  have b := I.1.b
  have n1 := T7.a1.2.1
  have e0 := R7.1 0 (by omega) (by omega)
  refine z181 T7.t hf (r_isNode T7 hf (by omega) (fun c1 => ⟨(fun z => absurd z (by decide)), fun _ => ?_⟩) (fun c1 => ⟨fun _ => ?_, (fun z => absurd rfl z)⟩))
  · intro h8 z8; obtain ⟨R8, F8⟩ := R7.th (x := 0); rw [← z8] at R8 F8; have e8 : ai h8 A 0 = 0 := (by subst z8; exact rd_eq rfl rfl (by decide)); have T8 := T7.fr F8; rw [e8]; clear z8
    refine ⟨fun _ => ⟨A + 1, T8.a1.2.2, T8.a1.1, by omega, ?_⟩, (fun z => absurd rfl z)⟩
    rw [R8.1 _ (by omega) (by omega)]
    have := k0 (by omega) h8 F8 R8 e8
    refine ⟨fun c => ?_, fun c => ?_⟩
    · rw [if_pos c] at this; exact this
    · rw [if_neg c] at this; exact this
  · intro h8 z8; obtain ⟨R8, F8⟩ := R7.th (x := 1); rw [← z8] at R8 F8; have e8 : ai h8 A 0 = 1 := (by subst z8; exact rd_eq rfl rfl (by decide)); have T8 := T7.fr F8; rw [e8]; clear z8
    exact ⟨(fun z => absurd z (by decide)), fun _ => k1 (by omega) h8 F8 R8 e8⟩
theorem P_isPad (S : Sim T N bs h i) {n0 : Int} (hf : In n0) (k : Cont T N bs i h Q) : ZI T N 262 [vr (some bs), vi (J n0), vr (some (bs + 3309))] h (fun c h1 => ZI T N 181 [vr (some (bs + 3296)), vi (J n0)] h1 (fun b h2 => ZI T N 156 [vr (some (bs + 3296))] h2 (fun t h3 => Q c b t h3))) := by
  obtain ⟨v, iss, sv, n, hs, tn, tx, re, er, C, I, D, R⟩ := S; have b := I.1.b; have o := C.o; have out := C.out
  have eb := D.1.b
  refine z262 o.1 out.1 hf (z113 o.1 hf ⟨bs + 1, o.2.1, C.2.1.1.t, d_hasNode C.2.1.1 hf (fun c1 => ⟨(fun z => absurd z (by decide)), fun _ => ⟨bs + 1, o.2.1, C.2.1.1.t, ?_⟩⟩) (fun c1 => ⟨fun _ => ⟨C.t0, Or.inr ⟨rfl, ?_⟩⟩, (fun z => absurd rfl z)⟩)⟩)
  · have pp := I.1.p (n := n0) (by omega) (by omega)
    refine d_holds (S := n0 < v 0 ∧ v (1 + n0) = 1) (ai_in _ _ _) (by omega) ?_ (fun s => ⟨Or.inr rfl, Or.inl ⟨1, rfl, by decide, (fun z => absurd z (by decide)), fun _ => ⟨by omega, ?_⟩⟩⟩) (fun s => ⟨Or.inl rfl, Or.inl ⟨0, rfl, by decide, fun _ => ⟨by omega, ?_⟩, (fun z => absurd rfl z)⟩⟩)
    · rw [D.1.p n0.toNat (by omega), show ((n0.toNat : Nat) : Int) = n0 by omega]
    · intro h7 z7; subst z7; obtain ⟨C7, D7, F7, G7⟩ := tail0 (h := h) C D I Fcl.rf (x := 1); generalize sL h (bs + 3309) (Int.toNat 0) 1 = h7 at *; have R7 := R.fd F7
      refine q_isPad C7.rt I R7 hf (fun _ h8 F8 R8 e8 => ?_) (fun z => absurd (by omega) z)
      rw [if_pos s.2]
      exact fin k C7 I D7 F7 F8.sk R8 e8 (by decide) fun _ => G7
    · intro h7 z7; subst z7; obtain ⟨C7, D7, F7, G7⟩ := tail0 (h := h) C D I Fcl.rf (x := 0); generalize sL h (bs + 3309) (Int.toNat 0) 0 = h7 at *; have R7 := R.fd F7
      refine q_isPad C7.rt I R7 hf (fun _ h8 F8 R8 e8 => ?_) (fun z => absurd (by omega) z)
      rw [if_neg fun z => s ⟨by omega, z⟩]
      exact fin k C7 I D7 F7 F8.sk R8 e8 (by decide) fun _ => G7
  · have C7 := C.bm; have D7 := D.bm I; have F7 : Fcl bs h (bump h) := Fcl.bm; generalize bump h = h7 at *; have R7 := R.fd F7
    exact q_isPad C7.rt I R7 hf (fun z => absurd z (by omega)) fun _ h8 F8 R8 e8 => fin k C7 I D7 F7 F8.sk R8 e8 (by decide) fun z => by omega
/-! reason, errorPosition -/
theorem P_reason (S : Sim T N bs h i) (k : Cont T N bs i h Q) : ZI T N 275 [vr (some bs), vr (some (bs + 3309))] h (fun c h1 => ZI T N 226 [vr (some (bs + 3296))] h1 (fun b h2 => ZI T N 156 [vr (some (bs + 3296))] h2 (fun t h3 => Q c b t h3))) := by
  obtain ⟨v, iss, sv, n, hs, tn, tx, re, er, C, I, D, R⟩ := S; have b := I.1.b; have o := C.o; have out := C.out
  have er8 := D.2.2.2.2.1
  have hre := I.2.2.2.2.2.2.2.1
  refine z275 o.1 out.1 (z129 o.1 ⟨fun c => ⟨C.t0, Or.inr ⟨rfl, ?_⟩⟩, fun c => Or.inl ⟨_, rfl, ai_in _ _ _, by omega, ?_⟩⟩)
  · rw [er8] at c
    have c0 : re = 0 := by
      by_cases z : re = 0
      · exact z
      · rw [if_neg z] at c; omega
    have C7 := C.bm; have D7 := D.bm I; have F7 : Fcl bs h (bump h) := Fcl.bm; generalize bump h = h7 at *; have R7 := R.fd F7
    have e7 : ai h7 (bs + 3296) 7 = re := R7.2.2.2.2.1
    have T7 := C7.rt
    generalize hA : bs + 3296 = A at *
    refine z226 T7.t ⟨fun _ => ?_, fun z => absurd (by omega) z⟩
    intro h8 z8
    obtain ⟨R8, F8⟩ := R7.th (x := 1)
    rw [← z8] at R8 F8
    have e8 : ai h8 A 0 = 1 := by subst z8; exact rd_eq rfl rfl (by decide)
    rw [R8.2.2.2.2.1]
    subst hA
    exact fin k C7 I D7 F7 F8.sk R8 e8 (by omega) fun z => by omega
  · have c0 : ¬ re = 0 := fun z => c (by rw [er8, if_pos z])
    rw [if_neg c0] at er8
    rw [er8]
    intro h7 z7; subst z7; obtain ⟨C7, D7, F7, G7⟩ := tail0 (h := h) C D I Fcl.rf (x := (J re).toInt64); generalize sL h (bs + 3309) (Int.toNat 0) (J re).toInt64 = h7 at *; have R7 := R.fd F7
    have e7 : ai h7 (bs + 3296) 7 = re := R7.2.2.2.2.1
    refine z226 C7.rt.t ⟨fun z => absurd (by omega) c0, fun _ => ?_⟩
    intro h8 z8
    obtain ⟨R8, F8⟩ := R7.th (x := 0)
    rw [← z8] at R8 F8
    have e8 : ai h8 (bs + 3296) 0 = 0 := by subst z8; exact rd_eq rfl rfl (by decide)
    rw [R8.2.2.2.2.1]
    exact fin k C7 I D7 F7 F8.sk R8 e8 (by omega) fun _ => G7
theorem P_errorPosition (S : Sim T N bs h i) (k : Cont T N bs i h Q) : ZI T N 284 [vr (some bs), vr (some (bs + 3309))] h (fun c h1 => ZI T N 248 [vr (some (bs + 3296))] h1 (fun b h2 => ZI T N 156 [vr (some (bs + 3296))] h2 (fun t h3 => Q c b t h3))) := by
  obtain ⟨v, iss, sv, n, hs, tn, tx, re, er, C, I, D, R⟩ := S; have b := I.1.b; have o := C.o; have out := C.out
  have er8 := D.2.2.2.2.2
  have hre := I.2.2.2.2.2.2.2.2
  refine z284 o.1 out.1 (z140 o.1 ⟨fun c => ⟨C.t0, Or.inr ⟨rfl, ?_⟩⟩, fun c => Or.inl ⟨_, rfl, ai_in _ _ _, by omega, ?_⟩⟩)
  · have C7 := C.bm; have D7 := D.bm I; have F7 : Fcl bs h (bump h) := Fcl.bm; generalize bump h = h7 at *; have R7 := R.fd F7
    have e7 : ai h7 (bs + 3296) 8 = er := R7.2.2.2.2.2
    refine z248 C7.rt.t ⟨fun _ => ?_, fun z => absurd (by omega) z⟩
    intro h8 z8
    obtain ⟨R8, F8⟩ := R7.th (x := 1)
    rw [← z8] at R8 F8
    have e8 : ai h8 (bs + 3296) 0 = 1 := by subst z8; exact rd_eq rfl rfl (by decide)
    exact ⟨fun z => by omega, fun _ => fin k C7 I D7 F7 F8.sk R8 e8 (by decide) fun z => by omega⟩
  · rw [er8]
    intro h7 z7; subst z7; obtain ⟨C7, D7, F7, G7⟩ := tail0 (h := h) C D I Fcl.rf (x := (J er).toInt64); generalize sL h (bs + 3309) (Int.toNat 0) (J er).toInt64 = h7 at *; have R7 := R.fd F7
    have e7 : ai h7 (bs + 3296) 8 = er := R7.2.2.2.2.2
    refine z248 C7.rt.t ⟨fun z => by omega, fun _ => ?_⟩
    intro h8 z8
    obtain ⟨R8, F8⟩ := R7.th (x := 0)
    rw [← z8] at R8 F8
    have e8 : ai h8 (bs + 3296) 0 = 0 := by subst z8; exact rd_eq rfl rfl (by decide)
    refine ⟨fun _ => ?_, fun z => absurd e8 z⟩
    rw [R8.2.2.2.2.2]
    exact fin k C7 I D7 F7 F8.sk R8 e8 (by omega) fun _ => G7
/-! account -/
theorem c_account (C : Com T N bs h i) (I : IvS v iss sv n hs tn tx re er) (D : SD T N bs h v iss sv n hs tn tx re er) {f w : Int} (hf : In f) (hw : In w) (k0 : 0 ≤ f ∧ f < v 117 → 0 ≤ w ∧ w ≤ 4 → KP (.inl (some (vi (J (rc v f (7 + w)))))) h) (k1 : ¬ (0 ≤ f ∧ f < v 117) → KP (.inr 2) (bump h)) (k2 : 0 ≤ f ∧ f < v 117 → ¬ (0 ≤ w ∧ w ≤ 4) → KP (.inr 1) (bump h)) : CALL T N 134 [vr (some bs), vi (J f), vi (J w)] h KP := by
  have b := I.1.b
  have o := C.o
  have eb := D.1.b
  refine z134 o.1 hf hw ⟨bs + 1, o.2.1, C.2.1.1.t, d_dro C.2.1.1 hf (by omega) (fun c1 => ⟨fun z => by (cases z), fun a' ea => ?_⟩) (fun c1 => ⟨fun _ => ⟨C.t0, k1 (by omega)⟩, fun a' ea => by (cases ea)⟩)⟩
  cases ea
  have cf : 0 ≤ f ∧ f < v 117 := by omega
  have Dt := (C.2.1.1.d (c := f) (by omega)).2
  have Dd := D.1.d cf.1 cf.2
  refine ⟨fun z => ⟨C.t0, k2 cf (by omega)⟩, fun z => ⟨fun z2 => ⟨Dt.t, d_sumOf Dt (by omega) ?_⟩, fun z2 => ⟨C.t0, k2 cf (by omega)⟩⟩⟩
  rw [Dd.2.1 w (by omega) (by omega)]
  exact k0 cf (by omega)
theorem q_account (T7 : RT T N A h7) (I : IvS v iss sv n hs tn tx re er) (R7 : SR A h7 v iss sv n hs tn tx re er) {f w : Int} (hf : In f) (hw : In w) (k0 : 0 ≤ f ∧ f < v 117 → 0 ≤ w ∧ w ≤ 4 → ∀ h8, FR (Scr A) h7 h8 → SR A h8 v iss sv n hs tn tx re er → ai h8 A 0 = 0 → K (rc v f (7 + w)) h8) (k1 : ¬ (0 ≤ f ∧ f < v 117) → ∀ h8, FR (Scr A) h7 h8 → SR A h8 v iss sv n hs tn tx re er → ai h8 A 0 = 1 → K 0 h8) (k2 : 0 ≤ f ∧ f < v 117 → ¬ (0 ≤ w ∧ w ≤ 4) → ∀ h8, FR (Scr A) h7 h8 → SR A h8 v iss sv n hs tn tx re er → ai h8 A 0 = 2 → K 0 h8) : ZI T N 236 [vr (some A), vi (J f), vi (J w)] h7 K := by
  have b := I.1.b
  have n1 := T7.a1.2.1
  have e0 := R7.1 117 (by omega) (by omega)
  refine z236 T7.t hf hw (r_isDrone T7 hf (by omega) (fun c1 => ⟨(fun z => absurd z (by decide)), fun _ => ?_⟩) (fun c1 => ⟨fun _ => ?_, (fun z => absurd rfl z)⟩))
  · refine r_in hw (by decide) (by decide) (fun c2 => ⟨(fun z => absurd z (by decide)), fun _ => ?_⟩) (fun c2 => ⟨fun _ => ?_, (fun z => absurd rfl z)⟩)
    · intro h8 z8; obtain ⟨R8, F8⟩ := R7.th (x := 0); rw [← z8] at R8 F8; have e8 : ai h8 A 0 = 0 := (by subst z8; exact rd_eq rfl rfl (by decide)); have T8 := T7.fr F8; rw [e8]; clear z8
      refine ⟨fun _ => r_of T8 (by omega) (by omega) ?_, (fun z => absurd rfl z)⟩
      rw [R8.1 _ (by omega) (by omega)]
      exact k0 (by omega) c2 h8 F8 R8 e8
    · intro h8 z8; obtain ⟨R8, F8⟩ := R7.th (x := 2); rw [← z8] at R8 F8; have e8 : ai h8 A 0 = 2 := (by subst z8; exact rd_eq rfl rfl (by decide)); have T8 := T7.fr F8; rw [e8]; clear z8
      exact ⟨(fun z => absurd z (by decide)), fun _ => k2 (by omega) c2 h8 F8 R8 e8⟩
  · intro h8 z8; obtain ⟨R8, F8⟩ := R7.th (x := 1); rw [← z8] at R8 F8; have e8 : ai h8 A 0 = 1 := (by subst z8; exact rd_eq rfl rfl (by decide)); have T8 := T7.fr F8; rw [e8]; clear z8
    exact ⟨(fun z => absurd z (by decide)), fun _ => k1 (by omega) h8 F8 R8 e8⟩
theorem acc_in (I : Iv v) {f w : Int} (hf : 0 ≤ f ∧ f < v 117) (hw : 0 ≤ w ∧ w ≤ 4) : 0 ≤ rc v f (7 + w) ∧ rc v f (7 + w) ≤ 100000 := by
  have b := I.b
  obtain ⟨o0, o1, o2, o3, o4, o5, o6, o7, o8, o9, o10, o11, o12, os, oa, ob, oc, ol⟩ := I.d hf.1 hf.2
  rcases (show w = 0 ∨ w = 1 ∨ w = 2 ∨ w = 3 ∨ w = 4 by omega) with z | z | z | z | z <;> subst z
  · show 0 ≤ rc v f 7 ∧ rc v f 7 ≤ _; omega
  · show 0 ≤ rc v f 8 ∧ rc v f 8 ≤ _; omega
  · show 0 ≤ rc v f 9 ∧ rc v f 9 ≤ _; omega
  · show 0 ≤ rc v f 10 ∧ rc v f 10 ≤ _; omega
  · show 0 ≤ rc v f 11 ∧ rc v f 11 ≤ _; omega
theorem P_account (S : Sim T N bs h i) {f w : Int} (hf : In f) (hw : In w) (k : Cont T N bs i h Q) : ZI T N 279 [vr (some bs), vi (J f), vi (J w), vr (some (bs + 3309))] h (fun c h1 => ZI T N 236 [vr (some (bs + 3296)), vi (J f), vi (J w)] h1 (fun b h2 => ZI T N 156 [vr (some (bs + 3296))] h2 (fun t h3 => Q c b t h3))) := by
  obtain ⟨v, iss, sv, n, hs, tn, tx, re, er, C, I, D, R⟩ := S; have b := I.1.b; have o := C.o; have out := C.out
  refine z279 o.1 out.1 hf hw (c_account C I D hf hw (fun a1 a2 => Or.inl ⟨_, rfl, (have := acc_in I.1 a1 a2; by omega), by omega, ?_⟩) (fun a1 => Or.inr (Or.inl ⟨rfl, ?_⟩)) (fun a1 a2 => Or.inr (Or.inr ⟨rfl, ?_⟩)))
  · intro h7 z7; subst z7; obtain ⟨C7, D7, F7, G7⟩ := tail0 (h := h) C D I Fcl.rf (x := (J (rc v f (7 + w))).toInt64); generalize sL h (bs + 3309) (Int.toNat 0) (J (rc v f (7 + w))).toInt64 = h7 at *; have R7 := R.fd F7
    exact q_account C7.rt I R7 hf hw (fun _ _ h8 F8 R8 e8 => fin k C7 I D7 F7 F8.sk R8 e8 (have := acc_in I.1 a1 a2; by omega) fun _ => G7) (fun z => absurd a1 z) (fun _ z => absurd a2 z)
  · have C7 := C.bm; have D7 := D.bm I; have F7 : Fcl bs h (bump h) := Fcl.bm; generalize bump h = h7 at *; have R7 := R.fd F7
    exact q_account C7.rt I R7 hf hw (fun z => absurd z a1) (fun _ h8 F8 R8 e8 => fin k C7 I D7 F7 F8.sk R8 e8 (by decide) fun z => by omega) (fun z => absurd z a1)
  · have C7 := C.bm; have D7 := D.bm I; have F7 : Fcl bs h (bump h) := Fcl.bm; generalize bump h = h7 at *; have R7 := R.fd F7
    exact q_account C7.rt I R7 hf hw (fun _ z => absurd z a2) (fun z => absurd a1 z) (fun _ _ h8 F8 R8 e8 => fin k C7 I D7 F7 F8.sk R8 e8 (by decide) fun z => by omega)
end OB2
