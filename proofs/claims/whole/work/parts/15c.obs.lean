/-! CALLS THAT ONLY ANSWER -/
def Cont (T N : Nat → Nat) (bs i : Nat) (h : PH) (Q : Int → Int → Int → PH → Prop) : Prop := ∀ c b h3, Sim T N bs h3 (i + 1) → Scp bs h h3 → In c → In b → (c = 0 → gl h3 (bs + 3309) 0 = (J b).toInt64) → Q c b c h3
section OBS
variable {T N : Nat → Nat} {bs A a b w : Nat} {h h1 h2 h3 h7 h10 : PH} {v u sv tx e : Int → Int} {hs hs2 : Int → Int → Int} {iss n tn re er d t : Int} {i : Nat} {K : Int → PH → Prop} {KP : PR → PH → Prop} {Q : Int → Int → Int → PH → Prop}
theorem fin (k : Cont T N bs i h Q) (C7 : Com T N bs h7 (i + 1)) (I : IvS v iss sv n hs tn tx re er) (D7 : SD T N bs h7 v iss sv n hs tn tx re er) (F7 : Fcl bs h h7) (FF : FR (RKw (bs + 3296)) h7 h10) (R10 : SR (bs + 3296) h10 v iss sv n hs tn tx re er) {c b : Int} (e0 : ai h10 (bs + 3296) 0 = c) (hb : In b) (G7 : c = 0 → gl h7 (bs + 3309) 0 = (J b).toInt64) : ZI T N 156 [vr (some (bs + 3296))] h10 (fun t h3 => Q c b t h3) := by
  refine r_thrown (C7.rt.fr FF) ?_
  rw [e0]
  obtain ⟨S10, s10, g10⟩ := Sim.mk' C7 I D7 FF RKw_in R10
  exact k c b h10 S10 ((Scp.cl F7).tr s10) (by rw [← e0]; exact ai_in _ _ _) hb fun z => by rw [g10]; exact G7 z
theorem FR.sk (F : FR (Scr A) h h2) : FR (RKw A) h h2 := F.mo fun _ _ z => Or.inl (Or.inr z)
/-! fence -/
theorem c_fence (C : Com T N bs h i) (I : IvS v iss sv n hs tn tx re er) (D : SD T N bs h v iss sv n hs tn tx re er) {f w : Int} (hf : In f) (hw : In w) (k0 : 0 ≤ f ∧ f < v 76 → 0 ≤ w ∧ w ≤ 3 → KP (.inl (some (vi (J (v (77 + 4 * f + w)))))) h) (k1 : ¬ (0 ≤ f ∧ f < v 76) → KP (.inr 2) (bump h)) (k2 : 0 ≤ f ∧ f < v 76 → ¬ (0 ≤ w ∧ w ≤ 3) → KP (.inr 1) (bump h)) : CALL T N 111 [vr (some bs), vi (J f), vi (J w)] h KP := by
  have b := I.1.b
  have o := C.o
  have eb := D.1.b
  refine z111 o.1 hf hw ⟨bs + 1, o.2.1, C.2.1.1.t, d_fen C.2.1.1 hf (by omega) (fun c1 => ⟨fun z => by (cases z), fun a' ea => ?_⟩) (fun c1 => ⟨fun _ => ⟨C.t0, k1 (by omega)⟩, fun a' ea => by (cases ea)⟩)⟩
  cases ea
  have cf : 0 ≤ f ∧ f < v 76 := by omega
  have tf := (C.2.1.1.f (c := f) (by omega)).1
  have g := fun (j : Int) (h1 : 0 ≤ j) (h2 : j < 4) => D.1.f (c := f) (k := j) cf.1 cf.2 h1 h2
  refine ⟨fun z => ⟨tf, ?_⟩, fun z => ⟨fun z => ⟨tf, ?_⟩, fun z => ⟨fun z => ⟨tf, ?_⟩, fun z => ⟨fun z => ⟨tf, ?_⟩, fun z => ⟨C.t0, k2 cf (by omega)⟩⟩⟩⟩⟩
  · rw [g 0 (by omega) (by omega)]; subst z; exact k0 cf (by omega)
  · rw [g 1 (by omega) (by omega)]; subst z; exact k0 cf (by omega)
  · rw [g 2 (by omega) (by omega)]; subst z; exact k0 cf (by omega)
  · rw [g 3 (by omega) (by omega)]; subst z; exact k0 cf (by omega)
theorem q_fence (T7 : RT T N A h7) (I : IvS v iss sv n hs tn tx re er) (R7 : SR A h7 v iss sv n hs tn tx re er) {f w : Int} (hf : In f) (hw : In w) (k0 : 0 ≤ f ∧ f < v 76 → 0 ≤ w ∧ w ≤ 3 → ∀ h8, FR (Scr A) h7 h8 → SR A h8 v iss sv n hs tn tx re er → ai h8 A 0 = 0 → K (v (77 + 4 * f + w)) h8) (k1 : ¬ (0 ≤ f ∧ f < v 76) → ∀ h8, FR (Scr A) h7 h8 → SR A h8 v iss sv n hs tn tx re er → ai h8 A 0 = 1 → K 0 h8) (k2 : 0 ≤ f ∧ f < v 76 → ¬ (0 ≤ w ∧ w ≤ 3) → ∀ h8, FR (Scr A) h7 h8 → SR A h8 v iss sv n hs tn tx re er → ai h8 A 0 = 2 → K 0 h8) : ZI T N 179 [vr (some A), vi (J f), vi (J w)] h7 K := by
  have b := I.1.b
  have n1 := T7.a1.2.1
  have e76 := R7.1 76 (by omega) (by omega)
  refine z179 T7.t hf hw ⟨A + 1, T7.a1.2.2, T7.a1.1, by omega, ?_⟩
  rw [e76]
  refine r_in hf (by decide) (by omega) (fun c1 => ⟨fun z => absurd z (by decide), fun _ => ?_⟩) (fun c1 => ⟨fun _ => ?_, fun z => absurd rfl z⟩)
  · refine r_in hw (by decide) (by decide) (fun c2 => ⟨fun z => absurd z (by decide), fun _ => ?_⟩) (fun c2 => ⟨fun _ => ?_, fun z => absurd rfl z⟩)
    · intro h8 z8; obtain ⟨R8, F8⟩ := R7.th (x := 0); rw [← z8] at R8 F8; have e8 : ai h8 A 0 = 0 := (by subst z8; exact rd_eq rfl rfl (by decide)); have T8 := T7.fr F8; rw [e8]; clear z8
      refine ⟨fun _ => ⟨A + 1, T8.a1.2.2, T8.a1.1, by omega, ?_⟩, fun z => absurd rfl z⟩
      rw [R8.1 _ (by omega) (by omega)]
      exact k0 (by omega) c2 h8 F8 R8 e8
    · intro h8 z8; obtain ⟨R8, F8⟩ := R7.th (x := 2); rw [← z8] at R8 F8; have e8 : ai h8 A 0 = 2 := (by subst z8; exact rd_eq rfl rfl (by decide)); have T8 := T7.fr F8; rw [e8]; clear z8
      exact ⟨fun z => absurd z (by decide), fun _ => k2 (by omega) c2 h8 F8 R8 e8⟩
  · intro h8 z8; obtain ⟨R8, F8⟩ := R7.th (x := 1); rw [← z8] at R8 F8; have e8 : ai h8 A 0 = 1 := (by subst z8; exact rd_eq rfl rfl (by decide)); have T8 := T7.fr F8; rw [e8]; clear z8
    exact ⟨fun z => absurd z (by decide), fun _ => k1 (by omega) h8 F8 R8 e8⟩
theorem fen_in (I : Iv v) {f w : Int} (hf : 0 ≤ f ∧ f < v 76) (hw : 0 ≤ w ∧ w ≤ 3) : In (v (77 + 4 * f + w)) := by
  have b := I.b
  have g := I.f hf.1 hf.2
  unfold fenOK at g
  rcases (show w = 0 ∨ w = 1 ∨ w = 2 ∨ w = 3 by omega) with z | z | z | z <;> subst z <;> omega
theorem P_fence (S : Sim T N bs h i) {f w : Int} (hf : In f) (hw : In w) (k : Cont T N bs i h Q) : ZI T N 260 [vr (some bs), vi (J f), vi (J w), vr (some (bs + 3309))] h (fun c h1 => ZI T N 179 [vr (some (bs + 3296)), vi (J f), vi (J w)] h1 (fun b h2 => ZI T N 156 [vr (some (bs + 3296))] h2 (fun t h3 => Q c b t h3))) := by
  obtain ⟨v, iss, sv, n, hs, tn, tx, re, er, C, I, D, R⟩ := S; have b := I.1.b; have o := C.o; have out := C.out
  refine z260 o.1 out.1 hf hw (c_fence C I D hf hw (fun a1 a2 => Or.inl ⟨_, rfl, fen_in I.1 a1 a2, by omega, ?_⟩) (fun a1 => Or.inr (Or.inl ⟨rfl, ?_⟩)) (fun a1 a2 => Or.inr (Or.inr ⟨rfl, ?_⟩)))
  · intro h7 z7; subst z7; obtain ⟨C7, D7, F7, G7⟩ := tail0 (h := h) C D I Fcl.rf (x := (J (v (77 + 4 * f + w))).toInt64); generalize sL h (bs + 3309) (Int.toNat 0) (J (v (77 + 4 * f + w))).toInt64 = h7 at *; have R7 := R.fd F7
    exact q_fence C7.rt I R7 hf hw (fun _ _ h8 F8 R8 e8 => fin k C7 I D7 F7 F8.sk R8 e8 (fen_in I.1 a1 a2) fun _ => G7) (fun z => absurd a1 z) (fun _ z => absurd a2 z)
  · have C7 := C.bm; have D7 := D.bm I; have F7 : Fcl bs h (bump h) := Fcl.bm; generalize bump h = h7 at *; have R7 := R.fd F7
    exact q_fence C7.rt I R7 hf hw (fun z => absurd z a1) (fun _ h8 F8 R8 e8 => fin k C7 I D7 F7 F8.sk R8 e8 (by decide) fun z => by omega) (fun z => absurd z a1)
  · have C7 := C.bm; have D7 := D.bm I; have F7 : Fcl bs h (bump h) := Fcl.bm; generalize bump h = h7 at *; have R7 := R.fd F7
    exact q_fence C7.rt I R7 hf hw (fun _ z => absurd z a2) (fun z => absurd a1 z) (fun _ _ h8 F8 R8 e8 => fin k C7 I D7 F7 F8.sk R8 e8 (by decide) fun z => by omega)
end OBS
