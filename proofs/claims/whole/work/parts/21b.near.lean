/-! NEAREST PAD -/
def PDs (v : Int → Int) (n : Int) : Prop := n < v 0 ∧ v (1 + n) = 1
section NEA
variable {T N : Nat → Nat} {bs A w : Nat} {h h1 h2 h3 h7 h10 : PH} {v u sv tx : Int → Int} {hs hs2 : Int → Int → Int} {iss n tn re er d a t q b l m x y c e tm en t2 e2 k : Int} {i : Nat} {K : Int → PH → Prop} {KV : PH → Prop} {KP : PR → PH → Prop} {Q : Int → Int → Int → PH → Prop} {P : Int → Prop}
theorem FPad_st (I : Iv v) (hd : 0 ≤ d ∧ d < v 117) (hp : PDs v (rc v d 3)) : FPad v d q (rc v d 3) := by
  have o3 := (I.d hd.1 hd.2).2.2.2.1
  refine ⟨⟨o3.1, hp.1, hp.2⟩, 0, Or.inl ⟨rfl, rfl⟩, fun n2 p2 t2 r2 => ?_⟩
  rcases r2 with ⟨z1, z2⟩ | ⟨z1, k, z2, z3⟩
  · exact Or.inr ⟨z2.symm, by rw [z1]; exact Int.le_refl _⟩
  · have := enK_b I hd z2.1
    exact Or.inl (by omega)
theorem FPad_f (I : Iv v) (hd : 0 ≤ d ∧ d < v 117) (hp : ¬ PDs v (rc v d 3)) (F : Fst v d q (PDs v) n k) : FPad v d q n := by
  obtain ⟨f1, f2, f3⟩ := F
  have nb := cand_n I hd f2.1
  have ns : n ≠ rc v d 3 := fun z => hp (by rw [← z]; exact f1)
  refine ⟨⟨nb.1, f1.1, f1.2⟩, _, Or.inr ⟨ns, k, f2, rfl⟩, fun n2 p2 t2 r2 => ?_⟩
  rcases r2 with ⟨z1, z2⟩ | ⟨z1, k2, z2, z3⟩
  · exact absurd (show PDs v (rc v d 3) by rw [← z1]; exact ⟨p2.2.1, p2.2.2⟩) hp
  · rw [z3]; exact f3 n2 k2 ⟨p2.2.1, p2.2.2⟩ z2.1
theorem NPad_f (hp : ¬ PDs v (rc v d 3)) (F : ∀ n k, PDs v n → ¬ Cand v d q n k) : NPad v d q := by
  intro n t p2 r2
  rcases r2 with ⟨z1, z2⟩ | ⟨z1, k2, z2, z3⟩
  · exact absurd (show PDs v (rc v d 3) by rw [← z1]; exact ⟨p2.2.1, p2.2.2⟩) hp
  · exact F n k2 ⟨p2.2.1, p2.2.2⟩ z2.1
theorem FPad.no (h : FPad v d q n) (g : NPad v d q) : False := by
  obtain ⟨h1, t, h2, _⟩ := h
  exact g n t h1 h2
theorem c_127 (C : Com T N bs h i) (I : IvS v iss sv n hs tn tx re er) (D : SD T N bs h v iss sv n hs tn tx re er) (ha : In a) (k0 : 0 ≤ a ∧ a < v 117 → rc v a 0 ≠ 3 → ∀ n2, FPad v a 2 n2 → ∀ h4, Com T N bs h4 i → SD T N bs h4 v iss sv n hs tn tx re er → Fcl bs h h4 → KP (.inl (some (vi (J n2)))) h4) (k1 : ¬ (0 ≤ a ∧ a < v 117) → KP (.inr 2) (bump h)) (k2 : 0 ≤ a ∧ a < v 117 → (rc v a 0 = 3 ∨ NPad v a 2) → ∀ h4, Com T N bs h4 i → SD T N bs h4 v iss sv n hs tn tx re er → Fcl bs h h4 → KP (.inr 5) (bump h4)) : CALL T N 127 [vr (some bs), vi (J a)] h KP := by
  have b := I.1.b
  have o := C.o
  have eb := D.1.b
  refine z127 o.1 ha ⟨bs + 1, o.2.1, C.2.1.1.t, d_dro C.2.1.1 ha (by omega) (fun c1 => ⟨fun z => by (cases z), fun a' ea => ?_⟩) (fun c1 => ⟨fun _ => ⟨C.t0, k1 (by omega)⟩, fun a' ea => by (cases ea)⟩)⟩
  cases ea
  have ca : 0 ≤ a ∧ a < v 117 := by omega
  refine ⟨bs + 1, o.2.1, C.2.1.1.t, bs + 3237, o.2.2.2.2.1, C.se.1, ?_⟩
  refine c_find (q := 2) (P := PDs v) C I D ca (by decide) (GlsP D.1) (fun z => ⟨fun _ => ⟨C.t0, k2 ca (Or.inl z) h C D (fun _ _ => sm.rf)⟩, (fun z => absurd rfl z)⟩) (fun z1 z2 h4 C4 D4 L4 g4 f4 => ⟨(fun z => absurd z (by decide)), fun _ => ⟨bs + 3237, C4.o.2.2.2.2.1, C4.se.1, ?_⟩⟩) (fun z1 z2 n2 k fk h4 C4 D4 L4 g4 K4 f4 => ⟨(fun z => absurd z (by decide)), fun _ => ⟨bs + 3237, C4.o.2.2.2.2.1, C4.se.1, ?_⟩⟩) (fun z1 z2 nn h4 C4 D4 L4 g4 => ⟨fun _ => ⟨C4.t0, k2 ca (Or.inr (NPad_f z2 nn)) h4 C4 D4 L4⟩, (fun z => absurd rfl z)⟩)
  · rw [f4.2.2.2]; exact k0 ca z1 _ (FPad_st I.1 ca z2) h4 C4 D4 L4
  · rw [f4.2.2.2]; exact k0 ca z1 _ (FPad_f I.1 ca z2 fk) h4 C4 D4 L4
theorem q_224 (T7 : RT T N A h7) (I : IvS v iss sv n hs tn tx re er) (R7 : SR A h7 v iss sv n hs tn tx re er) (ha : In a) (k0 : 0 ≤ a ∧ a < v 117 → rc v a 0 ≠ 3 → ∀ n2, FPad v a 2 n2 → ∀ h8, FR (Scr A) h7 h8 → SR A h8 v iss sv n hs tn tx re er → ai h8 A 0 = 0 → K n2 h8) (k1 : ¬ (0 ≤ a ∧ a < v 117) → ∀ h8, FR (Scr A) h7 h8 → SR A h8 v iss sv n hs tn tx re er → ai h8 A 0 = 1 → K 0 h8) (k2 : 0 ≤ a ∧ a < v 117 → (rc v a 0 = 3 ∨ NPad v a 2) → ∀ h8, FR (Scr A) h7 h8 → SR A h8 v iss sv n hs tn tx re er → ai h8 A 0 = 2 → K 0 h8) : ZI T N 224 [vr (some A), vi (J a)] h7 K := by
  have b := I.1.b
  have e117 := R7.1 117 (by omega) (by omega)
  refine z224 T7.t ha (r_isDrone T7 ha (by omega) (fun c1 => ⟨(fun z => absurd z (by decide)), fun _ => ?_⟩) (fun c1 => ⟨fun _ => ?_, (fun z => absurd rfl z)⟩))
  rotate_left
  · intro h8 z8; obtain ⟨R8, F8⟩ := R7.th (x := 1); rw [← z8] at R8 F8; have e8 : ai h8 A 0 = 1 := (by subst z8; exact rd_eq rfl rfl (by decide)); have T8 := T7.fr F8; rw [e8]; clear z8
    exact ⟨fun _ => k1 (by omega) h8 F8 R8 e8, fun z => absurd rfl z⟩
  have ca : 0 ≤ a ∧ a < v 117 := by omega
  intro h8 z8; obtain ⟨R8, F8⟩ := R7.th (x := 0); rw [← z8] at R8 F8; have e8 : ai h8 A 0 = 0 := (by subst z8; exact rd_eq rfl rfl (by decide)); have T8 := T7.fr F8; rw [e8]; clear z8
  have no : ∀ h9, FR (Scr A) h8 h9 → RT T N A h9 → (rc v a 0 = 3 ∨ NPad v a 2) → ZI T N 157 [vr (some A), vi (J 2)] h9 K := fun h9 F9 T9 hn => by
    refine r_no T9 (by decide) ?_
    obtain ⟨R10, F10⟩ := (R8.sc F9).th (x := 2)
    exact k2 ca hn _ ((F8.tr F9).tr F10) R10 (rd_eq rfl rfl (by decide))
  refine ⟨(fun z => absurd z (by decide)), fun _ => r_begins T8 R8.1 I.1 ca fun h9 T9 F9 S9 => ⟨fun c3 => ⟨fun _ => no h9 F9.bg T9 (Or.inl c3), (fun z => absurd rfl z)⟩, fun c3 => ⟨(fun z => absurd z (by decide)), fun _ => ?_⟩⟩⟩
  have R9 := R8.sc F9.bg
  refine r_looks (q := 2) T9 R9.1 I.1 S9 ca (by decide) (by decide) fun h10 T10 F10 V10 S10 K10 => ?_
  have F9a := (F9.bg).tr (PL_pm F10).pm
  refine r_firstPad T10 V10 I.1 S10 K10 ca (fun nn h11 F11 => ⟨fun _ => no h11 (F9a.tr (PB_pm F11).pm) (T10.fr F11) (Or.inr nn), fun z => absurd (by decide) z⟩) (fun n2 fp h11 F11 => ⟨fun z => by have := fp.1.1; omega, fun _ => ?_⟩)
  have F8b := F9a.tr (PB_pm F11).pm
  refine k0 ca c3 n2 fp h11 (F8.tr F8b) (R8.sc F8b) ?_
  rw [F11.ai (by unfold PB; omega), F10.ai (by unfold PLk P9; omega), F9.ai (by omega)]; exact e8
theorem P_nearestPad (S : Sim T N bs h i) (ha : In a) (k : Cont T N bs i h Q) : ZI T N 274 [vr (some bs), vi (J a), vr (some (bs + 3309))] h (fun z1 h1 => ZI T N 224 [vr (some (bs + 3296)), vi (J a)] h1 (fun z2 h2 => ZI T N 156 [vr (some (bs + 3296))] h2 (fun z3 h3 => Q z1 z2 z3 h3))) := by
  obtain ⟨v, iss, sv, n, hs, tn, tx, re, er, C, I, D, R⟩ := S; have b := I.1.b; have o := C.o; have out := C.out
  refine z274 o.1 out.1 ha (c_127 C I D ha (fun z nl n2 fp h4 C4 D4 F4 => Or.inl ⟨_, rfl, ?_, by omega, ?_⟩) (fun z => Or.inr (Or.inl ⟨rfl, ?_⟩)) (fun z hn h4 C4 D4 F4 => Or.inr (Or.inr ⟨rfl, ?_⟩)))
  · have := fp.1.1; have := fp.1.2.1; omega
  · have f1 := fp.1.1
    have f2 := fp.1.2.1
    intro h7 z7; subst z7; obtain ⟨C7, D7, F7, G7⟩ := tail0 (h := h) C4 D4 I F4 (x := (J n2).toInt64); generalize sL h4 (bs + 3309) (Int.toNat 0) (J n2).toInt64 = h7 at *
    refine q_224 C7.rt I (R.fd F7) ha (fun _ _ n3 fp3 h8 F8 R8 e8 => ?_) (fun y => absurd z y) (fun _ hn => by rcases hn with hn | hn; exact absurd hn nl; exact (fp.no hn).elim)
    rw [fp3.un fp]
    exact fin k C7 I D7 F7 F8.sk R8 e8 (by omega) fun _ => G7
  · have C7 := C.bm; have D7 := D.bm I; have F7 : Fcl bs h (bump h) := Fcl.bm; generalize bump h = h7 at *; have R7 := R.fd F7
    exact q_224 C7.rt I R7 ha (fun y => absurd y z) (fun _ h8 F8 R8 e8 => fin k C7 I D7 F7 F8.sk R8 e8 (by decide) fun z => by omega) (fun y => absurd y z)
  · have F7 := F4.tr Fcl.bm
    exact q_224 C4.bm.rt I (R.fd F7) ha (fun _ nl n3 fp3 => by rcases hn with hn | hn; exact absurd hn nl; exact (fp3.no hn).elim) (fun y => absurd z y) (fun _ _ h8 F8 R8 e8 => fin k C4.bm I (D4.bm I) F7 F8.sk R8 e8 (by decide) fun z => by omega)
end NEA
