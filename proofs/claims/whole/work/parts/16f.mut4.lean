/-! UNDO, SAVE, RESTORE, CLEAR -/
section MU4
variable {T N : Nat → Nat} {bs A p q : Nat} {h h1 h2 h3 h7 h10 : PH} {v u sv tx e e2 : Int → Int} {hs hs2 : Int → Int → Int} {iss n tn re er d t a b l m w c : Int} {i : Nat} {K : Int → PH → Prop} {KV : PH → Prop} {KP : PR → PH → Prop} {Q : Int → Int → Int → PH → Prop} {f g : Int → Int}
theorem SR.un (S : SR A h v iss sv n hs tn tx re er) (F : FR (fun b k => b = A + 1 ∨ (b = A ∧ k = 6)) h h2) {n2 : Int} (V : Rv A h2 u) (e : ai h2 A 6 = n2) (hn : n2 ≤ n) : SR A h2 u iss sv n2 hs tn tx re er := by
  obtain ⟨s1, ⟨s2, s3⟩, ⟨s4, s4'⟩, ⟨s5, s6⟩, s7, s8⟩ := S
  have f : ∀ {k : Int}, k.toNat ≠ 6 → ai h2 A k = ai h A k := fun z => F.ai (by omega)
  exact ⟨V, ⟨by rw [f (by decide)]; exact s2, fun z j a b => by rw [F.ai (by omega)]; exact s3 z j a b⟩, ⟨e, fun i a b j c d => by rw [F.ai (by omega)]; exact s4' i a (by omega) j c d⟩, ⟨by rw [f (by decide)]; exact s5, fun i a b => by rw [F.ai (by omega)]; exact s6 i a b⟩, by rw [f (by decide)]; exact s7, by rw [f (by decide)]; exact s8⟩
theorem P_undo (S : Sim T N bs h i) (k : Cont T N bs i h Q) : ZI T N 286 [vr (some bs), vr (some (bs + 3309))] h (fun c h1 => ZI T N 250 [vr (some (bs + 3296))] h1 (fun b h2 => ZI T N 156 [vr (some (bs + 3296))] h2 (fun t h3 => Q c b t h3))) := by
  obtain ⟨v, iss, sv, n, hs, tn, tx, re, er, C, I, D, R⟩ := S; have b := I.1.b; have o := C.o; have out := C.out
  have hn := I.2.2.2.1
  have e0 := D.2.2.1.1
  refine z286 o.1 out.1 (z142 o.1 ⟨bs + 589, o.2.2.2.1, C.1.his.1, fun c => ⟨C.t0, Or.inr ⟨rfl, ?_⟩⟩, fun c => ⟨bs + 589, o.2.2.2.1, C.1.his.1, ?_⟩⟩)
  · have C7 := C.bm; have D7 := D.bm I; have F7 : Fcl bs h (bump h) := Fcl.bm; generalize bump h = h7 at *; have R7 := R.fd F7
    have e7 : ai h7 (bs + 3296) 6 = n := R7.2.2.1.1
    refine z250 C7.rt.t ⟨fun _ => ?_, fun z => absurd (by omega) z⟩
    intro h8 z8
    obtain ⟨R8, F8⟩ := R7.th (x := 1)
    rw [← z8] at R8 F8
    have e8 : ai h8 (bs + 3296) 0 = 1 := by subst z8; exact rd_eq rfl rfl (by decide)
    exact ⟨fun _ => fin k C7 I D7 F7 F8.sk R8 e8 (by decide) fun z => by omega, fun z => absurd e8 z⟩
  · rw [o.2.1]
    refine d_stepBack C.1 C.2.1 D.2.2.1 I.2.2.2.2.1 (by omega) fun h2 F2 g2 H2 W2 => ?_
    have s0 := F2.1 bs (by omega)
    have C2 := C.to F2 g2
    have In2 := I.2.2.2.2.1 (n - 1) (by omega) (by omega)
    have I2 : IvS (hs (n - 1)) iss sv (n - 1) hs tn tx re er := ⟨In2, I.2.1, I.2.2.1, by omega, fun i a b => I.2.2.2.2.1 i a (by omega), I.2.2.2.2.2⟩
    have D2 : SD T N bs h2 (hs (n - 1)) iss sv (n - 1) hs tn tx re er := by
      obtain ⟨s1, ⟨s2, s3⟩, s4, ⟨s5, s6⟩, s7, s8⟩ := D
      have e1 := F2.1 (bs + 3250) (by omega)
      have e2 := F2.1 (bs + 3251) (by omega)
      exact ⟨W2, ⟨by rw [s0.ai]; exact s2, fun z => (s3 z).fr (fun b q1 q2 => F2.1 b (by omega)) (I.2.2.1 z)⟩, H2, ⟨by rw [e1.ai]; exact s5, fun i h1 h2 => by rw [e2.ai]; exact s6 i h1 h2⟩, by rw [s0.ai]; exact s7, by rw [s0.ai]; exact s8⟩
    have G2 : Fcl bs h h2 := Fcl.fp F2 fun x z => by omega
    refine ⟨bs + 589, by rw [g2]; exact o.2.2.2.1, C.1.his.1, ?_⟩
    rw [H2.1]
    refine Or.inl ⟨_, rfl, by omega, by omega, ?_⟩
    intro h7 z7; subst z7
    obtain ⟨C7, D7, F7, G7⟩ := tail0 (h := h) C2 D2 I2 G2 (x := (J (n - 1)).toInt64)
    generalize sL h2 (bs + 3309) (Int.toNat 0) (J (n - 1)).toInt64 = h7 at *
    have R7 := R.fd F7
    have e7 : ai h7 (bs + 3296) 6 = n := R7.2.2.1.1
    refine z250 C7.rt.t ⟨fun z => absurd (by omega) c, fun _ => ?_⟩
    intro h8 z8
    obtain ⟨R8, F8⟩ := R7.th (x := 0)
    rw [← z8] at R8 F8
    have e8 : ai h8 (bs + 3296) 0 = 0 := by subst z8; exact rd_eq rfl rfl (by decide)
    have T8 := C7.rt.fr F8
    rw [e8]
    refine ⟨(fun z => absurd z (by decide)), fun _ => ?_⟩
    rw [R8.2.2.1.1]
    intro h9 z9
    have F9 : FR (fun b k => b = bs + 3296 + 1 ∨ (b = bs + 3296 ∧ k = 6)) h8 h9 := by subst z9; exact FR.pw (Or.inr ⟨rfl, rfl⟩)
    have H9 : RH (bs + 3296) h8 (n - 1 + 1) hs := by rw [show n - 1 + 1 = n by omega]; exact R8.2.2.1
    refine r_undoLoop (h := h8) (n := n - 1) T8 H9 (by omega) (fun h10 T10 F10 V10 e10 => ?_) 449 0 h9 (by omega) (by omega) F9 (by subst z9; exact rd_eq rfl rfl (by omega)) fun j a1 a2 => by omega
    refine fin k C7 I2 D7 F7 (F8.sk.tr (F10.mo fun b k z => ?_)) (R8.un F10 V10 e10 (by omega)) ?_ (by omega) fun _ => G7
    · unfold RKw RVw Kw; omega
    · rw [F10.ai (by omega)]; exact e8
/-- a row of the reference is copied -/
theorem r_copyLoop (ta : T p = 22) (tb : T q = 22) (na : N p = 449) (nb : N q = 449) (hpq : p ≠ q) (k : ∀ h2, FR (fun b _ => b = q) h h2 → (∀ j, 0 ≤ j → j < 449 → ai h2 q j = ai h p j) → KV h2) : ∀ (m : Nat) (x : Int) (h3 : PH), x = 449 - m → 0 ≤ x → FR (fun b _ => b = q) h h3 → (∀ j, 0 ≤ j → j < x → ai h3 q j = ai h p j) → WV T N 161 2 [some (vr (some p)), some (vr (some q)), some (vi (J x))] [] h3 KV := by
  intro m
  induction m with
  | zero =>
    intro x h3 hx h0 F C
    exact z161_2 ta tb (by omega) ⟨fun c => by omega, fun c => k h3 F fun j a1 a2 => C j a1 (by omega)⟩
  | succ m ih =>
    intro x h3 hx h0 F C
    refine z161_2 ta tb (by omega) ⟨fun c => ⟨by omega, by omega, ?_⟩, fun c => absurd (by omega) c⟩
    intro h4 z4
    have ev : ai h3 p x = ai h p x := F.ai hpq
    refine ih (x + 1) h4 (by omega) (by omega) (by subst z4; exact F.tr (FR.pw rfl)) fun j a1 a2 => ?_
    subst z4
    by_cases c : j = x
    · rw [rd_eq rfl c (ai_in _ _ _), c]; exact ev
    · rw [rd_k c a1 h0]; exact C j a1 (by omega)
theorem r_copies (ta : T p = 22) (tb : T q = 22) (na : N p = 449) (nb : N q = 449) (hpq : p ≠ q) (k : ∀ h2, FR (fun b _ => b = q) h h2 → (∀ j, 0 ≤ j → j < 449 → ai h2 q j = ai h p j) → KV h2) : CV T N 161 [vr (some p), vr (some q)] h KV :=
  z161 (r_copyLoop ta tb na nb hpq k 449 0 h (by omega) (by omega) FR.rf fun j a1 a2 => by omega)
theorem P_save (S : Sim T N bs h i) {Q2 : Int → Int → PH → Prop} (k : ∀ x h3, Sim T N bs h3 (i + 1) → Scp bs h h3 → Q2 x x h3) : ZI T N 143 [vr (some bs)] h (fun x h1 => ZI T N 251 [vr (some (bs + 3296))] h1 (fun y h2 => Q2 x y h2)) := by
  obtain ⟨v, iss, sv, n, hs, tn, tx, re, er, C, I, D, R⟩ := S; have b := I.1.b; have o := C.o; have out := C.out
  refine z143 o.1 ⟨bs + 295, o.2.2.1, C.2.1.2.1.t, ?_⟩
  rw [o.2.1]
  refine d_copyW D.1 I.1 C.2.1.2.1 (by omega) fun h2 F2 g2 W2 => ?_
  intro h3 z3
  have F3 : Fp (fun x => x = bs ∨ (bs + 295 ≤ x ∧ x < bs + 589)) h h3 := by subst z3; exact (F2.mo fun x e => by omega).tr (Fp.pw (Or.inl rfl))
  have g3 : gr h3 = gr h := by subst z3; exact g2
  have I3 : IvS v 1 v n hs tn tx re er := ⟨I.1, Or.inr rfl, fun _ => I.1, I.2.2.2⟩
  have D3 : SD T N bs h3 v 1 v n hs tn tx re er := by
    obtain ⟨s1, ⟨s2, s3⟩, s4, ⟨s5, s6⟩, s7, s8⟩ := D
    have e1 := F3.1 (bs + 3250) (by omega)
    have e2 := F3.1 (bs + 3251) (by omega)
    have e0 : ∀ j : Int, 0 ≤ j → j ≠ 7 → ai h3 bs j = ai h bs j := fun j a1 a2 => by
      subst z3; rw [rd_k a2 a1 (by omega), (F2.1 bs (by omega)).ai]
    exact ⟨s1.fr (fun b q1 q2 => F3.1 b (by omega)) I.1, ⟨by subst z3; exact rd_eq rfl rfl (by decide), fun _ => W2.fr (fun b q1 q2 => by subst z3; exact (Fp.pw (P := fun x => x = bs) rfl).1 b (by omega)) I.1⟩, s4.fr I.2.2.2.2.1 (fun b q1 q2 => F3.1 b (by omega)), ⟨by rw [e1.ai]; exact s5, fun i h1 h2 => by rw [e2.ai]; exact s6 i h1 h2⟩, by rw [e0 8 (by omega) (by omega)]; exact s7, by rw [e0 9 (by omega) (by omega)]; exact s8⟩
  have C3 := (C.to F3 g3).up
  have G3 : Fcl bs h h3 := Fcl.fp F3 fun x z => by omega
  refine ⟨bs + 1, by rw [g3]; exact o.2.1, C.2.1.1.t, ?_⟩
  rw [D3.1.b.2.1]
  have R3 := R.fd G3
  refine z251 C3.rt.t ?_
  intro h8 z8
  obtain ⟨R8, F8⟩ := R3.th (x := 0)
  rw [← z8] at R8 F8
  have T8 := C3.rt.fr F8
  rw [T8.a1.2.2, T8.a2.2.2]
  refine r_copies T8.a1.1 T8.a2.1 T8.a1.2.1 T8.a2.2.1 (by omega) fun h9 F9 E9 => ?_
  intro h10 z10
  have g10 : gr h10 = gr h8 := by subst z10; exact F9.gr
  have F10 : FR (fun b k => b = bs + 3296 + 2 ∨ (b = bs + 3296 ∧ k = 9)) h8 h10 := by subst z10; exact (F9.mo fun b k z => Or.inl z).tr (FR.pw (Or.inr ⟨rfl, rfl⟩))
  have n1 := T8.a1.2.1
  have R10 : SR (bs + 3296) h10 v 1 v n hs tn tx re er := by
    obtain ⟨s1, ⟨s2, s3⟩, ⟨s4, s4'⟩, ⟨s5, s6⟩, s7, s8⟩ := R8
    have f : ∀ {k : Int}, k.toNat ≠ 9 → ai h10 (bs + 3296) k = ai h8 (bs + 3296) k := fun z => F10.ai (by omega)
    refine ⟨fun j a b => by rw [F10.ai (by omega)]; exact s1 j a b, ⟨by subst z10; exact rd_eq rfl rfl (by decide), fun z j a b => ?_⟩, ⟨by rw [f (by decide)]; exact s4, fun i a b j c d => by rw [F10.ai (by omega)]; exact s4' i a b j c d⟩, ⟨by rw [f (by decide)]; exact s5, fun i a b => by rw [F10.ai (by omega)]; exact s6 i a b⟩, by rw [f (by decide)]; exact s7, by rw [f (by decide)]; exact s8⟩
    subst z10
    rw [rd_a (by omega), E9 j a b]; exact s1 j a b
  refine ⟨bs + 3296 + 1, by rw [g10]; exact T8.a1.2.2, T8.a1.1, by omega, ?_⟩
  rw [R10.1 0 (by omega) (by omega)]
  have FF : FR (fun b k => bs + 3296 ≤ b ∧ b < bs + 3309) h3 h10 := (F8.mo fun b k z => Scr_in b k z).tr (F10.mo fun b k z => by omega)
  obtain ⟨S10, s10, -⟩ := Sim.mk' C3 I3 D3 FF (fun b k z => z) R10
  exact k (v 0) h10 S10 ((Scp.cl G3).tr s10)
end MU4
