/-! RESTORE, CLEAR, APPEND -/
section MU5
variable {T N : Nat → Nat} {bs A p q : Nat} {h h1 h2 h3 h7 h10 : PH} {v u sv tx e e2 : Int → Int} {hs hs2 : Int → Int → Int} {iss n tn re er d t a b l m w c : Int} {i : Nat} {K : Int → PH → Prop} {KV : PH → Prop} {KP : PR → PH → Prop} {Q : Int → Int → Int → PH → Prop} {f g : Int → Int}
theorem P_restore (S : Sim T N bs h i) (k : Cont T N bs i h Q) : ZI T N 287 [vr (some bs), vr (some (bs + 3309))] h (fun c h1 => ZI T N 252 [vr (some (bs + 3296))] h1 (fun b h2 => ZI T N 156 [vr (some (bs + 3296))] h2 (fun t h3 => Q c b t h3))) := by
  obtain ⟨v, iss, sv, n, hs, tn, tx, re, er, C, I, D, R⟩ := S; have b := I.1.b; have o := C.o; have out := C.out
  have e7d := D.2.1.1
  have hi := I.2.1
  refine z287 o.1 out.1 (z144 o.1 ⟨fun c => ⟨C.t0, Or.inr ⟨rfl, ?_⟩⟩, fun c => ⟨bs + 1, o.2.1, C.2.1.1.t, ?_⟩⟩)
  · have C7 := C.bm; have D7 := D.bm I; have F7 : Fcl bs h (bump h) := Fcl.bm; generalize bump h = h7 at *; have R7 := R.fd F7
    have e7 : ai h7 (bs + 3296) 9 = iss := R7.2.1.1
    refine z252 C7.rt.t ⟨fun _ => ?_, fun z => absurd (by omega) z⟩
    intro h8 z8
    obtain ⟨R8, F8⟩ := R7.th (x := 1)
    rw [← z8] at R8 F8
    have e8 : ai h8 (bs + 3296) 0 = 1 := by subst z8; exact rd_eq rfl rfl (by decide)
    have e9 : ai h8 (bs + 3296) 9 = iss := R8.2.1.1
    exact ⟨fun _ => fin k C7 I D7 F7 F8.sk R8 e8 (by decide) fun z => by omega, fun z => absurd (by omega) z⟩
  · have i1 : iss = 1 := by omega
    subst i1
    have Isv := I.2.2.1 rfl
    have Wsv := D.2.1.2 rfl
    have bv := Isv.b
    rw [o.2.2.1]
    refine d_copyW Wsv Isv C.2.1.1 (by omega) fun h2 F2 g2 W2 => ⟨bs + 589, by rw [g2]; exact o.2.2.2.1, C.1.his.1, ?_⟩
    refine z40 C.1.his.1 ?_
    intro h3 z3
    have F3 : Fp (fun x => x = bs + 589 ∨ (bs + 1 ≤ x ∧ x < bs + 295)) h h3 := by subst z3; exact (F2.mo fun x e => by omega).tr (Fp.pw (Or.inl rfl))
    have g3 : gr h3 = gr h := by subst z3; exact g2
    have I3 : IvS sv 1 sv 0 hs tn tx re er := ⟨Isv, I.2.1, I.2.2.1, by decide, fun i a b => by omega, I.2.2.2.2.2⟩
    have s589 := F2.1 (bs + 589) (by omega)
    have D3 : SD T N bs h3 sv 1 sv 0 hs tn tx re er := by
      obtain ⟨s1, ⟨s2, s3⟩, ⟨s4, s4a, s4b, s4c⟩, ⟨s5, s6⟩, s7, s8⟩ := D
      have e0 := F3.1 bs (by omega)
      have e1 := F3.1 (bs + 3250) (by omega)
      have e2 := F3.1 (bs + 3251) (by omega)
      refine ⟨W2.fr (fun b q1 q2 => by subst z3; exact (Fp.pw (P := fun x => x = bs + 589) rfl).1 b (by omega)) Isv, ⟨by rw [e0.ai]; exact s2, fun z => (s3 z).fr (fun b q1 q2 => F3.1 b (by omega)) Isv⟩, ⟨by subst z3; exact rd_eq rfl rfl (by decide), by decide, ?_, fun i a b => by omega⟩, ⟨by rw [e1.ai]; exact s5, fun i h1 h2 => by rw [e2.ai]; exact s6 i h1 h2⟩, by rw [e0.ai]; exact s7, by rw [e0.ai]; exact s8⟩
      subst z3
      rw [rd_k (by omega) (by omega) (by omega), s589.ai]; exact s4b
    have C3 := C.to F3 g3
    have G3 : Fcl bs h h3 := Fcl.fp F3 fun x z => by omega
    refine ⟨bs + 1, by rw [g3]; exact o.2.1, C.2.1.1.t, ?_⟩
    rw [D3.1.b.2.1]
    refine Or.inl ⟨sv 0, rfl, by omega, by omega, ?_⟩
    intro h7 z7; subst z7
    obtain ⟨C7, D7, F7, G7⟩ := tail0 (h := h) C3 D3 I3 G3 (x := (J (sv 0)).toInt64)
    generalize sL h3 (bs + 3309) (Int.toNat 0) (J (sv 0)).toInt64 = h7 at *
    have R7 := R.fd F7
    have e7 : ai h7 (bs + 3296) 9 = 1 := R7.2.1.1
    refine z252 C7.rt.t ⟨fun z => absurd z (by omega), fun _ => ?_⟩
    intro h8 z8
    obtain ⟨R8, F8⟩ := R7.th (x := 0)
    rw [← z8] at R8 F8
    have e8 : ai h8 (bs + 3296) 0 = 0 := by subst z8; exact rd_eq rfl rfl (by decide)
    have e9 : ai h8 (bs + 3296) 9 = 1 := R8.2.1.1
    have T8 := C7.rt.fr F8
    refine ⟨fun z => absurd z (by omega), fun _ => ?_⟩
    rw [T8.a1.2.2, T8.a2.2.2]
    refine r_copies T8.a2.1 T8.a1.1 T8.a2.2.1 T8.a1.2.1 (by omega) fun h9 F9 E9 => ?_
    intro h10 z10
    have g10 : gr h10 = gr h8 := by subst z10; exact F9.gr
    have F10 : FR (fun b k => b = bs + 3296 + 1 ∨ (b = bs + 3296 ∧ k = 6)) h8 h10 := by subst z10; exact (F9.mo fun b k z => Or.inl z).tr (FR.pw (Or.inr ⟨rfl, rfl⟩))
    have n1 := T8.a1.2.1
    have V10 : Rv (bs + 3296) h10 sv := fun j a b => by
      subst z10; rw [rd_a (by omega), E9 j a b]; exact R8.2.1.2 rfl j a b
    have hn := I.2.2.2.1
    have R10 := R8.un F10 V10 (n2 := 0) (by subst z10; exact rd_eq rfl rfl (by decide)) hn.1
    refine ⟨bs + 3296 + 1, by rw [g10]; exact T8.a1.2.2, T8.a1.1, by omega, ?_⟩
    rw [V10 0 (by omega) (by omega)]
    refine fin k C7 I3 D7 F7 (F8.sk.tr (F10.mo fun b k z => ?_)) R10 ?_ (by omega) fun _ => G7
    · unfold RKw RVw Kw; omega
    · rw [F10.ai (by omega)]; exact e8
/-! clear -/
theorem r_clearLoop (R : RT T N A h) {x0 : Int} (hx0 : In x0) (k : ∀ h2, FR (fun b k => b = A + 1 ∨ (b = A ∧ k = 6)) h h2 → Rv A h2 (fun _ => 0) → ai h2 A 6 = 0 → K x0 h2) : ∀ (q : Nat) (x : Int) (h3 : PH), x = 449 - q → 0 ≤ x → FR (fun b _ => b = A + 1) h h3 → (∀ j, 0 ≤ j → j < x → ai h3 (A + 1) j = 0) → ZW T N 170 14 [some (vr (some A)), some (vi (J x0)), some (vi (J x))] [] h3 K := by
  intro q
  induction q with
  | zero =>
    intro x h3 hx h0 F C
    refine z170_14 R.t hx0 (by omega) ⟨fun c => by omega, fun c => ?_⟩
    intro h4 z4
    refine k h4 (by subst z4; exact (F.mo fun b k z => Or.inl z).tr (FR.pw (Or.inr ⟨rfl, rfl⟩))) (fun j a1 a2 => ?_) (by subst z4; exact rd_eq rfl rfl (by decide))
    subst z4; rw [rd_a (by omega)]; exact C j a1 (by omega)
  | succ q ih =>
    intro x h3 hx h0 F C
    have R3 := R.fr F
    have n1 := R3.a1.2.1
    refine z170_14 R.t hx0 (by omega) ⟨fun c => ⟨A + 1, R3.a1.2.2, R3.a1.1, by omega, ?_⟩, fun c => absurd (by omega) c⟩
    intro h4 z4
    refine ih (x + 1) h4 (by omega) (by omega) (by subst z4; exact F.tr (FR.pw rfl)) fun j a1 a2 => ?_
    subst z4
    by_cases c : j = x
    · rw [rd_eq rfl c (by decide)]
    · rw [rd_k c a1 h0]; exact C j a1 (by omega)
theorem Iv0 : Iv (fun _ => 0) := ⟨by decide, fun n h1 h2 => Or.inl rfl, fun c h1 h2 => absurd (show c < 0 from h2) (by omega), fun c h1 h2 => absurd (show c < 0 from h2) (by omega), fun c h1 h2 => absurd (show c < 0 from h2) (by omega)⟩
theorem P_clear (S : Sim T N bs h i) {Q2 : Int → Int → PH → Prop} (k : ∀ x h3, Sim T N bs h3 (i + 1) → Scp bs h h3 → Q2 x x h3) : ZI T N 105 [vr (some bs)] h (fun x h1 => ZI T N 170 [vr (some (bs + 3296))] h1 (fun y h2 => Q2 x y h2)) := by
  obtain ⟨v, iss, sv, n, hs, tn, tx, re, er, C, I, D, R⟩ := S; have b := I.1.b; have o := C.o; have out := C.out
  have eb := D.1.b
  refine z105 o.1 ⟨bs + 1, o.2.1, C.2.1.1.t, bs + 1, o.2.1, C.2.1.1.t, z83 C.2.1.1.t ?_⟩
  rw [eb.2.1]
  intro h2 z2; intro h3 z3; intro h4 z4; intro h5 z5; intro h6 z6; intro h7 z7
  have g7 : gr h7 = gr h := by subst z7; subst z6; subst z5; subst z4; subst z3; subst z2; rfl
  have F7 : Fp (fun x => x = bs + 1) h h7 := by
    subst z7; subst z6; subst z5; subst z4; subst z3; subst z2
    exact Fp.pw2 (Fp.pw2 (Fp.pw2 (Fp.pw2 (Fp.pw2 (Fp.pw rfl) rfl) rfl) rfl) rfl) rfl
  have W7 : Wo T N h7 (bs + 1) (fun _ => 0) := by
    refine ⟨C.2.1.1.to g7, ?_, ?_, fun c a1 a2 => absurd (show c < 0 from a2) (by omega), fun c a1 a2 => absurd (show c < 0 from a2) (by omega), fun c a1 a2 => absurd (show c < 0 from a2) (by omega)⟩
    · subst z7; subst z6; subst z5; subst z4; subst z3; subst z2
      exact ⟨by simp (disch := first | omega | exact ai_in _ _ _) only [rd_eq, rd_a, rd_k, up_eq, up_ne, ], by simp (disch := first | omega | exact ai_in _ _ _) only [rd_eq, rd_a, rd_k, up_eq, up_ne, ], by simp (disch := first | omega | exact ai_in _ _ _) only [rd_eq, rd_a, rd_k, up_eq, up_ne, ], by simp (disch := first | omega | exact ai_in _ _ _) only [rd_eq, rd_a, rd_k, up_eq, up_ne, ], by simp (disch := first | omega | exact ai_in _ _ _) only [rd_eq, rd_a, rd_k, up_eq, up_ne, ]⟩
    · have : ai h7 (bs + 1) 2 = 0 := by
        subst z7; subst z6; subst z5; subst z4; subst z3; subst z2; simp (disch := first | omega | exact ai_in _ _ _) only [rd_eq, rd_a, rd_k, up_eq, up_ne, ]
      rw [this]
      intro n hn
      rw [mb_0]
      constructor
      · intro z; cases z
      · intro z; exact absurd (show (n : Int) < 0 from z.1) (by omega)
  clear z7 z6 z5 z4 z3 z2
  obtain ⟨C8, D8, I8, G8⟩ := dv_wo C I D (F7.mo fun x z => by omega) W7 Iv0
  refine ⟨bs + 589, by rw [g7]; exact o.2.2.2.1, C.1.his.1, z40 C.1.his.1 ?_⟩
  intro h9 z9
  have F9 : Fp (fun x => x = bs + 589) h7 h9 := by subst z9; exact Fp.pw rfl
  have g9 : gr h9 = gr h7 := by subst z9; rfl
  have H9 : DH T N bs h9 0 hs := by
    obtain ⟨q1, q2, q3, q4⟩ := D8.2.2.1
    refine ⟨by subst z9; exact rd_eq rfl rfl (by decide), by decide, ?_, fun i a b => by omega⟩
    subst z9; rw [rd_k (by omega) (by omega) (by omega)]; exact q3
  have D9 := D8.hi I8 (fun x z => F9.1 x (by omega)) H9
  have I9 : IvS (fun _ => 0) iss sv 0 hs tn tx re er := ⟨Iv0, I.2.1, I.2.2.1, by decide, fun i a b => by omega, I.2.2.2.2.2⟩
  have C9 := (C8.to F9 g9).up
  have G9 : Fcl bs h h9 := G8.tr (Fcl.fp F9 fun x z => by omega)
  have R9 := R.fd G9
  refine z170 C9.rt.t ?_
  intro h10 z10
  obtain ⟨R10, F10⟩ := R9.th (x := 0)
  rw [← z10] at R10 F10
  have T10 := C9.rt.fr F10
  have n1 := T10.a1.2.1
  have hn := I.2.2.2.1
  refine ⟨bs + 3296 + 1, T10.a1.2.2, T10.a1.1, by omega, ?_⟩
  rw [R10.1 0 (by omega) (by omega)]
  refine r_clearLoop T10 (by omega) (fun h11 F11 V11 e11 => ?_) 449 0 h10 (by omega) (by omega) FR.rf fun j a1 a2 => by omega
  have R11 := R10.un F11 V11 e11 hn.1
  have FF : FR (fun b k => bs + 3296 ≤ b ∧ b < bs + 3309) h9 h11 := (F10.mo fun b k z => Scr_in b k z).tr (F11.mo fun b k z => by omega)
  obtain ⟨S11, s11, -⟩ := Sim.mk' C9 I9 D9 FF (fun b k z => z) R11
  exact k (v 0) h11 S11 ((Scp.cl G9).tr s11)
/-! append -/
theorem P_append (S : Sim T N bs h i) (ha : In a) (k : Cont T N bs i h Q) : ZI T N 282 [vr (some bs), vi (J a), vr (some (bs + 3309))] h (fun c h1 => ZI T N 241 [vr (some (bs + 3296)), vi (J a)] h1 (fun b h2 => ZI T N 156 [vr (some (bs + 3296))] h2 (fun t h3 => Q c b t h3))) := by
  obtain ⟨v, iss, sv, n, hs, tn, tx, re, er, C, I, D, R⟩ := S; have b := I.1.b; have o := C.o; have out := C.out
  have hn := I.2.2.2.2.2.1
  have hx := I.2.2.2.2.2.2.1
  have dt := D.2.2.2.1
  have inp := C.1.2.2.2.2.2.2.2.1
  have rq : ∀ {h7 : PH} {KK : Int → PH → Prop}, RT T N (bs + 3296) h7 → SR (bs + 3296) h7 v iss sv n hs tn tx re er → (32 ≤ a ∧ a ≤ 126 → tn < 60 → ∀ h8, FR (fun b k => bs + 3296 ≤ b ∧ b < bs + 3309) h7 h8 → RT T N (bs + 3296) h8 → SR (bs + 3296) h8 v iss sv n hs (tn + 1) (up tx tn a) re er → ai h8 (bs + 3296) 0 = 0 → KK (tn + 1) h8) → (¬ (32 ≤ a ∧ a ≤ 126) → ∀ h8, FR (Scr (bs + 3296)) h7 h8 → SR (bs + 3296) h8 v iss sv n hs tn tx re er → ai h8 (bs + 3296) 0 = 1 → KK 0 h8) → (32 ≤ a ∧ a ≤ 126 → ¬ tn < 60 → ∀ h8, FR (Scr (bs + 3296)) h7 h8 → SR (bs + 3296) h8 v iss sv n hs tn tx re er → ai h8 (bs + 3296) 0 = 2 → KK 0 h8) → ZI T N 241 [vr (some (bs + 3296)), vi (J a)] h7 KK := by
    intro h7 KK T7 R7 k0 k1 k2
    have e11 : ai h7 (bs + 3296) 11 = tn := R7.2.2.2.1.1
    refine z241 T7.t ha (r_in ha (by decide) (by decide) (fun c1 => ⟨(fun z => absurd z (by decide)), fun _ => ?_⟩) (fun c1 => ⟨fun _ => ?_, (fun z => absurd rfl z)⟩))
    · rw [e11]
      refine ⟨fun c2 => ?_, fun c2 => ?_⟩
      · intro h8 z8
        obtain ⟨R8, F8⟩ := R7.th (x := 2)
        rw [← z8] at R8 F8
        have e8 : ai h8 (bs + 3296) 0 = 2 := by subst z8; exact rd_eq rfl rfl (by decide)
        exact ⟨fun _ => k2 c1 (by omega) h8 F8 R8 e8, fun z => absurd (by omega) z⟩
      · intro h8 z8
        obtain ⟨R8, F8⟩ := R7.th (x := 0)
        rw [← z8] at R8 F8
        have e8 : ai h8 (bs + 3296) 0 = 0 := by subst z8; exact rd_eq rfl rfl (by decide)
        have T8 := T7.fr F8
        have n6 := T8.a6.2.1
        have f11 : ai h8 (bs + 3296) 11 = tn := R8.2.2.2.1.1
        refine ⟨fun z => absurd z (by omega), fun _ => ⟨bs + 3296 + 6, T8.a6.2.2, T8.a6.1, by omega, by omega, ?_⟩⟩
        rw [f11]
        intro h9 z9
        have f9 : ai h9 (bs + 3296) 11 = tn := by subst z9; rw [rd_a (by omega)]; exact f11
        rw [f9]
        intro h10 z10
        have F10 : FR (fun b k => b = bs + 3296 + 6 ∨ (b = bs + 3296 ∧ k = 11)) h8 h10 := by subst z10; subst z9; exact (FR.pw (Or.inl rfl)).tr (FR.pw (Or.inr ⟨rfl, rfl⟩))
        have e10 : ai h10 (bs + 3296) 11 = tn + 1 := by subst z10; exact rd_eq rfl rfl (by omega)
        rw [e10]
        refine k0 c1 (by omega) h10 ((F8.mo fun b k z => Scr_in b k z).tr (F10.mo fun b k z => by omega)) (T8.fr F10) ?_ (by rw [F10.ai (by omega)]; exact e8)
        obtain ⟨s1, ⟨s2, s3⟩, ⟨s4, s4'⟩, ⟨s5, s6⟩, s7, s8⟩ := R8
        have f : ∀ {k : Int}, k.toNat ≠ 11 → ai h10 (bs + 3296) k = ai h8 (bs + 3296) k := fun z => F10.ai (by omega)
        refine ⟨fun j a b => by rw [F10.ai (by omega)]; exact s1 j a b, ⟨by rw [f (by decide)]; exact s2, fun z j a b => by rw [F10.ai (by omega)]; exact s3 z j a b⟩, ⟨by rw [f (by decide)]; exact s4, fun i a b j c d => by rw [F10.ai (by omega)]; exact s4' i a b j c d⟩, ⟨e10, fun j h1 h2 => ?_⟩, by rw [f (by decide)]; exact s7, by rw [f (by decide)]; exact s8⟩
        subst z10
        rw [rd_a (by omega)]
        subst z9
        by_cases c3 : j = tn
        · rw [rd_eq rfl c3 ha, up_eq c3]
        · rw [rd_k c3 h1 (by omega), up_ne c3]; exact s6 j h1 (by omega)
    · intro h8 z8
      obtain ⟨R8, F8⟩ := R7.th (x := 1)
      rw [← z8] at R8 F8
      have e8 : ai h8 (bs + 3296) 0 = 1 := by subst z8; exact rd_eq rfl rfl (by decide)
      exact ⟨fun _ => k1 c1 h8 F8 R8 e8, fun z => absurd (by omega) z⟩
  have fnx : ∀ {h7 : PH}, Com T N bs h7 (i + 1) → SD T N bs h7 v iss sv n hs tn tx re er → Fcl bs h h7 → ∀ {c : Int}, c ≠ 0 → ∀ h8, FR (Scr (bs + 3296)) h7 h8 → SR (bs + 3296) h8 v iss sv n hs tn tx re er → ai h8 (bs + 3296) 0 = c → ZI T N 156 [vr (some (bs + 3296))] h8 (fun t h3 => Q c 0 t h3) := fun C7 D7 F7 c hc h8 F8 R8 e8 => fin k C7 I D7 F7 F8.sk R8 e8 (by decide) fun z => absurd z hc
  refine z282 o.1 out.1 ha (z138 o.1 ha ⟨fun c1 => ⟨C.t0, Or.inr (Or.inl ⟨rfl, rq C.bm.rt (R.fd Fcl.bm) (fun z => by omega) (fun _ => fnx C.bm (D.bm I) Fcl.bm (by decide)) (fun z => by omega)⟩)⟩, fun c1 => ⟨fun c2 => ⟨C.t0, Or.inr (Or.inl ⟨rfl, rq C.bm.rt (R.fd Fcl.bm) (fun z => by omega) (fun _ => fnx C.bm (D.bm I) Fcl.bm (by decide)) (fun z => by omega)⟩)⟩, fun c2 => ⟨bs + 3250, o.2.2.2.2.2.2.1, inp.1, fun c3 => ⟨bs + 3250, o.2.2.2.2.2.2.1, inp.1, ?_⟩, fun c3 => ⟨C.t0, Or.inr (Or.inr ⟨rfl, rq C.bm.rt (R.fd Fcl.bm) (fun _ z => by omega) (fun z => by omega) (fun _ _ => fnx C.bm (D.bm I) Fcl.bm (by decide))⟩)⟩⟩⟩⟩)
  have ni := inp.2.2.2
  refine z48 inp.1 ha ⟨fun c => by omega, fun _ => ⟨bs + 3251, inp.2.1, by omega, by omega, fun _ => ⟨bs + 3251, inp.2.1, inp.2.2.1, by omega, by omega, ?_⟩, fun c => absurd (by omega) c⟩⟩
  rw [dt.1]
  intro h2 z2
  have e2 : ai h2 (bs + 3250) 0 = tn := by subst z2; rw [rd_a (by omega)]; exact dt.1
  rw [e2]
  intro h3 z3
  have F3 : Fp (fun x => x = bs + 3250 ∨ x = bs + 3251) h h3 := by subst z3; subst z2; exact (Fp.pw (Or.inr rfl)).tr (Fp.pw (Or.inl rfl))
  have g3 : gr h3 = gr h := by subst z3; subst z2; rfl
  have e3 : ai h3 (bs + 3250) 0 = tn + 1 := by subst z3; exact rd_eq rfl rfl (by omega)
  have I3 : IvS v iss sv n hs (tn + 1) (up tx tn a) re er := ⟨I.1, I.2.1, I.2.2.1, I.2.2.2.1, I.2.2.2.2.1, by omega, fun j h1 h2 => by
    by_cases c : j = tn
    · rw [up_eq c]; omega
    · rw [up_ne c]; exact hx j h1 (by omega), I.2.2.2.2.2.2.2⟩
  have D3 : SD T N bs h3 v iss sv n hs (tn + 1) (up tx tn a) re er := by
    obtain ⟨s1, ⟨s2, s3⟩, s4, ⟨s5, s6⟩, s7, s8⟩ := D
    have e0 := F3.1 bs (by omega)
    refine ⟨s1.fr (fun b q1 q2 => F3.1 b (by omega)) I.1, ⟨by rw [e0.ai]; exact s2, fun z => (s3 z).fr (fun b q1 q2 => F3.1 b (by omega)) (I.2.2.1 z)⟩, s4.fr I.2.2.2.2.1 (fun b q1 q2 => F3.1 b (by omega)), ⟨e3, fun j h1 h2 => ?_⟩, by rw [e0.ai]; exact s7, by rw [e0.ai]; exact s8⟩
    subst z3
    rw [rd_a (by omega)]
    subst z2
    by_cases c : j = tn
    · rw [rd_eq rfl c ha, up_eq c]
    · rw [rd_k c h1 (by omega), up_ne c]; exact s6 j h1 (by omega)
  have C3 := C.to F3 g3
  have G3 : Fcl bs h h3 := Fcl.fp F3 fun x z => by omega
  refine ⟨bs + 3250, by rw [g3]; exact o.2.2.2.2.2.2.1, inp.1, ?_⟩
  rw [e3]
  refine Or.inl ⟨tn + 1, rfl, by omega, by omega, ?_⟩
  intro h7 z7; subst z7
  obtain ⟨C7, D7, F7, G7⟩ := tail0 (h := h) C3 D3 I3 G3 (x := (J (tn + 1)).toInt64)
  generalize sL h3 (bs + 3309) (Int.toNat 0) (J (tn + 1)).toInt64 = h7 at *
  refine rq C7.rt (R.fd F7) (fun _ _ h8 F8 T8 R8 e8 => ?_) (fun z => by omega) (fun _ z => by omega)
  refine r_thrown T8 ?_
  rw [e8]
  obtain ⟨S10, s10, g10⟩ := Sim.mk' C7 I3 D7 F8 (fun b k z => z) R8
  exact k 0 (tn + 1) h8 S10 ((Scp.cl F7).tr s10) (by decide) (by omega) fun _ => by rw [g10, G7]
end MU5
