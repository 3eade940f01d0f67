/-! BUSIEST, AUDIT, COUNT, CORRIDOR -/
section CNT
variable {T N : Nat → Nat} {bs A a b w : Nat} {h h1 h2 h3 h7 h10 : PH} {v u sv tx e : Int → Int} {hs hs2 : Int → Int → Int} {iss n tn re er d t : Int} {i : Nat} {K : Int → PH → Prop} {KP : PR → PH → Prop} {Q : Int → Int → Int → PH → Prop} {f g : Int → Int}
/-- legs that a drone has started -/
def sta (v : Int → Int) : Int → Int := fun d => rc v d (7 + 4)
theorem sta_b (I : Iv v) {d : Int} (hd : 0 ≤ d ∧ d < v 117) : 0 ≤ sta v d ∧ sta v d ≤ 100000 := acc_in I hd (by omega)
/-- the largest so far, 0 if none -/
def mxI (f : Int → Int) (n : Nat) : Int := if n = 0 then 0 else f (amI f n)
theorem d_busyLoop (C : Com T N bs h i) (I : IvS v iss sv n hs tn tx re er) (D : SD T N bs h v iss sv n hs tn tx re er) (k0 : ¬ mxI (sta v) (v 117).toNat = 0 → KP (.inl (some (vi (J (amI (sta v) (v 117).toNat))))) h) (k1 : mxI (sta v) (v 117).toNat = 0 → KP (.inr 5) (bump h)) : ∀ (m j : Nat), (j : Int) + m = v 117 → WX T N 137 6 [some (vr (some bs)), some (vi (J (if mxI (sta v) j = 0 then -1 else amI (sta v) j))), some (vi (J (mxI (sta v) j))), some (vi (J (j : Int))), none] [] h KP := by
  have b := I.1.b
  have o := C.o
  have eb := D.1.b
  have mb : ∀ j : Nat, (j : Int) ≤ v 117 → 0 ≤ mxI (sta v) j ∧ mxI (sta v) j ≤ 100000 ∧ (0 < j → 0 ≤ amI (sta v) j ∧ amI (sta v) j < j) := fun j hj => by
    unfold mxI
    by_cases c : j = 0
    · rw [if_pos c]; omega
    · rw [if_neg c]
      have q := amI_b (f := sta v) j (by omega)
      have := sta_b I.1 (d := amI (sta v) j) (by omega)
      exact ⟨this.1, this.2, fun _ => q⟩
  have ib : ∀ j : Nat, (j : Int) ≤ v 117 → In (if mxI (sta v) j = 0 then -1 else amI (sta v) j) := fun j hj => by
    have q := mb j hj
    by_cases c : mxI (sta v) j = 0
    · rw [if_pos c]; decide
    · rw [if_neg c]
      have : 0 < j := by
        rcases Nat.eq_zero_or_pos j with z | z
        · subst z; exact absurd rfl c
        · exact z
      have := q.2.2 this; omega
  intro m
  induction m with
  | zero =>
    intro j hj
    have q := mb j (by omega)
    have ej : j = (v 117).toNat := by omega
    refine z137_6 o.1 (ib j (by omega)) (by omega) (by omega) ⟨bs + 1, o.2.1, C.2.1.1.t, fun c => by omega, fun c => ⟨fun c1 => ⟨C.t0, k1 ?_⟩, fun c1 => ?_⟩⟩
    · rw [← ej]
      by_cases c2 : mxI (sta v) j = 0
      · exact c2
      · rw [if_neg c2] at c1
        have : 0 < j := by
          rcases Nat.eq_zero_or_pos j with z | z
          · subst z; exact absurd rfl c2
          · exact z
        have := q.2.2 this; omega
    · have c2 : ¬ mxI (sta v) j = 0 := fun z => c1 (if_pos z)
      rw [if_neg c2]
      rw [ej] at c2 ⊢
      exact k0 c2
  | succ m ih =>
    intro j hj
    have q := mb j (by omega)
    have q1 := mb (j + 1) (by omega)
    have nxt := ih (j + 1) (by omega)
    have sj := sta_b I.1 (d := (j : Int)) (by omega)
    refine z137_6 o.1 (ib j (by omega)) (by omega) (by omega) ⟨bs + 1, o.2.1, C.2.1.1.t, fun c => ⟨bs + 1, o.2.1, C.2.1.1.t, ?_⟩, fun c => absurd (by omega) c⟩
    refine d_dro (n := (j : Int)) C.2.1.1 (by omega) (by omega) (fun c1 => ⟨fun z => by (cases z), fun a' ea => ?_⟩) (fun c1 => absurd (by omega) c1)
    cases ea
    have Dt := (C.2.1.1.d (c := (j : Int)) (by omega)).2
    have e4 : ai h (dA (bs + 1) j + 1) 4 = sta v j := (D.1.d (d := (j : Int)) (by omega) (by omega)).2.1 4 (by omega) (by omega)
    refine ⟨Dt.t, d_sumOf Dt (by omega) ?_⟩
    rw [e4]
    rw [show ((j + 1 : Nat) : Int) = (j : Int) + 1 by omega] at nxt
    have e1 : mxI (sta v) (j + 1) = sta v (amI (sta v) (j + 1)) := if_neg (by omega)
    have e2 : amI (sta v) (j + 1) = if sta v (amI (sta v) j) < sta v j then (j : Int) else amI (sta v) j := rfl
    refine ⟨fun c2 => d_sumOf Dt (by omega) ?_, fun c2 => ?_⟩
    · rw [e4]
      have e3 : amI (sta v) (j + 1) = j := by
        rcases Nat.eq_zero_or_pos j with z | z
        · subst z; exact amI_1
        · rw [e2, if_pos]
          unfold mxI at c2; rw [if_neg (by omega)] at c2; exact c2
      rw [e1, e3] at nxt
      rw [if_neg (by omega)] at nxt
      exact nxt
    · rcases Nat.eq_zero_or_pos j with z | z
      · subst z
        have s0 : sta v 0 = 0 := by
          have : ¬ (0 : Int) < sta v ((0 : Nat) : Int) := c2
          rw [show (((0 : Nat) : Int)) = 0 from rfl] at this sj; omega
        rw [e1, amI_1, s0] at nxt
        exact nxt
      · have e3 : amI (sta v) (j + 1) = amI (sta v) j := by
          rw [e2, if_neg]
          unfold mxI at c2; rw [if_neg (by omega)] at c2; exact c2
        have e5 : mxI (sta v) j = sta v (amI (sta v) j) := if_neg (by omega)
        rw [e1, e3, ← e5] at nxt
        exact nxt
theorem r_busyLoop (R : RT T N A h) (V : Rv A h v) (I : Iv v) (k : K (if ai h A 0 = 0 then amI (sta v) (v 117).toNat else 0) h) : ∀ (m j : Nat), (j : Int) + m = v 117 → 0 < j → ZW T N 240 21 [some (vr (some A)), some (vi (J (amI (sta v) j))), some (vi (J (j : Int)))] [] h K := by
  have b := I.b
  have n1 := R.a1.2.1
  have e117 := V 117 (by omega) (by omega)
  intro m
  induction m with
  | zero =>
    intro j hj h0
    have q := amI_b (f := sta v) j h0
    refine z240_21 R.t (by omega) (by omega) ⟨A + 1, R.a1.2.2, R.a1.1, by omega, fun c => by omega, fun c => ⟨fun c1 => ?_, fun c1 => ?_⟩⟩
    · rw [if_pos c1, ← show j = (v 117).toNat by omega] at k; exact k
    · rw [if_neg c1] at k; exact k
  | succ m ih =>
    intro j hj h0
    have q := amI_b (f := sta v) j h0
    have nxt := ih (j + 1) (by omega) (by omega)
    rw [show ((j + 1 : Nat) : Int) = (j : Int) + 1 by omega, amI_s] at nxt
    refine z240_21 R.t (by omega) (by omega) ⟨A + 1, R.a1.2.2, R.a1.1, by omega, fun c => ?_, fun c => absurd (by omega) c⟩
    refine r_of R (by omega) (by omega) (r_of R (by omega) (by omega) ?_)
    rw [V _ (by omega) (by omega), V _ (by omega) (by omega)]
    refine ⟨fun c1 => ?_, fun c1 => ?_⟩
    · rw [if_pos (show sta v (amI (sta v) j) < sta v j from c1)] at nxt; exact nxt
    · rw [if_neg (show ¬ sta v (amI (sta v) j) < sta v j from c1)] at nxt; exact nxt
theorem P_busiest (S : Sim T N bs h i) (k : Cont T N bs i h Q) : ZI T N 281 [vr (some bs), vr (some (bs + 3309))] h (fun c h1 => ZI T N 240 [vr (some (bs + 3296))] h1 (fun b h2 => ZI T N 156 [vr (some (bs + 3296))] h2 (fun t h3 => Q c b t h3))) := by
  obtain ⟨v, iss, sv, n, hs, tn, tx, re, er, C, I, D, R⟩ := S; have b := I.1.b; have o := C.o; have out := C.out
  have zero : sumI (sta v) (v 117).toNat = 0 ↔ mxI (sta v) (v 117).toNat = 0 := by
    unfold mxI
    by_cases c : (v 117).toNat = 0
    · rw [if_pos c, c]; exact ⟨fun _ => rfl, fun _ => rfl⟩
    · rw [if_neg c]
      exact (sum0 (f := sta v) (v 117).toNat (by omega) fun j hj => (sta_b I.1 (d := (j : Int)) (by omega)).1).1
  refine z281 o.1 out.1 (z137 (d_busyLoop C I D (fun c => Or.inl ⟨_, rfl, ?_, by omega, ?_⟩) (fun c => Or.inr ⟨rfl, ?_⟩) (v 117).toNat 0 (by omega)))
  · rcases Nat.eq_zero_or_pos (v 117).toNat with z | z
    · rw [z]; show In 0; decide
    · have := amI_b (f := sta v) (v 117).toNat z; omega
  · have pos : 0 < (v 117).toNat := by
      rcases Nat.eq_zero_or_pos (v 117).toNat with z | z
      · rw [z] at c; exact absurd rfl c
      · exact z
    have q := amI_b (f := sta v) (v 117).toNat pos
    intro h7 z7; subst z7; obtain ⟨C7, D7, F7, G7⟩ := tail0 (h := h) C D I Fcl.rf (x := (J (amI (sta v) (v 117).toNat)).toInt64); generalize sL h (bs + 3309) (Int.toNat 0) (J (amI (sta v) (v 117).toNat)).toInt64 = h7 at *; have R7 := R.fd F7
    refine z240 C7.rt.t (r_sum C7.rt R7.1 I.1 (c := 4) (by omega) ⟨fun z => absurd (zero.mp z) c, fun _ => ?_⟩)
    intro h8 z8
    obtain ⟨R8, F8⟩ := R7.th (x := 0)
    rw [← z8] at R8 F8
    have e8 : ai h8 (bs + 3296) 0 = 0 := by subst z8; exact rd_eq rfl rfl (by decide)
    have kk := r_busyLoop (K := fun b h2 => ZI T N 156 [vr (some (bs + 3296))] h2 (fun t h3 => Q 0 b t h3)) (C7.rt.fr F8) R8.1 I.1 (by rw [if_pos e8]; exact fin k C7 I D7 F7 F8.sk R8 e8 (by omega) fun _ => G7) ((v 117).toNat - 1) 1 (by omega) (by omega)
    rw [amI_1] at kk
    exact kk
  · have C7 := C.bm; have D7 := D.bm I; have F7 : Fcl bs h (bump h) := Fcl.bm; generalize bump h = h7 at *; have R7 := R.fd F7
    refine z240 C7.rt.t (r_sum C7.rt R7.1 I.1 (c := 4) (by omega) ⟨fun _ => ?_, fun z => absurd (zero.mpr c) z⟩)
    intro h8 z8
    obtain ⟨R8, F8⟩ := R7.th (x := 1)
    rw [← z8] at R8 F8
    have e8 : ai h8 (bs + 3296) 0 = 1 := by subst z8; exact rd_eq rfl rfl (by decide)
    have T8 := C7.rt.fr F8
    have fn : ZI T N 156 [vr (some (bs + 3296))] h8 (fun t h3 => Q 1 0 t h3) := fin k C7 I D7 F7 F8.sk R8 e8 (by decide) fun z => by omega
    by_cases c0 : v 117 = 0
    · have n1 := T8.a1.2.1
      have e117 := R8.1 117 (by omega) (by omega)
      exact z240_21 T8.t (by decide) (by decide) ⟨bs + 3296 + 1, T8.a1.2.2, T8.a1.1, by omega, fun c => by omega, fun _ => ⟨fun c1 => by omega, fun _ => fn⟩⟩
    · have kk := r_busyLoop (K := fun b h2 => ZI T N 156 [vr (some (bs + 3296))] h2 (fun t h3 => Q 1 b t h3)) T8 R8.1 I.1 (by rw [if_neg (by omega)]; exact fn) ((v 117).toNat - 1) 1 (by omega) (by omega)
      rw [amI_1] at kk
      exact kk
end CNT
