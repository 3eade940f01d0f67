/-! THE LAW'S LOOP, to its end -/
section RUN
variable {T N : Nat → Nat} {bs a0 : Nat} {h h2 h3 : PH} {i : Nat}
theorem Sim.room (S : Sim T N bs h i) (hi : i ≤ 513) : ce h ≤ 603072 ∧ sl h ≤ 7194730 := by
  obtain ⟨v, iss, sv, n, hs, tn, tx, re, er, C, -, -, -⟩ := S
  have c1 := C.2.2.2.1
  have c2 := C.2.2.2.2
  omega
theorem law_run (t1 : T a0 = 21) (ha0 : a0 < bs) (hN : (N a0 : Int) ≤ 2560) : ∀ (q i : Nat) (h : PH), i + q = 513 → Sim T N bs h i → ZW T N 288 28 [some (vr (some a0)), some (vr (some bs)), some (vr (some (bs + 3296))), some (vr (some (bs + 3309))), some (vr (some (bs + 3310))), some (vi (J (5 * (i : Int)))), none, none, none] [] h (fun x h2 => x = 1 ∧ ce h2 ≤ 603072 ∧ sl h2 ≤ 7194730) := by
  intro q
  induction q with
  | zero =>
    intro i h hi S
    exact law_step S t1 ha0 hN (by omega) (fun _ => ⟨rfl, S.room (by omega)⟩) fun c => absurd c (by omega)
  | succ q ih =>
    intro i h hi S
    refine law_step S t1 ha0 hN (by omega) (fun _ => ⟨rfl, S.room (by omega)⟩) fun _ h3 S3 _ => ?_
    have := ih (i + 1) h3 (by omega) S3
    rw [show 5 * ((i + 1 : Nat) : Int) = 5 * (i : Int) + 5 by omega] at this
    exact this
end RUN
