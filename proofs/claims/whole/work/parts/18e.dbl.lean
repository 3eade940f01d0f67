/-! DOUBLES: the quotient of two whole numbers is a number -/
section DBL
/-- what may be written in 64 bits, and is a number -/
def Nn (D : FP.Core.Datum) : Prop := (∃ s, D = .inf s) ∨ ∃ s c q, D = .fin s c q ∧ c < 9007199254740992 ∧ -1074 ≤ q ∧ q ≤ 971
theorem bound_Nn {s : Bool} {c : Nat} {q : Int} (hc : c < 9007199254740992) (hq : -1074 ≤ q) : Nn (FP.Core.bound FP.Core.b64 s c q) := by
  unfold FP.Core.bound
  by_cases z : q ≤ FP.Core.Fmt.qmax FP.Core.b64
  · rw [if_pos z]
    have : FP.Core.Fmt.qmax FP.Core.b64 = 971 := by decide
    exact Or.inr ⟨s, c, q, rfl, hc, hq, by omega⟩
  · rw [if_neg z]; exact Or.inl ⟨s, rfl⟩
theorem settle_Nn {s : Bool} {c : Nat} {q : Int} (hq : -1074 ≤ q) : Nn (FP.Core.settle FP.Core.b64 s c q) := by
  unfold FP.Core.settle
  have e : 2 ^ FP.Core.b64.p = 9007199254740992 := by decide
  by_cases z : c < 2 ^ FP.Core.b64.p
  · rw [if_pos z]; exact bound_Nn (by omega) hq
  · rw [if_neg z]
    have e2 : FP.Core.Fmt.tails FP.Core.b64 = 4503599627370496 := by decide
    exact bound_Nn (by omega) (by omega)
theorem ratio_Nn {s : Bool} {m n : Nat} {e : Int} : Nn (FP.Core.roundRatio FP.Core.b64 s m n e) := by
  have q0 : FP.Core.Fmt.qmin FP.Core.b64 = -1074 := by decide
  unfold FP.Core.roundRatio
  by_cases z : m = 0
  · rw [if_pos z]; exact Or.inr ⟨s, 0, _, rfl, by decide, by omega, by omega⟩
  · rw [if_neg z]
    unfold FP.Core.roundAt
    refine settle_Nn ?_
    unfold FP.Core.quantum
    omega
theorem asm_lt {s : Bool} {e t : Nat} (he : e < 2048) (ht : t < 4503599627370496) : FP.Core.assemble FP.Core.b64 s e t = s.toNat * 9223372036854775808 + e * 4503599627370496 + t ∧ s.toNat ≤ 1 := by
  have e1 : FP.Core.Fmt.exps FP.Core.b64 = 2048 := by decide
  have e2 : FP.Core.Fmt.tails FP.Core.b64 = 4503599627370496 := by decide
  unfold FP.Core.assemble
  rw [e1, e2]
  cases s
  · simp only [Bool.toNat_false]; omega
  · simp only [Bool.toNat_true]; omega
theorem enc_Nn {D : FP.Core.Datum} (h : Nn D) : FP.Core.encode FP.Core.b64 D < 18446744073709551616 ∧ FP.Core.encode FP.Core.b64 D % 9223372036854775808 ≤ 9218868437227405312 := by
  have e1 : FP.Core.Fmt.exps FP.Core.b64 = 2048 := by decide
  have e2 : FP.Core.Fmt.tails FP.Core.b64 = 4503599627370496 := by decide
  have q0 : FP.Core.Fmt.qmin FP.Core.b64 = -1074 := by decide
  rcases h with ⟨s, rfl⟩ | ⟨s, c, q, rfl, hc, h1, h2⟩
  · show FP.Core.assemble FP.Core.b64 s (FP.Core.Fmt.exps FP.Core.b64 - 1) 0 < _ ∧ FP.Core.assemble FP.Core.b64 s (FP.Core.Fmt.exps FP.Core.b64 - 1) 0 % _ ≤ _
    rw [e1]
    have := asm_lt (s := s) (e := 2048 - 1) (t := 0) (by decide) (by decide)
    omega
  · show (if c < FP.Core.Fmt.tails FP.Core.b64 then FP.Core.assemble FP.Core.b64 s 0 c else FP.Core.assemble FP.Core.b64 s ((q - FP.Core.Fmt.qmin FP.Core.b64).toNat + 1) (c - FP.Core.Fmt.tails FP.Core.b64)) < _ ∧ (if c < FP.Core.Fmt.tails FP.Core.b64 then FP.Core.assemble FP.Core.b64 s 0 c else FP.Core.assemble FP.Core.b64 s ((q - FP.Core.Fmt.qmin FP.Core.b64).toNat + 1) (c - FP.Core.Fmt.tails FP.Core.b64)) % _ ≤ _
    rw [e2, q0]
    by_cases z : c < 4503599627370496
    · rw [if_pos z]
      have := asm_lt (s := s) (e := 0) (t := c) (by decide) z
      omega
    · rw [if_neg z]
      have := asm_lt (s := s) (e := (q - -1074).toNat + 1) (t := c - 4503599627370496) (by omega) (by omega)
      omega
theorem dec_asm {s : Bool} {e t : Nat} (he : e < 2047) (ht : t < 4503599627370496) : ∃ s2 c q, FP.Core.decode FP.Core.b64 (FP.Core.assemble FP.Core.b64 s e t) = .fin s2 c q ∧ (e = 0 → c = t) ∧ (e ≠ 0 → c = 4503599627370496 + t) := by
  have e1 : FP.Core.Fmt.exps FP.Core.b64 = 2048 := by decide
  have e2 : FP.Core.Fmt.tails FP.Core.b64 = 4503599627370496 := by decide
  have a := asm_lt (s := s) (e := e) (t := t) (by omega) ht
  have fe : FP.Core.fieldE FP.Core.b64 (FP.Core.assemble FP.Core.b64 s e t) = e := by unfold FP.Core.fieldE; rw [e1, e2]; omega
  have ft : FP.Core.fieldT FP.Core.b64 (FP.Core.assemble FP.Core.b64 s e t) = t := by unfold FP.Core.fieldT; rw [e2]; omega
  unfold FP.Core.decode
  rw [fe, ft, e1, if_neg (by omega), e2]
  by_cases z : e = 0
  · rw [if_pos z]; exact ⟨_, _, _, rfl, fun _ => rfl, fun y => absurd z y⟩
  · rw [if_neg z]; exact ⟨_, _, _, rfl, fun y => absurd y z, fun _ => rfl⟩
theorem dec_enc {s : Bool} {c : Nat} {q : Int} (hc : c < 9007199254740992) (h1 : -1074 ≤ q) (h2 : q ≤ 971) : ∃ s2 c2 q2, FP.Core.decode FP.Core.b64 (FP.Core.encode FP.Core.b64 (.fin s c q)) = .fin s2 c2 q2 ∧ (c ≠ 0 → c2 ≠ 0) := by
  have e2 : FP.Core.Fmt.tails FP.Core.b64 = 4503599627370496 := by decide
  have q0 : FP.Core.Fmt.qmin FP.Core.b64 = -1074 := by decide
  show ∃ s2 c2 q2, FP.Core.decode FP.Core.b64 (if c < FP.Core.Fmt.tails FP.Core.b64 then FP.Core.assemble FP.Core.b64 s 0 c else FP.Core.assemble FP.Core.b64 s ((q - FP.Core.Fmt.qmin FP.Core.b64).toNat + 1) (c - FP.Core.Fmt.tails FP.Core.b64)) = .fin s2 c2 q2 ∧ (c ≠ 0 → c2 ≠ 0)
  rw [e2, q0]
  by_cases z : c < 4503599627370496
  · rw [if_pos z]
    obtain ⟨s2, c2, q2, g, g0, _⟩ := dec_asm (s := s) (e := 0) (t := c) (by decide) z
    exact ⟨s2, c2, q2, g, fun y => by rw [g0 rfl]; exact y⟩
  · rw [if_neg z]
    obtain ⟨s2, c2, q2, g, _, g1⟩ := dec_asm (s := s) (e := (q - -1074).toNat + 1) (t := c - 4503599627370496) (by omega) (by omega)
    exact ⟨s2, c2, q2, g, fun y => by rw [g1 (by omega)]; omega⟩
/-- a whole number of 31 bits as a double -/
theorem int_fin {i : Int} (hi : 0 ≤ i ∧ i < 2147483648) : ∃ s c q, FP.Core.round FP.Core.b64 (FP.Core.ofInt i) = .fin s c q ∧ c < 9007199254740992 ∧ -1074 ≤ q ∧ q ≤ 971 ∧ (i ≠ 0 → c ≠ 0) := by
  have q0 : FP.Core.Fmt.qmin FP.Core.b64 = -1074 := by decide
  have e2 : FP.Core.Fmt.tails FP.Core.b64 = 4503599627370496 := by decide
  have e3 : 2 ^ FP.Core.b64.p = 9007199254740992 := by decide
  have e4 : FP.Core.Fmt.qmax FP.Core.b64 = 971 := by decide
  show ∃ s c q, FP.Core.roundRatio FP.Core.b64 (decide (i < 0)) i.natAbs 1 0 = .fin s c q ∧ _
  unfold FP.Core.roundRatio
  by_cases z : i.natAbs = 0
  · rw [if_pos z]; exact ⟨_, _, _, rfl, by decide, by omega, by omega, fun y => by omega⟩
  · rw [if_neg z]
    have l1 : i.natAbs.log2 < 31 := (Nat.log2_lt z).mpr (by omega)
    have l2 : 2 ^ i.natAbs.log2 ≤ i.natAbs := Nat.log2_self_le z
    have ld : FP.Core.leading i.natAbs 1 = (i.natAbs.log2 : Int) := by
      unfold FP.Core.leading
      have l0 : Nat.log2 1 = 0 := by decide
      rw [l0]
      show (if 1 * 2 ^ ((i.natAbs.log2 : Int) - ((0 : Nat) : Int)).toNat ≤ i.natAbs * 2 ^ (-((i.natAbs.log2 : Int) - ((0 : Nat) : Int))).toNat then ((i.natAbs.log2 : Int) - ((0 : Nat) : Int)) else ((i.natAbs.log2 : Int) - ((0 : Nat) : Int)) - 1) = _
      rw [show ((i.natAbs.log2 : Int) - ((0 : Nat) : Int)).toNat = i.natAbs.log2 by omega, show (-((i.natAbs.log2 : Int) - ((0 : Nat) : Int))).toNat = 0 by omega, Nat.one_mul, Nat.pow_zero, Nat.mul_one, if_pos l2]
      omega
    have qq : FP.Core.quantum FP.Core.b64 i.natAbs 1 0 = (i.natAbs.log2 : Int) - 52 := by
      unfold FP.Core.quantum
      rw [ld, q0]
      have : (FP.Core.b64.p : Int) = 53 := by decide
      omega
    unfold FP.Core.roundAt
    rw [qq]
    have un : FP.Core.unitsNum i.natAbs 0 ((i.natAbs.log2 : Int) - 52) ≠ 0 := by
      unfold FP.Core.unitsNum
      exact Nat.mul_ne_zero z (Nat.ne_of_gt (Nat.two_pow_pos _))
    have ud : FP.Core.unitsDen 1 0 ((i.natAbs.log2 : Int) - 52) = 1 := by
      unfold FP.Core.unitsDen
      rw [show ((i.natAbs.log2 : Int) - 52 - 0).toNat = 0 by omega]
    rw [ud]
    have nr : ∀ n : Nat, FP.Core.nearest n 1 = n := fun n => by
      unfold FP.Core.nearest
      rw [if_pos (by omega)]; omega
    rw [nr]
    generalize FP.Core.unitsNum i.natAbs 0 ((i.natAbs.log2 : Int) - 52) = c at un ⊢
    unfold FP.Core.settle FP.Core.bound
    rw [e3, e2, e4]
    by_cases y : c < 9007199254740992
    · rw [if_pos y, if_pos (by omega)]; exact ⟨_, _, _, rfl, y, by omega, by omega, fun _ => un⟩
    · rw [if_neg y, if_pos (by omega)]; exact ⟨_, _, _, rfl, by decide, by omega, by omega, fun _ => by decide⟩
theorem i2d_dec {i : Int} (hi : 0 ≤ i ∧ i < 2147483648) : ∃ s c q, FP.Core.decode FP.Core.b64 (FP.i2d (J i)).toNat = .fin s c q ∧ (i ≠ 0 → c ≠ 0) := by
  obtain ⟨s, c, q, e, hc, h1, h2, h3⟩ := int_fin hi
  have ei : (J i).toInt = i := J_ti (by omega)
  have e5 : (FP.i2d (J i)).toNat = FP.Core.encode FP.Core.b64 (.fin s c q) := by
    show (UInt64.ofNat (FP.Core.encode FP.Core.b64 (FP.Core.round FP.Core.b64 (FP.Core.ofInt (J i).toInt)))).toNat = _
    rw [ei, e, UInt64.toNat_ofNat']
    exact Nat.mod_eq_of_lt (enc_Nn (Or.inr ⟨s, c, q, rfl, hc, h1, h2⟩)).1
  rw [e5]
  obtain ⟨s2, c2, q2, g, g2⟩ := dec_enc (s := s) hc h1 h2
  exact ⟨s2, c2, q2, g, fun y => g2 (h3 y)⟩
theorem vf_div {a b : Int} (ha : 0 ≤ a ∧ a < 2147483648) (hb : 0 < b ∧ b < 2147483648) : vf_n64 (FP.ddiv (FP.i2d (J a)) (FP.i2d (J b))) := by
  obtain ⟨s, c, q, e, _⟩ := i2d_dec ha
  obtain ⟨s2, c2, q2, e2, h2⟩ := i2d_dec (i := b) ⟨by omega, hb.2⟩
  have c0 := h2 (by omega)
  have N : Nn (FP.Core.quotient FP.Core.b64 (FP.Core.decode FP.Core.b64 (FP.i2d (J a)).toNat) (FP.Core.decode FP.Core.b64 (FP.i2d (J b)).toNat)) := by
    rw [e, e2]
    show Nn (if c2 = 0 then (if c = 0 then .nan else .inf (s != s2)) else FP.Core.roundRatio FP.Core.b64 (s != s2) c c2 (q - q2))
    rw [if_neg c0]; exact ratio_Nn
  have E := enc_Nn N
  have e5 : (FP.ddiv (FP.i2d (J a)) (FP.i2d (J b))).toNat = FP.Core.encode FP.Core.b64 (FP.Core.quotient FP.Core.b64 (FP.Core.decode FP.Core.b64 (FP.i2d (J a)).toNat) (FP.Core.decode FP.Core.b64 (FP.i2d (J b)).toNat)) := by
    show (UInt64.ofNat (FP.Core.encode FP.Core.b64 (FP.Core.quotient FP.Core.b64 (FP.Core.decode FP.Core.b64 (FP.i2d (J a)).toNat) (FP.Core.decode FP.Core.b64 (FP.i2d (J b)).toNat)))).toNat = _
    rw [UInt64.toNat_ofNat']
    exact Nat.mod_eq_of_lt E.1
  unfold vf_n64
  rw [UInt64.le_iff_toNat_le, UInt64.toNat_and, e5]
  show FP.Core.encode FP.Core.b64 _ &&& 9223372036854775807 ≤ 9218868437227405312
  rw [show (9223372036854775807 : Nat) = 2 ^ 63 - 1 from rfl, Nat.and_two_pow_sub_one_eq_mod]
  exact E.2
end DBL
