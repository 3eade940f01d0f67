/-! LONGS BY THEIR BITS -/
def lb (m : Int64) (i : Nat) : Bool := m.toBitVec.getLsbD i
theorem lb_or (x y : Int64) (i : Nat) : lb (x ||| y) i = (lb x i || lb y i) := by unfold lb; rw [Int64.toBitVec_or, BitVec.getLsbD_or]
theorem lb_and (x y : Int64) (i : Nat) : lb (x &&& y) i = (lb x i && lb y i) := by unfold lb; rw [Int64.toBitVec_and, BitVec.getLsbD_and]
theorem lb_0 (i : Nat) : lb 0 i = false := BitVec.getLsbD_zero
theorem lb_1 : ∀ i, i < 64 → lb 1 i = decide (i = 0) := by decide +kernel
theorem lb_ext {x y : Int64} (h : ∀ i, i < 64 → lb x i = lb y i) : x = y := Int64.toBitVec_inj.mp (BitVec.eq_of_getLsbD_eq (fun i hi => h i hi))
theorem l_s : ∀ n, n < 64 → (((J (n : Nat)).toInt64 &&& 63).toBitVec.smod 64).toNat = n := by decide +kernel
theorem lb_shr {m : Int64} {n : Nat} (hn : n < 64) : lb (m >>> ((J (n : Nat)).toInt64 &&& 63)) 0 = lb m n := by
  unfold lb
  rw [Int64.toBitVec_shiftRight]
  show (m.toBitVec.sshiftRight (((J (n : Nat)).toInt64 &&& 63).toBitVec.smod 64).toNat).getLsbD 0 = _
  rw [l_s n hn, BitVec.getLsbD_sshiftRight]
  simp [hn]
theorem zlc_0 {y : Int64} : zlc y 0 = 0 ↔ y = 0 := by
  unfold zlc lg_cmp
  by_cases c : y > 0
  · rw [if_pos c]
    constructor
    · intro z; exact absurd z (by decide)
    · intro z; rw [z] at c; exact absurd c (by decide)
  · rw [if_neg c]
    by_cases c2 : y = 0
    · rw [if_pos c2]; exact ⟨fun _ => c2, fun _ => by decide⟩
    · rw [if_neg c2]
      constructor
      · intro z; exact absurd z (by decide)
      · intro z; exact absurd z c2
theorem l_set {m : Int64} {x : Int} (hx : 0 ≤ x ∧ x < 64) : zlc ((m >>> ((J x).toInt64 &&& 63)) &&& 1) 0 = 0 ↔ lb m x.toNat = false := by
  have e := lb_shr (m := m) (n := x.toNat) (by omega)
  rw [show ((x.toNat : Nat) : Int) = x by omega] at e
  rw [zlc_0, ← e]
  constructor
  · intro z
    have g := lb_and (m >>> ((J x).toInt64 &&& 63)) 1 0
    rw [z, lb_0, lb_1 0 (by decide)] at g
    simpa using g.symm
  · intro z
    refine lb_ext fun i hi => ?_
    rw [lb_and, lb_1 i hi, lb_0]
    by_cases c : i = 0
    · rw [c, z]; rfl
    · simp [c]
/-- the offsets from x to y that a leg can start at -/
def btw (x y : Int) : Int64 := if (if 39 < y then 39 else y) < (if x < 0 then 0 else x) then 0 else (1 <<< ((J ((if 39 < y then 39 else y) + 1)).toInt64 &&& 63)) - (1 <<< ((J (if x < 0 then 0 else x)).toInt64 &&& 63))
theorem l_mask : ∀ f, f < 40 → ∀ t, t < 40 → ((1 <<< ((J ((t + 1 : Nat) : Int)).toInt64 &&& 63)) - (1 <<< ((J ((f : Nat) : Int)).toInt64 &&& 63)) : Int64).toBitVec.toNat = if f ≤ t then 2 ^ (t + 1) - 2 ^ f else (2 ^ 64 + 2 ^ (t + 1) - 2 ^ f) % 2 ^ 64 := by decide +kernel
theorem n_mask : ∀ f, f < 40 → ∀ t, t < 40 → f ≤ t → ∀ i, i < 40 → Nat.testBit (2 ^ (t + 1) - 2 ^ f) i = decide (f ≤ i ∧ i ≤ t) := by decide +kernel
theorem lb_btw {x y : Int} {i : Nat} (hi : i < 40) : lb (btw x y) i = decide (x ≤ (i : Int) ∧ (i : Int) ≤ y) := by
  unfold btw
  obtain ⟨f, hf⟩ : ∃ f, f = (if x < 0 then 0 else x) := ⟨_, rfl⟩
  obtain ⟨t, ht⟩ : ∃ t, t = (if 39 < y then 39 else y) := ⟨_, rfl⟩
  rw [← hf, ← ht]
  have f0 : 0 ≤ f ∧ x ≤ f ∧ (x < 0 → f = 0) ∧ (0 ≤ x → f = x) := by split at hf <;> omega
  have t0 : t ≤ 39 ∧ t ≤ y ∧ (y ≤ 39 → t = y) ∧ (39 < y → t = 39) := by split at ht <;> omega
  by_cases c : t < f
  · rw [if_pos c, lb_0]
    symm
    rw [decide_eq_false_iff_not]
    omega
  · rw [if_neg c]
    have e1 := l_mask f.toNat (by omega) t.toNat (by omega)
    rw [show ((t.toNat + 1 : Nat) : Int) = t + 1 by omega, show ((f.toNat : Nat) : Int) = f by omega, if_pos (by omega)] at e1
    have e2 := n_mask f.toNat (by omega) t.toNat (by omega) (by omega) i hi
    unfold lb
    show Nat.testBit _ i = _
    rw [e1, e2]
    by_cases c2 : x ≤ (i : Int) ∧ (i : Int) ≤ y
    · rw [decide_eq_true c2, decide_eq_true (by omega)]
    · rw [decide_eq_false c2, decide_eq_false (by omega)]
