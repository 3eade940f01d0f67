/-! CALLS THAT COUNT OVER THE DRONES -/
/-- the first of the largest -/
def amI (f : Int → Int) : Nat → Int
  | 0 => 0
  | n + 1 => if f (amI f n) < f n then n else amI f n
section LPS
variable {T N : Nat → Nat} {bs A a b w : Nat} {h h1 h2 h3 h7 h10 : PH} {v u sv tx e : Int → Int} {hs hs2 : Int → Int → Int} {iss n tn re er d t : Int} {i : Nat} {K : Int → PH → Prop} {KP : PR → PH → Prop} {Q : Int → Int → Int → PH → Prop} {f g : Int → Int}
theorem sumI_bd {B : Int} (hB : 0 ≤ B) (hf : ∀ j : Nat, 0 ≤ f j ∧ f j ≤ B) : ∀ n : Nat, 0 ≤ sumI f n ∧ sumI f n ≤ B * n
  | 0 => ⟨Int.le_refl 0, by show (0 : Int) ≤ B * ((0 : Nat) : Int); simp⟩
  | n + 1 => by
    have h := sumI_bd hB hf n
    have g := hf n
    have e : B * ((n + 1 : Nat) : Int) = B * (n : Int) + B := by rw [show ((n + 1 : Nat) : Int) = (n : Int) + 1 by omega, Int.mul_add, Int.mul_one]
    show 0 ≤ sumI f n + f n ∧ sumI f n + f n ≤ _
    omega
theorem sumI_bd2 {B : Int} (hB : 0 ≤ B) : ∀ n : Nat, (∀ j : Nat, j < n → 0 ≤ f j ∧ f j ≤ B) → 0 ≤ sumI f n ∧ sumI f n ≤ B * n
  | 0, _ => ⟨Int.le_refl 0, by show (0 : Int) ≤ B * ((0 : Nat) : Int); simp⟩
  | n + 1, hf => by
    have h := sumI_bd2 hB n fun j hj => hf j (by omega)
    have g := hf n (by omega)
    have e : B * ((n + 1 : Nat) : Int) = B * (n : Int) + B := by rw [show ((n + 1 : Nat) : Int) = (n : Int) + 1 by omega, Int.mul_add, Int.mul_one]
    show 0 ≤ sumI f n + f n ∧ sumI f n + f n ≤ _
    omega
/-! sums -/
theorem d_sumLoop (W : Wo T N h w v) (I : Iv v) {c : Int} (hc : 0 ≤ c ∧ c < 5) (k : K (sumI (fun d => rc v d (7 + c)) (v 117).toNat) h) : ∀ (m i : Nat), (i : Int) + m = v 117 → ZW T N 102 4 [some (vr (some w)), some (vi (J c)), some (vi (J (sumI (fun d => rc v d (7 + c)) i))), some (vi (J (i : Int))), none] [] h K := by
  have b := I.b
  have eb := W.b
  have sb : ∀ i : Nat, (i : Int) ≤ v 117 → 0 ≤ sumI (fun d => rc v d (7 + c)) i ∧ sumI (fun d => rc v d (7 + c)) i ≤ 100000 * i := fun i hi => sumI_bd2 (by decide) i fun j hj => acc_in I ⟨by omega, by omega⟩ ⟨by omega, by omega⟩
  intro m
  induction m with
  | zero =>
    intro i hi
    have := sb i (by omega)
    refine z102_4 W.o.t (by omega) (by omega) (by omega) ⟨fun c => by omega, fun c => ?_⟩
    rw [show i = (v 117).toNat by omega]; exact k
  | succ m ih =>
    intro i hi
    have := sb i (by omega)
    refine z102_4 W.o.t (by omega) (by omega) (by omega) ⟨fun c => ?_, fun c => absurd (by omega) c⟩
    refine d_dro (n := (i : Int)) W.o (by omega) (by omega) (fun c1 => ⟨fun z => by (cases z), fun a' ea => ?_⟩) (fun c1 => absurd (by omega) c1)
    cases ea
    have Dt := (W.o.d (c := (i : Int)) (by omega)).2
    refine ⟨Dt.t, d_sumOf Dt hc ?_⟩
    rw [(W.d (d := (i : Int)) (by omega) (by omega)).2.1 _ hc.1 hc.2]
    have := ih (i + 1) (by omega)
    rw [show ((i + 1 : Nat) : Int) = (i : Int) + 1 by omega] at this
    exact this
theorem d_sum (W : Wo T N h w v) (I : Iv v) {c : Int} (hc : 0 ≤ c ∧ c < 5) (k : K (sumI (fun d => rc v d (7 + c)) (v 117).toNat) h) : ZI T N 102 [vr (some w), vi (J c)] h K := by
  have b := I.b
  exact z102 (by omega) (d_sumLoop W I hc k (v 117).toNat 0 (by omega))
theorem r_sumLoop (R : RT T N A h) (V : Rv A h v) (I : Iv v) {c : Int} (hc : 0 ≤ c ∧ c < 5) (k : K (sumI (fun d => rc v d (7 + c)) (v 117).toNat) h) : ∀ (m i : Nat), (i : Int) + m = v 117 → ZW T N 238 4 [some (vr (some A)), some (vi (J c)), some (vi (J (sumI (fun d => rc v d (7 + c)) i))), some (vi (J (i : Int)))] [] h K := by
  have b := I.b
  have n1 := R.a1.2.1
  have e117 := V 117 (by omega) (by omega)
  have sb : ∀ i : Nat, (i : Int) ≤ v 117 → 0 ≤ sumI (fun d => rc v d (7 + c)) i ∧ sumI (fun d => rc v d (7 + c)) i ≤ 100000 * i := fun i hi => sumI_bd2 (by decide) i fun j hj => acc_in I ⟨by omega, by omega⟩ ⟨by omega, by omega⟩
  intro m
  induction m with
  | zero =>
    intro i hi
    have := sb i (by omega)
    refine z238_4 R.t (by omega) (by omega) (by omega) ⟨A + 1, R.a1.2.2, R.a1.1, by omega, fun c => by omega, fun c => ?_⟩
    rw [show i = (v 117).toNat by omega]; exact k
  | succ m ih =>
    intro i hi
    have := sb i (by omega)
    refine z238_4 R.t (by omega) (by omega) (by omega) ⟨A + 1, R.a1.2.2, R.a1.1, by omega, fun c => ?_, fun c => absurd (by omega) c⟩
    refine r_of R (by omega) (by omega) ?_
    rw [V _ (by omega) (by omega)]
    have := ih (i + 1) (by omega)
    rw [show ((i + 1 : Nat) : Int) = (i : Int) + 1 by omega] at this
    exact this
theorem r_sum (R : RT T N A h) (V : Rv A h v) (I : Iv v) {c : Int} (hc : 0 ≤ c ∧ c < 5) (k : K (sumI (fun d => rc v d (7 + c)) (v 117).toNat) h) : ZI T N 238 [vr (some A), vi (J c)] h K := by
  have b := I.b
  exact z238 (by omega) (r_sumLoop R V I hc k (v 117).toNat 0 (by omega))
/-! busiest -/
theorem amI_b : ∀ n : Nat, 0 < n → 0 ≤ amI f n ∧ amI f n < n
  | 1, _ => by
    show 0 ≤ (if f 0 < f ((0 : Nat) : Int) then ((0 : Nat) : Int) else 0) ∧ (if f 0 < f ((0 : Nat) : Int) then ((0 : Nat) : Int) else 0) < _
    split <;> omega
  | n + 2, _ => by
    have := amI_b (n + 1) (by omega)
    show 0 ≤ (if f (amI f (n + 1)) < f ((n + 1 : Nat) : Int) then ((n + 1 : Nat) : Int) else amI f (n + 1)) ∧ _ < _
    by_cases c : f (amI f (n + 1)) < f ((n + 1 : Nat) : Int)
    · have e : amI f (n + 2) = ((n + 1 : Nat) : Int) := if_pos c
      rw [e, if_pos c]; omega
    · have e : amI f (n + 2) = amI f (n + 1) := if_neg c
      rw [e, if_neg c]; omega
theorem amI_s (n : Nat) : amI f (n + 1) = if f (amI f n) < f n then (n : Int) else amI f n := rfl
theorem amI_1 : amI f 1 = 0 := by
  show (if f 0 < f ((0 : Nat) : Int) then ((0 : Nat) : Int) else 0) = 0
  split <;> rfl
theorem sum0 : ∀ n : Nat, 0 < n → (∀ j : Nat, j < n → 0 ≤ f j) → (sumI f n = 0 ↔ f (amI f n) = 0) ∧ 0 ≤ sumI f n
  | 1, _, hf => by
    rw [amI_1]
    have := hf 0 (by omega)
    show (0 + f ((0 : Nat) : Int) = 0 ↔ f 0 = 0) ∧ 0 ≤ 0 + f ((0 : Nat) : Int)
    rw [show (((0 : Nat) : Int)) = 0 from rfl] at this ⊢
    omega
  | n + 2, _, hf => by
    have ih := sum0 (n + 1) (by omega) fun j hj => hf j (by omega)
    have := hf (n + 1) (by omega)
    have hb := amI_b (f := f) (n + 1) (by omega)
    have ha : 0 ≤ f (amI f (n + 1)) := by
      have q := hf (amI f (n + 1)).toNat (by omega)
      rw [show (((amI f (n + 1)).toNat : Nat) : Int) = amI f (n + 1) by omega] at q; exact q
    have e : sumI f (n + 2) = sumI f (n + 1) + f ((n + 1 : Nat) : Int) := rfl
    rw [e, amI_s]
    by_cases c : f (amI f (n + 1)) < f ((n + 1 : Nat) : Int)
    · rw [if_pos c]; omega
    · rw [if_neg c]; omega
end LPS
