/-! THE REFERENCE: its object, its rows, what its small methods answer -/
/-- the reference at A, its twelve rows behind it -/
def RT (T N : Nat → Nat) (A : Nat) (h : PH) : Prop :=
  T A = 12 ∧ (T (A + 1) = 22 ∧ N (A + 1) = 449 ∧ gr h A 1 = some (A + 1)) ∧ (T (A + 2) = 22 ∧ N (A + 2) = 449 ∧ gr h A 2 = some (A + 2)) ∧
  (T (A + 3) = 22 ∧ N (A + 3) = 449 ∧ gr h A 3 = some (A + 3)) ∧ (T (A + 4) = 22 ∧ N (A + 4) = 449 ∧ gr h A 4 = some (A + 4)) ∧
  (T (A + 5) = 22 ∧ N (A + 5) = 3592 ∧ gr h A 5 = some (A + 5)) ∧ (T (A + 6) = 23 ∧ N (A + 6) = 60 ∧ gr h A 10 = some (A + 6)) ∧
  (T (A + 7) = 22 ∧ N (A + 7) = 10 ∧ gr h A 12 = some (A + 7)) ∧ (T (A + 8) = 22 ∧ N (A + 8) = 10 ∧ gr h A 13 = some (A + 8)) ∧
  (T (A + 9) = 22 ∧ N (A + 9) = 3936 ∧ gr h A 14 = some (A + 9)) ∧ (T (A + 10) = 22 ∧ N (A + 10) = 3936 ∧ gr h A 15 = some (A + 10)) ∧
  (T (A + 11) = 22 ∧ N (A + 11) = 30 ∧ gr h A 16 = some (A + 11)) ∧ (T (A + 12) = 22 ∧ N (A + 12) = 30 ∧ gr h A 17 = some (A + 12))
section REF
variable {T N : Nat → Nat} {A : Nat} {h : PH}
theorem RT.t (R : RT T N A h) : T A = 12 := R.1
theorem RT.a1 (R : RT T N A h) : T (A + 1) = 22 ∧ N (A + 1) = 449 ∧ gr h A 1 = some (A + 1) := R.2.1
theorem RT.a2 (R : RT T N A h) : T (A + 2) = 22 ∧ N (A + 2) = 449 ∧ gr h A 2 = some (A + 2) := R.2.2.1
theorem RT.a3 (R : RT T N A h) : T (A + 3) = 22 ∧ N (A + 3) = 449 ∧ gr h A 3 = some (A + 3) := R.2.2.2.1
theorem RT.a4 (R : RT T N A h) : T (A + 4) = 22 ∧ N (A + 4) = 449 ∧ gr h A 4 = some (A + 4) := R.2.2.2.2.1
theorem RT.a5 (R : RT T N A h) : T (A + 5) = 22 ∧ N (A + 5) = 3592 ∧ gr h A 5 = some (A + 5) := R.2.2.2.2.2.1
theorem RT.a6 (R : RT T N A h) : T (A + 6) = 23 ∧ N (A + 6) = 60 ∧ gr h A 10 = some (A + 6) := R.2.2.2.2.2.2.1
theorem RT.a7 (R : RT T N A h) : T (A + 7) = 22 ∧ N (A + 7) = 10 ∧ gr h A 12 = some (A + 7) := R.2.2.2.2.2.2.2.1
theorem RT.a8 (R : RT T N A h) : T (A + 8) = 22 ∧ N (A + 8) = 10 ∧ gr h A 13 = some (A + 8) := R.2.2.2.2.2.2.2.2.1
theorem RT.a9 (R : RT T N A h) : T (A + 9) = 22 ∧ N (A + 9) = 3936 ∧ gr h A 14 = some (A + 9) := R.2.2.2.2.2.2.2.2.2.1
theorem RT.a10 (R : RT T N A h) : T (A + 10) = 22 ∧ N (A + 10) = 3936 ∧ gr h A 15 = some (A + 10) := R.2.2.2.2.2.2.2.2.2.2.1
theorem RT.a11 (R : RT T N A h) : T (A + 11) = 22 ∧ N (A + 11) = 30 ∧ gr h A 16 = some (A + 11) := R.2.2.2.2.2.2.2.2.2.2.2.1
theorem RT.a12 (R : RT T N A h) : T (A + 12) = 22 ∧ N (A + 12) = 30 ∧ gr h A 17 = some (A + 12) := R.2.2.2.2.2.2.2.2.2.2.2.2
theorem RT.to {h2 : PH} (R : RT T N A h) (e : gr h2 = gr h) : RT T N A h2 := by unfold RT at R ⊢; rw [e]; exact R
/-! reading behind a store -/
theorem rd_eq {a b : Nat} {k j x : Int} (e : b = a) (g : j = k) (hx : In x) : ai (wi h a k x) b j = x := by
  subst e; subst g
  show (if b = b ∧ j.toNat = j.toNat then J x else gi h b j.toNat).toInt = x
  rw [if_pos ⟨rfl, rfl⟩, J_ti hx]
theorem rd_a {a b : Nat} {k j x : Int} (e : b ≠ a) : ai (wi h a k x) b j = ai h b j := by
  show (if b = a ∧ j.toNat = k.toNat then J x else gi h b j.toNat).toInt = _
  rw [if_neg fun z => e z.1]; rfl
theorem rd_k {a b : Nat} {k j x : Int} (e : j ≠ k) (hj : 0 ≤ j) (hk : 0 ≤ k) : ai (wi h a k x) b j = ai h b j := by
  show (if b = a ∧ j.toNat = k.toNat then J x else gi h b j.toNat).toInt = _
  rw [if_neg fun z => e (by omega)]; rfl
theorem gr_wi {a : Nat} {k x : Int} : gr (wi h a k x) = gr h := rfl
theorem gl_wi {a : Nat} {k x : Int} : gl (wi h a k x) = gl h := rfl
theorem wi_2 {a : Nat} {k x : Int} : (wi h a k x).2 = h.2 := rfl
section RS
variable {K : Int → PH → Prop} {KV : PH → Prop}
theorem r_no (R : RT T N A h) {x : Int} (hx : In x) (k : K 0 (wi h A 0 x)) : ZI T N 157 [vr (some A), vi (J x)] h K := by
  refine z157 R.t hx ?_
  intro _ e; subst e; exact k
theorem r_in {x a b : Int} (hx : In x) (ha : In a) (hb : In b) (k1 : a ≤ x ∧ x ≤ b → K 1 h) (k0 : ¬ (a ≤ x ∧ x ≤ b) → K 0 h) : ZI T N 158 [vi (J x), vi (J a), vi (J b)] h K := by
  refine z158 hx ha hb ?_
  repeat' (first | exact k1 (by omega) | exact k0 (by omega) | (refine ⟨fun c => ?_, fun c => ?_⟩ <;> first | (exfalso; omega) | skip) | (refine ⟨A + 1, R.a1.2.2, R.a1.1, by omega, ?_⟩) | (refine And.intro (by omega) ?_) | (intro _ e; subst e))
theorem r_abs {x : Int} (hx : -2147483648 < x ∧ x < 2147483648) (k : K (if x < 0 then -x else x) h) : ZI T N 159 [vi (J x)] h K := by
  refine z159 (by omega) ⟨fun c => ⟨by omega, ?_⟩, fun c => ?_⟩
  · rw [if_pos c] at k; exact k
  · rw [if_neg c] at k; exact k
theorem r_isNode (R : RT T N A h) {n : Int} (hn : In n) (hv : 0 ≤ ai h (A + 1) 0 ∧ ai h (A + 1) 0 ≤ 10) (k1 : 0 ≤ n ∧ n < ai h (A + 1) 0 → K 1 h) (k0 : ¬ (0 ≤ n ∧ n < ai h (A + 1) 0) → K 0 h) : ZI T N 162 [vr (some A), vi (J n)] h K := by
  have n1 := R.a1.2.1
  refine z162 R.t hn ?_
  repeat' (first | (refine r_in (by omega) (by omega) (by omega) (fun c => ?_) (fun c => ?_)) | exact k1 (by omega) | exact k0 (by omega) | (refine ⟨fun c => ?_, fun c => ?_⟩ <;> first | (exfalso; omega) | skip) | (refine ⟨A + 1, R.a1.2.2, R.a1.1, by omega, ?_⟩) | (refine And.intro (by omega) ?_) | (intro _ e; subst e))
theorem r_isCor (R : RT T N A h) {n : Int} (hn : In n) (hv : 0 ≤ ai h (A + 1) 11 ∧ ai h (A + 1) 11 ≤ 16) (k1 : 0 ≤ n ∧ n < ai h (A + 1) 11 → K 1 h) (k0 : ¬ (0 ≤ n ∧ n < ai h (A + 1) 11) → K 0 h) : ZI T N 163 [vr (some A), vi (J n)] h K := by
  have n1 := R.a1.2.1
  refine z163 R.t hn ?_
  repeat' (first | (refine r_in (by omega) (by omega) (by omega) (fun c => ?_) (fun c => ?_)) | exact k1 (by omega) | exact k0 (by omega) | (refine ⟨fun c => ?_, fun c => ?_⟩ <;> first | (exfalso; omega) | skip) | (refine ⟨A + 1, R.a1.2.2, R.a1.1, by omega, ?_⟩) | (refine And.intro (by omega) ?_) | (intro _ e; subst e))
theorem r_isDrone (R : RT T N A h) {n : Int} (hn : In n) (hv : 0 ≤ ai h (A + 1) 117 ∧ ai h (A + 1) 117 ≤ 6) (k1 : 0 ≤ n ∧ n < ai h (A + 1) 117 → K 1 h) (k0 : ¬ (0 ≤ n ∧ n < ai h (A + 1) 117) → K 0 h) : ZI T N 164 [vr (some A), vi (J n)] h K := by
  have n1 := R.a1.2.1
  refine z164 R.t hn ?_
  repeat' (first | (refine r_in (by omega) (by omega) (by omega) (fun c => ?_) (fun c => ?_)) | exact k1 (by omega) | exact k0 (by omega) | (refine ⟨fun c => ?_, fun c => ?_⟩ <;> first | (exfalso; omega) | skip) | (refine ⟨A + 1, R.a1.2.2, R.a1.1, by omega, ?_⟩) | (refine And.intro (by omega) ?_) | (intro _ e; subst e))
theorem r_end (R : RT T N A h) {c s : Int} (hc : 0 ≤ c ∧ c < 16) (hs : 0 ≤ s ∧ s < 4) (k : K (ai h (A + 1) (12 + 4 * c + s)) h) : ZI T N 165 [vr (some A), vi (J c), vi (J s)] h K := by
  have n1 := R.a1.2.1
  refine z165 R.t (by omega) (by omega) ?_
  repeat' (first | exact k | (refine ⟨fun c => ?_, fun c => ?_⟩ <;> first | (exfalso; omega) | skip) | (refine ⟨A + 1, R.a1.2.2, R.a1.1, by omega, ?_⟩) | (refine And.intro (by omega) ?_) | (intro _ e; subst e))
theorem r_len (R : RT T N A h) {c : Int} (hc : 0 ≤ c ∧ c < 16) (k : K (ai h (A + 1) (12 + 4 * c + 2)) h) : ZI T N 166 [vr (some A), vi (J c)] h K := by
  have n1 := R.a1.2.1
  refine z166 R.t (by omega) ?_
  repeat' (first | exact k | (refine ⟨fun c => ?_, fun c => ?_⟩ <;> first | (exfalso; omega) | skip) | (refine ⟨A + 1, R.a1.2.2, R.a1.1, by omega, ?_⟩) | (refine And.intro (by omega) ?_) | (intro _ e; subst e))
/-- the energy of a way through a corridor -/
def costV (v : Int → Int) (c way : Int) : Int := 2 * v (12 + 4 * c + 2) - (if way = 0 then v (12 + 4 * c + 3) else -v (12 + 4 * c + 3))
theorem r_costs (R : RT T N A h) {c way : Int} (hc : 0 ≤ c ∧ c < 16) (hw : In way) (hv : -1000 ≤ ai h (A + 1) (12 + 4 * c + 2) ∧ ai h (A + 1) (12 + 4 * c + 2) ≤ 1000 ∧ -1000 ≤ ai h (A + 1) (12 + 4 * c + 3) ∧ ai h (A + 1) (12 + 4 * c + 3) ≤ 1000) (k : K (costV (ai h (A + 1)) c way) h) : ZI T N 167 [vr (some A), vi (J c), vi (J way)] h K := by
  have n1 := R.a1.2.1
  unfold costV at k
  refine z167 R.t (by omega) hw ⟨A + 1, R.a1.2.2, R.a1.1, by omega, r_len R hc ⟨fun c => ?_, fun c => ?_⟩⟩
  · rw [if_pos c] at k; exact ⟨by omega, k⟩
  · rw [if_neg c] at k; exact ⟨by omega, k⟩
theorem r_of (R : RT T N A h) {d w : Int} (hd : 0 ≤ d ∧ d < 6) (hw : 0 ≤ w ∧ w < 55) (k : K (ai h (A + 1) (118 + 55 * d + w)) h) : ZI T N 168 [vr (some A), vi (J d), vi (J w)] h K := by
  have n1 := R.a1.2.1
  refine z168 R.t (by omega) (by omega) ?_
  repeat' (first | exact k | (refine ⟨fun c => ?_, fun c => ?_⟩ <;> first | (exfalso; omega) | skip) | (refine ⟨A + 1, R.a1.2.2, R.a1.1, by omega, ?_⟩) | (refine And.intro (by omega) ?_) | (intro _ e; subst e))
theorem r_sets (R : RT T N A h) {d w x : Int} (hd : 0 ≤ d ∧ d < 6) (hw : 0 ≤ w ∧ w < 55) (hx : In x) (k : KV (wi h (A + 1) (118 + 55 * d + w) x)) : CV T N 169 [vr (some A), vi (J d), vi (J w), vi (J x)] h KV := by
  have n1 := R.a1.2.1
  refine z169 R.t (by omega) (by omega) hx ?_
  repeat' (first | exact k | (refine ⟨fun c => ?_, fun c => ?_⟩ <;> first | (exfalso; omega) | skip) | (refine ⟨A + 1, R.a1.2.2, R.a1.1, by omega, ?_⟩) | (refine And.intro (by omega) ?_) | (intro _ e; subst e))
theorem r_leg (R : RT T N A h) {d i : Int} (hd : 0 ≤ d ∧ d < 6) (hw : 0 ≤ i ∧ i < 42) (k : K (ai h (A + 1) (118 + 55 * d + (13 + i))) h) : ZI T N 186 [vr (some A), vi (J d), vi (J i)] h K :=
  z186 R.t (by omega) (by omega) (r_of R hd (by omega) k)
theorem r_cOf {x : Int} (hx : 0 ≤ x ∧ x < 2147483648) (k : K (x % 16) h) : ZI T N 187 [vi (J x)] h K := z187 (by omega) ⟨hx, by omega, k⟩
theorem r_wOf {x : Int} (hx : 0 ≤ x ∧ x < 2147483648) (k : K (x / 16 % 2) h) : ZI T N 188 [vi (J x)] h K := z188 (by omega) ⟨hx, by omega, by omega, k⟩
theorem r_lOf {x : Int} (hx : 0 ≤ x ∧ x < 2147483648) (k : K (x / 32 % 4) h) : ZI T N 189 [vi (J x)] h K := z189 (by omega) ⟨hx, by omega, by omega, k⟩
theorem r_sOf {x : Int} (hx : 0 ≤ x ∧ x < 2147483648) (k : K (x / 128) h) : ZI T N 190 [vi (J x)] h K := z190 (by omega) ⟨hx, by omega, k⟩
/-- the end of a leg -/
def endV (v : Int → Int) (x : Int) : Int := x / 128 + v (12 + 4 * (x % 16) + 2)
theorem r_eOf (R : RT T N A h) {x : Int} (hx : 0 ≤ x ∧ x < 2147483648) (hv : 0 ≤ ai h (A + 1) (12 + 4 * (x % 16) + 2) ∧ ai h (A + 1) (12 + 4 * (x % 16) + 2) ≤ 1000) (k : K (endV (ai h (A + 1)) x) h) : ZI T N 191 [vr (some A), vi (J x)] h K :=
  z191 R.t (by omega) (r_sOf hx (r_cOf hx (r_len R (by omega) ⟨by omega, k⟩)))
theorem r_asLeg {a b c d : Int} (ha : In a) (hb : In b) (hc : In c) (hd : In d) (hs : In (a + 16 * b + 32 * c + 128 * d)) (k : K (a + 16 * b + 32 * c + 128 * d) h) : ZI T N 192 [vi (J a), vi (J b), vi (J c), vi (J d)] h K := z192 ha hb hc hd ⟨hs, k⟩
theorem r_ahead (R : RT T N A h) {d : Int} (hd : 0 ≤ d ∧ d < 6) (k : K (if ai h (A + 1) (118 + 55 * d + 0) = 2 then 1 else 0) h) : ZI T N 193 [vr (some A), vi (J d)] h K := by
  refine z193 R.t (by omega) (r_of R hd (by omega) ⟨fun c => ?_, fun c => ?_⟩)
  · rw [if_pos c] at k; exact k
  · rw [if_neg c] at k; exact k
end RS
end REF
