/-! THE CLASS: its worlds, what its small methods answer -/
/-- the legs' array of a drone holds its legs, each once -/
def PermOK (h : PH) (a : Nat) : Prop := ∃ p : Nat → Nat, (∀ j, j < 41 → gr h (a + 2) j = some (p j) ∧ a + 3 ≤ p j ∧ p j < a + 44) ∧ ∀ i j, i < 41 → j < 41 → p i = p j → i = j
def DT (T N : Nat → Nat) (h : PH) (a : Nat) : Prop :=
  T a = 3 ∧ (T (a + 1) = 22 ∧ N (a + 1) = 5 ∧ gr h a 7 = some (a + 1)) ∧ (T (a + 2) = 37 ∧ N (a + 2) = 41 ∧ gr h a 9 = some (a + 2)) ∧ (∀ j, a + 3 ≤ j → j < a + 44 → T j = 7) ∧ PermOK h a
def WO (T N : Nat → Nat) (h : PH) (w : Nat) : Prop :=
  T w = 10 ∧ (T (w + 1) = 32 ∧ N (w + 1) = 16 ∧ gr h w 6 = some (w + 1)) ∧ (T (w + 2) = 34 ∧ N (w + 2) = 10 ∧ gr h w 7 = some (w + 2)) ∧ (T (w + 3) = 33 ∧ N (w + 3) = 6 ∧ gr h w 8 = some (w + 3)) ∧
  (∀ c : Nat, c < 16 → T (w + 4 + c) = 2 ∧ gr h (w + 1) c = some (w + 4 + c)) ∧ (∀ f : Nat, f < 10 → T (w + 20 + f) = 4 ∧ gr h (w + 2) f = some (w + 20 + f)) ∧
  (∀ d : Nat, d < 6 → gr h (w + 3) d = some (w + 30 + 44 * d) ∧ DT T N h (w + 30 + 44 * d))
section DEV
variable {T N : Nat → Nat} {h : PH} {w a : Nat}
theorem DT.t (D : DT T N h a) : T a = 3 := D.1
theorem DT.su (D : DT T N h a) : T (a + 1) = 22 ∧ N (a + 1) = 5 ∧ gr h a 7 = some (a + 1) := D.2.1
theorem DT.le (D : DT T N h a) : T (a + 2) = 37 ∧ N (a + 2) = 41 ∧ gr h a 9 = some (a + 2) := D.2.2.1
theorem DT.tl (D : DT T N h a) {j : Nat} (h1 : a + 3 ≤ j) (h2 : j < a + 44) : T j = 7 := D.2.2.2.1 j h1 h2
theorem DT.pe (D : DT T N h a) : PermOK h a := D.2.2.2.2
theorem DT.at (D : DT T N h a) {i : Int} (hi : 0 ≤ i ∧ i < 41) : ∃ b, gr h (a + 2) (Int.toNat i) = some b ∧ a + 3 ≤ b ∧ b < a + 44 ∧ T b = 7 := by
  obtain ⟨p, hp, -⟩ := D.pe
  obtain ⟨e, h1, h2⟩ := hp i.toNat (by omega)
  exact ⟨_, e, h1, h2, D.tl h1 h2⟩
theorem WO.t (W : WO T N h w) : T w = 10 := W.1
theorem WO.co (W : WO T N h w) : T (w + 1) = 32 ∧ N (w + 1) = 16 ∧ gr h w 6 = some (w + 1) := W.2.1
theorem WO.fe (W : WO T N h w) : T (w + 2) = 34 ∧ N (w + 2) = 10 ∧ gr h w 7 = some (w + 2) := W.2.2.1
theorem WO.dr (W : WO T N h w) : T (w + 3) = 33 ∧ N (w + 3) = 6 ∧ gr h w 8 = some (w + 3) := W.2.2.2.1
/-- the objects' places -/
def cA (w : Nat) (c : Int) : Nat := w + 4 + c.toNat
def fA (w : Nat) (f : Int) : Nat := w + 20 + f.toNat
def dA (w : Nat) (d : Int) : Nat := w + 30 + 44 * d.toNat
theorem WO.c (W : WO T N h w) {c : Int} (hc : 0 ≤ c ∧ c < 16) : T (cA w c) = 2 ∧ gr h (w + 1) (Int.toNat c) = some (cA w c) := W.2.2.2.2.1 c.toNat (by omega)
theorem WO.f (W : WO T N h w) {c : Int} (hc : 0 ≤ c ∧ c < 10) : T (fA w c) = 4 ∧ gr h (w + 2) (Int.toNat c) = some (fA w c) := W.2.2.2.2.2.1 c.toNat (by omega)
theorem WO.d (W : WO T N h w) {c : Int} (hc : 0 ≤ c ∧ c < 6) : gr h (w + 3) (Int.toNat c) = some (dA w c) ∧ DT T N h (dA w c) := W.2.2.2.2.2.2 c.toNat (by omega)
section DS
variable {K : Int → PH → Prop} {KV : PH → Prop} {KR : Option Nat → PH → Prop}
theorem d_cor (W : WO T N h w) {n : Int} (hn : In n) (hc : 0 ≤ ai h w 3 ∧ ai h w 3 ≤ 16) (k1 : 0 ≤ n ∧ n < ai h w 3 → KR (some (cA w n)) h) (k0 : ¬ (0 ≤ n ∧ n < ai h w 3) → KR none h) : CR T N 89 [vr (some w), vi (J n)] h KR := by
  have t1 := W.co.1; have n1 := W.co.2.1
  refine z89 W.t hn ?_
  repeat' (first | exact k0 (by omega) | (rw [(W.c (by omega)).2]; exact k1 (by omega)) | (refine ⟨w + 1, W.co.2.2, by omega, ?_⟩) | (refine ⟨fun c => ?_, fun c => ?_⟩ <;> first | (exfalso; omega) | skip) | (refine And.intro (by omega) ?_) | (intro _ e; subst e))
theorem d_fen (W : WO T N h w) {n : Int} (hn : In n) (hc : 0 ≤ ai h w 4 ∧ ai h w 4 ≤ 10) (k1 : 0 ≤ n ∧ n < ai h w 4 → KR (some (fA w n)) h) (k0 : ¬ (0 ≤ n ∧ n < ai h w 4) → KR none h) : CR T N 90 [vr (some w), vi (J n)] h KR := by
  have t1 := W.fe.1; have n1 := W.fe.2.1
  refine z90 W.t hn ?_
  repeat' (first | exact k0 (by omega) | (rw [(W.f (by omega)).2]; exact k1 (by omega)) | (refine ⟨w + 2, W.fe.2.2, by omega, ?_⟩) | (refine ⟨fun c => ?_, fun c => ?_⟩ <;> first | (exfalso; omega) | skip) | (refine And.intro (by omega) ?_) | (intro _ e; subst e))
theorem d_dro (W : WO T N h w) {n : Int} (hn : In n) (hc : 0 ≤ ai h w 5 ∧ ai h w 5 ≤ 6) (k1 : 0 ≤ n ∧ n < ai h w 5 → KR (some (dA w n)) h) (k0 : ¬ (0 ≤ n ∧ n < ai h w 5) → KR none h) : CR T N 91 [vr (some w), vi (J n)] h KR := by
  have t1 := W.dr.1; have n1 := W.dr.2.1
  refine z91 W.t hn ?_
  repeat' (first | exact k0 (by omega) | (rw [(W.d (by omega)).1]; exact k1 (by omega)) | (refine ⟨w + 3, W.dr.2.2, by omega, ?_⟩) | (refine ⟨fun c => ?_, fun c => ?_⟩ <;> first | (exfalso; omega) | skip) | (refine And.intro (by omega) ?_) | (intro _ e; subst e))
theorem d_hasNode (W : WO T N h w) {n : Int} (hn : In n) (k1 : 0 ≤ n ∧ n < ai h w 1 → K 1 h) (k0 : ¬ (0 ≤ n ∧ n < ai h w 1) → K 0 h) : ZI T N 88 [vr (some w), vi (J n)] h K := by
  refine z88 W.t hn ?_
  repeat' (first | exact k0 (by omega) | exact k1 (by omega) | (refine ⟨fun c => ?_, fun c => ?_⟩ <;> first | (exfalso; omega) | skip) | (refine And.intro (by omega) ?_) | (intro _ e; subst e))
theorem d_legAt (D : DT T N h a) {n : Int} (hn : In n) (hc : 0 ≤ ai h a 8 ∧ ai h a 8 ≤ 41) (k1 : 0 ≤ n ∧ n < ai h a 8 → ∀ b, gr h (a + 2) (Int.toNat n) = some b → a + 3 ≤ b → b < a + 44 → T b = 7 → KR (some b) h) (k0 : ¬ (0 ≤ n ∧ n < ai h a 8) → KR none h) : CR T N 17 [vr (some a), vi (J n)] h KR := by
  have t1 := D.le.1; have n1 := D.le.2.1
  refine z17 D.t hn ?_
  repeat' (first | exact k0 (by omega) | (obtain ⟨b, e, h1, h2, h3⟩ := D.at (i := n) (by omega); rw [e]; exact k1 (by omega) b e h1 h2 h3) | (refine ⟨a + 2, D.le.2.2, by omega, ?_⟩) | (refine ⟨fun c => ?_, fun c => ?_⟩ <;> first | (exfalso; omega) | skip) | (refine And.intro (by omega) ?_) | (intro _ e; subst e))
theorem d_sumOf (D : DT T N h a) {n : Int} (hn : 0 ≤ n ∧ n < 5) (k : K (ai h (a + 1) n) h) : ZI T N 18 [vr (some a), vi (J n)] h K := by
  have t1 := D.su.1; have n1 := D.su.2.1
  refine z18 D.t (by omega) ?_
  repeat' (first | exact k | (refine ⟨a + 1, D.su.2.2, by omega, ?_⟩) | (refine ⟨fun c => ?_, fun c => ?_⟩ <;> first | (exfalso; omega) | skip) | (refine And.intro (by omega) ?_) | (intro _ e; subst e))
theorem d_legsBegun (D : DT T N h a) (k : K (if ai h a 0 = 2 ∧ 0 < ai h a 8 then 1 else 0) h) : ZI T N 19 [vr (some a)] h K := by
  refine z19 D.t ⟨fun c => ⟨fun e => ?_, fun e => ?_⟩, fun c => ?_⟩
  · rw [if_pos ⟨c, e⟩] at k; exact k
  · rw [if_neg fun z => e z.2] at k; exact k
  · rw [if_neg fun z => c z.1] at k; exact k
theorem d_energyOf (t : T a = 2) {x : Int} (hx : In x) (hv : -1000 ≤ ai h a 2 ∧ ai h a 2 ≤ 1000 ∧ -1000 ≤ ai h a 3 ∧ ai h a 3 ≤ 1000) (k : K (if x = 0 then 2 * ai h a 2 - ai h a 3 else 2 * ai h a 2 + ai h a 3) h) : ZI T N 10 [vr (some a), vi (J x)] h K := by
  refine z10 t hx ⟨fun c => ⟨by omega, ?_⟩, fun c => ⟨by omega, ?_⟩⟩
  · rw [if_pos c] at k; exact k
  · rw [if_neg c] at k; exact k
theorem d_beginOf (t : T a = 2) {x : Int} (hx : In x) (k : K (if x = 0 then ai h a 0 else ai h a 1) h) : ZI T N 11 [vr (some a), vi (J x)] h K := by
  refine z11 t hx ⟨fun c => ?_, fun c => ?_⟩
  · rw [if_pos c] at k; exact k
  · rw [if_neg c] at k; exact k
theorem d_endOf (t : T a = 2) {x : Int} (hx : In x) (k : K (if x = 0 then ai h a 1 else ai h a 0) h) : ZI T N 12 [vr (some a), vi (J x)] h K := by
  refine z12 t hx ⟨fun c => ?_, fun c => ?_⟩
  · rw [if_pos c] at k; exact k
  · rw [if_neg c] at k; exact k
end DS
end DEV
