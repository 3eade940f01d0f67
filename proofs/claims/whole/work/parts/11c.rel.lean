/-! WHAT THE WORLDS SAY: a world of the class and a row of the reference -/
/-- a leg, and its number -/
def LegD (v : Int → Int) (h : PH) (b : Nat) (x : Int) : Prop := ai h b 0 = x % 16 ∧ ai h b 1 = x / 16 % 2 ∧ ai h b 2 = x / 32 % 4 ∧ ai h b 3 = x / 128 ∧ ai h b 4 = endV v x
/-- a drone, and its part of a row -/
def DrD (v : Int → Int) (h : PH) (a : Nat) (e : Int → Int) : Prop :=
  (ai h a 0 = e 0 ∧ ai h a 1 = e 1 ∧ ai h a 2 = e 2 ∧ ai h a 3 = e 3 ∧ ai h a 4 = e 4 ∧ ai h a 5 = e 6 ∧ ai h a 6 = e 12 ∧ ai h a 8 = e 5) ∧
  (∀ k, 0 ≤ k → k < 5 → ai h (a + 1) k = e (7 + k)) ∧ ∀ i, 0 ≤ i → i < e 5 → ∀ b, gr h (a + 2) (Int.toNat i) = some b → LegD v h b (e (13 + i))
/-- the part of a row that is a drone's -/
def rc (v : Int → Int) (d : Int) : Int → Int := fun k => v (118 + 55 * d + k)
def padsR (m : Int) (v : Int → Int) : Prop := ∀ n : Nat, n < 32 → (mb m n = true ↔ (n : Int) < v 0 ∧ v (1 + n) = 1)
def Wo (T N : Nat → Nat) (h : PH) (w : Nat) (v : Int → Int) : Prop :=
  WO T N h w ∧ (ai h w 0 = v 448 ∧ ai h w 1 = v 0 ∧ ai h w 3 = v 11 ∧ ai h w 4 = v 76 ∧ ai h w 5 = v 117) ∧ padsR (ai h w 2) v ∧
  (∀ c, 0 ≤ c → c < v 11 → ∀ k, 0 ≤ k → k < 4 → ai h (cA w c) k = v (12 + 4 * c + k)) ∧
  (∀ f, 0 ≤ f → f < v 76 → ∀ k, 0 ≤ k → k < 4 → ai h (fA w f) k = v (77 + 4 * f + k)) ∧
  (∀ d, 0 ≤ d → d < v 117 → DrD v h (dA w d) (rc v d))
/-! what holds of a row -/
def corOK (v : Int → Int) (c : Int) : Prop := (0 ≤ v (12 + 4 * c + 0) ∧ v (12 + 4 * c + 0) < v 0) ∧ (0 ≤ v (12 + 4 * c + 1) ∧ v (12 + 4 * c + 1) < v 0) ∧ v (12 + 4 * c + 0) ≠ v (12 + 4 * c + 1) ∧ (1 ≤ v (12 + 4 * c + 2) ∧ v (12 + 4 * c + 2) ≤ 9) ∧ (-v (12 + 4 * c + 2) ≤ v (12 + 4 * c + 3) ∧ v (12 + 4 * c + 3) ≤ v (12 + 4 * c + 2))
def fenOK (v : Int → Int) (f : Int) : Prop := (0 ≤ v (77 + 4 * f + 0) ∧ v (77 + 4 * f + 0) < v 11) ∧ (1 ≤ v (77 + 4 * f + 1) ∧ v (77 + 4 * f + 1) ≤ 7) ∧ (0 ≤ v (77 + 4 * f + 2) ∧ v (77 + 4 * f + 2) < v (77 + 4 * f + 3) ∧ v (77 + 4 * f + 3) ≤ 10000)
/-- a leg of a plan -/
def legOK (v : Int → Int) (x : Int) : Prop := 0 ≤ x ∧ x % 16 < v 11 ∧ x / 32 % 4 ≤ 2 ∧ x / 128 ≤ 10100
/-- a drone at the time t -/
def drOK (v : Int → Int) (t : Int) (e : Int → Int) : Prop :=
  (0 ≤ e 0 ∧ e 0 ≤ 3) ∧ (0 ≤ e 1 ∧ e 1 ≤ 200) ∧ (0 ≤ e 2 ∧ e 2 ≤ 2) ∧ (0 ≤ e 3 ∧ e 3 < v 0) ∧ (-1 ≤ e 4 ∧ e 4 < v 0) ∧ (0 ≤ e 5 ∧ e 5 ≤ 41) ∧ (1 ≤ e 6 ∧ e 6 ≤ 200) ∧
  (0 ≤ e 7 ∧ e 11 ≤ e 7) ∧ 0 ≤ e 8 ∧ 0 ≤ e 9 ∧ (0 ≤ e 10 ∧ e 10 ≤ 3 * t) ∧ 0 ≤ e 11 ∧ 0 ≤ e 12 ∧ e 1 + e 7 + e 8 + e 9 + e 12 = e 6 + e 10 ∧
  (e 0 = 0 → e 2 = 0) ∧ (e 0 = 3 → e 5 = 0) ∧ (e 0 = 2 → 1 ≤ e 5 ∧ t < endV v (e 13) ∧ endV v (e 13) ≤ t + 40) ∧ (∀ i, 0 ≤ i → i < e 5 → legOK v (e (13 + i)))
def Iv (v : Int → Int) : Prop :=
  (0 ≤ v 0 ∧ v 0 ≤ 10 ∧ 0 ≤ v 11 ∧ v 11 ≤ 16 ∧ 0 ≤ v 76 ∧ v 76 ≤ 10 ∧ 0 ≤ v 117 ∧ v 117 ≤ 6 ∧ 0 ≤ v 448 ∧ v 448 ≤ 10000) ∧
  (∀ n, 0 ≤ n → n < v 0 → v (1 + n) = 0 ∨ v (1 + n) = 1) ∧ (∀ c, 0 ≤ c → c < v 11 → corOK v c) ∧ (∀ f, 0 ≤ f → f < v 76 → fenOK v f) ∧ (∀ d, 0 ≤ d → d < v 117 → drOK v (v 448) (rc v d))
section REL
variable {T N : Nat → Nat} {h : PH} {w a : Nat} {v u : Int → Int}
theorem Iv.b (I : Iv v) : 0 ≤ v 0 ∧ v 0 ≤ 10 ∧ 0 ≤ v 11 ∧ v 11 ≤ 16 ∧ 0 ≤ v 76 ∧ v 76 ≤ 10 ∧ 0 ≤ v 117 ∧ v 117 ≤ 6 ∧ 0 ≤ v 448 ∧ v 448 ≤ 10000 := I.1
theorem Iv.p (I : Iv v) {n : Int} (h1 : 0 ≤ n) (h2 : n < v 0) : v (1 + n) = 0 ∨ v (1 + n) = 1 := I.2.1 n h1 h2
theorem Iv.c (I : Iv v) {n : Int} (h1 : 0 ≤ n) (h2 : n < v 11) : corOK v n := I.2.2.1 n h1 h2
theorem Iv.f (I : Iv v) {n : Int} (h1 : 0 ≤ n) (h2 : n < v 76) : fenOK v n := I.2.2.2.1 n h1 h2
theorem Iv.d (I : Iv v) {n : Int} (h1 : 0 ≤ n) (h2 : n < v 117) : drOK v (v 448) (rc v n) := I.2.2.2.2 n h1 h2
theorem Wo.o (W : Wo T N h w v) : WO T N h w := W.1
theorem Wo.b (W : Wo T N h w v) : ai h w 0 = v 448 ∧ ai h w 1 = v 0 ∧ ai h w 3 = v 11 ∧ ai h w 4 = v 76 ∧ ai h w 5 = v 117 := W.2.1
theorem Wo.p (W : Wo T N h w v) : padsR (ai h w 2) v := W.2.2.1
theorem Wo.c (W : Wo T N h w v) {c k : Int} (h1 : 0 ≤ c) (h2 : c < v 11) (h3 : 0 ≤ k) (h4 : k < 4) : ai h (cA w c) k = v (12 + 4 * c + k) := W.2.2.2.1 c h1 h2 k h3 h4
theorem Wo.f (W : Wo T N h w v) {c k : Int} (h1 : 0 ≤ c) (h2 : c < v 76) (h3 : 0 ≤ k) (h4 : k < 4) : ai h (fA w c) k = v (77 + 4 * c + k) := W.2.2.2.2.1 c h1 h2 k h3 h4
theorem Wo.d (W : Wo T N h w v) {d : Int} (h1 : 0 ≤ d) (h2 : d < v 117) : DrD v h (dA w d) (rc v d) := W.2.2.2.2.2 d h1 h2
/-- rows that say the same -/
def Eq449 (v u : Int → Int) : Prop := ∀ j, 0 ≤ j → j < 449 → v j = u j
theorem endV_cg {x : Int} (e : ∀ j, 12 ≤ j → j < 76 → v j = u j) : endV v x = endV u x := by
  unfold endV; rw [e _ (by omega) (by omega)]
theorem legOK_cg {x : Int} (e : v 11 = u 11) (g : legOK v x) : legOK u x := by unfold legOK at g ⊢; rw [← e]; exact g
theorem LegD_cg {b : Nat} {x : Int} (e : ∀ j, 12 ≤ j → j < 76 → v j = u j) (g : LegD v h b x) : LegD u h b x := by
  unfold LegD at g ⊢; rw [← endV_cg e]; exact g
theorem DrD_cg {e e2 : Int → Int} (c : ∀ j, 12 ≤ j → j < 76 → v j = u j) (he : ∀ j, 0 ≤ j → j < 55 → e j = e2 j) (h5 : e 5 ≤ 42) (g : DrD v h a e) : DrD u h a e2 := by
  obtain ⟨g1, g2, g3⟩ := g
  refine ⟨?_, fun k h1 h2 => by rw [g2 k h1 h2]; exact he _ (by omega) (by omega), fun i h1 h2 b hb => ?_⟩
  · rw [← he 0 (by omega) (by omega), ← he 1 (by omega) (by omega), ← he 2 (by omega) (by omega), ← he 3 (by omega) (by omega), ← he 4 (by omega) (by omega), ← he 5 (by omega) (by omega), ← he 6 (by omega) (by omega), ← he 12 (by omega) (by omega)]
    exact g1
  · have e5 := he 5 (by omega) (by omega)
    rw [← he (13 + i) (by omega) (by omega)]
    exact LegD_cg c (g3 i h1 (by omega) b hb)
theorem Wo.cg (W : Wo T N h w v) (I : Iv v) (e : Eq449 v u) : Wo T N h w u := by
  have b := I.b
  have e0 := e 0 (by omega) (by omega)
  have e11 := e 11 (by omega) (by omega)
  have e76 := e 76 (by omega) (by omega)
  have e117 := e 117 (by omega) (by omega)
  have e448 := e 448 (by omega) (by omega)
  refine ⟨W.o, by rw [← e0, ← e11, ← e76, ← e117, ← e448]; exact W.b, fun n hn => ?_, fun c h1 h2 k h3 h4 => ?_, fun c h1 h2 k h3 h4 => ?_, fun d h1 h2 => ?_⟩
  · rw [W.p n hn, e0]
    constructor
    · intro g; exact ⟨g.1, by rw [← e _ (by omega) (by omega)]; exact g.2⟩
    · intro g; exact ⟨g.1, by rw [e _ (by omega) (by omega)]; exact g.2⟩
  · rw [← e _ (by omega) (by omega)]; exact W.c h1 (by omega) h3 h4
  · rw [← e _ (by omega) (by omega)]; exact W.f h1 (by omega) h3 h4
  · have D := I.d h1 (by omega)
    exact DrD_cg (e := rc v d) (e2 := rc u d) (fun j a1 a2 => e j (by omega) (by omega)) (fun j a1 a2 => e _ (by omega) (by omega)) (Int.le_trans D.2.2.2.2.2.1.2 (by decide)) (W.d h1 (by omega))
end REL
