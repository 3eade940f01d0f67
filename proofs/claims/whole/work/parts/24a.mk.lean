/-! THE START: what the constructors lay -/
def MK (lo hi : Nat) (h h2 : PH) (k s : Nat) : Prop := nx h2 = nx h + k ∧ ce h2 = ce h + k ∧ sl h2 = sl h + s ∧ gi h2 = gi h ∧ ∀ b, b < lo ∨ hi ≤ b → ∀ j, gr h2 b j = gr h b j
def TD (T N : Nat → Nat) (a : Nat) : Prop := T a = 3 ∧ (T (a + 1) = 22 ∧ N (a + 1) = 5) ∧ (T (a + 2) = 37 ∧ N (a + 2) = 41) ∧ ∀ j : Nat, j < 41 → T (a + 3 + j) = 7
def TW (T N : Nat → Nat) (w : Nat) : Prop := T w = 10 ∧ (T (w + 1) = 32 ∧ N (w + 1) = 16) ∧ (T (w + 2) = 34 ∧ N (w + 2) = 10) ∧ (T (w + 3) = 33 ∧ N (w + 3) = 6) ∧ (∀ c : Nat, c < 16 → T (w + 4 + c) = 2) ∧ (∀ f : Nat, f < 10 → T (w + 20 + f) = 4) ∧ ∀ d : Nat, d < 6 → TD T N (w + 30 + 44 * d)
section MKS
variable {T N : Nat → Nat} {a b w lo hi lo2 hi2 k k2 s s2 n q : Nat} {h h2 h3 : PH} {x : Option Nat} {KV : PH → Prop}
theorem MK.rf : MK lo hi h h 0 0 := ⟨rfl, rfl, rfl, rfl, fun _ _ _ => rfl⟩
theorem MK.tr (m : MK lo hi h h2 k s) (m2 : MK lo hi h2 h3 k2 s2) : MK lo hi h h3 (k + k2) (s + s2) := by
  obtain ⟨a1, a2, a3, a4, a5⟩ := m
  obtain ⟨b1, b2, b3, b4, b5⟩ := m2
  exact ⟨by omega, by omega, by omega, b4.trans a4, fun b hb j => (b5 b hb j).trans (a5 b hb j)⟩
theorem MK.mo (m : MK lo hi h h2 k s) (h1 : lo2 ≤ lo) (h4 : hi ≤ hi2) : MK lo2 hi2 h h2 k s := ⟨m.1, m.2.1, m.2.2.1, m.2.2.2.1, fun b hb j => m.2.2.2.2 b (by omega) j⟩
theorem MK.gw (e : h2 = grow h n) : MK lo hi h h2 1 n := by subst e; exact ⟨rfl, rfl, rfl, rfl, fun _ _ _ => rfl⟩
theorem gr_s : gr (sr h a q x) b k = if b = a ∧ k = q then x else gr h b k := rfl
theorem MK.sr (e : h2 = sr h a q x) (ha : lo ≤ a ∧ a < hi) : MK lo hi h h2 0 0 := by
  subst e
  exact ⟨rfl, rfl, rfl, rfl, fun b hb j => by rw [gr_s, if_neg (by omega)]⟩
theorem MK.as (m : MK lo hi h h2 k s) (e1 : k = k2) (e2 : s = s2) : MK lo hi h h2 k2 s2 := by subst e1; subst e2; exact m
theorem DT.mk (D : DT T N h a) (e : ∀ b, a ≤ b → b < a + 44 → ∀ j, gr h2 b j = gr h b j) : DT T N h2 a := by
  obtain ⟨d1, ⟨d2, d3, d4⟩, ⟨d5, d6, d7⟩, d8, p, p1, p2⟩ := D
  exact ⟨d1, ⟨d2, d3, by rw [e a (by omega) (by omega)]; exact d4⟩, ⟨d5, d6, by rw [e a (by omega) (by omega)]; exact d7⟩, d8, p, fun j hj => by rw [e (a + 2) (by omega) (by omega)]; exact p1 j hj, p2⟩
theorem WO.mk (W : WO T N h w) (e : ∀ b, w ≤ b → b < w + 294 → ∀ j, gr h2 b j = gr h b j) : WO T N h2 w := by
  obtain ⟨w1, ⟨w2, w3, w4⟩, ⟨w5, w6, w7⟩, ⟨w8, w9, w10⟩, w11, w12, w13⟩ := W
  exact ⟨w1, ⟨w2, w3, by rw [e w (by omega) (by omega)]; exact w4⟩, ⟨w5, w6, by rw [e w (by omega) (by omega)]; exact w7⟩, ⟨w8, w9, by rw [e w (by omega) (by omega)]; exact w10⟩, fun c hc => ⟨(w11 c hc).1, by rw [e _ (by omega) (by omega)]; exact (w11 c hc).2⟩, fun c hc => ⟨(w12 c hc).1, by rw [e _ (by omega) (by omega)]; exact (w12 c hc).2⟩, fun d hd => ⟨by rw [e _ (by omega) (by omega)]; exact (w13 d hd).1, (w13 d hd).2.mk fun b b1 b2 j => e b (by omega) (by omega) j⟩⟩
theorem k_drone (D : TD T N a) (hn : nx h = a + 1) (k : ∀ h2, MK a (a + 44) h h2 43 251 → DT T N h2 a → KV h2) : CV T N 14 [vr (some a)] h KV := by
  obtain ⟨d1, ⟨d2, d3⟩, ⟨d4, d5⟩, d6⟩ := D
  have loop : ∀ (q c : Nat) (h3 : PH), c + q = 41 → MK a (a + 44) h h3 (2 + c) (46 + 5 * c) → gr h3 a 7 = some (a + 1) → gr h3 a 9 = some (a + 2) → (∀ j, j < c → gr h3 (a + 2) j = some (a + 3 + j)) → WV T N 14 22 [some (vr (some a)), some (vi (J (c : Int)))] [] h3 KV := by
    intro q
    induction q with
    | zero =>
      intro c h3 hc M g7 g9 G
      have c41 : c = 41 := by omega
      subst c41
      refine z14_22 d1 (by omega) ⟨a + 2, g9, by omega, by omega, fun y => by omega, fun _ => k h3 M ⟨d1, ⟨d2, d3, g7⟩, ⟨d4, d5, g9⟩, fun j j1 j2 => ?_, fun j => a + 3 + j, fun j hj => ⟨G j hj, by dsimp only; omega, by dsimp only; omega⟩, fun i j _ _ e => by dsimp only at e; omega⟩⟩
      rw [show j = a + 3 + (j - (a + 3)) by omega]; exact d6 _ (by omega)
    | succ q ih =>
      intro c h3 hc M g7 g9 G
      have n3 : nx h3 = a + 3 + c := by have := M.1; omega
      have t7 := d6 c (by omega)
      refine z14_22 d1 (by omega) ⟨a + 2, g9, by omega, by omega, fun _ => ⟨by rw [n3]; exact t7, fun a11 h12 e11 e12 => z54 ⟨a + 2, g9, by rw [e11, n3]; omega, by omega, fun h22 e22 => ?_⟩⟩, fun y => by omega⟩
      rw [n3] at e11
      subst e11
      have M2 := (M.tr (MK.gw e12)).tr (MK.sr e22 (by omega))
      have G12 : gr h12 = gr h3 := by subst e12; rfl
      have := ih (c + 1) h22 (by omega) (M2.as (by omega) (by omega)) (by rw [e22, gr_s, if_neg (by omega), G12]; exact g7) (by rw [e22, gr_s, if_neg (by omega), G12]; exact g9) fun j hj => by
        rw [e22, gr_s]
        by_cases cj : j = c
        · rw [if_pos ⟨rfl, by omega⟩, cj]
        · rw [if_neg (by omega), G12]; exact G j (by omega)
      rw [show ((c + 1 : Nat) : Int) = (c : Int) + 1 by omega] at this
      exact this
  refine z14 d1 ⟨⟨by rw [hn]; exact d2, by rw [hn, d3]; rfl, by rw [hn, d3]; decide⟩, fun a3 h4 e3 e4 h9 e9 => ?_⟩
  have n9 : nx h9 = a + 2 := by rw [e9, e4]; show nx h + 1 = _; omega
  refine ⟨⟨by rw [n9]; exact d4, by rw [n9, d5]; rfl, by rw [n9, d5]; decide⟩, fun a12 h13 e12 e13 h18 e18 => ?_⟩
  rw [hn] at e3; rw [hn, d3] at e4; rw [n9] at e12; rw [n9, d5] at e13
  subst e3; subst e12
  have M := (((MK.gw (lo := a) (hi := a + 44) e4).tr (MK.sr e9 (by omega))).tr (MK.gw e13)).tr (MK.sr e18 (by omega))
  have g13 : gr h13 = gr h9 := by subst e13; rfl
  exact loop 41 0 h18 (by omega) (M.as (by omega) (by omega)) (by rw [e18, gr_s, if_neg (by omega), g13, e9, gr_s, if_pos ⟨rfl, rfl⟩]) (by rw [e18, gr_s, if_pos ⟨rfl, rfl⟩]) fun j hj => absurd hj (Nat.not_lt_zero _)
end MKS
