/-! THE START: a world -/
section MKW
variable {T N : Nat → Nat} {a b w lo hi lo2 hi2 k k2 s s2 n q : Nat} {h h0 h2 h3 : PH} {x : Option Nat} {KV : PH → Prop}
/-- a world's arrays -/
def WAr (h : PH) (w : Nat) : Prop := gr h w 6 = some (w + 1) ∧ gr h w 7 = some (w + 2) ∧ gr h w 8 = some (w + 3)
theorem WAr.mk (A : WAr h w) (e : ∀ j, gr h2 w j = gr h w j) : WAr h2 w := ⟨(e 6).trans A.1, (e 7).trans A.2.1, (e 8).trans A.2.2⟩
theorem k_w93 (D : TW T N w) (k : ∀ h2, MK w (w + 294) h0 h2 293 1702 → WO T N h2 w → KV h2) : ∀ (q c : Nat) (h3 : PH), c + q = 6 → MK w (w + 294) h0 h3 (29 + 44 * c) (136 + 261 * c) → nx h3 = w + 30 + 44 * c → WAr h3 w → (∀ j, j < 16 → gr h3 (w + 1) j = some (w + 4 + j)) → (∀ j, j < 10 → gr h3 (w + 2) j = some (w + 20 + j)) → (∀ j, j < c → gr h3 (w + 3) j = some (w + 30 + 44 * j) ∧ DT T N h3 (w + 30 + 44 * j)) → WV T N 82 93 [some (vr (some w)), some (vi (J (c : Int)))] [] h3 KV := by
  obtain ⟨d1, ⟨d2, d3⟩, ⟨d4, d5⟩, ⟨d6, d7⟩, d8, d9, d10⟩ := D
  intro q
  induction q with
  | zero =>
    intro c h3 hc M hn A G1 G2 G3
    have c6 : c = 6 := by omega
    subst c6
    exact z82_93 d1 (by omega) ⟨w + 3, A.2.2, by omega, by omega, fun y => by omega, fun _ => k h3 M ⟨d1, ⟨d2, d3, A.1⟩, ⟨d4, d5, A.2.1⟩, ⟨d6, d7, A.2.2⟩, fun c hc => ⟨d8 c hc, G1 c hc⟩, fun c hc => ⟨d9 c hc, G2 c hc⟩, G3⟩⟩
  | succ q ih =>
    intro c h3 hc M hn A G1 G2 G3
    have td := d10 c (by omega)
    refine z82_93 d1 (by omega) ⟨w + 3, A.2.2, by omega, by omega, fun _ => ⟨by rw [hn]; exact td.1, fun a11 h12 e11 e12 => ?_⟩, fun y => by omega⟩
    rw [hn] at e11
    subst e11
    have g12 : gr h12 = gr h3 := by subst e12; rfl
    have n12 : nx h12 = w + 30 + 44 * c + 1 := by subst e12; show nx h3 + 1 = _; omega
    refine k_drone td n12 fun h17 M17 D17 => ⟨w + 3, A.2.2, by have := td.1; omega, by omega, fun h22 e22 => ?_⟩
    have e : ∀ b, b < w + 30 + 44 * c ∨ w + 30 + 44 * c + 44 ≤ b → ¬ b = w + 3 → ∀ j, gr h22 b j = gr h3 b j := fun b hb h3' j => by
      rw [e22, gr_s, if_neg (by omega), M17.2.2.2.2 b hb j, g12]
    have M2 := ((M.tr (MK.gw e12)).tr (M17.mo (lo2 := w) (hi2 := w + 294) (by omega) (by omega))).tr (MK.sr e22 (by omega))
    have n22 : nx h22 = w + 30 + 44 * (c + 1) := by have := M17.1; rw [e22]; show nx h17 = _; omega
    have := ih (c + 1) h22 (by omega) (M2.as (by omega) (by omega)) n22 (A.mk fun j => e w (by omega) (by omega) j) (fun j hj => (e (w + 1) (by omega) (by omega) j).trans (G1 j hj)) (fun j hj => (e (w + 2) (by omega) (by omega) j).trans (G2 j hj)) fun j hj => by
      by_cases cj : j = c
      · subst cj
        exact ⟨by rw [e22, gr_s, if_pos ⟨rfl, by omega⟩], D17.mk fun b b1 b2 i => by rw [e22, gr_s, if_neg (by omega)]⟩
      · obtain ⟨q1, q2⟩ := G3 j (by omega)
        exact ⟨by rw [e22, gr_s, if_neg (by omega), M17.2.2.2.2 _ (by omega), g12]; exact q1, q2.mk fun b b1 b2 i => e b (by omega) (by omega) i⟩
    rw [show ((c + 1 : Nat) : Int) = (c : Int) + 1 by omega] at this
    exact this
theorem k_w63 (D : TW T N w) (k : ∀ h2, MK w (w + 294) h0 h2 293 1702 → WO T N h2 w → KV h2) : ∀ (q c : Nat) (h3 : PH), c + q = 10 → MK w (w + 294) h0 h3 (19 + c) (96 + 4 * c) → nx h3 = w + 20 + c → WAr h3 w → (∀ j, j < 16 → gr h3 (w + 1) j = some (w + 4 + j)) → (∀ j, j < c → gr h3 (w + 2) j = some (w + 20 + j)) → WV T N 82 63 [some (vr (some w)), some (vi (J (c : Int)))] [] h3 KV := by
  intro q
  have D' := D
  obtain ⟨d1, ⟨d2, d3⟩, ⟨d4, d5⟩, ⟨d6, d7⟩, d8, d9, d10⟩ := D
  induction q with
  | zero =>
    intro c h3 hc M hn A G1 G2
    have c6 : c = 10 := by omega
    subst c6
    exact z82_63 d1 (by omega) ⟨w + 2, A.2.1, by omega, by omega, fun y => by omega, fun _ => k_w93 D' k 6 0 h3 (by omega) (M.as (by omega) (by omega)) (by omega) A G1 G2 fun j hj => absurd hj (Nat.not_lt_zero _)⟩
  | succ q ih =>
    intro c h3 hc M hn A G1 G2
    have td := d9 c (by omega)
    refine z82_63 d1 (by omega) ⟨w + 2, A.2.1, by omega, by omega, fun _ => ⟨by rw [hn]; exact td, fun a11 h12 e11 e12 => z36 ⟨w + 2, A.2.1, by rw [e11, hn]; omega, by omega, fun h22 e22 => ?_⟩⟩, fun y => by omega⟩
    rw [hn] at e11
    subst e11
    have g12 : gr h12 = gr h3 := by subst e12; rfl
    have e : ∀ b, ¬ b = w + 2 → ∀ j, gr h22 b j = gr h3 b j := fun b h3' j => by
      rw [e22, gr_s, if_neg (by omega), g12]
    have M2 := (M.tr (MK.gw e12)).tr (MK.sr e22 (by omega))
    have n22 : nx h22 = w + 20 + (c + 1) := by rw [e22, e12]; show nx h3 + 1 = _; omega
    have := ih (c + 1) h22 (by omega) (M2.as (by omega) (by omega)) n22 (A.mk fun j => e w (by omega) j) (fun j hj => (e (w + 1) (by omega) j).trans (G1 j hj)) fun j hj => by
      by_cases cj : j = c
      · subst cj
        rw [e22, gr_s, if_pos ⟨rfl, by omega⟩]
      · rw [e22, gr_s, if_neg (by omega), g12]; exact G2 j (by omega)
    rw [show ((c + 1 : Nat) : Int) = (c : Int) + 1 by omega] at this
    exact this
theorem k_w33 (D : TW T N w) (k : ∀ h2, MK w (w + 294) h0 h2 293 1702 → WO T N h2 w → KV h2) : ∀ (q c : Nat) (h3 : PH), c + q = 16 → MK w (w + 294) h0 h3 (3 + c) (32 + 4 * c) → nx h3 = w + 4 + c → WAr h3 w → (∀ j, j < c → gr h3 (w + 1) j = some (w + 4 + j)) → WV T N 82 33 [some (vr (some w)), some (vi (J (c : Int)))] [] h3 KV := by
  intro q
  have D' := D
  obtain ⟨d1, ⟨d2, d3⟩, ⟨d4, d5⟩, ⟨d6, d7⟩, d8, d9, d10⟩ := D
  induction q with
  | zero =>
    intro c h3 hc M hn A G1
    have c6 : c = 16 := by omega
    subst c6
    exact z82_33 d1 (by omega) ⟨w + 1, A.1, by omega, by omega, fun y => by omega, fun _ => k_w63 D' k 10 0 h3 (by omega) (M.as (by omega) (by omega)) (by omega) A G1 fun j hj => absurd hj (Nat.not_lt_zero _)⟩
  | succ q ih =>
    intro c h3 hc M hn A G1
    have td := d8 c (by omega)
    refine z82_33 d1 (by omega) ⟨w + 1, A.1, by omega, by omega, fun _ => ⟨by rw [hn]; exact td, fun a11 h12 e11 e12 => z9 ⟨w + 1, A.1, by rw [e11, hn]; omega, by omega, fun h22 e22 => ?_⟩⟩, fun y => by omega⟩
    rw [hn] at e11
    subst e11
    have g12 : gr h12 = gr h3 := by subst e12; rfl
    have e : ∀ b, ¬ b = w + 1 → ∀ j, gr h22 b j = gr h3 b j := fun b h3' j => by
      rw [e22, gr_s, if_neg (by omega), g12]
    have M2 := (M.tr (MK.gw e12)).tr (MK.sr e22 (by omega))
    have n22 : nx h22 = w + 4 + (c + 1) := by rw [e22, e12]; show nx h3 + 1 = _; omega
    have := ih (c + 1) h22 (by omega) (M2.as (by omega) (by omega)) n22 (A.mk fun j => e w (by omega) j) fun j hj => by
      by_cases cj : j = c
      · subst cj
        rw [e22, gr_s, if_pos ⟨rfl, by omega⟩]
      · rw [e22, gr_s, if_neg (by omega), g12]; exact G1 j (by omega)
    rw [show ((c + 1 : Nat) : Int) = (c : Int) + 1 by omega] at this
    exact this
theorem k_world (D : TW T N w) (hn : nx h = w + 1) (k : ∀ h2, MK w (w + 294) h h2 293 1702 → WO T N h2 w → KV h2) : CV T N 82 [vr (some w)] h KV := by
  have D' := D
  obtain ⟨d1, ⟨d2, d3⟩, ⟨d4, d5⟩, ⟨d6, d7⟩, -⟩ := D
  refine z82 d1 ⟨⟨by rw [hn]; exact d2, by rw [hn, d3]; rfl, by rw [hn, d3]; decide⟩, fun a3 h4 e3 e4 h9 e9 => ?_⟩
  have n9 : nx h9 = w + 2 := by rw [e9, e4]; show nx h + 1 = _; omega
  refine ⟨⟨by rw [n9]; exact d4, by rw [n9, d5]; rfl, by rw [n9, d5]; decide⟩, fun a12 h13 e12 e13 h18 e18 => ?_⟩
  have n18 : nx h18 = w + 3 := by rw [e18, e13]; show nx h9 + 1 = _; omega
  refine ⟨⟨by rw [n18]; exact d6, by rw [n18, d7]; rfl, by rw [n18, d7]; decide⟩, fun a21 h22 e21' e22 h27 e27 => ?_⟩
  rw [hn] at e3; rw [hn, d3] at e4; rw [n9] at e12; rw [n9, d5] at e13; rw [n18] at e21'; rw [n18, d7] at e22
  subst e3; subst e12; subst e21'
  have M := (((((MK.gw (lo := w) (hi := w + 294) e4).tr (MK.sr e9 (by omega))).tr (MK.gw e13)).tr (MK.sr e18 (by omega))).tr (MK.gw e22)).tr (MK.sr e27 (by omega))
  have g13 : gr h13 = gr h9 := by subst e13; rfl
  have g22 : gr h22 = gr h18 := by subst e22; rfl
  have n27 : nx h27 = w + 4 := by have := M.1; omega
  exact k_w33 D' k 16 0 h27 (by omega) (M.as (by omega) (by omega)) n27 ⟨by rw [e27, gr_s, if_neg (by omega), g22, e18, gr_s, if_neg (by omega), g13, e9, gr_s, if_pos ⟨rfl, rfl⟩], by rw [e27, gr_s, if_neg (by omega), g22, e18, gr_s, if_pos ⟨rfl, rfl⟩], by rw [e27, gr_s, if_pos ⟨rfl, rfl⟩]⟩ fun j hj => absurd hj (Nat.not_lt_zero _)
end MKW
