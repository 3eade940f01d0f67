/-! NODES, CORRIDORS, FENCES: what the class's worlds do -/
def nodeV (v : Int → Int) (p : Int) : Int → Int := fun j => if j = 0 then v 0 + 1 else if j = 1 + v 0 then p else v j
def corV (v : Int → Int) (a b len wind : Int) : Int → Int := fun j => if j = 11 then v 11 + 1 else if j = 12 + 4 * v 11 then a else if j = 12 + 4 * v 11 + 1 then b else if j = 12 + 4 * v 11 + 2 then len else if j = 12 + 4 * v 11 + 3 then wind else v j
def windV (v : Int → Int) (c wind : Int) : Int → Int := fun j => if j = 12 + 4 * c + 3 then wind else v j
def fenV (v : Int → Int) (c lay fr to : Int) : Int → Int := fun j => if j = 76 then v 76 + 1 else if j = 77 + 4 * v 76 then c else if j = 77 + 4 * v 76 + 1 then lay else if j = 77 + 4 * v 76 + 2 then fr else if j = 77 + 4 * v 76 + 3 then to else v j
def dropV (v : Int → Int) (f : Int) : Int → Int := fun j => if j = 76 then v 76 - 1 else if 77 + 4 * f ≤ j ∧ j < 77 + 4 * (v 76 - 1) then v (j + 4) else v j
section NOD
variable {T N : Nat → Nat} {h h2 : PH} {w a b : Nat} {v u : Int → Int} {K : Int → PH → Prop} {KV : PH → Prop}
theorem WO.to (W : WO T N h w) (e : gr h2 = gr h) : WO T N h2 w := by
  unfold WO DT PermOK at W ⊢; rw [e]; exact W
theorem DT.to (D : DT T N h a) (e : gr h2 = gr h) : DT T N h2 a := by
  unfold DT PermOK at D ⊢; rw [e]; exact D
theorem DrD_cl {e e2 : Int → Int} {t : Int} (O : drOK v t e) (c : ∀ j, 12 ≤ j → j < 12 + 4 * v 11 → 2 = (j - 12) % 4 → v j = u j) (he : ∀ j, 0 ≤ j → j < 55 → e j = e2 j) (g : DrD v h a e) : DrD u h a e2 := by
  obtain ⟨g1, g2, g3⟩ := g
  have h5 := O.2.2.2.2.2.1
  have hl := O.2.2.2.2.2.2.2.2.2.2.2.2.2.2.2.2.2
  refine ⟨?_, fun k h1 h2 => by rw [g2 k h1 h2]; exact he _ (by omega) (by omega), fun i h1 h2 b hb => ?_⟩
  · rw [← he 0 (by omega) (by omega), ← he 1 (by omega) (by omega), ← he 2 (by omega) (by omega), ← he 3 (by omega) (by omega), ← he 4 (by omega) (by omega), ← he 5 (by omega) (by omega), ← he 6 (by omega) (by omega), ← he 12 (by omega) (by omega)]
    exact g1
  · have e5 := he 5 (by omega) (by omega)
    rw [← he (13 + i) (by omega) (by omega)]
    have L := g3 i h1 (by omega) b hb
    have O2 := hl i h1 (by omega)
    unfold LegD endV at L ⊢
    unfold legOK at O2
    rw [← c (12 + 4 * (e (13 + i) % 16) + 2) (by omega) (by omega) (by omega)]
    exact L
theorem padsR_cg {m : Int} (e0 : v 0 = u 0) (e : ∀ n, 0 ≤ n → n < v 0 → v (1 + n) = u (1 + n)) (p : padsR m v) : padsR m u := by
  intro n hn
  rw [p n hn, ← e0]
  constructor
  · intro g; exact ⟨g.1, by rw [← e _ (by omega) g.1]; exact g.2⟩
  · intro g; exact ⟨g.1, by rw [e _ (by omega) g.1]; exact g.2⟩
/-- the drones' parts stay -/
theorem Wo.ds (W : Wo T N h w v) (I : Iv v) (s : ∀ b, w + 30 ≤ b → b < w + 294 → sm b h h2) (e : ∀ j, 12 ≤ j → j < 12 + 4 * v 11 → 2 = (j - 12) % 4 → v j = u j) (e2 : ∀ j, 117 ≤ j → j < 448 → v j = u j) : ∀ d, 0 ≤ d → d < u 117 → DrD u h2 (dA w d) (rc u d) := by
  intro d h1 h3
  have b := I.b
  have e0 := e2 117 (by omega) (by omega)
  have D := I.d h1 (by omega)
  refine DrD_cl (e := rc v d) (e2 := rc u d) D e (fun j a1 a2 => e2 _ (by omega) (by omega)) ?_
  exact (W.d h1 (by omega)).fr (fun b e1 e2 => s b (by unfold dA at e1; omega) (by unfold dA at e2; omega)) (W.o.d (by omega)).2 D.2.2.2.2.2.1.2
theorem Wo.fs (W : Wo T N h w v) (I : Iv v) (s : ∀ b, w + 20 ≤ b → b < w + 30 → sm b h h2) (e2 : ∀ j, 76 ≤ j → j < 117 → v j = u j) : ∀ f, 0 ≤ f → f < u 76 → ∀ k, 0 ≤ k → k < 4 → ai h2 (fA w f) k = u (77 + 4 * f + k) := by
  intro f h1 h3 k h4 h5
  have b := I.b
  have e0 := e2 76 (by omega) (by omega)
  rw [(s (fA w f) (by unfold fA; omega) (by unfold fA; omega)).ai, ← e2 _ (by omega) (by omega)]
  exact W.f h1 (by omega) h4 h5
theorem Wo.cs (W : Wo T N h w v) (I : Iv v) (s : ∀ b, w + 4 ≤ b → b < w + 20 → sm b h h2) (e2 : ∀ j, 11 ≤ j → j < 76 → v j = u j) : ∀ f, 0 ≤ f → f < u 11 → ∀ k, 0 ≤ k → k < 4 → ai h2 (cA w f) k = u (12 + 4 * f + k) := by
  intro f h1 h3 k h4 h5
  have b := I.b
  have e0 := e2 11 (by omega) (by omega)
  rw [(s (cA w f) (by unfold cA; omega) (by unfold cA; omega)).ai, ← e2 _ (by omega) (by omega)]
  exact W.c h1 (by omega) h4 h5
/-! the invariant, part by part -/
theorem drOK_cg {e e2 : Int → Int} {t : Int} (e0 : v 0 ≤ u 0) (e11 : v 11 ≤ u 11) (c : ∀ j, 12 ≤ j → j < 12 + 4 * v 11 → 2 = (j - 12) % 4 → v j = u j) (he : ∀ j, 0 ≤ j → j < 55 → e j = e2 j) (g : drOK v t e) : drOK u t e2 := by
  unfold drOK at g ⊢
  have ec : ∀ x, legOK v x → endV v x = endV u x := fun x hx => by
    unfold endV legOK at *
    rw [c _ (by omega) (by omega) (by omega)]
  obtain ⟨g0, g1, g2, g3, g4, g5, g6, g7, g8, g9, g10, g11, g12, gs, ga, gb, gc, gl⟩ := g
  rw [← he 0 (by omega) (by omega), ← he 1 (by omega) (by omega), ← he 2 (by omega) (by omega), ← he 3 (by omega) (by omega), ← he 4 (by omega) (by omega), ← he 5 (by omega) (by omega), ← he 6 (by omega) (by omega), ← he 7 (by omega) (by omega), ← he 8 (by omega) (by omega), ← he 9 (by omega) (by omega), ← he 10 (by omega) (by omega), ← he 11 (by omega) (by omega), ← he 12 (by omega) (by omega), ← he 13 (by omega) (by omega)]
  refine ⟨g0, g1, g2, by omega, by omega, g5, g6, g7, g8, g9, g10, g11, g12, gs, ga, gb, fun z => ?_, fun i h1 h2 => ?_⟩
  · have z2 := gc z
    have z3 : legOK v (e 13) := gl 0 (by omega) (by omega)
    rw [← ec _ z3]; exact z2
  · rw [← he (13 + i) (by omega) (by omega)]
    have := gl i h1 h2
    unfold legOK at this ⊢; omega
theorem Iv.ds (I : Iv v) (e0 : v 0 ≤ u 0) (e11 : v 11 ≤ u 11) (c : ∀ j, 12 ≤ j → j < 12 + 4 * v 11 → 2 = (j - 12) % 4 → v j = u j) (e2 : ∀ j, 117 ≤ j → j ≤ 448 → v j = u j) : ∀ d, 0 ≤ d → d < u 117 → drOK u (u 448) (rc u d) := by
  intro d h1 h2
  have b := I.b
  have q := e2 117 (by omega) (by omega)
  rw [← e2 448 (by omega) (by omega)]
  exact drOK_cg e0 e11 c (fun j a1 a2 => e2 _ (by omega) (by omega)) (I.d h1 (by omega))
theorem Iv.fs (I : Iv v) (e11 : v 11 ≤ u 11) (e2 : ∀ j, 76 ≤ j → j < 117 → v j = u j) : ∀ d, 0 ≤ d → d < u 76 → fenOK u d := by
  intro d h1 h2
  have b := I.b
  have q := e2 76 (by omega) (by omega)
  have := I.f h1 (by omega)
  have x0 := e2 (77 + 4 * d + 0) (by omega) (by omega); have x1 := e2 (77 + 4 * d + 1) (by omega) (by omega); have x2 := e2 (77 + 4 * d + 2) (by omega) (by omega); have x3 := e2 (77 + 4 * d + 3) (by omega) (by omega)
  unfold fenOK at this ⊢
  omega
theorem Iv.cs (I : Iv v) (e0 : v 0 ≤ u 0) (e2 : ∀ j, 11 ≤ j → j < 76 → v j = u j) : ∀ d, 0 ≤ d → d < u 11 → corOK u d := by
  intro d h1 h2
  have b := I.b
  have q := e2 11 (by omega) (by omega)
  have := I.c h1 (by omega)
  have x0 := e2 (12 + 4 * d + 0) (by omega) (by omega); have x1 := e2 (12 + 4 * d + 1) (by omega) (by omega); have x2 := e2 (12 + 4 * d + 2) (by omega) (by omega); have x3 := e2 (12 + 4 * d + 3) (by omega) (by omega)
  unfold corOK at this ⊢
  omega
theorem nodeV_Iv (I : Iv v) (hn : v 0 < 10) {p : Int} (hp : p = 0 ∨ p = 1) : Iv (nodeV v p) := by
  have b := I.b
  have e0 : nodeV v p 0 = v 0 + 1 := rfl
  have eq : ∀ j, 11 ≤ j → v j = nodeV v p j := fun j hj => by unfold nodeV; rw [if_neg (by omega), if_neg (by omega)]
  have q1 := eq 11 (by omega); have q2 := eq 76 (by omega); have q3 := eq 117 (by omega); have q4 := eq 448 (by omega)
  refine ⟨by omega, fun n h1 h2 => ?_, I.cs (by omega) fun j a1 a2 => eq j (by omega), I.fs (by omega) fun j a1 a2 => eq j (by omega), I.ds (by omega) (by omega) (fun j a1 a2 a3 => eq j (by omega)) fun j a1 a2 => eq j (by omega)⟩
  by_cases c : n = v 0
  · have : nodeV v p (1 + n) = p := by unfold nodeV; rw [if_neg (by omega), if_pos (by omega)]
    rw [this]; exact hp
  · have : nodeV v p (1 + n) = v (1 + n) := by unfold nodeV; rw [if_neg (by omega), if_neg (by omega)]
    rw [this]; exact I.p h1 (by omega)
theorem d_newNode (W : Wo T N h w v) (I : Iv v) (hn : v 0 < 10) {p : Int} (hp : p = 0 ∨ p = 1) (k : ∀ h2, Fp (fun b => b = w) h h2 → Wo T N h2 w (nodeV v p) → K (v 0) h2) : ZI T N 92 [vr (some w), vi (J p)] h K := by
  obtain ⟨b0, b1, b3, b4, b5⟩ := W.b
  have b := I.b
  have eq : ∀ j, 11 ≤ j → v j = nodeV v p j := fun j hj => by unfold nodeV; rw [if_neg (by omega), if_neg (by omega)]
  have q1 := eq 11 (by omega); have q2 := eq 76 (by omega); have q3 := eq 117 (by omega); have q4 := eq 448 (by omega)
  have e0 : nodeV v p 0 = v 0 + 1 := rfl
  have fin : ∀ h2, Fp (fun b => b = w) h h2 → gr h2 = gr h → (ai h2 w 0 = v 448 ∧ ai h2 w 1 = v 0 + 1 ∧ ai h2 w 3 = v 11 ∧ ai h2 w 4 = v 76 ∧ ai h2 w 5 = v 117) → padsR (ai h2 w 2) (nodeV v p) → K (v 0) h2 := fun h2 F g f pp =>
    k h2 F ⟨W.o.to g, by rw [e0, ← q1, ← q2, ← q3, ← q4]; exact f, pp, W.cs I (fun b e1 e2 => F.1 b (by omega)) fun j a1 a2 => eq j (by omega), W.fs I (fun b e1 e2 => F.1 b (by omega)) fun j a1 a2 => eq j (by omega), W.ds I (fun b e1 e2 => F.1 b (by omega)) (fun j a1 a2 a3 => eq j (by omega)) fun j a1 a2 => eq j (by omega)⟩
  refine z92 W.o.t (by omega) ⟨fun c => ⟨fun e => ?_, fun e => ?_⟩, fun c => absurd (show ai h w 1 < 10 by omega) c⟩
  · intro h2 g; subst g
    have e1 : ai (wi h w 1 (ai h w 1 + 1)) w 1 = ai h w 1 + 1 := rd_eq rfl rfl (by omega)
    rw [e1, show ai h w 1 + 1 - 1 = v 0 by omega]
    refine ⟨by omega, fin _ (Fp.pw rfl) rfl ⟨?_, by omega, ?_, ?_, ?_⟩ ?_⟩
    · simp (disch := first | omega | exact ai_in _ _ _ | exact zor_in _ _) only [rd_eq, rd_a, rd_k]; omega
    · simp (disch := first | omega | exact ai_in _ _ _ | exact zor_in _ _) only [rd_eq, rd_a, rd_k]; omega
    · simp (disch := first | omega | exact ai_in _ _ _ | exact zor_in _ _) only [rd_eq, rd_a, rd_k]; omega
    · simp (disch := first | omega | exact ai_in _ _ _ | exact zor_in _ _) only [rd_eq, rd_a, rd_k]; omega
    · simp (disch := first | omega | exact ai_in _ _ _ | exact zor_in _ _) only [rd_eq, rd_a, rd_k]
      intro n hn2
      rw [W.p n hn2, e0]
      unfold nodeV
      subst e
      constructor
      · intro g; exact ⟨by omega, by rw [if_neg (by omega), if_neg (by omega)]; exact g.2⟩
      · intro ⟨g1, g2⟩
        rw [if_neg (by omega)] at g2
        by_cases c2 : (1 : Int) + n = 1 + v 0
        · rw [if_pos c2] at g2; omega
        · rw [if_neg c2] at g2; exact ⟨by omega, g2⟩
  · intro h2 g; subst g; intro h3 g; subst g
    have e1 : ai (wi h w 2 (zor (ai h w 2) (zshl 1 (ai h w 1)))) w 1 = ai h w 1 := by simp (disch := first | omega | exact ai_in _ _ _ | exact zor_in _ _) only [rd_eq, rd_a, rd_k]
    have e2 : ai (wi (wi h w 2 (zor (ai h w 2) (zshl 1 (ai h w 1)))) w 1 (ai h w 1 + 1)) w 1 = ai h w 1 + 1 := rd_eq rfl rfl (by omega)
    rw [e1, e2, show ai h w 1 + 1 - 1 = v 0 by omega]
    have e3 : ai (wi (wi h w 2 (zor (ai h w 2) (zshl 1 (ai h w 1)))) w 1 (ai h w 1 + 1)) w 2 = zor (ai h w 2) (zshl 1 (ai h w 1)) := by rw [rd_k (by omega) (by omega) (by omega), rd_eq rfl rfl (zor_in _ _)]
    refine ⟨by omega, fin _ (Fp.pw2 (Fp.pw rfl) rfl) rfl ⟨?_, by omega, ?_, ?_, ?_⟩ ?_⟩
    · simp (disch := first | omega | exact ai_in _ _ _ | exact zor_in _ _) only [rd_eq, rd_a, rd_k]; omega
    · simp (disch := first | omega | exact ai_in _ _ _ | exact zor_in _ _) only [rd_eq, rd_a, rd_k]; omega
    · simp (disch := first | omega | exact ai_in _ _ _ | exact zor_in _ _) only [rd_eq, rd_a, rd_k]; omega
    · simp (disch := first | omega | exact ai_in _ _ _ | exact zor_in _ _) only [rd_eq, rd_a, rd_k]; omega
    · rw [e3]
      intro n hn2
      rw [mb_or, mb_shl (by omega) hn2, e0, Bool.or_eq_true, W.p n hn2, decide_eq_true_eq, b1]
      have p1 : p = 1 := by omega
      unfold nodeV
      subst p1
      constructor
      · rintro (g | g)
        · exact ⟨by omega, by rw [if_neg (by omega), if_neg (by omega)]; exact g.2⟩
        · exact ⟨by omega, by rw [if_neg (by omega), if_pos (by omega)]⟩
      · intro ⟨g1, g2⟩
        rw [if_neg (by omega)] at g2
        by_cases c2 : (1 : Int) + n = 1 + v 0
        · exact Or.inr (by omega)
        · rw [if_neg c2] at g2; exact Or.inl ⟨by omega, g2⟩
end NOD
