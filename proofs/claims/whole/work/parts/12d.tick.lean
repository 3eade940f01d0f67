/-! DRONES: energy, ticks, the end of a leg -/
def finE (v : Int → Int) (t : Int) (e : Int → Int) : Int → Int :=
  if e 0 = 0 then chE e else if e 0 = 1 then hoE e else if e 0 = 2 then (if endV v (e 13) = t then (if 0 < e 5 - 1 ∨ e 3 ≠ e 4 ∨ v (1 + e 3) ≠ 1 then up (shE e) 0 1 else up (up (up (shE e) 0 1) 0 0) 2 0) else e) else e
/-- whether the drone lands -/
def lanE (v : Int → Int) (t : Int) (e : Int → Int) : Int := if e 0 = 2 ∧ endV v (e 13) = t ∧ ¬ (0 < e 5 - 1 ∨ e 3 ≠ e 4 ∨ v (1 + e 3) ≠ 1) then 1 else 0
def tickE (v : Int → Int) (t : Int) (e : Int → Int) : Int → Int := finE v (t + 1) (stE v t e)
section TIC
variable {T N : Nat → Nat} {h h2 : PH} {w a b : Nat} {v u e e2 : Int → Int} {t : Int} {K : Int → PH → Prop} {KV : PH → Prop}
theorem d_land (D : DT T N h a) (O : drOK v t e) (g : DrD v h a e) (k : ∀ h2, Fp (fun x => x = a) h h2 → gr h2 = gr h → DrD v h2 a (up (up e 0 0) 2 0) → KV h2) : CV T N 28 [vr (some a)] h KV := by
  obtain ⟨⟨g0, g1, g2, g3, g4, g5, g6, g8⟩, gs, gl⟩ := id g
  have o5 := O.2.2.2.2.2.1
  refine z28 D.t ?_
  intro h3 z; subst z; intro h3 z; subst z
  refine k _ (Fp.pw2 (Fp.pw rfl) rfl) rfl (DrD.fl D o5.2 g (Fp.pw2 (Fp.pw rfl) rfl) (by simp (disch := first | omega | exact ai_in _ _ _) only [rd_eq, rd_a, rd_k, up_eq, up_ne, ]; omega) (fun i h1 h2 => by simp (disch := first | omega | exact ai_in _ _ _) only [rd_eq, rd_a, rd_k, up_eq, up_ne, ]) ⟨by simp (disch := first | omega | exact ai_in _ _ _) only [rd_eq, rd_a, rd_k, up_eq, up_ne, g0], by simp (disch := first | omega | exact ai_in _ _ _) only [rd_eq, rd_a, rd_k, up_eq, up_ne, g1], by simp (disch := first | omega | exact ai_in _ _ _) only [rd_eq, rd_a, rd_k, up_eq, up_ne, g2], by simp (disch := first | omega | exact ai_in _ _ _) only [rd_eq, rd_a, rd_k, up_eq, up_ne, g3], by simp (disch := first | omega | exact ai_in _ _ _) only [rd_eq, rd_a, rd_k, up_eq, up_ne, g4], by simp (disch := first | omega | exact ai_in _ _ _) only [rd_eq, rd_a, rd_k, up_eq, up_ne, g5], by simp (disch := first | omega | exact ai_in _ _ _) only [rd_eq, rd_a, rd_k, up_eq, up_ne, g6], by simp (disch := first | omega | exact ai_in _ _ _) only [rd_eq, rd_a, rd_k, up_eq, up_ne, g8]⟩ fun k h1 h2 => by simp (disch := first | omega | exact ai_in _ _ _) only [rd_eq, rd_a, rd_k, up_eq, up_ne, ])
theorem d_beLost (D : DT T N h a) (h41 : 0 ≤ e 5 ∧ e 5 ≤ 41) (g : DrD v h a e) (k : ∀ h2, Fp (fun x => x = a) h h2 → gr h2 = gr h → DrD v h2 a (loseE e) → KV h2) : CV T N 29 [vr (some a)] h KV := by
  obtain ⟨⟨g0, g1, g2, g3, g4, g5, g6, g8⟩, gs, gl⟩ := id g
  refine z29 D.t ?_
  intro h3 z; subst z; intro h3 z; subst z
  unfold loseE at k
  refine k _ (Fp.pw2 (Fp.pw rfl) rfl) rfl (DrD.fl D h41.2 g (Fp.pw2 (Fp.pw rfl) rfl) (by simp (disch := first | omega | exact ai_in _ _ _) only [rd_eq, rd_a, rd_k, up_eq, up_ne, ]; omega) (fun i h1 h2 => by simp (disch := first | omega | exact ai_in _ _ _) only [rd_eq, rd_a, rd_k, up_eq, up_ne, ]) ⟨by simp (disch := first | omega | exact ai_in _ _ _) only [rd_eq, rd_a, rd_k, up_eq, up_ne, g0], by simp (disch := first | omega | exact ai_in _ _ _) only [rd_eq, rd_a, rd_k, up_eq, up_ne, g1], by simp (disch := first | omega | exact ai_in _ _ _) only [rd_eq, rd_a, rd_k, up_eq, up_ne, g2], by simp (disch := first | omega | exact ai_in _ _ _) only [rd_eq, rd_a, rd_k, up_eq, up_ne, g3], by simp (disch := first | omega | exact ai_in _ _ _) only [rd_eq, rd_a, rd_k, up_eq, up_ne, g4], by simp (disch := first | omega | exact ai_in _ _ _) only [rd_eq, rd_a, rd_k, up_eq, up_ne, g5], by simp (disch := first | omega | exact ai_in _ _ _) only [rd_eq, rd_a, rd_k, up_eq, up_ne, g6], by simp (disch := first | omega | exact ai_in _ _ _) only [rd_eq, rd_a, rd_k, up_eq, up_ne, g8]⟩ fun k h1 h2 => by simp (disch := first | omega | exact ai_in _ _ _) only [rd_eq, rd_a, rd_k, up_eq, up_ne, ])
theorem d_charge (D : DT T N h a) (O : drOK v t e) (ht : t ≤ 10100) (g : DrD v h a e) (k : ∀ h2, Fp (fun x => a ≤ x ∧ x < a + 44) h h2 → gr h2 = gr h → DrD v h2 a (chE e) → KV h2) : CV T N 34 [vr (some a)] h KV := by
  obtain ⟨⟨g0, g1, g2, g3, g4, g5, g6, g8⟩, gs, gl⟩ := id g
  obtain ⟨o0, o1, o2, o3, o4, o5, o6, o7, o8, o9, o10, o11, o12, os, oa, ob, oc, ol⟩ := id O
  have n1 := D.su.2.1
  have gs3 := gs 3 (by omega) (by omega)
  refine z34 D.t ⟨by omega, ?_⟩
  unfold chE at k
  dsimp only at k
  rw [g1]
  generalize hG : (if 200 - e 1 < 3 then 200 - e 1 else 3) = G at k ⊢
  have hG2 : 0 ≤ G ∧ G ≤ 3 ∧ e 1 + G ≤ 200 := by
    by_cases c : 200 - e 1 < 3
    · rw [if_pos c] at hG; omega
    · rw [if_neg c] at hG; omega
  intro h3 z; subst z
  refine ⟨a + 1, D.su.2.2, D.su.1, by omega, ?_⟩
  intro h4 z; subst z
  have F : Fp (fun x => x = a ∨ x = a + 1) h (wi (wi h a 1 (e 1 + G)) (a + 1) 3 (ai (wi h a 1 (e 1 + G)) (a + 1) 3 + G)) := Fp.pw2 (Fp.pw (Or.inl rfl)) (Or.inr rfl)
  have e3 : ai (wi h a 1 (e 1 + G)) (a + 1) 3 = e 10 := by rw [rd_a (by omega)]; exact gs3
  rw [e3] at F ⊢
  refine k _ (F.mo fun x z => by omega) rfl (DrD.mk' D o5.2 g (fun b h1 h2 => F.1 b (by omega)) (by simp (disch := first | omega | exact ai_in _ _ _) only [rd_eq, rd_a, rd_k, up_eq, up_ne, ]; omega) (fun i h1 h2 => by simp (disch := first | omega | exact ai_in _ _ _) only [rd_eq, rd_a, rd_k, up_eq, up_ne, ]) ⟨by simp (disch := first | omega | exact ai_in _ _ _) only [rd_eq, rd_a, rd_k, up_eq, up_ne, g0], by simp (disch := first | omega | exact ai_in _ _ _) only [rd_eq, rd_a, rd_k, up_eq, up_ne, g1], by simp (disch := first | omega | exact ai_in _ _ _) only [rd_eq, rd_a, rd_k, up_eq, up_ne, g2], by simp (disch := first | omega | exact ai_in _ _ _) only [rd_eq, rd_a, rd_k, up_eq, up_ne, g3], by simp (disch := first | omega | exact ai_in _ _ _) only [rd_eq, rd_a, rd_k, up_eq, up_ne, g4], by simp (disch := first | omega | exact ai_in _ _ _) only [rd_eq, rd_a, rd_k, up_eq, up_ne, g5], by simp (disch := first | omega | exact ai_in _ _ _) only [rd_eq, rd_a, rd_k, up_eq, up_ne, g6], by simp (disch := first | omega | exact ai_in _ _ _) only [rd_eq, rd_a, rd_k, up_eq, up_ne, g8]⟩ fun j h1 h3 => ?_)
  by_cases c : j = 3
  · subst c; simp (disch := first | omega | exact ai_in _ _ _) only [rd_eq, rd_a, rd_k, up_eq, up_ne, ]
  · have := gs j h1 h3
    rw [rd_k c h1 (by omega), rd_a (by omega), up_ne (by omega), up_ne (by omega)]; exact this
theorem d_hover (D : DT T N h a) (O : drOK v t e) (ht : t ≤ 10100) (g : DrD v h a e) (k : ∀ h2, Fp (fun x => a ≤ x ∧ x < a + 44) h h2 → gr h2 = gr h → DrD v h2 a (hoE e) → KV h2) : CV T N 35 [vr (some a)] h KV := by
  obtain ⟨⟨g0, g1, g2, g3, g4, g5, g6, g8⟩, gs, gl⟩ := id g
  obtain ⟨o0, o1, o2, o3, o4, o5, o6, o7, o8, o9, o10, o11, o12, os, oa, ob, oc, ol⟩ := id O
  have n1 := D.su.2.1
  have gs3 := gs 2 (by omega) (by omega)
  unfold hoE at k
  dsimp only at k
  refine z35 D.t ⟨fun c => ?_, fun c => ?_⟩
  · rw [if_pos (show 0 < e 1 by omega)] at k
    intro h3 z; subst z
    refine ⟨a + 1, D.su.2.2, D.su.1, by omega, ?_⟩
    intro h4 z
    have e3 : ai (wi h a 1 (ai h a 1 - 1)) (a + 1) 2 = e 9 := by rw [rd_a (by omega)]; exact gs3
    rw [e3, g1] at z
    have F : Fp (fun x => x = a ∨ x = a + 1) h h4 := by subst z; exact Fp.pw2 (Fp.pw (Or.inl rfl)) (Or.inr rfl)
    have gg : gr h4 = gr h := by subst z; rfl
    have D4 : DrD v h4 a (up (up e 1 (e 1 - 1)) 9 (e 9 + 1)) := by
      refine DrD.mk' D o5.2 g (fun b h1 h2 => F.1 b (by omega)) (by simp (disch := first | omega | exact ai_in _ _ _) only [rd_eq, rd_a, rd_k, up_eq, up_ne, ]; omega) (fun i h1 h2 => by simp (disch := first | omega | exact ai_in _ _ _) only [rd_eq, rd_a, rd_k, up_eq, up_ne, ]) ?_ fun j h1 h3 => ?_
      · subst z; exact ⟨by simp (disch := first | omega | exact ai_in _ _ _) only [rd_eq, rd_a, rd_k, up_eq, up_ne, g0], by simp (disch := first | omega | exact ai_in _ _ _) only [rd_eq, rd_a, rd_k, up_eq, up_ne, g1], by simp (disch := first | omega | exact ai_in _ _ _) only [rd_eq, rd_a, rd_k, up_eq, up_ne, g2], by simp (disch := first | omega | exact ai_in _ _ _) only [rd_eq, rd_a, rd_k, up_eq, up_ne, g3], by simp (disch := first | omega | exact ai_in _ _ _) only [rd_eq, rd_a, rd_k, up_eq, up_ne, g4], by simp (disch := first | omega | exact ai_in _ _ _) only [rd_eq, rd_a, rd_k, up_eq, up_ne, g5], by simp (disch := first | omega | exact ai_in _ _ _) only [rd_eq, rd_a, rd_k, up_eq, up_ne, g6], by simp (disch := first | omega | exact ai_in _ _ _) only [rd_eq, rd_a, rd_k, up_eq, up_ne, g8]⟩
      · subst z
        by_cases c : j = 2
        · subst c; simp (disch := first | omega | exact ai_in _ _ _) only [rd_eq, rd_a, rd_k, up_eq, up_ne, ]
        · have := gs j h1 h3
          rw [rd_k c h1 (by omega), rd_a (by omega), up_ne (by omega), up_ne (by omega)]; exact this
    have q1 : ai h4 a 1 = e 1 - 1 := by rw [D4.1.2.1]; simp (disch := first | omega | exact ai_in _ _ _) only [rd_eq, rd_a, rd_k, up_eq, up_ne, ]
    have q2 : up (up e 1 (e 1 - 1)) 9 (e 9 + 1) 1 = e 1 - 1 := by simp (disch := first | omega | exact ai_in _ _ _) only [rd_eq, rd_a, rd_k, up_eq, up_ne, ]
    rw [q2] at k
    refine ⟨fun c2 => ?_, fun c2 => ?_⟩
    · rw [if_pos (by omega)] at k
      refine d_beLost (D.to gg) (by simp (disch := first | omega | exact ai_in _ _ _) only [rd_eq, rd_a, rd_k, up_eq, up_ne, ]; omega) D4 fun h5 F5 g5 D5 => k h5 ((F.mo fun x z => by omega).tr (F5.mo fun x z => by omega)) (g5.trans gg) D5
    · rw [if_neg (by omega)] at k
      exact k h4 (F.mo fun x z => by omega) gg D4
  · rw [if_neg (show ¬ 0 < e 1 by omega)] at k
    refine ⟨fun c2 => ?_, fun c2 => absurd (show ai h a 1 = 0 by omega) c2⟩
    rw [if_pos (by omega)] at k
    exact d_beLost D o5 g fun h5 F5 g5 D5 => k h5 (F5.mo fun x z => by omega) g5 D5
theorem d_loseTo (D : DT T N h a) (O : drOK v t e) (ht : t ≤ 10100) (g : DrD v h a e) {m : Int} (hm : 1 ≤ m ∧ m ≤ 200) (k : ∀ h2, Fp (fun x => a ≤ x ∧ x < a + 44) h h2 → gr h2 = gr h → DrD v h2 a (drainE e m) → KV h2) : CV T N 30 [vr (some a), vi (J m)] h KV := by
  obtain ⟨⟨g0, g1, g2, g3, g4, g5, g6, g8⟩, gs, gl⟩ := id g
  obtain ⟨o0, o1, o2, o3, o4, o5, o6, o7, o8, o9, o10, o11, o12, os, oa, ob, oc, ol⟩ := id O
  have hsum : e 12 ≤ 400000 := by omega
  unfold drainE at k
  dsimp only at k
  have main : ∀ (x y : Int), x = e 1 - y → y = (if e 1 - m < (if e 0 = 2 ∧ 0 < e 1 then 1 else 0) then (if e 0 = 2 ∧ 0 < e 1 then 1 else 0) else e 1 - m) → 0 ≤ x ∧ x ≤ 200 → ∀ h3, h3 = wi h a 1 (ai h a 1 - x) → ∀ h4, h4 = wi h3 a 6 (ai h3 a 6 + x) → (((ai h4 a 0) = 1 → ((((ai h4 a 1) = 0 → (CV T N 29 [vr (some a)] h4 (fun h5 => (KV h5)))) ∧ (¬ ((ai h4 a 1) = 0) → (KV h4))))) ∧ (¬ ((ai h4 a 0) = 1) → (KV h4))) := by
    intro x y hx hy hb h3 z3 h4 z4
    rw [← hy] at k
    have F : Fp (fun x => x = a) h h4 := by subst z4; subst z3; exact Fp.pw2 (Fp.pw rfl) rfl
    have gg : gr h4 = gr h := by subst z4; subst z3; rfl
    have D4 : DrD v h4 a (up (up e 1 y) 12 (e 12 + e 1 - y)) := by
      refine DrD.fl D o5.2 g F (by simp (disch := first | omega | exact ai_in _ _ _) only [rd_eq, rd_a, rd_k, up_eq, up_ne, ]; omega) (fun i h1 h2 => by simp (disch := first | omega | exact ai_in _ _ _) only [rd_eq, rd_a, rd_k, up_eq, up_ne, ]) ?_ fun k h1 h2 => by simp (disch := first | omega | exact ai_in _ _ _) only [rd_eq, rd_a, rd_k, up_eq, up_ne, ]
      have q : ai h3 a 6 = e 12 := by subst z3; simp (disch := first | omega | exact ai_in _ _ _) only [rd_eq, rd_a, rd_k, up_eq, up_ne, ]; exact g6
      rw [q] at z4; subst z4; subst z3
      exact ⟨by simp (disch := first | omega | exact ai_in _ _ _) only [rd_eq, rd_a, rd_k, up_eq, up_ne, g0], by simp (disch := first | omega | exact ai_in _ _ _) only [rd_eq, rd_a, rd_k, up_eq, up_ne, g1]; omega, by simp (disch := first | omega | exact ai_in _ _ _) only [rd_eq, rd_a, rd_k, up_eq, up_ne, g2], by simp (disch := first | omega | exact ai_in _ _ _) only [rd_eq, rd_a, rd_k, up_eq, up_ne, g3], by simp (disch := first | omega | exact ai_in _ _ _) only [rd_eq, rd_a, rd_k, up_eq, up_ne, g4], by simp (disch := first | omega | exact ai_in _ _ _) only [rd_eq, rd_a, rd_k, up_eq, up_ne, g5], by simp (disch := first | omega | exact ai_in _ _ _) only [rd_eq, rd_a, rd_k, up_eq, up_ne, ]; omega, by simp (disch := first | omega | exact ai_in _ _ _) only [rd_eq, rd_a, rd_k, up_eq, up_ne, g8]⟩
    have q0 : ai h4 a 0 = e 0 := by rw [D4.1.1]; simp (disch := first | omega | exact ai_in _ _ _) only [rd_eq, rd_a, rd_k, up_eq, up_ne, ]
    have q1 : ai h4 a 1 = y := by rw [D4.1.2.1]; simp (disch := first | omega | exact ai_in _ _ _) only [rd_eq, rd_a, rd_k, up_eq, up_ne, ]
    rw [q0, q1]
    refine ⟨fun c => ⟨fun c2 => ?_, fun c2 => ?_⟩, fun c => ?_⟩
    · rw [if_pos ⟨c, c2⟩] at k
      exact d_beLost (D.to gg) (by simp (disch := first | omega | exact ai_in _ _ _) only [rd_eq, rd_a, rd_k, up_eq, up_ne, ]; omega) D4 fun h5 F5 g5 D5 => k h5 ((F.mo fun x z => by omega).tr (F5.mo fun x z => by omega)) (g5.trans gg) D5
    · rw [if_neg fun z => c2 z.2] at k
      exact k h4 (F.mo fun x z => by omega) gg D4
    · rw [if_neg fun z => c z.1] at k
      exact k h4 (F.mo fun x z => by omega) gg D4
  rw [g1] at main
  refine z30 D.t (by omega) ⟨fun c => ?_, fun c => ?_⟩
  · have := oc (by omega)
    rw [g1]
    by_cases c0 : 0 < e 1
    rotate_left
    · have e0 : (if e 0 = 2 ∧ 0 < e 1 then (1 : Int) else 0) = 0 := if_neg (by omega)
      rw [e0] at main
      rw [if_pos (show e 1 - 1 < m by omega), if_neg (show ¬ 0 < e 1 - 1 by omega)]
      refine ⟨by omega, by omega, main _ 0 (by omega) ?_ (by omega)⟩
      rw [if_pos (by omega)]
    have e0 : (if e 0 = 2 ∧ 0 < e 1 then (1 : Int) else 0) = 1 := if_pos (by omega)
    rw [e0] at main
    by_cases c2 : e 1 - 1 < m
    · rw [if_pos c2]
      refine ⟨by omega, by omega, main _ 1 ?_ ?_ ?_⟩
      · by_cases c3 : 0 < e 1 - 1
        · rw [if_pos c3]
        · rw [if_neg c3]; omega
      · by_cases c3 : e 1 - m < 1
        · rw [if_pos c3]
        · rw [if_neg c3]; omega
      · split <;> omega
    · rw [if_neg c2, if_pos (by omega)]
      refine ⟨by omega, by omega, main _ (e 1 - m) (by omega) ?_ (by omega)⟩
      rw [if_neg (by omega)]
  · have e0 : (if e 0 = 2 ∧ 0 < e 1 then (1 : Int) else 0) = 0 := if_neg (by omega)
    rw [e0] at main
    rw [g1]
    by_cases c2 : e 1 - 0 < m
    · rw [if_pos c2]
      refine ⟨by omega, by omega, main _ 0 ?_ ?_ ?_⟩
      · by_cases c3 : 0 < e 1 - 0
        · rw [if_pos c3]
        · rw [if_neg c3]; omega
      · by_cases c3 : e 1 - m < 0
        · rw [if_pos c3]
        · rw [if_neg c3]; omega
      · split <;> omega
    · rw [if_neg c2, if_pos (by omega)]
      refine ⟨by omega, by omega, main _ (e 1 - m) (by omega) ?_ (by omega)⟩
      rw [if_neg (by omega)]
end TIC
