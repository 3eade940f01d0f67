/-! DRONES: the start of a leg, the tick as a whole -/
section STA
variable {T N : Nat → Nat} {h h2 : PH} {w a b : Nat} {v u e e2 : Int → Int} {t : Int} {K : Int → PH → Prop} {KV : PH → Prop}
theorem costV_b {c x : Int} (O : corOK v c) : 1 ≤ costV v c x ∧ costV v c x ≤ 27 := by
  unfold costV corOK at *
  by_cases z : x = 0
  · rw [if_pos z]; omega
  · rw [if_neg z]; omega
theorem chgE_b (O : drOK v t e) (L : legOK v (e 13)) : 0 ≤ chgE e ∧ chgE e ≤ 2 := by
  obtain ⟨o0, o1, o2, -⟩ := O
  unfold legOK at L
  unfold chgE absI
  split <;> omega
/-- the parts of a world that a drone's tick asks for -/
def Asks (T N : Nat → Nat) (h : PH) (w a : Nat) (v : Int → Int) : Prop :=
  WO T N h w ∧ ai h w 3 = v 11 ∧ padsR (ai h w 2) v ∧ (∀ c, 0 ≤ c → c < v 11 → ∀ k, 0 ≤ k → k < 4 → ai h (cA w c) k = v (12 + 4 * c + k)) ∧ (w + 30 ≤ a ∨ a + 44 ≤ w)
theorem Asks.fr (A : Asks T N h w a v) (I : Iv v) (W2 : WO T N h2 w) (s : ∀ b, w ≤ b → b < w + 30 → sm b h h2) : Asks T N h2 w a v := by
  obtain ⟨A1, A2, A3, A4, A5⟩ := A
  have s0 := s w (by omega) (by omega)
  have b := I.b
  exact ⟨W2, by rw [s0.ai]; exact A2, by rw [s0.ai]; exact A3, fun c h1 h2 k h3 h4 => by rw [(s (cA w c) (by unfold cA; omega) (by unfold cA; omega)).ai]; exact A4 c h1 h2 k h3 h4, A5⟩
theorem d_startLeg (A : Asks T N h w a v) (I : Iv v) (D : DT T N h a) (O : drOK v t e) (ht : 0 ≤ t ∧ t ≤ 10100) (g : DrD v h a e) (k : ∀ h2, Fp (fun x => a ≤ x ∧ x < a + 44) h h2 → gr h2 = gr h → DrD v h2 a (stE v t e) → KV h2) : CV T N 32 [vr (some a), vr (some w), vi (J t)] h KV := by
  obtain ⟨A1, A2, A3, A4, A5⟩ := A
  have bb := I.b
  obtain ⟨⟨g0, g1, g2, g3, g4, g5, g6, g8⟩, gs, gl⟩ := id g
  obtain ⟨o0, o1, o2, o3, o4, o5, o6, o7, o8, o9, o10, o11, o12, os, oa, ob, oc, ol⟩ := id O
  have n1 := D.su.2.1
  have no : ¬ (e 0 < 2 ∧ 0 < e 5 ∧ e 13 / 128 = t) → KV h := fun c => k h Fp.rf rfl (by unfold stE; rw [if_neg c]; exact g)
  refine z32 D.t A1.t (by omega) (d_legAt D (by omega) (by omega) (fun c b hb q1 q2 tb => ⟨fun z => by (cases z), fun b' eb => ?_⟩) (fun c => ⟨fun _ => no (by omega), fun b' eb => by (cases eb)⟩))
  cases eb
  have L := gl 0 (by omega) (by omega) b hb
  have L2 : legOK v (e 13) := ol 0 (by omega) (by omega)
  have LL := L2
  obtain ⟨l0, l1, l2, l3, l4⟩ : ai h b 0 = e 13 % 16 ∧ ai h b 1 = e 13 / 16 % 2 ∧ ai h b 2 = e 13 / 32 % 4 ∧ ai h b 3 = e 13 / 128 ∧ ai h b 4 = endV v (e 13) := L
  unfold legOK at L2
  refine ⟨tb, fun c1 => ⟨fun c2 => no (by omega), fun c2 => ⟨fun c3 => no (by omega), fun c3 => ?_⟩⟩, fun c1 => no (by omega)⟩
  have cond : e 0 < 2 ∧ 0 < e 5 ∧ e 13 / 128 = t := by omega
  have cO := I.c (n := e 13 % 16) (by omega) (by omega)
  have cb := costV_b (x := e 13 / 16 % 2) cO
  have hb2 := chgE_b O LL
  have v0 := A4 (e 13 % 16) (by omega) (by omega) 0 (by omega) (by omega)
  have v1 := A4 (e 13 % 16) (by omega) (by omega) 1 (by omega) (by omega)
  have v2 := A4 (e 13 % 16) (by omega) (by omega) 2 (by omega) (by omega)
  have v3 := A4 (e 13 % 16) (by omega) (by omega) 3 (by omega) (by omega)
  have eC : (if e 13 / 16 % 2 = 0 then 2 * ai h (cA w (e 13 % 16)) 2 - ai h (cA w (e 13 % 16)) 3 else 2 * ai h (cA w (e 13 % 16)) 2 + ai h (cA w (e 13 % 16)) 3) = ownE v e := by
    unfold ownE costV
    rw [v2, v3]
    by_cases z : e 13 / 16 % 2 = 0
    · rw [if_pos z, if_pos z]
    · rw [if_neg z, if_neg z]; omega
  have eH : (if 0 ≤ e 13 / 32 % 4 - e 2 then e 13 / 32 % 4 - e 2 else 0 - (e 13 / 32 % 4 - e 2)) = chgE e := by
    unfold chgE absI
    by_cases z : 0 ≤ e 13 / 32 % 4 - e 2
    · rw [if_pos z, if_neg (by omega)]
    · rw [if_neg z, if_pos (by omega)]; omega
  have hown : 1 ≤ ownE v e ∧ ownE v e ≤ 27 := cb
  rw [l0]
  refine d_cor (h := h) (n := e 13 % 16) A1 (by omega) (by omega) (fun c4 => ⟨fun z => by (cases z), fun a' ea => ?_⟩) (fun c4 => absurd (by omega) c4)
  cases ea
  have tc := (A1.c (c := e 13 % 16) (by omega)).1
  unfold corOK at cO
  rw [l1, l2, g2, eH]
  refine ⟨by omega, tc, d_energyOf (h := h) tc (by omega) (by omega) ?_⟩
  rw [eC]
  have hca : cA w (e 13 % 16) < a ∨ a + 44 ≤ cA w (e 13 % 16) := by unfold cA; omega
  refine ⟨by omega, fun c5 => ?_, fun c5 => ?_⟩
  · intro h3 z3; subst z3; intro h4 z4; subst z4
    refine k _ ((Fp.pw2 (Fp.pw (P := fun x => x = a) rfl) rfl).mo fun x z => by omega) rfl ?_
    unfold stE
    rw [if_pos cond, if_pos (by omega)]
    exact DrD.fl D o5.2 g (Fp.pw2 (Fp.pw rfl) rfl) (by simp (disch := first | omega | exact ai_in _ _ _) only [rd_eq, rd_a, rd_k, up_eq, up_ne, ]; omega) (fun i h1 h2 => by simp (disch := first | omega | exact ai_in _ _ _) only [rd_eq, rd_a, rd_k, up_eq, up_ne, ]) ⟨by simp (disch := first | omega | exact ai_in _ _ _) only [rd_eq, rd_a, rd_k, up_eq, up_ne, g0], by simp (disch := first | omega | exact ai_in _ _ _) only [rd_eq, rd_a, rd_k, up_eq, up_ne, g1], by simp (disch := first | omega | exact ai_in _ _ _) only [rd_eq, rd_a, rd_k, up_eq, up_ne, g2], by simp (disch := first | omega | exact ai_in _ _ _) only [rd_eq, rd_a, rd_k, up_eq, up_ne, g3], by simp (disch := first | omega | exact ai_in _ _ _) only [rd_eq, rd_a, rd_k, up_eq, up_ne, g4], by simp (disch := first | omega | exact ai_in _ _ _) only [rd_eq, rd_a, rd_k, up_eq, up_ne, g5], by simp (disch := first | omega | exact ai_in _ _ _) only [rd_eq, rd_a, rd_k, up_eq, up_ne, g6], by simp (disch := first | omega | exact ai_in _ _ _) only [rd_eq, rd_a, rd_k, up_eq, up_ne, g8]⟩ fun k h1 h2 => by simp (disch := first | omega | exact ai_in _ _ _) only [rd_eq, rd_a, rd_k, up_eq, up_ne, ]
  · have gs0 := gs 0 (by omega) (by omega)
    have gs1 := gs 1 (by omega) (by omega)
    have gs4 := gs 4 (by omega) (by omega)
    intro h3 z3
    have g3r : gr h3 = gr h := by subst z3; rfl
    refine ⟨a + 1, by rw [g3r]; exact D.su.2.2, D.su.1, by omega, ?_⟩
    intro h4 z4
    have g4r : gr h4 = gr h := by subst z4; exact g3r
    refine ⟨a + 1, by rw [g4r]; exact D.su.2.2, D.su.1, by omega, ?_⟩
    intro h5 z5
    have g5r : gr h5 = gr h := by subst z5; exact g4r
    refine ⟨a + 1, by rw [g5r]; exact D.su.2.2, D.su.1, by omega, ?_⟩
    intro h6 z6; intro h7 z7; intro h8 z8
    have F8 : Fp (fun x => x = a ∨ x = a + 1) h h8 := by
      subst z8; subst z7; subst z6; subst z5; subst z4; subst z3
      exact Fp.pw2 (Fp.pw2 (Fp.pw2 (Fp.pw2 (Fp.pw2 (Fp.pw (Or.inl rfl)) (Or.inr rfl)) (Or.inr rfl)) (Or.inr rfl)) (Or.inl rfl)) (Or.inl rfl)
    have g8r : gr h8 = gr h := by subst z8; subst z7; subst z6; exact g5r
    have sb := F8.1 b (by omega)
    have sc := F8.1 (cA w (e 13 % 16)) (by omega)
    rw [sb.ai, l1]
    refine d_endOf (h := h8) tc (by omega) ?_
    intro h9 z9
    rw [sc.ai, sc.ai, v0, v1] at z9
    have eN : (if e 13 / 16 % 2 = 0 then v (12 + 4 * (e 13 % 16) + 1) else v (12 + 4 * (e 13 % 16) + 0)) = v (12 + 4 * (e 13 % 16) + (1 - e 13 / 16 % 2)) := by
      by_cases z : e 13 / 16 % 2 = 0
      · rw [if_pos z, z]; rfl
      · rw [if_neg z, show e 13 / 16 % 2 = 1 by omega]; rfl
    rw [eN] at z9
    have F9 : Fp (fun x => x = a ∨ x = a + 1) h h9 := by subst z9; exact F8.tr (Fp.pw (Or.inl rfl))
    have g9r : gr h9 = gr h := by subst z9; exact g8r
    refine k h9 (F9.mo fun x z => by omega) g9r ?_
    unfold stE
    rw [if_pos cond, if_neg (by omega)]
    have hv : 0 ≤ v (12 + 4 * (e 13 % 16) + (1 - e 13 / 16 % 2)) ∧ v (12 + 4 * (e 13 % 16) + (1 - e 13 / 16 % 2)) ≤ 100 := by
      rcases (show e 13 / 16 % 2 = 0 ∨ e 13 / 16 % 2 = 1 by omega) with z | z <;> rw [z]
      · rw [show (1 : Int) - 0 = 1 from rfl]; clear o7 o8 o9 o10 o11 os A5 hb2 cb; omega
      · rw [show (1 : Int) - 1 = 0 from rfl]; clear o7 o8 o9 o10 o11 os A5 hb2 cb; omega
    have x4 : ai h3 (a + 1) 1 = e 8 := by subst z3; rw [rd_a (by omega)]; exact gs1
    rw [x4] at z4
    have x5 : ai h4 (a + 1) 0 = e 7 := by subst z4; rw [rd_k (by omega) (by omega) (by omega)]; subst z3; rw [rd_a (by omega)]; exact gs0
    rw [x5] at z5
    have x6 : ai h5 (a + 1) 4 = e 11 := by subst z5; rw [rd_k (by omega) (by omega) (by omega)]; subst z4; rw [rd_k (by omega) (by omega) (by omega)]; subst z3; rw [rd_a (by omega)]; exact gs4
    rw [x6] at z6
    have x8 : ai h7 b 2 = e 13 / 32 % 4 := by
      subst z7; rw [rd_a (by omega)]; subst z6; rw [rd_a (by omega)]; subst z5; rw [rd_a (by omega)]; subst z4; rw [rd_a (by omega)]; subst z3; rw [rd_a (by omega)]; exact l2
    rw [x8] at z8
    refine DrD.mk' D o5.2 g (fun x h1 h2 => F9.1 x (by omega)) (by simp (disch := first | omega | exact ai_in _ _ _) only [rd_eq, rd_a, rd_k, up_eq, up_ne, ]; omega) (fun i h1 h2 => by simp (disch := first | omega | exact ai_in _ _ _) only [rd_eq, rd_a, rd_k, up_eq, up_ne, ]) ?_ fun j h1 h3 => ?_
    · subst z9; subst z8; subst z7; subst z6; subst z5; subst z4; subst z3
      exact ⟨by simp (disch := first | omega | exact ai_in _ _ _) only [rd_eq, rd_a, rd_k, up_eq, up_ne, g0], by simp (disch := first | omega | exact ai_in _ _ _) only [rd_eq, rd_a, rd_k, up_eq, up_ne, g1]; omega, by simp (disch := first | omega | exact ai_in _ _ _) only [rd_eq, rd_a, rd_k, up_eq, up_ne, g2], by simp (disch := first | omega | exact ai_in _ _ _) only [rd_eq, rd_a, rd_k, up_eq, up_ne, g3], by simp (disch := first | omega | exact ai_in _ _ _) only [rd_eq, rd_a, rd_k, up_eq, up_ne, g4], by simp (disch := first | omega | exact ai_in _ _ _) only [rd_eq, rd_a, rd_k, up_eq, up_ne, g5], by simp (disch := first | omega | exact ai_in _ _ _) only [rd_eq, rd_a, rd_k, up_eq, up_ne, g6], by simp (disch := first | omega | exact ai_in _ _ _) only [rd_eq, rd_a, rd_k, up_eq, up_ne, g8]⟩
    · have := gs j h1 h3
      subst z9; subst z8; subst z7; subst z6; subst z5; subst z4; subst z3
      rcases (show j = 0 ∨ j = 1 ∨ j = 4 ∨ j = 2 ∨ j = 3 by omega) with z | z | z | z | z <;> subst z
      · simp (disch := first | omega | exact ai_in _ _ _) only [rd_eq, rd_a, rd_k, up_eq, up_ne, ]
      · simp (disch := first | omega | exact ai_in _ _ _) only [rd_eq, rd_a, rd_k, up_eq, up_ne, ]
      · simp (disch := first | omega | exact ai_in _ _ _) only [rd_eq, rd_a, rd_k, up_eq, up_ne, ]
      · simp (disch := first | omega | exact ai_in _ _ _) only [rd_eq, rd_a, rd_k, up_eq, up_ne, ]; exact this
      · simp (disch := first | omega | exact ai_in _ _ _) only [rd_eq, rd_a, rd_k, up_eq, up_ne, ]; exact this
end STA
