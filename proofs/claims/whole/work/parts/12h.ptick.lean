/-! DRONES: the class's tick as a whole -/
section PTI
variable {T N : Nat → Nat} {h h2 : PH} {w a b : Nat} {v u e e2 : Int → Int} {t : Int} {K : Int → PH → Prop} {KV : PH → Prop}
theorem d_holds {m n : Int} {S : Prop} (hm : In m) (hn : 0 ≤ n ∧ n < 32) (hS : mb m n.toNat = true ↔ S) (k1 : S → K 1 h) (k0 : ¬ S → K 0 h) : ZI T N 145 [vi (J m), vi (J n)] h K := by
  refine z145 hm (by omega) ?_
  rw [hold_z hn]
  by_cases c : mb m n.toNat = true
  · rw [if_pos c]; exact ⟨fun z => absurd z (by decide), fun _ => k1 (hS.mp c)⟩
  · rw [if_neg c]; exact ⟨fun _ => k0 fun z => c (hS.mpr z), fun z => absurd rfl z⟩
theorem d_endLeg (A : Asks T N h w a v) (I : Iv v) (D : DT T N h a) (O : drOK v t e) (ht : 0 ≤ t ∧ t ≤ 10100) (h2' : e 0 = 2) (g : DrD v h a e) (k : ∀ h2, Fp (fun x => a ≤ x ∧ x < a + 44) h h2 → DT T N h2 a → DrD v h2 a (finE v (t + 1) e) → K (lanE v (t + 1) e) h2) : ZI T N 33 [vr (some a), vr (some w), vi (J (t + 1))] h K := by
  obtain ⟨A1, A2, A3, A4, A5⟩ := A
  have bb := I.b
  have OO := O
  obtain ⟨⟨g0, g1, g2, g3, g4, g5, g6, g8⟩, gs, gl⟩ := id g
  obtain ⟨o0, o1, o2, o3, o4, o5, o6, o7, o8, o9, o10, o11, o12, os, oa, ob, oc, ol⟩ := O
  have o5' := oc h2'
  unfold finE lanE at k
  rw [if_neg (by omega), if_neg (by omega), if_pos h2'] at k
  refine z33 D.t A1.t (by omega) (d_legAt D (by omega) (by omega) (fun c b hb q1 q2 tb => ⟨fun z => by (cases z), fun b' eb => ?_⟩) (fun c => absurd (by omega) c))
  cases eb
  have L : LegD v h b (e 13) := gl 0 (by omega) (by omega) b hb
  obtain ⟨l0, l1, l2, l3, l4⟩ := L
  rw [l4]
  refine ⟨tb, fun c1 => ?_, fun c1 => ?_⟩
  · rw [if_pos c1] at k
    refine d_dropFirst D OO g o5'.1 fun h3 F3 D3 g3' => ?_
    intro h4 z4
    have F4 : Fp (fun x => a ≤ x ∧ x < a + 44) h h4 := by subst z4; exact F3.tr (Fp.pw (by omega))
    have D4 : DT T N h4 a := D3.to (by subst z4; rfl)
    have s5 : shE e 5 = e 5 - 1 := rfl
    have sh : ∀ j, 0 ≤ j → j < 13 → j ≠ 5 → shE e j = e j := fun j a1 a2 a3 => by unfold shE; rw [if_neg a3, if_neg (by omega)]
    have g4' : DrD v h4 a (up (shE e) 0 1) := by
      obtain ⟨⟨f0, f1, f2, f3, f4, f5, f6, f8⟩, fs, fl⟩ := id g3'
      refine DrD.fl D3 (by rw [s5]; omega) g3' (by subst z4; exact Fp.pw rfl) (by simp (disch := first | omega | exact ai_in _ _ _) only [rd_eq, rd_a, rd_k, up_eq, up_ne, ]; omega) (fun i h1 h2 => by simp (disch := first | omega | exact ai_in _ _ _) only [rd_eq, rd_a, rd_k, up_eq, up_ne, ]) ?_ fun j h1 h2 => by simp (disch := first | omega | exact ai_in _ _ _) only [rd_eq, rd_a, rd_k, up_eq, up_ne, ]
      subst z4
      exact ⟨by simp (disch := first | omega | exact ai_in _ _ _) only [rd_eq, rd_a, rd_k, up_eq, up_ne, ], by simp (disch := first | omega | exact ai_in _ _ _) only [rd_eq, rd_a, rd_k, up_eq, up_ne, f1], by simp (disch := first | omega | exact ai_in _ _ _) only [rd_eq, rd_a, rd_k, up_eq, up_ne, f2], by simp (disch := first | omega | exact ai_in _ _ _) only [rd_eq, rd_a, rd_k, up_eq, up_ne, f3], by simp (disch := first | omega | exact ai_in _ _ _) only [rd_eq, rd_a, rd_k, up_eq, up_ne, f4], by simp (disch := first | omega | exact ai_in _ _ _) only [rd_eq, rd_a, rd_k, up_eq, up_ne, f5], by simp (disch := first | omega | exact ai_in _ _ _) only [rd_eq, rd_a, rd_k, up_eq, up_ne, f6], by simp (disch := first | omega | exact ai_in _ _ _) only [rd_eq, rd_a, rd_k, up_eq, up_ne, f8]⟩
    have O4 := shE_OK OO h2'
    obtain ⟨⟨f0, f1, f2, f3, f4, f5, f6, f8⟩, fs, fl⟩ := id g4'
    rw [up_ne (by omega), sh 3 (by omega) (by omega) (by omega)] at f3
    rw [up_ne (by omega), sh 4 (by omega) (by omega) (by omega)] at f4
    rw [up_ne (by omega), s5] at f8
    rw [f3, f4, f8]
    have no : (0 < e 5 - 1 ∨ e 3 ≠ e 4 ∨ v (1 + e 3) ≠ 1) → K 0 h4 := fun c => by
      rw [if_pos c, if_neg (fun z => z.2.2 c)] at k; exact k h4 F4 D4 g4'
    have sw := F4.1 w (by omega)
    refine ⟨fun c2 => no (Or.inl c2), fun c2 => ⟨fun c3 => ?_, fun c3 => no (Or.inr (Or.inl (by omega)))⟩⟩
    rw [sw.ai]
    refine d_holds (S := e 3 < v 0 ∧ v (1 + e 3) = 1) (ai_in _ _ _) (by omega) ?_ (fun S => ⟨fun z => absurd z (by decide), fun _ => ?_⟩) (fun S => ⟨fun _ => no (Or.inr (Or.inr fun z => S ⟨o3.2, z⟩)), fun z => absurd rfl z⟩)
    · rw [A3 (e 3).toNat (by omega), show (((e 3).toNat : Nat) : Int) = e 3 by omega]
    · have c4 : ¬ (0 < e 5 - 1 ∨ e 3 ≠ e 4 ∨ v (1 + e 3) ≠ 1) := by omega
      rw [if_neg c4, if_pos ⟨h2', c1, c4⟩] at k
      refine d_land D4 O4 g4' fun h5 F5 g5 D5 => k h5 (F4.tr (F5.mo fun x z => by omega)) (D4.to g5) D5
  · rw [if_neg c1, if_neg (fun z => c1 z.2.1)] at k
    exact k h Fp.rf D g
theorem d_passTick (A : Asks T N h w a v) (I : Iv v) (D : DT T N h a) (O : drOK v t e) (ht : 0 ≤ t ∧ t ≤ 10000) (g : DrD v h a e) (k : ∀ h2, Fp (fun x => a ≤ x ∧ x < a + 44) h h2 → DT T N h2 a → DrD v h2 a (tickE v t e) → K (lanE v (t + 1) (stE v t e)) h2) : ZI T N 31 [vr (some a), vr (some w), vi (J t)] h K := by
  have AA := A
  refine z31 D.t (by omega) (d_startLeg A I D O (by omega) g fun h3 F3 g3 D3 => ?_)
  have O3 := stE_OK I O ht
  have DD : DT T N h3 a := D.to g3
  have A3 : Asks T N h3 w a v := AA.fr I (AA.1.to g3) fun b h1 h2 => F3.1 b (by have := AA.2.2.2.2; omega)
  have f0 := D3.1.1
  unfold tickE at k
  rw [f0]
  generalize stE v t e = f at *
  refine ⟨fun c => ?_, fun c => ⟨fun c2 => ?_, fun c2 => ⟨fun c3 => ?_, fun c3 => ?_⟩⟩⟩
  · refine d_charge DD O3 (by omega) D3 fun h4 F4 g4 D4 => ?_
    have := k h4 (F3.tr F4) (DD.to g4)
    unfold finE lanE at this
    rw [if_pos c, if_neg (fun z => by have := z.1; omega)] at this
    exact this D4
  · refine d_hover DD O3 (by omega) D3 fun h4 F4 g4 D4 => ?_
    have := k h4 (F3.tr F4) (DD.to g4)
    unfold finE lanE at this
    rw [if_neg c, if_pos c2, if_neg (fun z => by have := z.1; omega)] at this
    exact this D4
  · refine d_endLeg A3 I DD O3 (by omega) c3 D3 fun h4 F4 DT4 D4 => ⟨?_, k h4 (F3.tr F4) DT4 D4⟩
    unfold lanE
    split
    · exact Or.inr rfl
    · exact Or.inl rfl
  · have := k h3 F3 DD
    unfold finE lanE at this
    rw [if_neg c, if_neg c2, if_neg c3, if_neg (fun z => c3 z.1)] at this
    exact this D3
end PTI
