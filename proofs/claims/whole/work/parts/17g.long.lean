/-! TICKS IN THOUGHT, that may go on behind the last time -/
def Ix (v : Int → Int) : Prop :=
  (0 ≤ v 0 ∧ v 0 ≤ 10 ∧ 0 ≤ v 11 ∧ v 11 ≤ 16 ∧ 0 ≤ v 76 ∧ v 76 ≤ 10 ∧ 0 ≤ v 117 ∧ v 117 ≤ 6 ∧ 0 ≤ v 448 ∧ v 448 ≤ 10040) ∧
  (∀ n, 0 ≤ n → n < v 0 → v (1 + n) = 0 ∨ v (1 + n) = 1) ∧ (∀ c, 0 ≤ c → c < v 11 → corOK v c) ∧ (∀ f, 0 ≤ f → f < v 76 → fenOK v f) ∧ (∀ d, 0 ≤ d → d < v 117 → drOK v (v 448) (rc v d))
section RELx
variable {T N : Nat → Nat} {h : PH} {w a : Nat} {v u : Int → Int}
theorem Ix.b (I : Ix v) : 0 ≤ v 0 ∧ v 0 ≤ 10 ∧ 0 ≤ v 11 ∧ v 11 ≤ 16 ∧ 0 ≤ v 76 ∧ v 76 ≤ 10 ∧ 0 ≤ v 117 ∧ v 117 ≤ 6 ∧ 0 ≤ v 448 ∧ v 448 ≤ 10040 := I.1
theorem Ix.p (I : Ix v) {n : Int} (h1 : 0 ≤ n) (h2 : n < v 0) : v (1 + n) = 0 ∨ v (1 + n) = 1 := I.2.1 n h1 h2
theorem Ix.c (I : Ix v) {n : Int} (h1 : 0 ≤ n) (h2 : n < v 11) : corOK v n := I.2.2.1 n h1 h2
theorem Ix.f (I : Ix v) {n : Int} (h1 : 0 ≤ n) (h2 : n < v 76) : fenOK v n := I.2.2.2.1 n h1 h2
theorem Ix.d (I : Ix v) {n : Int} (h1 : 0 ≤ n) (h2 : n < v 117) : drOK v (v 448) (rc v n) := I.2.2.2.2 n h1 h2
theorem Iv.x (I : Iv v) : Ix v := ⟨by have := I.1; omega, I.2⟩
theorem Ix.iv (I : Ix v) (h : v 448 ≤ 10000) : Iv v := ⟨by have := I.1; omega, I.2⟩
end RELx
section NODx
variable {T N : Nat → Nat} {h h2 : PH} {w a b : Nat} {v u : Int → Int} {K : Int → PH → Prop} {KV : PH → Prop}
theorem Ix.fs (I : Ix v) (e11 : v 11 ≤ u 11) (e2 : ∀ j, 76 ≤ j → j < 117 → v j = u j) : ∀ d, 0 ≤ d → d < u 76 → fenOK u d := by
  intro d h1 h2
  have b := I.b
  have q := e2 76 (by omega) (by omega)
  have := I.f h1 (by omega)
  have x0 := e2 (77 + 4 * d + 0) (by omega) (by omega); have x1 := e2 (77 + 4 * d + 1) (by omega) (by omega); have x2 := e2 (77 + 4 * d + 2) (by omega) (by omega); have x3 := e2 (77 + 4 * d + 3) (by omega) (by omega)
  unfold fenOK at this ⊢
  omega
theorem Ix.cs (I : Ix v) (e0 : v 0 ≤ u 0) (e2 : ∀ j, 11 ≤ j → j < 76 → v j = u j) : ∀ d, 0 ≤ d → d < u 11 → corOK u d := by
  intro d h1 h2
  have b := I.b
  have q := e2 11 (by omega) (by omega)
  have := I.c h1 (by omega)
  have x0 := e2 (12 + 4 * d + 0) (by omega) (by omega); have x1 := e2 (12 + 4 * d + 1) (by omega) (by omega); have x2 := e2 (12 + 4 * d + 2) (by omega) (by omega); have x3 := e2 (12 + 4 * d + 3) (by omega) (by omega)
  unfold corOK at this ⊢
  omega
end NODx
section TOKx
variable {T N : Nat → Nat} {h h2 : PH} {w a b : Nat} {v u e e2 : Int → Int} {t : Int} {K : Int → PH → Prop} {KV : PH → Prop}
theorem stE_OKx (I : Ix v) (O : drOK v t e) (ht : 0 ≤ t ∧ t ≤ 10040) : drOK v t (stE v t e) := by
  obtain ⟨o0, o1, o2, o3, o4, o5, o6, o7, o8, o9, o10, o11, o12, os, oa, ob, oc, ol⟩ := id O
  unfold stE
  by_cases c : e 0 < 2 ∧ 0 < e 5 ∧ e 13 / 128 = t
  · rw [if_pos c]
    have LL : legOK v (e 13) := ol 0 (by omega) (by omega)
    have L2 := LL
    unfold legOK at L2
    have cO := I.c (n := e 13 % 16) (by omega) (by omega)
    have cb : 1 ≤ ownE v e ∧ ownE v e ≤ 27 := costV_b (x := e 13 / 16 % 2) cO
    have hb2 := chgE_b O LL
    unfold corOK at cO
    by_cases c2 : e 1 < chgE e + ownE v e
    · rw [if_pos c2]
      refine ⟨by first | (simp (disch := first | omega | exact ai_in _ _ _) only [rd_eq, rd_a, rd_k, up_eq, up_ne, ]; omega) | (intro _; simp (disch := first | omega | exact ai_in _ _ _) only [rd_eq, rd_a, rd_k, up_eq, up_ne, ]), by first | (simp (disch := first | omega | exact ai_in _ _ _) only [rd_eq, rd_a, rd_k, up_eq, up_ne, ]; omega) | (intro _; simp (disch := first | omega | exact ai_in _ _ _) only [rd_eq, rd_a, rd_k, up_eq, up_ne, ]), by first | (simp (disch := first | omega | exact ai_in _ _ _) only [rd_eq, rd_a, rd_k, up_eq, up_ne, ]; omega) | (intro _; simp (disch := first | omega | exact ai_in _ _ _) only [rd_eq, rd_a, rd_k, up_eq, up_ne, ]), by first | (simp (disch := first | omega | exact ai_in _ _ _) only [rd_eq, rd_a, rd_k, up_eq, up_ne, ]; omega) | (intro _; simp (disch := first | omega | exact ai_in _ _ _) only [rd_eq, rd_a, rd_k, up_eq, up_ne, ]), by first | (simp (disch := first | omega | exact ai_in _ _ _) only [rd_eq, rd_a, rd_k, up_eq, up_ne, ]; omega) | (intro _; simp (disch := first | omega | exact ai_in _ _ _) only [rd_eq, rd_a, rd_k, up_eq, up_ne, ]), by first | (simp (disch := first | omega | exact ai_in _ _ _) only [rd_eq, rd_a, rd_k, up_eq, up_ne, ]; omega) | (intro _; simp (disch := first | omega | exact ai_in _ _ _) only [rd_eq, rd_a, rd_k, up_eq, up_ne, ]), by first | (simp (disch := first | omega | exact ai_in _ _ _) only [rd_eq, rd_a, rd_k, up_eq, up_ne, ]; omega) | (intro _; simp (disch := first | omega | exact ai_in _ _ _) only [rd_eq, rd_a, rd_k, up_eq, up_ne, ]), by first | (simp (disch := first | omega | exact ai_in _ _ _) only [rd_eq, rd_a, rd_k, up_eq, up_ne, ]; omega) | (intro _; simp (disch := first | omega | exact ai_in _ _ _) only [rd_eq, rd_a, rd_k, up_eq, up_ne, ]), by first | (simp (disch := first | omega | exact ai_in _ _ _) only [rd_eq, rd_a, rd_k, up_eq, up_ne, ]; omega) | (intro _; simp (disch := first | omega | exact ai_in _ _ _) only [rd_eq, rd_a, rd_k, up_eq, up_ne, ]), by first | (simp (disch := first | omega | exact ai_in _ _ _) only [rd_eq, rd_a, rd_k, up_eq, up_ne, ]; omega) | (intro _; simp (disch := first | omega | exact ai_in _ _ _) only [rd_eq, rd_a, rd_k, up_eq, up_ne, ]), by first | (simp (disch := first | omega | exact ai_in _ _ _) only [rd_eq, rd_a, rd_k, up_eq, up_ne, ]; omega) | (intro _; simp (disch := first | omega | exact ai_in _ _ _) only [rd_eq, rd_a, rd_k, up_eq, up_ne, ]), by first | (simp (disch := first | omega | exact ai_in _ _ _) only [rd_eq, rd_a, rd_k, up_eq, up_ne, ]; omega) | (intro _; simp (disch := first | omega | exact ai_in _ _ _) only [rd_eq, rd_a, rd_k, up_eq, up_ne, ]), by first | (simp (disch := first | omega | exact ai_in _ _ _) only [rd_eq, rd_a, rd_k, up_eq, up_ne, ]; omega) | (intro _; simp (disch := first | omega | exact ai_in _ _ _) only [rd_eq, rd_a, rd_k, up_eq, up_ne, ]), by first | (simp (disch := first | omega | exact ai_in _ _ _) only [rd_eq, rd_a, rd_k, up_eq, up_ne, ]; omega) | (intro _; simp (disch := first | omega | exact ai_in _ _ _) only [rd_eq, rd_a, rd_k, up_eq, up_ne, ]), by first | (simp (disch := first | omega | exact ai_in _ _ _) only [rd_eq, rd_a, rd_k, up_eq, up_ne, ]; omega) | (intro _; simp (disch := first | omega | exact ai_in _ _ _) only [rd_eq, rd_a, rd_k, up_eq, up_ne, ]), by first | (simp (disch := first | omega | exact ai_in _ _ _) only [rd_eq, rd_a, rd_k, up_eq, up_ne, ]; omega) | (intro _; simp (disch := first | omega | exact ai_in _ _ _) only [rd_eq, rd_a, rd_k, up_eq, up_ne, ]), by first | (simp (disch := first | omega | exact ai_in _ _ _) only [rd_eq, rd_a, rd_k, up_eq, up_ne, ]; omega) | (intro _; simp (disch := first | omega | exact ai_in _ _ _) only [rd_eq, rd_a, rd_k, up_eq, up_ne, ]), fun i h1 h2 => ?_⟩
      rw [up_ne (by omega), up_eq rfl] at h2; omega
    · rw [if_neg c2]
      have hv : 0 ≤ v (12 + 4 * (e 13 % 16) + (1 - e 13 / 16 % 2)) ∧ v (12 + 4 * (e 13 % 16) + (1 - e 13 / 16 % 2)) < v 0 := by
        rcases (show e 13 / 16 % 2 = 0 ∨ e 13 / 16 % 2 = 1 by omega) with z | z <;> rw [z]
        · rw [show (1 : Int) - 0 = 1 from rfl]; exact cO.2.1
        · rw [show (1 : Int) - 1 = 0 from rfl]; exact cO.1
      have hend : endV v (e 13) = t + v (12 + 4 * (e 13 % 16) + 2) := by unfold endV; omega
      generalize hV : v (12 + 4 * (e 13 % 16) + (1 - e 13 / 16 % 2)) = V at hv ⊢
      generalize chgE e = C at *
      generalize ownE v e = W at *
      refine ⟨by first | (simp (disch := first | omega | exact ai_in _ _ _) only [rd_eq, rd_a, rd_k, up_eq, up_ne, ]; omega) | (intro _; simp (disch := first | omega | exact ai_in _ _ _) only [rd_eq, rd_a, rd_k, up_eq, up_ne, ]), by first | (simp (disch := first | omega | exact ai_in _ _ _) only [rd_eq, rd_a, rd_k, up_eq, up_ne, ]; omega) | (intro _; simp (disch := first | omega | exact ai_in _ _ _) only [rd_eq, rd_a, rd_k, up_eq, up_ne, ]), by first | (simp (disch := first | omega | exact ai_in _ _ _) only [rd_eq, rd_a, rd_k, up_eq, up_ne, ]; omega) | (intro _; simp (disch := first | omega | exact ai_in _ _ _) only [rd_eq, rd_a, rd_k, up_eq, up_ne, ]), by first | (simp (disch := first | omega | exact ai_in _ _ _) only [rd_eq, rd_a, rd_k, up_eq, up_ne, ]; omega) | (intro _; simp (disch := first | omega | exact ai_in _ _ _) only [rd_eq, rd_a, rd_k, up_eq, up_ne, ]), by first | (simp (disch := first | omega | exact ai_in _ _ _) only [rd_eq, rd_a, rd_k, up_eq, up_ne, ]; omega) | (intro _; simp (disch := first | omega | exact ai_in _ _ _) only [rd_eq, rd_a, rd_k, up_eq, up_ne, ]), by first | (simp (disch := first | omega | exact ai_in _ _ _) only [rd_eq, rd_a, rd_k, up_eq, up_ne, ]; omega) | (intro _; simp (disch := first | omega | exact ai_in _ _ _) only [rd_eq, rd_a, rd_k, up_eq, up_ne, ]), by first | (simp (disch := first | omega | exact ai_in _ _ _) only [rd_eq, rd_a, rd_k, up_eq, up_ne, ]; omega) | (intro _; simp (disch := first | omega | exact ai_in _ _ _) only [rd_eq, rd_a, rd_k, up_eq, up_ne, ]), by first | (simp (disch := first | omega | exact ai_in _ _ _) only [rd_eq, rd_a, rd_k, up_eq, up_ne, ]; omega) | (intro _; simp (disch := first | omega | exact ai_in _ _ _) only [rd_eq, rd_a, rd_k, up_eq, up_ne, ]), by first | (simp (disch := first | omega | exact ai_in _ _ _) only [rd_eq, rd_a, rd_k, up_eq, up_ne, ]; omega) | (intro _; simp (disch := first | omega | exact ai_in _ _ _) only [rd_eq, rd_a, rd_k, up_eq, up_ne, ]), by first | (simp (disch := first | omega | exact ai_in _ _ _) only [rd_eq, rd_a, rd_k, up_eq, up_ne, ]; omega) | (intro _; simp (disch := first | omega | exact ai_in _ _ _) only [rd_eq, rd_a, rd_k, up_eq, up_ne, ]), by first | (simp (disch := first | omega | exact ai_in _ _ _) only [rd_eq, rd_a, rd_k, up_eq, up_ne, ]; omega) | (intro _; simp (disch := first | omega | exact ai_in _ _ _) only [rd_eq, rd_a, rd_k, up_eq, up_ne, ]), by first | (simp (disch := first | omega | exact ai_in _ _ _) only [rd_eq, rd_a, rd_k, up_eq, up_ne, ]; omega) | (intro _; simp (disch := first | omega | exact ai_in _ _ _) only [rd_eq, rd_a, rd_k, up_eq, up_ne, ]), by first | (simp (disch := first | omega | exact ai_in _ _ _) only [rd_eq, rd_a, rd_k, up_eq, up_ne, ]; omega) | (intro _; simp (disch := first | omega | exact ai_in _ _ _) only [rd_eq, rd_a, rd_k, up_eq, up_ne, ]), by first | (simp (disch := first | omega | exact ai_in _ _ _) only [rd_eq, rd_a, rd_k, up_eq, up_ne, ]; omega) | (intro _; simp (disch := first | omega | exact ai_in _ _ _) only [rd_eq, rd_a, rd_k, up_eq, up_ne, ]), by first | (simp (disch := first | omega | exact ai_in _ _ _) only [rd_eq, rd_a, rd_k, up_eq, up_ne, ]; omega) | (intro _; simp (disch := first | omega | exact ai_in _ _ _) only [rd_eq, rd_a, rd_k, up_eq, up_ne, ]), by first | (simp (disch := first | omega | exact ai_in _ _ _) only [rd_eq, rd_a, rd_k, up_eq, up_ne, ]; omega) | (intro _; simp (disch := first | omega | exact ai_in _ _ _) only [rd_eq, rd_a, rd_k, up_eq, up_ne, ]), by first | (simp (disch := first | omega | exact ai_in _ _ _) only [rd_eq, rd_a, rd_k, up_eq, up_ne, ]; omega) | (intro _; simp (disch := first | omega | exact ai_in _ _ _) only [rd_eq, rd_a, rd_k, up_eq, up_ne, ]), fun i h1 h2 => ?_⟩
      have e5 : up (up (up (up (up (up (up e 1 (e 1 - C - W)) 7 (e 7 + W)) 8 (e 8 + C)) 11 (e 11 + 1)) 0 2) 2 (e 13 / 32 % 4)) 3 V 5 = e 5 := by simp (disch := first | omega | exact ai_in _ _ _) only [rd_eq, rd_a, rd_k, up_eq, up_ne, ]
      rw [e5] at h2
      have := ol i h1 h2
      have eq : up (up (up (up (up (up (up e 1 (e 1 - C - W)) 7 (e 7 + W)) 8 (e 8 + C)) 11 (e 11 + 1)) 0 2) 2 (e 13 / 32 % 4)) 3 V (13 + i) = e (13 + i) := by simp (disch := first | omega | exact ai_in _ _ _) only [rd_eq, rd_a, rd_k, up_eq, up_ne, ]
      rw [eq]; exact this
  · rw [if_neg c]; exact O
theorem tickE_OKx (I : Ix v) (O : drOK v t e) (ht : 0 ≤ t ∧ t ≤ 10040) : drOK v (t + 1) (tickE v t e) := finE_OK (stE_OKx I O ht)
end TOKx
section PTIx
variable {T N : Nat → Nat} {h h2 : PH} {w a b : Nat} {v u e e2 : Int → Int} {t : Int} {K : Int → PH → Prop} {KV : PH → Prop}
theorem d_passTickx (A : Asks T N h w a v) (I : Iv v) (D : DT T N h a) (O : drOK v t e) (ht : 0 ≤ t ∧ t ≤ 10040) (g : DrD v h a e) (k : ∀ h2, Fp (fun x => a ≤ x ∧ x < a + 44) h h2 → DT T N h2 a → DrD v h2 a (tickE v t e) → K (lanE v (t + 1) (stE v t e)) h2) : ZI T N 31 [vr (some a), vr (some w), vi (J t)] h K := by
  have AA := A
  refine z31 D.t (by omega) (d_startLeg A I D O (by omega) g fun h3 F3 g3 D3 => ?_)
  have O3 := stE_OKx I.x O ht
  have DD : DT T N h3 a := D.to g3
  have A3 : Asks T N h3 w a v := AA.fr I (AA.1.to g3) fun b h1 h2 => F3.1 b (by have := AA.2.2.2.2; omega)
  have f0 := D3.1.1
  unfold tickE at k
  rw [f0]
  generalize stE v t e = f at *
  refine ⟨fun c => ?_, fun c => ⟨fun c2 => ?_, fun c2 => ⟨fun c3 => ?_, fun c3 => ?_⟩⟩⟩
  · refine d_charge DD O3 (by omega) D3 fun h4 F4 g4 D4 => ?_
    have := k h4 (F3.tr F4) (DD.to g4)
    unfold finE lanE at this
    rw [if_pos c, if_neg (fun z => by have := z.1; omega)] at this
    exact this D4
  · refine d_hover DD O3 (by omega) D3 fun h4 F4 g4 D4 => ?_
    have := k h4 (F3.tr F4) (DD.to g4)
    unfold finE lanE at this
    rw [if_neg c, if_pos c2, if_neg (fun z => by have := z.1; omega)] at this
    exact this D4
  · refine d_endLeg A3 I DD O3 (by omega) c3 D3 fun h4 F4 DT4 D4 => ⟨?_, k h4 (F3.tr F4) DT4 D4⟩
    unfold lanE
    split
    · exact Or.inr rfl
    · exact Or.inl rfl
  · have := k h3 F3 DD
    unfold finE lanE at this
    rw [if_neg c, if_neg c2, if_neg c3, if_neg (fun z => c3 z.1)] at this
    exact this D3
end PTIx
section TKSx
variable {T N : Nat → Nat} {h h2 : PH} {w a b : Nat} {v u e e2 : Int → Int} {t : Int} {K : Int → PH → Prop} {KV : PH → Prop}
theorem tick1_Ivx (I : Ix v) (ht : v 448 < 10040) : Ix (tick1 v) := by
  have b := I.b
  have e0 := tick1_lo (v := v) (j := 0) (by omega); have e11 := tick1_lo (v := v) (j := 11) (by omega); have e76 := tick1_lo (v := v) (j := 76) (by omega); have e117 := tick1_lo (v := v) (j := 117) (by omega)
  have e448 : tick1 v 448 = v 448 + 1 := rfl
  refine ⟨by omega, fun n h1 h2 => ?_, I.cs (by omega) (fun j a1 a2 => (tick1_lo (by omega)).symm), I.fs (by omega) (fun j a1 a2 => (tick1_lo (by omega)).symm), fun d h1 h2 => ?_⟩
  · rw [tick1_lo (by omega)]; exact I.p h1 (by omega)
  · rw [e448]
    exact drOK_cg (by omega) (by omega) (fun j a1 a2 a3 => (tick1_lo (by omega)).symm) (fun j a1 a2 => (tick1_rc ⟨h1, by omega⟩ ⟨a1, a2⟩ (by omega)).symm) (tickE_OKx I (I.d h1 (by omega)) (by omega))
theorem tickN_Ivx (I : Ix v) : ∀ n : Nat, v 448 + n ≤ 10040 → Ix (tickN v n) ∧ tickN v n 448 = v 448 + n ∧ (∀ j, j < 118 → tickN v n j = v j)
  | 0, _ => ⟨I, by show v 448 = _; omega, fun _ _ => rfl⟩
  | n + 1, hn => by
    obtain ⟨I1, e1, e2⟩ := tickN_Ivx I n (by omega)
    refine ⟨tick1_Ivx I1 (by omega), ?_, fun j hj => ?_⟩
    · show tickN v n 448 + 1 = _; omega
    · show tick1 (tickN v n) j = _; rw [tick1_lo hj]; exact e2 j hj
end TKSx
section RTSx
variable {T N : Nat → Nat} {A a b : Nat} {h h2 h3 : PH} {u v e e2 : Int → Int} {d t : Int} {K : Int → PH → Prop} {KV : PH → Prop}
theorem r_costDx (R : RT T N A h) (V : Rv A h (putD u d e)) (I : Ix v) (s : ∀ j, 0 ≤ j → j < 118 → u j = v j) (hd : 0 ≤ d ∧ d < 6) {c x : Int} (hc : 0 ≤ c ∧ c < v 11) (hx : In x) (k : K (costV v c x) h) : ZI T N 167 [vr (some A), vi (J c), vi (J x)] h K := by
  have b := I.b
  have cO := I.c hc.1 hc.2
  have q : ∀ j, 0 ≤ j → j < 118 → ai h (A + 1) j = v j := fun j a1 a2 => by rw [V j a1 (by omega), putD_lo hd.1 a2]; exact s j a1 a2
  have q2 := q (12 + 4 * c + 2) (by omega) (by omega)
  have q3 := q (12 + 4 * c + 3) (by omega) (by omega)
  unfold corOK at cO
  exact r_costs R (by omega) hx (by omega) (by rw [costV_cg (by omega) q]; exact k)
theorem r_endDx (R : RT T N A h) (V : Rv A h (putD u d e)) (I : Ix v) (s : ∀ j, 0 ≤ j → j < 118 → u j = v j) (hd : 0 ≤ d ∧ d < 6) {x : Int} (hx : legOK v x) (k : K (endV v x) h) : ZI T N 191 [vr (some A), vi (J x)] h K := by
  have b := I.b
  unfold legOK at hx
  have cO := I.c (n := x % 16) (by omega) (by omega)
  have q : ∀ j, 0 ≤ j → j < 118 → ai h (A + 1) j = v j := fun j a1 a2 => by rw [V j a1 (by omega), putD_lo hd.1 a2]; exact s j a1 a2
  have q2 := q (12 + 4 * (x % 16) + 2) (by omega) (by omega)
  unfold corOK at cO
  exact r_eOf R (by omega) (by omega) (by rw [endV_cg2 q]; exact k)
theorem r_startsx (R : RT T N A h) (V : Rv A h (putD u d e)) (I : Ix v) (s : ∀ j, 0 ≤ j → j < 118 → u j = v j) (hd : 0 ≤ d ∧ d < 6) (O : drOK v t e) (ht : t ≤ 10100) (h5 : 0 < e 5) (k : ∀ h2, RT T N A h2 → FR (Vw A) h h2 → Rv A h2 (putD u d (stB v e)) → KV h2) : CV T N 227 [vr (some A), vi (J d)] h KV := by
  have bb := I.b
  obtain ⟨o0, o1, o2, o3, o4, o5, o6, o7, o8, o9, o10, o11, o12, os, oa, ob, oc, ol⟩ := id O
  have LL : legOK v (e 13) := ol 0 (by omega) (by omega)
  have L2 := LL
  unfold legOK at L2
  have cO := I.c (n := e 13 % 16) (by omega) (by omega)
  have hown : 1 ≤ ownE v e ∧ ownE v e ≤ 27 := costV_b (x := e 13 / 16 % 2) cO
  have hchg := chgE_b O LL
  have eH : (if e 13 / 32 % 4 - e 2 < 0 then -(e 13 / 32 % 4 - e 2) else e 13 / 32 % 4 - e 2) = chgE e := rfl
  have e7 : e 7 ≤ 100000 := by omega
  have e8 : e 8 ≤ 100000 := by omega
  clear oa ob oc os
  unfold stB at k
  refine z227 R.t (by omega) (r_legD R V hd (by omega) ?_)
  rw [show (13 : Int) + 0 = 13 from rfl]
  refine r_lOf (by omega) (r_ofD R V hd (by omega) (r_abs (by omega) ?_))
  rw [eH]
  refine r_cOf (by omega) (r_wOf (by omega) (r_costDx R V I s hd (by omega) (by omega) (r_ofD R V hd (by omega) ?_)))
  rw [show costV v (e 13 % 16) (e 13 / 16 % 2) = ownE v e from rfl]
  clear eH
  generalize hC : chgE e = C at *
  generalize hW : ownE v e = W at *
  · skip
    refine ⟨by omega, fun c => ?_, fun c => ?_⟩
    · rw [if_pos (by omega)] at k
      exact r_setD R V hd (by omega) (by omega) fun h3 R3 F3 V3 => r_setD R3 V3 hd (by omega) (by omega) fun h4 R4 F4 V4 => k h4 R4 (F3.tr F4) V4
    · rw [if_neg (by omega)] at k
      refine r_ofD R V hd (by omega) (r_setD R V hd (by omega) (by omega) fun h3 R3 F3 V3 => r_ofD R3 V3 hd (by omega) ?_)
      rw [up_ne (by omega)]
      refine r_setD R3 V3 hd (by omega) (by omega) fun h4 R4 F4 V4 => r_ofD R4 V4 hd (by omega) ?_
      rw [up_ne (by omega), up_ne (by omega)]
      refine r_setD R4 V4 hd (by omega) (by omega) fun h5 R5 F5 V5 => r_ofD R5 V5 hd (by omega) ?_
      rw [up_ne (by omega), up_ne (by omega), up_ne (by omega)]
      refine r_setD R5 V5 hd (by omega) (by omega) fun h6 R6 F6 V6 => r_setD R6 V6 hd (by omega) (by omega) fun h7 R7 F7 V7 => r_lOf (by omega) (r_setD R7 V7 hd (by omega) (by omega) fun h8 R8 F8 V8 => r_cOf (by omega) (r_wOf (by omega) (r_end R8 (by omega) (by omega) ?_)))
      rw [V8 _ (by omega) (by omega), putD_lo hd.1 (by omega), s _ (by omega) (by omega)]
      have hv : In (v (12 + 4 * (e 13 % 16) + (1 - e 13 / 16 % 2))) := by
        unfold corOK at cO
        rcases (show e 13 / 16 % 2 = 0 ∨ e 13 / 16 % 2 = 1 by omega) with z | z <;> rw [z]
        · rw [show (1 : Int) - 0 = 1 from rfl]; omega
        · rw [show (1 : Int) - 1 = 0 from rfl]; omega
      exact r_setD R8 V8 hd (by omega) hv fun h9 R9 F9 V9 => k h9 R9 (((((((F3.tr F4).tr F5).tr F6).tr F7).tr F8)).tr F9) V9
theorem r_endsx (R : RT T N A h) (V : Rv A h (putD u d e)) (I : Ix v) (s : ∀ j, 0 ≤ j → j < 118 → u j = v j) (hd : 0 ≤ d ∧ d < 6) (O : drOK v t e) (ht : t ≤ 10100) (h0 : e 0 = 2) (hl : 0 ≤ ai h A 23 ∧ ai h A 23 ≤ 100000) (hu : u 448 = t + 1) (k : ∀ h2, RT T N A h2 → FR (Tw A) h h2 → Rv A h2 (putD u d (finE v (t + 1) e)) → ai h2 A 23 = ai h A 23 + lanE v (t + 1) e → KV h2) : CV T N 228 [vr (some A), vi (J d)] h KV := by
  have bb := I.b
  have n1 := R.a1.2.1
  have OO := O
  obtain ⟨o0, o1, o2, o3, o4, o5, o6, o7, o8, o9, o10, o11, o12, os, oa, ob, oc, ol⟩ := O
  have o5' := oc h0
  have LL : legOK v (e 13) := ol 0 (by omega) (by omega)
  unfold finE lanE at k
  rw [if_neg (by omega), if_neg (by omega), if_pos h0] at k
  have nx : ∀ {g g2 : PH}, FR (fun b k => b = A + 1) g g2 → FR (Tw A) g g2 := fun F => F.mo fun b k z => Or.inl z
  have set1 : ∀ {g : PH} {f : Int → Int} {w x : Int} {KK : PH → Prop}, RT T N A g → Rv A g (putD u d f) → 0 ≤ w ∧ w < 55 → In x → (∀ g2, RT T N A g2 → FR (fun b k => b = A + 1) g g2 → Rv A g2 (putD u d (up f w x)) → KK g2) → CV T N 169 [vr (some A), vi (J d), vi (J w), vi (J x)] g KK := fun R V hw hx kk => r_sets R hd hw hx (kk _ (R.to rfl) (FR.pw rfl) (by rw [← putD_up hw]; exact V.w (by omega) hx))
  refine z228 R.t (by omega) (r_legD R V hd (by omega) (r_endDx R V I s hd LL ⟨A + 1, R.a1.2.2, R.a1.1, by omega, ?_⟩))
  rw [V 448 (by omega) (by omega), putD_hi hd.2 (by omega), hu]
  refine ⟨fun c => ?_, fun c => ?_⟩
  rotate_left
  · have c' : ¬ endV v (e 13) = t + 1 := c
    rw [if_neg c', if_neg (fun z => c' z.2.1)] at k
    exact k h R FR.rf V (by omega)
  have c' : endV v (e 13) = t + 1 := c
  rw [if_pos c'] at k
  refine r_ofD R V hd (by omega) (set1 R V (by omega) (by omega) fun h3 R3 F3 V3 => ?_)
  have loop : ∀ (n : Nat) (i : Int) (h4 : PH), i = e 5 - 1 - n → 0 ≤ i → RT T N A h4 → FR (fun b k => b = A + 1) h h4 → Rv A h4 (putD u d (drE e i)) → WV T N 228 38 [some (vr (some A)), some (vi (J d)), some (vi (J i))] [] h4 KV := by
    intro n
    induction n with
    | zero =>
      intro i h4 hi h0i R4 F4 V4
      have ei : i = e 5 - 1 := by omega
      subst ei
      have V4' : Rv A h4 (putD u d (shE e)) := V4
      have s5 : shE e 5 = e 5 - 1 := rfl
      have sh : ∀ j, 0 ≤ j → j < 13 → j ≠ 5 → shE e j = e j := fun j a1 a2 a3 => by unfold shE; rw [if_neg a3, if_neg (by omega)]
      refine z228_38 R.t (by omega) (by omega) (r_ofD R4 V4' hd (by omega) ⟨fun c => absurd c (by rw [s5]; omega), fun c => ?_⟩)
      refine set1 R4 V4' (by omega) (by omega) fun h5 R5 F5 V5 => r_ofD R5 V5 hd (by omega) ?_
      have n1' := R5.a1.2.1
      rw [up_ne (by omega), s5]
      have l5 : ai h5 A 23 = ai h A 23 := (F4.tr F5).ai (by omega)
      have no : (0 < e 5 - 1 ∨ e 3 ≠ e 4 ∨ v (1 + e 3) ≠ 1) → KV h5 := fun c => by
        rw [if_pos c, if_neg (fun z => z.2.2 c)] at k; exact k h5 R5 (nx (F4.tr F5)) V5 (by omega)
      refine ⟨fun c2 => no (Or.inl c2), fun c2 => r_ofD R5 V5 hd (by omega) (r_ofD R5 V5 hd (by omega) ?_)⟩
      rw [up_ne (by omega), sh 3 (by omega) (by omega) (by omega), up_ne (by omega), sh 4 (by omega) (by omega) (by omega)]
      refine ⟨fun c3 => r_ofD R5 V5 hd (by omega) ?_, fun c3 => no (Or.inr (Or.inl c3))⟩
      rw [up_ne (by omega), sh 3 (by omega) (by omega) (by omega)]
      refine ⟨A + 1, R5.a1.2.2, R5.a1.1, by omega, ?_⟩
      rw [V5 _ (by omega) (by omega), putD_lo hd.1 (by omega), s _ (by omega) (by omega)]
      have pv := I.p (n := e 3) (by omega) (by omega)
      refine ⟨fun c4 => no (Or.inr (Or.inr (by omega))), fun c4 => ?_⟩
      have c5 : ¬ (0 < e 5 - 1 ∨ e 3 ≠ e 4 ∨ v (1 + e 3) ≠ 1) := by omega
      rw [if_neg c5, if_pos ⟨h0, c', c5⟩] at k
      refine z214 R5.t (by omega) (set1 R5 V5 (by omega) (by omega) fun h6 R6 F6 V6 => set1 R6 V6 (by omega) (by omega) fun h7 R7 F7 V7 => ?_)
      have l7 : ai h7 A 23 = ai h A 23 := (((F4.tr F5).tr F6).tr F7).ai (by omega)
      intro h8 z8
      rw [l7] at z8
      have F8 : FR (Tw A) h h8 := by subst z8; exact (nx (((F4.tr F5).tr F6).tr F7)).tr (FR.pw (Or.inr ⟨rfl, rfl⟩))
      refine k h8 (R.fr F8) F8 ?_ ?_
      · exact V7.fr (by subst z8; exact FR.pw (Or.inl ⟨rfl, by decide⟩))
      · subst z8; exact rd_eq rfl rfl (by omega)
    | succ n ih =>
      intro i h4 hi h0i R4 F4 V4
      refine z228_38 R.t (by omega) (by omega) (r_ofD R4 V4 hd (by omega) ⟨fun c => ?_, fun c => absurd (show i < e 5 - 1 by omega) c⟩)
      have q : drE e i (13 + (i + 1)) = e (13 + (i + 1)) := by unfold drE; rw [if_neg (by omega), if_neg (by omega)]
      have lq := ol (i + 1) (by omega) (by omega)
      unfold legOK at lq
      refine r_legD R4 V4 hd (by omega) ?_
      rw [q]
      refine set1 R4 V4 (by omega) (by omega) fun h5 R5 F5 V5 => ih (i + 1) h5 (by omega) (by omega) R5 (F4.tr F5) (V5.cg fun j a1 a2 => ?_)
      unfold putD up drE
      by_cases c2 : 118 + 55 * d ≤ j ∧ j < 118 + 55 * d + 55
      · rw [if_pos c2, if_pos c2]
        by_cases c3 : j - 118 - 55 * d = 13 + i
        · rw [if_pos c3, if_neg (by omega), if_pos (by omega)]; congr 1; omega
        · rw [if_neg c3]
          by_cases c4 : j - 118 - 55 * d = 5
          · rw [if_pos c4, if_pos c4]
          · rw [if_neg c4, if_neg c4]
            by_cases c5 : 13 ≤ j - 118 - 55 * d ∧ j - 118 - 55 * d < 13 + i
            · rw [if_pos c5, if_pos (by omega)]
            · rw [if_neg c5, if_neg (by omega)]
      · rw [if_neg c2, if_neg c2]
  refine loop (e 5 - 1).toNat 0 h3 (by omega) (by omega) R3 F3 (V3.cg fun j a1 a2 => ?_)
  unfold putD up drE
  by_cases c2 : 118 + 55 * d ≤ j ∧ j < 118 + 55 * d + 55
  · rw [if_pos c2, if_pos c2]
    by_cases c4 : j - 118 - 55 * d = 5
    · rw [if_pos c4, if_pos c4]
    · rw [if_neg c4, if_neg c4, if_neg (by omega)]
  · rw [if_neg c2, if_neg c2]
end RTSx
section RPSx
variable {T N : Nat → Nat} {A a b : Nat} {h h2 h3 : PH} {u v e e2 g : Int → Int} {f : Int → Int → Int} {d t n : Int} {K : Int → PH → Prop} {KV : PH → Prop}
theorem mid_endx (I : Ix v) : ∀ j, 0 ≤ j → j < 449 → mx (tkM v (v 448)) (midV v) (v 117) j = tick1 v j := by
  have b := I.b
  intro j h1 h2
  unfold mx tick1
  by_cases c : j = 448
  · rw [if_neg (by omega), if_pos c]; subst c; rfl
  · rw [if_neg c]
    by_cases c2 : 118 ≤ j ∧ j < 118 + 55 * v 117
    · rw [if_pos c2, if_pos c2]; rfl
    · rw [if_neg c2, if_neg c2]
      unfold midV up
      rw [if_neg c]
      unfold mx; rw [if_neg c2]
theorem r_fin_loopx (I : Ix v) (ht : v 448 < 10040) {x1 x2 L : Int} (hx1 : In x1) (hx2 : In x2) (hL : 0 ≤ L ∧ L ≤ 90000)
    (k : ∀ h2, RT T N A h2 → FR (Tw A) h h2 → Rv A h2 (tick1 v) → ai h2 A 23 = L + sumI (lan1 v) (v 117).toNat → WV T N 231 7 [some (vr (some A)), some (vi (J x1)), some (vi (J (x2 + 1))), none] [] h2 KV) :
    ∀ (n : Nat) (i : Nat) (h3 : PH), (i : Int) = v 117 - n → RT T N A h3 → FR (Tw A) h h3 → Rv A h3 (mx (tkM v (v 448)) (midV v) i) → ai h3 A 23 = L + sumI (lan1 v) i → WV T N 231 89 [some (vr (some A)), some (vi (J x1)), some (vi (J x2)), some (vi (J (i : Int)))] [] h3 KV := by
  have b := I.b
  intro n
  induction n with
  | zero =>
    intro i h3 hi R F V L3
    have n1 := R.a1.2.1
    have e117 : ai h3 (A + 1) 117 = v 117 := by rw [V _ (by omega) (by omega), mx_lo (by omega)]; unfold midV; rw [up_ne (by omega), mx_lo (by omega)]
    refine z231_89 R.t hx1 hx2 (by omega) ⟨A + 1, R.a1.2.2, R.a1.1, by omega, fun c => by omega, fun c => ?_⟩
    refine k h3 R F (V.cg fun j a1 a2 => by rw [hi, ← mid_endx I j a1 a2]; simp) ?_
    rw [L3, show i = (v 117).toNat by omega]
  | succ n ih =>
    intro i h3 hi R F V L3
    have sb := sumI_b (f := lan1 v) (fun n => lanE_b) i
    have n1 := R.a1.2.1
    have e117 : ai h3 (A + 1) 117 = v 117 := by rw [V _ (by omega) (by omega), mx_lo (by omega)]; unfold midV; rw [up_ne (by omega), mx_lo (by omega)]
    have hd : 0 ≤ (i : Int) ∧ (i : Int) < 6 := by omega
    have O := stE_OKx I (I.d (n := i) (by omega) (by omega)) (t := v 448) (by omega)
    have V2 : Rv A h3 (putD (mx (tkM v (v 448)) (midV v) i) i (stM v (v 448) i)) := V.cg fun j a1 a2 => mx_put (by omega) (fun k h1 h2 => by
      unfold midV; rw [up_ne (by omega), mx_at ⟨by omega, by omega⟩ ⟨h1, h2⟩]) j
    have st : ∀ j, 0 ≤ j → j < 118 → mx (tkM v (v 448)) (midV v) i j = v j := fun j a1 a2 => by rw [mx_lo a2]; unfold midV; rw [up_ne (by omega), mx_lo a2]
    have m448 : mx (tkM v (v 448)) (midV v) i 448 = v 448 + 1 := by rw [mx_hi (by omega) (by omega)]; unfold midV; rw [up_eq rfl]
    have sI : sumI (lan1 v) (i + 1) = sumI (lan1 v) i + lanE v (v 448 + 1) (stM v (v 448) i) := rfl
    have tk : tkM v (v 448) i = finE v (v 448 + 1) (stM v (v 448) i) := rfl
    have next : ∀ h4, RT T N A h4 → FR (Tw A) h3 h4 → Rv A h4 (putD (mx (tkM v (v 448)) (midV v) i) i (finE v (v 448 + 1) (stM v (v 448) i))) → ai h4 A 23 = ai h3 A 23 + lanE v (v 448 + 1) (stM v (v 448) i) → WV T N 231 89 [some (vr (some A)), some (vi (J x1)), some (vi (J x2)), some (vi (J ((i : Int) + 1)))] [] h4 KV := by
      intro h4 R4 F4 V4 L4
      have := ih (i + 1) h4 (by omega) R4 (F.tr F4) (V4.cg fun j a1 a2 => by
        have q := mx_step (f := tkM v (v 448)) (g := midV v) (n := (i : Int)) (e := finE v (v 448 + 1) (stM v (v 448) i)) (by omega) (fun k _ _ => by rw [tk]) j
        rw [show ((i + 1 : Nat) : Int) = (i : Int) + 1 by omega]; exact q) (by rw [sI, L4, L3]; omega)
      rw [show ((i + 1 : Nat) : Int) = (i : Int) + 1 by omega] at this
      exact this
    have hO : drOK v (v 448) (stM v (v 448) i) := O
    generalize stM v (v 448) i = f at *
    refine z231_89 R.t hx1 hx2 (by omega) ⟨A + 1, R.a1.2.2, R.a1.1, by omega, fun c => ?_, fun c => absurd (by omega) c⟩
    refine r_ofD R V2 hd (by omega) ⟨fun c0 => ?_, fun c0 => ⟨fun c1 => ?_, fun c1 => ⟨fun c2 => ?_, fun c2 => ?_⟩⟩⟩
    · refine r_charges R V2 hd hO (by omega) fun h4 R4 F4 V4 => next h4 R4 F4.tw ?_ ?_
      · unfold finE; rw [if_pos c0]; exact V4
      · rw [frA F4]; unfold lanE; rw [if_neg (fun z => by have := z.1; omega)]; omega
    · refine r_hovers R V2 hd hO (by omega) fun h4 R4 F4 V4 => next h4 R4 F4.tw ?_ ?_
      · unfold finE; rw [if_neg c0, if_pos c1]; exact V4
      · rw [frA F4]; unfold lanE; rw [if_neg (fun z => by have := z.1; omega)]; omega
    · exact r_endsx R V2 I st hd hO (by omega) c2 (by omega) m448 fun h4 R4 F4 V4 L4 => next h4 R4 F4 V4 L4
    · refine next h3 R FR.rf ?_ ?_
      · unfold finE; rw [if_neg c0, if_neg c1, if_neg c2]; exact V2
      · unfold lanE; rw [if_neg (fun z => c2 z.1)]; omega
theorem r_st_loopx (I : Ix v) (ht : v 448 < 10040) {x1 x2 : Int} (hx1 : In x1) (hx2 : In x2)
    (k : ∀ h2, RT T N A h2 → FR (Vw A) h h2 → Rv A h2 (midV v) → WV T N 231 89 [some (vr (some A)), some (vi (J x1)), some (vi (J x2)), some (vi (J 0))] [] h2 KV) :
    ∀ (n : Nat) (i : Nat) (h3 : PH), (i : Int) = v 117 - n → RT T N A h3 → FR (Vw A) h h3 → Rv A h3 (mx (stM v (v 448)) v i) → WV T N 231 14 [some (vr (some A)), some (vi (J x1)), some (vi (J x2)), some (vi (J (i : Int)))] [] h3 KV := by
  have b := I.b
  intro n
  induction n with
  | zero =>
    intro i h3 hi R F V
    have n1 := R.a1.2.1
    have e117 : ai h3 (A + 1) 117 = v 117 := by rw [V _ (by omega) (by omega), mx_lo (by omega)]
    have e448 : ai h3 (A + 1) 448 = v 448 := by rw [V _ (by omega) (by omega), mx_hi (by omega) (by omega)]
    refine z231_14 R.t hx1 hx2 (by omega) ⟨A + 1, R.a1.2.2, R.a1.1, by omega, fun c => by omega, fun c => ⟨A + 1, R.a1.2.2, R.a1.1, by omega, ?_⟩⟩
    intro h4 z4
    rw [e448] at z4
    subst z4
    refine k _ (R.to rfl) (F.tr (FR.pw rfl)) ?_
    have := V.w (i := 448) (x := v 448 + 1) (by omega) (by omega)
    unfold midV
    rw [show v 117 = (i : Int) by omega]; exact this
  | succ n ih =>
    intro i h3 hi R F V
    have n1 := R.a1.2.1
    have e117 : ai h3 (A + 1) 117 = v 117 := by rw [V _ (by omega) (by omega), mx_lo (by omega)]
    have e448 : ai h3 (A + 1) 448 = v 448 := by rw [V _ (by omega) (by omega), mx_hi (by omega) (by omega)]
    have hd : 0 ≤ (i : Int) ∧ (i : Int) < 6 := by omega
    have O := I.d (n := i) (by omega) (by omega)
    have V2 : Rv A h3 (putD (mx (stM v (v 448)) v i) i (rc v i)) := V.cg fun j a1 a2 => mx_put (by omega) (fun k h1 h2 => rfl) j
    have st : ∀ j, 0 ≤ j → j < 118 → mx (stM v (v 448)) v i j = v j := fun j a1 a2 => mx_lo a2
    have next : ∀ h4, RT T N A h4 → FR (Vw A) h3 h4 → Rv A h4 (putD (mx (stM v (v 448)) v i) i (stM v (v 448) i)) → WV T N 231 14 [some (vr (some A)), some (vi (J x1)), some (vi (J x2)), some (vi (J ((i : Int) + 1)))] [] h4 KV := by
      intro h4 R4 F4 V4
      have := ih (i + 1) h4 (by omega) R4 (F.tr F4) (V4.cg fun j a1 a2 => by
        have q := mx_step (f := stM v (v 448)) (g := v) (n := (i : Int)) (e := stM v (v 448) i) (by omega) (fun k _ _ => rfl) j
        rw [show ((i + 1 : Nat) : Int) = (i : Int) + 1 by omega]; exact q)
      rw [show ((i + 1 : Nat) : Int) = (i : Int) + 1 by omega] at this
      exact this
    have no : ¬ (rc v i 0 < 2 ∧ 0 < rc v i 5 ∧ rc v i 13 / 128 = v 448) → WV T N 231 14 [some (vr (some A)), some (vi (J x1)), some (vi (J x2)), some (vi (J ((i : Int) + 1)))] [] h3 KV := fun c =>
      next h3 R FR.rf (by unfold stM; rw [stE_n c]; exact V2)
    refine z231_14 R.t hx1 hx2 (by omega) ⟨A + 1, R.a1.2.2, R.a1.1, by omega, fun c => ?_, fun c => absurd (by omega) c⟩
    refine r_ofD R V2 hd (by omega) ⟨fun c0 => r_ofD R V2 hd (by omega) ⟨fun c1 => r_legD R V2 hd (by omega) ?_, fun c1 => no fun z => c1 z.2.1⟩, fun c0 => no fun z => c0 z.1⟩
    rw [show (13 : Int) + 0 = 13 from rfl]
    have L2 : legOK v (rc v i 13) := O.2.2.2.2.2.2.2.2.2.2.2.2.2.2.2.2.2 0 (by omega) c1
    unfold legOK at L2
    refine r_sOf (by omega) ⟨A + 1, R.a1.2.2, R.a1.1, by omega, fun c2 => ?_, fun c2 => no fun z => c2 (by rw [e448]; exact z.2.2)⟩
    rw [e448] at c2
    refine r_startsx R V2 I st hd O (by omega) c1 fun h4 R4 F4 V4 => next h4 R4 F4 ?_
    unfold stM
    rw [stE_b ⟨c0, c1, c2⟩]; exact V4
end RPSx
section RTNx
variable {T N : Nat → Nat} {A a b : Nat} {h h2 h3 : PH} {u v e e2 g : Int → Int} {d t n : Int} {K : Int → PH → Prop} {KV : PH → Prop}
theorem lanN_bx (I : Ix v) : ∀ i : Nat, v 448 + i ≤ 10040 → 0 ≤ lanN v i ∧ lanN v i ≤ 6 * i := by
  intro i
  induction i with
  | zero => intro _; exact ⟨Int.le_refl 0, Int.le_refl 0⟩
  | succ i ih =>
    intro hi
    have b := I.b
    have := ih (by omega)
    have sb := sumI_b (f := lan1 (tickN v i)) (fun n => lanE_b) (tickN v i 117).toNat
    have e := (tickN_Ivx I i (by omega)).2.2 117 (by omega)
    have e1 : lanN v (i + 1) = lanN v i + sumI (lan1 (tickN v i)) (tickN v i 117).toNat := rfl
    omega
theorem r_ticks_loopx (I : Ix v) {m : Nat} (hm : v 448 + m ≤ 10040) (k : ∀ h2, RT T N A h2 → FR (Tw A) h h2 → Rv A h2 (tickN v m) → ai h2 A 23 = lanN v m → KV h2) :
    ∀ (n : Nat) (i : Nat) (h3 : PH), i + n = m → RT T N A h3 → FR (Tw A) h h3 → Rv A h3 (tickN v i) → ai h3 A 23 = lanN v i → WV T N 231 7 [some (vr (some A)), some (vi (J (m : Int))), some (vi (J (i : Int))), none] [] h3 KV := by
  have b := I.b
  intro n
  induction n with
  | zero =>
    intro i h3 hi R F V L
    have e : i = m := by omega
    subst e
    exact z231_7 (by omega) (by omega) ⟨fun c => absurd c (by omega), fun c => k h3 R F V L⟩
  | succ n ih =>
    intro i h3 hi R F V L
    obtain ⟨I3, e1, e2⟩ := tickN_Ivx I i (by omega)
    have lb := lanN_bx I i (by omega)
    refine z231_7 (by omega) (by omega) ⟨fun c => ?_, fun c => absurd (by omega) c⟩
    refine r_st_loopx I3 (by omega) (x1 := m) (x2 := i) (by omega) (by omega) (fun h4 R4 F4 V4 => ?_) (tickN v i 117).toNat 0 h3 (by have := e2 117 (by omega); omega) R FR.rf (V.cg fun j a1 a2 => by unfold mx; rw [if_neg (by omega)])
    have L4 : ai h4 A 23 = lanN v i := by rw [frA F4]; exact L
    have := r_fin_loopx (KV := KV) I3 (by omega) (x1 := m) (x2 := i) (L := lanN v i) (by omega) (by omega) (by omega) (fun h5 R5 F5 V5 L5 => by
      have := ih (i + 1) h5 (by omega) R5 ((F.tr F4.tw).tr F5) V5 L5
      rw [show ((i + 1 : Nat) : Int) = (i : Int) + 1 by omega] at this
      exact this) (tickN v i 117).toNat 0 h4 (by have := e2 117 (by omega); omega) R4 FR.rf (V4.cg fun j a1 a2 => by unfold mx; rw [if_neg (by omega)]) (by rw [L4]; exact (Int.add_zero _).symm)
    exact this
theorem r_ticksx (R : RT T N A h) (V : Rv A h v) (I : Ix v) {m : Nat} (hm : v 448 + m ≤ 10040) (k : ∀ h2, RT T N A h2 → FR (Tw A) h h2 → Rv A h2 (tickN v m) → ai h2 A 23 = lanN v m → KV h2) : CV T N 231 [vr (some A), vi (J (m : Int))] h KV := by
  have b := I.b
  refine z231 R.t (by omega) ?_
  intro h3 z
  have F : FR (Tw A) h h3 := by subst z; exact FR.pw (Or.inr ⟨rfl, rfl⟩)
  exact r_ticks_loopx I hm k m 0 h3 (by omega) (R.fr F) F (V.fr (by subst z; exact FR.pw (Or.inl ⟨rfl, by decide⟩))) (by subst z; exact rd_eq rfl rfl (by omega))
end RTNx
