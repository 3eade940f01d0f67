/-! CORRIDORS, WINDS, FENCES -/
section COR
variable {T N : Nat → Nat} {h h2 : PH} {w a b : Nat} {v u : Int → Int} {K : Int → PH → Prop} {KV : PH → Prop}
theorem wr4 {x0 x1 x2 x3 : Int} (h0 : In x0) (h1 : In x1) (h2' : In x2) (h3 : In x3) : ∀ k, 0 ≤ k → k < 4 → ai (wi (wi (wi (wi h a 0 x0) a 1 x1) a 2 x2) a 3 x3) a k = if k = 0 then x0 else if k = 1 then x1 else if k = 2 then x2 else x3 := by
  intro k a1 a2
  rcases (show k = 0 ∨ k = 1 ∨ k = 2 ∨ k = 3 by omega) with z | z | z | z <;> subst z
  · simp (disch := first | omega | exact ai_in _ _ _ | exact zor_in _ _) only [rd_eq, rd_a, rd_k]; rfl
  · simp (disch := first | omega | exact ai_in _ _ _ | exact zor_in _ _) only [rd_eq, rd_a, rd_k]; rfl
  · simp (disch := first | omega | exact ai_in _ _ _ | exact zor_in _ _) only [rd_eq, rd_a, rd_k]; rfl
  · simp (disch := first | omega | exact ai_in _ _ _ | exact zor_in _ _) only [rd_eq, rd_a, rd_k]; rfl
theorem wr4_fp {x0 x1 x2 x3 : Int} {P : Nat → Prop} (g : P a) : Fp P h (wi (wi (wi (wi h a 0 x0) a 1 x1) a 2 x2) a 3 x3) := Fp.pw2 (Fp.pw2 (Fp.pw2 (Fp.pw g) g) g) g
/-- four fields copied -/
theorem cp4 (hab : b ≠ a) : ∀ k, 0 ≤ k → k < 4 → ai (wi (wi (wi (wi h a 0 (ai h b 0)) a 1 (ai h b 1)) a 2 (ai h b 2)) a 3 (ai h b 3)) a k = ai h b k := by
  intro k a1 a2
  rw [wr4 (ai_in _ _ _) (ai_in _ _ _) (ai_in _ _ _) (ai_in _ _ _) k a1 a2]
  rcases (show k = 0 ∨ k = 1 ∨ k = 2 ∨ k = 3 by omega) with z | z | z | z <;> subst z <;> rfl
theorem d_copyF (hab : b ≠ a) (ta : T a = 4) (tb : T b = 4) (k : ∀ h2, Fp (fun x => x = a) h h2 → gr h2 = gr h → (∀ k, 0 ≤ k → k < 4 → ai h2 a k = ai h b k) → KV h2) : CV T N 38 [vr (some a), vr (some b)] h KV := by
  refine z38 tb ta ?_
  intro h3 g; subst g; intro h3 g; subst g; intro h3 g; subst g; intro h3 g; subst g
  rw [rd_a hab, rd_a hab, rd_a hab, rd_a hab, rd_a hab, rd_a hab]
  exact k _ (wr4_fp rfl) rfl (cp4 hab)
theorem d_copyC (hab : b ≠ a) (ta : T a = 2) (tb : T b = 2) (k : ∀ h2, Fp (fun x => x = a) h h2 → gr h2 = gr h → (∀ k, 0 ≤ k → k < 4 → ai h2 a k = ai h b k) → KV h2) : CV T N 13 [vr (some a), vr (some b)] h KV := by
  refine z13 tb ta ?_
  intro h3 g; subst g; intro h3 g; subst g; intro h3 g; subst g; intro h3 g; subst g
  rw [rd_a hab, rd_a hab, rd_a hab, rd_a hab, rd_a hab, rd_a hab]
  exact k _ (wr4_fp rfl) rfl (cp4 hab)
theorem corV_Iv (I : Iv v) (hn : v 11 < 16) {a b l wd : Int} (ha : 0 ≤ a ∧ a < v 0) (hb : 0 ≤ b ∧ b < v 0) (hab : a ≠ b) (hl : 1 ≤ l ∧ l ≤ 9) (hw : -l ≤ wd ∧ wd ≤ l) : Iv (corV v a b l wd) := by
  have bb := I.b
  have eq : ∀ j, j ≠ 11 → (j < 12 + 4 * v 11 ∨ 76 ≤ j) → v j = corV v a b l wd j := fun j hj h2 => by unfold corV; rw [if_neg hj, if_neg (by omega), if_neg (by omega), if_neg (by omega), if_neg (by omega)]
  have q0 := eq 0 (by omega) (by omega); have q2 := eq 76 (by omega) (by omega); have q3 := eq 117 (by omega) (by omega); have q4 := eq 448 (by omega) (by omega)
  have q1 : corV v a b l wd 11 = v 11 + 1 := rfl
  refine ⟨by omega, fun n h1 h2 => ?_, fun c h1 h2 => ?_, I.fs (by omega) fun j a1 a2 => eq j (by omega) (by omega), I.ds (by omega) (by omega) (fun j a1 a2 a3 => eq j (by omega) (by omega)) fun j a1 a2 => eq j (by omega) (by omega)⟩
  · rw [← eq _ (by omega) (by omega)]; exact I.p h1 (by omega)
  · by_cases c2 : c = v 11
    · have x0 : corV v a b l wd (12 + 4 * c + 0) = a := by unfold corV; rw [if_neg (by omega), if_pos (by omega)]
      have x1 : corV v a b l wd (12 + 4 * c + 1) = b := by unfold corV; rw [if_neg (by omega), if_neg (by omega), if_pos (by omega)]
      have x2 : corV v a b l wd (12 + 4 * c + 2) = l := by unfold corV; rw [if_neg (by omega), if_neg (by omega), if_neg (by omega), if_pos (by omega)]
      have x3 : corV v a b l wd (12 + 4 * c + 3) = wd := by unfold corV; rw [if_neg (by omega), if_neg (by omega), if_neg (by omega), if_neg (by omega), if_pos (by omega)]
      unfold corOK; omega
    · have x0 := eq (12 + 4 * c + 0) (by omega) (by omega); have x1 := eq (12 + 4 * c + 1) (by omega) (by omega); have x2 := eq (12 + 4 * c + 2) (by omega) (by omega); have x3 := eq (12 + 4 * c + 3) (by omega) (by omega)
      have := I.c h1 (by omega)
      unfold corOK at this ⊢; omega
theorem d_newCor (W : Wo T N h w v) (I : Iv v) (hn : v 11 < 16) {a b l wd : Int} (ha : In a) (hb : In b) (hl : In l) (hw : In wd) (k : ∀ h2, Fp (fun x => w ≤ x ∧ x < w + 294) h h2 → Wo T N h2 w (corV v a b l wd) → K (v 11) h2) : ZI T N 93 [vr (some w), vi (J a), vi (J b), vi (J l), vi (J wd)] h K := by
  obtain ⟨b0, b1, b3, b4, b5⟩ := W.b
  have bb := I.b
  have eq : ∀ j, j ≠ 11 → (j < 12 + 4 * v 11 ∨ 76 ≤ j) → v j = corV v a b l wd j := fun j hj h2 => by unfold corV; rw [if_neg hj, if_neg (by omega), if_neg (by omega), if_neg (by omega), if_neg (by omega)]
  have q0 := eq 0 (by omega) (by omega); have q2 := eq 76 (by omega) (by omega); have q3 := eq 117 (by omega) (by omega); have q4 := eq 448 (by omega) (by omega)
  have q1 : corV v a b l wd 11 = v 11 + 1 := rfl
  refine z93 W.o.t ha hb hl hw ⟨fun c => ?_, fun c => absurd (show ai h w 3 < 16 by omega) c⟩
  intro h3 g; subst g
  have e1 : ai (wi h w 3 (ai h w 3 + 1)) w 3 = ai h w 3 + 1 := rd_eq rfl rfl (by omega)
  rw [e1, show ai h w 3 + 1 - 1 = v 11 by omega]
  refine d_cor (h := wi h w 3 (ai h w 3 + 1)) (n := v 11) (W.o.to rfl) (by omega) (by omega) (fun c => ⟨fun z => by (cases z), fun a' ea => ?_⟩) (fun c => absurd (show 0 ≤ v 11 ∧ v 11 < ai (wi h w 3 (ai h w 3 + 1)) w 3 by omega) c)
  cases ea
  have hne : cA w (v 11) ≠ w := by unfold cA; omega
  refine ⟨(W.o.c (by omega)).1, ?_⟩
  intro h3 g; subst g; intro h3 g; subst g; intro h3 g; subst g; intro h3 g; subst g
  have e2 : ∀ j, ai (wi (wi (wi (wi (wi h w 3 (ai h w 3 + 1)) (cA w (v 11)) 0 a) (cA w (v 11)) 1 b) (cA w (v 11)) 2 l) (cA w (v 11)) 3 wd) w j = ai (wi h w 3 (ai h w 3 + 1)) w j := fun j => by rw [rd_a hne.symm, rd_a hne.symm, rd_a hne.symm, rd_a hne.symm]
  rw [e2, e1, show ai h w 3 + 1 - 1 = v 11 by omega]
  refine ⟨by omega, ?_⟩
  have F : Fp (fun x => x = w ∨ x = cA w (v 11)) h (wi (wi (wi (wi (wi h w 3 (ai h w 3 + 1)) (cA w (v 11)) 0 a) (cA w (v 11)) 1 b) (cA w (v 11)) 2 l) (cA w (v 11)) 3 wd) := (Fp.pw (Or.inl rfl)).tr (wr4_fp (Or.inr rfl))
  refine k _ (F.mo fun x e => by unfold cA at e; omega) ⟨W.o.to rfl, ?_, ?_, fun c h1 h2 j h3 h4 => ?_, W.fs I (fun b e1 e2 => F.1 b (by unfold cA; omega)) fun j a1 a2 => eq j (by omega) (by omega), ?_⟩
  · rw [e2, e2, e2, e2, e2, e1, rd_k (by omega) (by omega) (by omega), rd_k (by omega) (by omega) (by omega), rd_k (by omega) (by omega) (by omega), rd_k (by omega) (by omega) (by omega)]; omega
  · rw [e2, rd_k (by omega) (by omega) (by omega)]
    exact padsR_cg q0 (fun n a1 a2 => eq _ (by omega) (by omega)) W.p
  · by_cases c2 : c = v 11
    · subst c2
      rw [wr4 ha hb hl hw j h3 h4]
      rcases (show j = 0 ∨ j = 1 ∨ j = 2 ∨ j = 3 by omega) with z | z | z | z <;> subst z <;> unfold corV
      · rw [if_pos rfl, if_neg (by omega), if_pos (by omega)]
      · rw [if_neg (by omega), if_pos rfl, if_neg (by omega), if_neg (by omega), if_pos (by omega)]
      · rw [if_neg (by omega), if_neg (by omega), if_pos rfl, if_neg (by omega), if_neg (by omega), if_neg (by omega), if_pos (by omega)]
      · rw [if_neg (by omega), if_neg (by omega), if_neg (by omega), if_neg (by omega), if_neg (by omega), if_neg (by omega), if_neg (by omega), if_pos (by omega)]
    · rw [(F.1 (cA w c) (by unfold cA; omega)).ai, ← eq _ (by omega) (by omega)]
      exact W.c h1 (by omega) h3 h4
  · refine W.ds I (fun b e1 e2 => F.1 b (by unfold cA; omega)) (fun j a1 a2 a3 => eq j (by omega) (by omega)) fun j a1 a2 => eq j (by omega) (by omega)
theorem windV_Iv (I : Iv v) {c wd : Int} (hc : 0 ≤ c ∧ c < v 11) (hw : -v (12 + 4 * c + 2) ≤ wd ∧ wd ≤ v (12 + 4 * c + 2)) : Iv (windV v c wd) := by
  have bb := I.b
  have eq : ∀ j, j ≠ 12 + 4 * c + 3 → v j = windV v c wd j := fun j hj => by unfold windV; rw [if_neg hj]
  have q0 := eq 0 (by omega); have q1 := eq 11 (by omega); have q2 := eq 76 (by omega); have q3 := eq 117 (by omega); have q4 := eq 448 (by omega)
  refine ⟨by omega, fun n h1 h2 => ?_, fun d h1 h2 => ?_, I.fs (by omega) fun j a1 a2 => eq j (by omega), I.ds (by omega) (by omega) (fun j a1 a2 a3 => eq j (by omega)) fun j a1 a2 => eq j (by omega)⟩
  · rw [← eq _ (by omega)]; exact I.p h1 (by omega)
  · have x0 := eq (12 + 4 * d + 0) (by omega); have x1 := eq (12 + 4 * d + 1) (by omega); have x2 := eq (12 + 4 * d + 2) (by omega)
    have := I.c h1 (by omega)
    unfold corOK at this ⊢
    by_cases c2 : d = c
    · subst c2
      have x3 : windV v d wd (12 + 4 * d + 3) = wd := by unfold windV; rw [if_pos rfl]
      omega
    · have x3 := eq (12 + 4 * d + 3) (by omega)
      omega
theorem Wo_wind (W : Wo T N h w v) (I : Iv v) {c wd : Int} (hc : 0 ≤ c ∧ c < v 11) (hw : In wd) : Wo T N (wi h (cA w c) 3 wd) w (windV v c wd) ∧ Fp (fun x => w ≤ x ∧ x < w + 294) h (wi h (cA w c) 3 wd) := by
  have bb := I.b
  have eq : ∀ j, j ≠ 12 + 4 * c + 3 → v j = windV v c wd j := fun j hj => by unfold windV; rw [if_neg hj]
  have q0 := eq 0 (by omega); have q1 := eq 11 (by omega); have q2 := eq 76 (by omega); have q3 := eq 117 (by omega); have q4 := eq 448 (by omega)
  have F : Fp (fun x => x = cA w c) h (wi h (cA w c) 3 wd) := Fp.pw rfl
  have sw : sm w h (wi h (cA w c) 3 wd) := F.1 w (by unfold cA; omega)
  refine ⟨⟨W.o.to rfl, ?_, ?_, fun d h1 h2 j h3 h4 => ?_, W.fs I (fun b e1 e2 => F.1 b (by unfold cA; omega)) fun j a1 a2 => eq j (by omega), W.ds I (fun b e1 e2 => F.1 b (by unfold cA; omega)) (fun j a1 a2 a3 => eq j (by omega)) fun j a1 a2 => eq j (by omega)⟩, F.mo fun x e => by unfold cA at e; omega⟩
  · rw [sw.ai, sw.ai, sw.ai, sw.ai, sw.ai, ← q0, ← q1, ← q2, ← q3, ← q4]; exact W.b
  · rw [sw.ai]; exact padsR_cg q0 (fun n a1 a2 => eq _ (by omega)) W.p
  · have g := W.c h1 (by omega) h3 h4
    by_cases c2 : d = c
    · subst c2
      by_cases c3 : j = 3
      · subst c3; rw [rd_eq rfl rfl hw]; unfold windV; rw [if_pos rfl]
      · rw [rd_k c3 h3 (by omega), ← eq _ (by omega)]; exact g
    · rw [(F.1 (cA w d) (by unfold cA; omega)).ai, ← eq _ (by omega)]; exact g
theorem fenV_Iv (I : Iv v) (hn : v 76 < 10) {c l f t : Int} (hc : 0 ≤ c ∧ c < v 11) (hl : 1 ≤ l ∧ l ≤ 7) (hf : 0 ≤ f ∧ f < t ∧ t ≤ 10000) : Iv (fenV v c l f t) := by
  have bb := I.b
  have eq : ∀ j, j ≠ 76 → (j < 77 + 4 * v 76 ∨ 117 ≤ j) → v j = fenV v c l f t j := fun j hj h2 => by unfold fenV; rw [if_neg hj, if_neg (by omega), if_neg (by omega), if_neg (by omega), if_neg (by omega)]
  have q0 := eq 0 (by omega) (by omega); have q1 := eq 11 (by omega) (by omega); have q3 := eq 117 (by omega) (by omega); have q4 := eq 448 (by omega) (by omega)
  have q2 : fenV v c l f t 76 = v 76 + 1 := rfl
  refine ⟨by omega, fun n h1 h2 => ?_, I.cs (by omega) fun j a1 a2 => eq j (by omega) (by omega), fun d h1 h2 => ?_, I.ds (by omega) (by omega) (fun j a1 a2 a3 => eq j (by omega) (by omega)) fun j a1 a2 => eq j (by omega) (by omega)⟩
  · rw [← eq _ (by omega) (by omega)]; exact I.p h1 (by omega)
  · by_cases c2 : d = v 76
    · have x0 : fenV v c l f t (77 + 4 * d + 0) = c := by unfold fenV; rw [if_neg (by omega), if_pos (by omega)]
      have x1 : fenV v c l f t (77 + 4 * d + 1) = l := by unfold fenV; rw [if_neg (by omega), if_neg (by omega), if_pos (by omega)]
      have x2 : fenV v c l f t (77 + 4 * d + 2) = f := by unfold fenV; rw [if_neg (by omega), if_neg (by omega), if_neg (by omega), if_pos (by omega)]
      have x3 : fenV v c l f t (77 + 4 * d + 3) = t := by unfold fenV; rw [if_neg (by omega), if_neg (by omega), if_neg (by omega), if_neg (by omega), if_pos (by omega)]
      unfold fenOK; omega
    · have x0 := eq (77 + 4 * d + 0) (by omega) (by omega); have x1 := eq (77 + 4 * d + 1) (by omega) (by omega); have x2 := eq (77 + 4 * d + 2) (by omega) (by omega); have x3 := eq (77 + 4 * d + 3) (by omega) (by omega)
      have := I.f h1 (by omega)
      unfold fenOK at this ⊢; omega
theorem d_newFen (W : Wo T N h w v) (I : Iv v) (hn : v 76 < 10) {a b l wd : Int} (ha : In a) (hb : In b) (hl : In l) (hw : In wd) (k : ∀ h2, Fp (fun x => w ≤ x ∧ x < w + 294) h h2 → Wo T N h2 w (fenV v a b l wd) → KV h2) : CV T N 94 [vr (some w), vi (J a), vi (J b), vi (J l), vi (J wd)] h KV := by
  obtain ⟨b0, b1, b3, b4, b5⟩ := W.b
  have bb := I.b
  have eq : ∀ j, j ≠ 76 → (j < 77 + 4 * v 76 ∨ 117 ≤ j) → v j = fenV v a b l wd j := fun j hj h2 => by unfold fenV; rw [if_neg hj, if_neg (by omega), if_neg (by omega), if_neg (by omega), if_neg (by omega)]
  have q0 := eq 0 (by omega) (by omega); have q1 := eq 11 (by omega) (by omega); have q3 := eq 117 (by omega) (by omega); have q4 := eq 448 (by omega) (by omega)
  have q2 : fenV v a b l wd 76 = v 76 + 1 := rfl
  refine z94 W.o.t ha hb hl hw ⟨fun c => ?_, fun c => absurd (show ai h w 4 < 10 by omega) c⟩
  intro h3 g; subst g
  have e1 : ai (wi h w 4 (ai h w 4 + 1)) w 4 = ai h w 4 + 1 := rd_eq rfl rfl (by omega)
  rw [e1, show ai h w 4 + 1 - 1 = v 76 by omega]
  refine d_fen (h := wi h w 4 (ai h w 4 + 1)) (n := v 76) (W.o.to rfl) (by omega) (by omega) (fun c => ⟨fun z => by (cases z), fun a' ea => ?_⟩) (fun c => absurd (show 0 ≤ v 76 ∧ v 76 < ai (wi h w 4 (ai h w 4 + 1)) w 4 by omega) c)
  cases ea
  have hne : fA w (v 76) ≠ w := by unfold fA; omega
  refine ⟨(W.o.f (by omega)).1, ?_⟩
  intro h3 g; subst g; intro h3 g; subst g; intro h3 g; subst g; intro h3 g; subst g
  have e2 : ∀ j, ai (wi (wi (wi (wi (wi h w 4 (ai h w 4 + 1)) (fA w (v 76)) 0 a) (fA w (v 76)) 1 b) (fA w (v 76)) 2 l) (fA w (v 76)) 3 wd) w j = ai (wi h w 4 (ai h w 4 + 1)) w j := fun j => by rw [rd_a hne.symm, rd_a hne.symm, rd_a hne.symm, rd_a hne.symm]
  have F : Fp (fun x => x = w ∨ x = fA w (v 76)) h (wi (wi (wi (wi (wi h w 4 (ai h w 4 + 1)) (fA w (v 76)) 0 a) (fA w (v 76)) 1 b) (fA w (v 76)) 2 l) (fA w (v 76)) 3 wd) := (Fp.pw (Or.inl rfl)).tr (wr4_fp (Or.inr rfl))
  refine k _ (F.mo fun x e => by unfold fA at e; omega) ⟨W.o.to rfl, ?_, ?_, W.cs I (fun b e1 e2 => F.1 b (by unfold fA; omega)) fun j a1 a2 => eq j (by omega) (by omega), fun c h1 h2 j h3 h4 => ?_, W.ds I (fun b e1 e2 => F.1 b (by unfold fA; omega)) (fun j a1 a2 a3 => eq j (by omega) (by omega)) fun j a1 a2 => eq j (by omega) (by omega)⟩
  · rw [e2, e2, e2, e2, e2, e1, rd_k (by omega) (by omega) (by omega), rd_k (by omega) (by omega) (by omega), rd_k (by omega) (by omega) (by omega), rd_k (by omega) (by omega) (by omega)]; omega
  · rw [e2, rd_k (by omega) (by omega) (by omega)]
    exact padsR_cg q0 (fun n a1 a2 => eq _ (by omega) (by omega)) W.p
  · by_cases c2 : c = v 76
    · subst c2
      rw [wr4 ha hb hl hw j h3 h4]
      rcases (show j = 0 ∨ j = 1 ∨ j = 2 ∨ j = 3 by omega) with z | z | z | z <;> subst z <;> unfold fenV
      · rw [if_pos rfl, if_neg (by omega), if_pos (by omega)]
      · rw [if_neg (by omega), if_pos rfl, if_neg (by omega), if_neg (by omega), if_pos (by omega)]
      · rw [if_neg (by omega), if_neg (by omega), if_pos rfl, if_neg (by omega), if_neg (by omega), if_neg (by omega), if_pos (by omega)]
      · rw [if_neg (by omega), if_neg (by omega), if_neg (by omega), if_neg (by omega), if_neg (by omega), if_neg (by omega), if_neg (by omega), if_pos (by omega)]
    · rw [(F.1 (fA w c) (by unfold fA; omega)).ai, ← eq _ (by omega) (by omega)]
      exact W.f h1 (by omega) h3 h4
theorem dropV_Iv (I : Iv v) {f : Int} (hf : 0 ≤ f ∧ f < v 76) : Iv (dropV v f) := by
  have bb := I.b
  have eq : ∀ j, j ≠ 76 → (j < 77 ∨ 117 ≤ j) → v j = dropV v f j := fun j hj h2 => by unfold dropV; rw [if_neg hj, if_neg (by omega)]
  have q0 := eq 0 (by omega) (by omega); have q1 := eq 11 (by omega) (by omega); have q3 := eq 117 (by omega) (by omega); have q4 := eq 448 (by omega) (by omega)
  have q2 : dropV v f 76 = v 76 - 1 := rfl
  refine ⟨by omega, fun n h1 h2 => ?_, I.cs (by omega) fun j a1 a2 => eq j (by omega) (by omega), fun d h1 h2 => ?_, I.ds (by omega) (by omega) (fun j a1 a2 a3 => eq j (by omega) (by omega)) fun j a1 a2 => eq j (by omega) (by omega)⟩
  · rw [← eq _ (by omega) (by omega)]; exact I.p h1 (by omega)
  · by_cases c2 : d < f
    · have x : ∀ j, 0 ≤ j → j < 4 → dropV v f (77 + 4 * d + j) = v (77 + 4 * d + j) := fun j a1 a2 => by unfold dropV; rw [if_neg (by omega), if_neg (by omega)]
      have x0 := x 0 (by omega) (by omega); have x1 := x 1 (by omega) (by omega); have x2 := x 2 (by omega) (by omega); have x3 := x 3 (by omega) (by omega)
      have := I.f h1 (by omega)
      unfold fenOK at this ⊢; omega
    · have x : ∀ j, 0 ≤ j → j < 4 → dropV v f (77 + 4 * d + j) = v (77 + 4 * (d + 1) + j) := fun j a1 a2 => by unfold dropV; rw [if_neg (by omega), if_pos (by omega)]; congr 1; omega
      have x0 := x 0 (by omega) (by omega); have x1 := x 1 (by omega) (by omega); have x2 := x 2 (by omega) (by omega); have x3 := x 3 (by omega) (by omega)
      have := I.f (n := d + 1) (by omega) (by omega)
      unfold fenOK at this ⊢; omega
theorem d_drop_loop (W : Wo T N h w v) (I : Iv v) {f : Int} (hf : 0 ≤ f ∧ f < v 76) (k : ∀ h2, Fp (fun x => w ≤ x ∧ x < w + 294) h h2 → Wo T N h2 w (dropV v f) → KV h2) : ∀ (n : Nat) (i : Int) (h3 : PH), i = v 76 - 1 - n → f ≤ i → Fp (fun x => w + 20 ≤ x ∧ x < w + 30) h h3 → gr h3 = gr h → (∀ d, 0 ≤ d → d < v 76 → ∀ j, 0 ≤ j → j < 4 → ai h3 (fA w d) j = if f ≤ d ∧ d < i then v (77 + 4 * (d + 1) + j) else v (77 + 4 * d + j)) → WV T N 95 2 [some (vr (some w)), none, some (vi (J i)), none, none] [] h3 KV := by
  obtain ⟨b0, b1, b3, b4, b5⟩ := W.b
  have bb := I.b
  intro n
  induction n with
  | zero =>
    intro i h3 hi hfi F g C
    have sw := F.1 w (by omega)
    have e4 : ai h3 w 4 = v 76 := by rw [sw.ai]; exact b4
    have eq : ∀ j, j ≠ 76 → (j < 77 ∨ 117 ≤ j) → v j = dropV v f j := fun j hj h2 => by unfold dropV; rw [if_neg hj, if_neg (by omega)]
    have q0 := eq 0 (by omega) (by omega); have q1 := eq 11 (by omega) (by omega); have q3 := eq 117 (by omega) (by omega); have q4 := eq 448 (by omega) (by omega)
    have q2 : dropV v f 76 = v 76 - 1 := rfl
    refine z95_2 W.o.t (by omega) ⟨by omega, fun c => by omega, fun c => ?_⟩
    intro h4 z; subst z
    have F2 : Fp (fun x => x = w ∨ (w + 20 ≤ x ∧ x < w + 30)) h (wi h3 w 4 (ai h3 w 4 - 1)) := (F.mo fun x e => Or.inr e).tr (Fp.pw (Or.inl rfl))
    refine k _ (F2.mo fun x e => by omega) ⟨W.o.to g, ?_, ?_, W.cs I (fun b e1 e2 => F2.1 b (by omega)) fun j a1 a2 => eq j (by omega) (by omega), fun c h1 h2 j h3 h4 => ?_, W.ds I (fun b e1 e2 => F2.1 b (by omega)) (fun j a1 a2 a3 => eq j (by omega) (by omega)) fun j a1 a2 => eq j (by omega) (by omega)⟩
    · rw [rd_eq rfl rfl (by omega), rd_k (by omega) (by omega) (by omega), rd_k (by omega) (by omega) (by omega), rd_k (by omega) (by omega) (by omega), rd_k (by omega) (by omega) (by omega), sw.ai, sw.ai, sw.ai, sw.ai, sw.ai]; omega
    · rw [rd_k (by omega) (by omega) (by omega), sw.ai]
      exact padsR_cg q0 (fun n a1 a2 => eq _ (by omega) (by omega)) W.p
    · rw [rd_a (by unfold fA; omega), C c h1 (by omega) j h3 h4]
      unfold dropV
      rw [if_neg (show ¬ 77 + 4 * c + j = 76 by omega)]
      by_cases c2 : f ≤ c
      · rw [if_pos (by omega), if_pos (by omega)]; congr 1; omega
      · rw [if_neg (by omega), if_neg (by omega)]
  | succ n ih =>
    intro i h3 hi hfi F g C
    have sw := F.1 w (by omega)
    have e4 : ai h3 w 4 = v 76 := by rw [sw.ai]; exact b4
    refine z95_2 W.o.t (by omega) ⟨by omega, fun c => ?_, fun c => absurd (by omega) c⟩
    refine d_fen (h := h3) (n := i) (W.o.to g) (by omega) (by omega) (fun c1 => ?_) (fun c => absurd (by omega) c)
    refine d_fen (h := h3) (n := i + 1) (W.o.to g) (by omega) (by omega) (fun c1 => ?_) (fun c => absurd (by omega) c)
    refine ⟨fun z => by (cases z), fun a1 ea => ⟨fun z => by (cases z), fun a2 eb => ?_⟩⟩
    cases ea; cases eb
    refine ⟨(W.o.f (by omega)).1, d_copyF (by unfold fA; omega) (W.o.f (by omega)).1 (W.o.f (by omega)).1 fun h4 F4 g4 C4 => ?_⟩
    refine ih (i + 1) h4 (by omega) (by omega) (F.tr (F4.mo fun x e => by unfold fA at e; omega)) (g4.trans g) fun d h1 h2 j h5 h6 => ?_
    by_cases c2 : d = i
    · subst c2
      rw [C4 j h5 h6, C (d + 1) (by omega) (by omega) j h5 h6, if_neg (by omega), if_pos (by omega)]
    · rw [(F4.1 (fA w d) (by unfold fA; omega)).ai, C d h1 h2 j h5 h6]
      by_cases c3 : f ≤ d ∧ d < i
      · rw [if_pos c3, if_pos (by omega)]
      · rw [if_neg c3, if_neg (by omega)]
theorem d_dropFen (W : Wo T N h w v) (I : Iv v) {f : Int} (hf : 0 ≤ f ∧ f < v 76) (k : ∀ h2, Fp (fun x => w ≤ x ∧ x < w + 294) h h2 → Wo T N h2 w (dropV v f) → KV h2) : CV T N 95 [vr (some w), vi (J f)] h KV := by
  have bb := I.b
  refine z95 (by omega) (d_drop_loop W I hf k (v 76 - 1 - f).toNat f h (by omega) (by omega) Fp.rf rfl fun d h1 h2 j h3 h4 => ?_)
  rw [if_neg (by omega)]; exact W.f h1 h2 h3 h4
end COR
