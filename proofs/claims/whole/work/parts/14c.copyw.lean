/-! WORLDS: the copy of a world -/
section CPW
variable {T N : Nat → Nat} {bs A a b w w1 lo hi : Nat} {h h2 h3 : PH} {u v e e2 g : Int → Int} {hs : Int → Int → Int} {d t n : Int} {K : Int → PH → Prop} {KV : PH → Prop}
theorem d_cpC_loop (W : Wo T N h w1 v) (I : Iv v) (Wo2 : WO T N h w) (dis : w + 294 ≤ w1 ∨ w1 + 294 ≤ w) (k : ∀ h2, Fp (fun x => w ≤ x ∧ x < w + 20) h h2 → gr h2 = gr h → ai h2 w 3 = v 11 → (∀ c, 0 ≤ c → c < v 11 → ∀ k, 0 ≤ k → k < 4 → ai h2 (cA w c) k = v (12 + 4 * c + k)) → (∀ x, x ≠ w → ¬ (w + 4 ≤ x ∧ x < w + 20) → sm x h h2) → (∀ j, j ≠ 3 → 0 ≤ j → ai h2 w j = ai h w j) → KV h2) :
    ∀ (m : Nat) (i : Int) (h3 : PH), i = v 11 - m → 0 ≤ i → Fp (fun x => w ≤ x ∧ x < w + 20) h h3 → gr h3 = gr h → ai h3 w 3 = v 11 → (∀ c, 0 ≤ c → c < i → ∀ k, 0 ≤ k → k < 4 → ai h3 (cA w c) k = v (12 + 4 * c + k)) → (∀ x, x ≠ w → ¬ (w + 4 ≤ x ∧ x < w + 20) → sm x h h3) → (∀ j, j ≠ 3 → 0 ≤ j → ai h3 w j = ai h w j) → WV T N 85 10 [some (vr (some w)), some (vr (some w1)), some (vi (J i)), none, none] [] h3 KV := by
  have bb := I.b
  obtain ⟨b0, b1, b3, b4, b5⟩ := W.b
  intro m
  induction m with
  | zero =>
    intro i h3 hi h0 F gg f C s fw
    refine z85_10 Wo2.t W.o.t (by omega) ⟨fun c => by omega, fun c => k h3 F gg f (fun c h1 h2 => C c h1 (by omega)) s fw⟩
  | succ m ih =>
    intro i h3 hi h0 F gg f C s fw
    have s1 := F.1 w1 (by omega)
    have e1 : ai h3 w1 3 = v 11 := by rw [s1.ai]; assumption
    refine z85_10 Wo2.t W.o.t (by omega) ⟨fun c => ?_, fun c => absurd (by omega) c⟩
    refine d_cor (h := h3) (n := i) (Wo2.to gg) (by omega) (by omega) (fun c1 => ?_) (fun c => absurd (by omega) c)
    refine d_cor (h := h3) (n := i) (W.o.to gg) (by omega) (by omega) (fun c1 => ?_) (fun c => absurd (by omega) c)
    refine ⟨fun z => by (cases z), fun x' ex => ⟨fun z => by (cases z), fun y' ey => ?_⟩⟩
    cases ex; cases ey
    refine ⟨(Wo2.c (c := i) (by omega)).1, d_copyC (by unfold cA; omega) (Wo2.c (c := i) (by omega)).1 (W.o.c (c := i) (by omega)).1 fun h4 F4 g4 C4 => ?_⟩
    have hw : sm w h3 h4 := F4.1 w (by unfold cA; omega)
    refine ih (i + 1) h4 (by omega) (by omega) (F.tr (F4.mo fun x e => by unfold cA at e; omega)) (g4.trans gg) (by rw [hw.ai]; exact f) (fun c h1 h2 k h5 h6 => ?_) (fun x h1 h2 => (s x h1 h2).tr (F4.1 x (by unfold cA; omega))) (fun j h1 h2 => by rw [hw.ai]; exact fw j h1 h2)
    by_cases c2 : c = i
    · rw [c2, C4 k h5 h6, (F.1 (cA w1 i) (by unfold cA; omega)).ai]
      exact W.c h0 (by omega) h5 h6
    · rw [(F4.1 (cA w c) (by unfold cA; omega)).ai]
      exact C c h1 (by omega) k h5 h6
theorem d_cpC (W : Wo T N h w1 v) (I : Iv v) (Wo2 : WO T N h w) (dis : w + 294 ≤ w1 ∨ w1 + 294 ≤ w) (k : ∀ h2, Fp (fun x => w ≤ x ∧ x < w + 20) h h2 → gr h2 = gr h → ai h2 w 3 = v 11 → (∀ c, 0 ≤ c → c < v 11 → ∀ k, 0 ≤ k → k < 4 → ai h2 (cA w c) k = v (12 + 4 * c + k)) → (∀ x, x ≠ w → ¬ (w + 4 ≤ x ∧ x < w + 20) → sm x h h2) → (∀ j, j ≠ 3 → 0 ≤ j → ai h2 w j = ai h w j) → KV h2) : CV T N 85 [vr (some w), vr (some w1)] h KV := by
  have bb := I.b
  obtain ⟨b0, b1, b3, b4, b5⟩ := W.b
  refine z85 W.o.t Wo2.t ?_
  intro h3 z
  have e1 : ai h w1 3 = v 11 := by assumption
  rw [e1] at z
  have F : Fp (fun x => x = w) h h3 := by subst z; exact Fp.pw rfl
  refine d_cpC_loop W I Wo2 dis k (v 11).toNat 0 h3 (by omega) (by omega) (F.mo fun x e => by omega) (by subst z; rfl) (by subst z; exact rd_eq rfl rfl (by omega)) (fun c h1 h2 => by omega) (fun x h1 h2 => F.1 x h1) (fun j h1 h2 => by subst z; exact rd_k h1 h2 (by omega))
theorem d_cpF_loop (W : Wo T N h w1 v) (I : Iv v) (Wo2 : WO T N h w) (dis : w + 294 ≤ w1 ∨ w1 + 294 ≤ w) (k : ∀ h2, Fp (fun x => w ≤ x ∧ x < w + 30) h h2 → gr h2 = gr h → ai h2 w 4 = v 76 → (∀ c, 0 ≤ c → c < v 76 → ∀ k, 0 ≤ k → k < 4 → ai h2 (fA w c) k = v (77 + 4 * c + k)) → (∀ x, x ≠ w → ¬ (w + 20 ≤ x ∧ x < w + 30) → sm x h h2) → (∀ j, j ≠ 4 → 0 ≤ j → ai h2 w j = ai h w j) → KV h2) :
    ∀ (m : Nat) (i : Int) (h3 : PH), i = v 76 - m → 0 ≤ i → Fp (fun x => w ≤ x ∧ x < w + 30) h h3 → gr h3 = gr h → ai h3 w 4 = v 76 → (∀ c, 0 ≤ c → c < i → ∀ k, 0 ≤ k → k < 4 → ai h3 (fA w c) k = v (77 + 4 * c + k)) → (∀ x, x ≠ w → ¬ (w + 20 ≤ x ∧ x < w + 30) → sm x h h3) → (∀ j, j ≠ 4 → 0 ≤ j → ai h3 w j = ai h w j) → WV T N 86 10 [some (vr (some w)), some (vr (some w1)), some (vi (J i)), none, none] [] h3 KV := by
  have bb := I.b
  obtain ⟨b0, b1, b3, b4, b5⟩ := W.b
  intro m
  induction m with
  | zero =>
    intro i h3 hi h0 F gg f C s fw
    refine z86_10 Wo2.t W.o.t (by omega) ⟨fun c => by omega, fun c => k h3 F gg f (fun c h1 h2 => C c h1 (by omega)) s fw⟩
  | succ m ih =>
    intro i h3 hi h0 F gg f C s fw
    have s1 := F.1 w1 (by omega)
    have e1 : ai h3 w1 4 = v 76 := by rw [s1.ai]; assumption
    refine z86_10 Wo2.t W.o.t (by omega) ⟨fun c => ?_, fun c => absurd (by omega) c⟩
    refine d_fen (h := h3) (n := i) (Wo2.to gg) (by omega) (by omega) (fun c1 => ?_) (fun c => absurd (by omega) c)
    refine d_fen (h := h3) (n := i) (W.o.to gg) (by omega) (by omega) (fun c1 => ?_) (fun c => absurd (by omega) c)
    refine ⟨fun z => by (cases z), fun x' ex => ⟨fun z => by (cases z), fun y' ey => ?_⟩⟩
    cases ex; cases ey
    refine ⟨(Wo2.f (c := i) (by omega)).1, d_copyF (by unfold fA; omega) (Wo2.f (c := i) (by omega)).1 (W.o.f (c := i) (by omega)).1 fun h4 F4 g4 C4 => ?_⟩
    have hw : sm w h3 h4 := F4.1 w (by unfold fA; omega)
    refine ih (i + 1) h4 (by omega) (by omega) (F.tr (F4.mo fun x e => by unfold fA at e; omega)) (g4.trans gg) (by rw [hw.ai]; exact f) (fun c h1 h2 k h5 h6 => ?_) (fun x h1 h2 => (s x h1 h2).tr (F4.1 x (by unfold fA; omega))) (fun j h1 h2 => by rw [hw.ai]; exact fw j h1 h2)
    by_cases c2 : c = i
    · rw [c2, C4 k h5 h6, (F.1 (fA w1 i) (by unfold fA; omega)).ai]
      exact W.f h0 (by omega) h5 h6
    · rw [(F4.1 (fA w c) (by unfold fA; omega)).ai]
      exact C c h1 (by omega) k h5 h6
theorem d_cpF (W : Wo T N h w1 v) (I : Iv v) (Wo2 : WO T N h w) (dis : w + 294 ≤ w1 ∨ w1 + 294 ≤ w) (k : ∀ h2, Fp (fun x => w ≤ x ∧ x < w + 30) h h2 → gr h2 = gr h → ai h2 w 4 = v 76 → (∀ c, 0 ≤ c → c < v 76 → ∀ k, 0 ≤ k → k < 4 → ai h2 (fA w c) k = v (77 + 4 * c + k)) → (∀ x, x ≠ w → ¬ (w + 20 ≤ x ∧ x < w + 30) → sm x h h2) → (∀ j, j ≠ 4 → 0 ≤ j → ai h2 w j = ai h w j) → KV h2) : CV T N 86 [vr (some w), vr (some w1)] h KV := by
  have bb := I.b
  obtain ⟨b0, b1, b3, b4, b5⟩ := W.b
  refine z86 W.o.t Wo2.t ?_
  intro h3 z
  have e1 : ai h w1 4 = v 76 := by assumption
  rw [e1] at z
  have F : Fp (fun x => x = w) h h3 := by subst z; exact Fp.pw rfl
  refine d_cpF_loop W I Wo2 dis k (v 76).toNat 0 h3 (by omega) (by omega) (F.mo fun x e => by omega) (by subst z; rfl) (by subst z; exact rd_eq rfl rfl (by omega)) (fun c h1 h2 => by omega) (fun x h1 h2 => F.1 x h1) (fun j h1 h2 => by subst z; exact rd_k h1 h2 (by omega))
theorem d_cpD_loop (W : Wo T N h w1 v) (I : Iv v) (Wo2 : WO T N h w) (dis : w + 294 ≤ w1 ∨ w1 + 294 ≤ w) (k : ∀ h2, Fp (fun x => w ≤ x ∧ x < w + 294) h h2 → gr h2 = gr h → ai h2 w 5 = v 117 → (∀ d, 0 ≤ d → d < v 117 → DrD v h2 (dA w d) (rc v d)) → (∀ x, x ≠ w → ¬ (w + 30 ≤ x ∧ x < w + 294) → sm x h h2) → (∀ j, j ≠ 5 → 0 ≤ j → ai h2 w j = ai h w j) → KV h2) :
    ∀ (m : Nat) (i : Int) (h3 : PH), i = v 117 - m → 0 ≤ i → Fp (fun x => w ≤ x ∧ x < w + 294) h h3 → gr h3 = gr h → ai h3 w 5 = v 117 → (∀ d, 0 ≤ d → d < i → DrD v h3 (dA w d) (rc v d)) → (∀ x, x ≠ w → ¬ (w + 30 ≤ x ∧ x < w + 294) → sm x h h3) → (∀ j, j ≠ 5 → 0 ≤ j → ai h3 w j = ai h w j) → WV T N 87 10 [some (vr (some w)), some (vr (some w1)), some (vi (J i)), none, none] [] h3 KV := by
  have bb := I.b
  obtain ⟨b0, b1, b3, b4, b5⟩ := W.b
  intro m
  induction m with
  | zero =>
    intro i h3 hi h0 F gg f C s fw
    refine z87_10 Wo2.t W.o.t (by omega) ⟨fun c => by omega, fun c => k h3 F gg f (fun c h1 h2 => C c h1 (by omega)) s fw⟩
  | succ m ih =>
    intro i h3 hi h0 F gg f C s fw
    have s1 := F.1 w1 (by omega)
    have e1 : ai h3 w1 5 = v 117 := by rw [s1.ai]; exact b5
    refine z87_10 Wo2.t W.o.t (by omega) ⟨fun c => ?_, fun c => absurd (by omega) c⟩
    refine d_dro (h := h3) (n := i) (Wo2.to gg) (by omega) (by omega) (fun c1 => ?_) (fun c => absurd (by omega) c)
    refine d_dro (h := h3) (n := i) (W.o.to gg) (by omega) (by omega) (fun c1 => ?_) (fun c => absurd (by omega) c)
    refine ⟨fun z => by (cases z), fun x' ex => ⟨fun z => by (cases z), fun y' ey => ?_⟩⟩
    cases ex; cases ey
    have O := I.d (n := i) (by omega) (by omega)
    have Da := (Wo2.d (c := i) (by omega)).2
    have Db := (W.o.d (c := i) (by omega)).2
    have Gb := (W.d (d := i) (by omega) (by omega)).fr (T := T) (N := N) (h2 := h3) (fun b q1 q2 => F.1 b (by unfold dA at q1 q2; omega)) Db O.2.2.2.2.2.1.2
    refine ⟨Da.t, d_copyD (Da.to gg) (Db.to gg) (by unfold dA; omega) O.2.2.2.2.2.1 Gb fun h4 F4 g4 C4 => ?_⟩
    have hw : sm w h3 h4 := F4.1 w (by unfold dA; omega)
    refine ih (i + 1) h4 (by omega) (by omega) (F.tr (F4.mo fun x e => by unfold dA at e; omega)) (g4.trans gg) (by rw [hw.ai]; exact f) (fun d h1 h2 => ?_) (fun x h1 h2 => (s x h1 h2).tr (F4.1 x (by unfold dA; omega))) (fun j h1 h2 => by rw [hw.ai]; exact fw j h1 h2)
    by_cases c2 : d = i
    · subst c2; exact C4
    · exact (C d h1 (by omega)).fr (T := T) (N := N) (h2 := h4) (fun b q1 q2 => F4.1 b (by unfold dA at *; omega)) ((Wo2.to gg).d (c := d) (by omega)).2 (I.d h1 (by omega)).2.2.2.2.2.1.2
theorem d_cpD (W : Wo T N h w1 v) (I : Iv v) (Wo2 : WO T N h w) (dis : w + 294 ≤ w1 ∨ w1 + 294 ≤ w) (k : ∀ h2, Fp (fun x => w ≤ x ∧ x < w + 294) h h2 → gr h2 = gr h → ai h2 w 5 = v 117 → (∀ d, 0 ≤ d → d < v 117 → DrD v h2 (dA w d) (rc v d)) → (∀ x, x ≠ w → ¬ (w + 30 ≤ x ∧ x < w + 294) → sm x h h2) → (∀ j, j ≠ 5 → 0 ≤ j → ai h2 w j = ai h w j) → KV h2) : CV T N 87 [vr (some w), vr (some w1)] h KV := by
  have bb := I.b
  obtain ⟨b0, b1, b3, b4, b5⟩ := W.b
  refine z87 W.o.t Wo2.t ?_
  intro h3 z
  rw [b5] at z
  have F : Fp (fun x => x = w) h h3 := by subst z; exact Fp.pw rfl
  refine d_cpD_loop W I Wo2 dis k (v 117).toNat 0 h3 (by omega) (by omega) (F.mo fun x e => by omega) (by subst z; rfl) (by subst z; exact rd_eq rfl rfl (by omega)) (fun c h1 h2 => by omega) (fun x h1 h2 => F.1 x h1) (fun j h1 h2 => by subst z; exact rd_k h1 h2 (by omega))
theorem d_copyW (W : Wo T N h w1 v) (I : Iv v) (Wo2 : WO T N h w) (dis : w + 294 ≤ w1 ∨ w1 + 294 ≤ w) (k : ∀ h2, Fp (fun x => w ≤ x ∧ x < w + 294) h h2 → gr h2 = gr h → Wo T N h2 w v → KV h2) : CV T N 84 [vr (some w), vr (some w1)] h KV := by
  have bb := I.b
  obtain ⟨b0, b1, b3, b4, b5⟩ := W.b
  have hne : w1 ≠ w := by omega
  refine z84 W.o.t Wo2.t ?_
  intro h3 z; subst z; intro h3 z; subst z; intro h3 z
  rw [rd_a hne, rd_a hne, rd_a hne, b0, b1] at z
  have F3 : Fp (fun x => x = w) h h3 := by subst z; exact Fp.pw2 (Fp.pw2 (Fp.pw rfl) rfl) rfl
  have g3 : gr h3 = gr h := by subst z; rfl
  have f0 : ai h3 w 0 = v 448 := by subst z; simp (disch := first | omega | exact ai_in _ _ _) only [rd_eq, rd_a, rd_k, up_eq, up_ne, ]
  have f1 : ai h3 w 1 = v 0 := by subst z; simp (disch := first | omega | exact ai_in _ _ _) only [rd_eq, rd_a, rd_k, up_eq, up_ne, ]
  have f2 : ai h3 w 2 = ai h w1 2 := by subst z; simp (disch := first | omega | exact ai_in _ _ _) only [rd_eq, rd_a, rd_k, up_eq, up_ne, ]
  clear z
  have W3 : Wo T N h3 w1 v := W.fr (fun b q1 q2 => F3.1 b (by omega)) I
  refine d_cpC W3 I (Wo2.to g3) dis fun h4 F4 g4 e4 C4 s4 w4 => ?_
  have W4 : Wo T N h4 w1 v := W3.fr (fun b q1 q2 => s4 b (by omega) (by omega)) I
  refine d_cpF W4 I (Wo2.to (g4.trans g3)) dis fun h5 F5 g5 e5 C5 s5 w5 => ?_
  have W5 : Wo T N h5 w1 v := W4.fr (fun b q1 q2 => s5 b (by omega) (by omega)) I
  refine d_cpD W5 I (Wo2.to (g5.trans (g4.trans g3))) dis fun h6 F6 g6 e6 C6 s6 w6 => ?_
  refine k h6 ((((F3.mo fun x e => by omega).tr (F4.mo fun x e => by omega)).tr (F5.mo fun x e => by omega)).tr F6) (g6.trans (g5.trans (g4.trans g3))) ⟨Wo2.to (g6.trans (g5.trans (g4.trans g3))), ⟨?_, ?_, ?_, ?_, e6⟩, ?_, fun c h1 h2 k h3 h4 => ?_, fun c h1 h2 k h3 h4 => ?_, C6⟩
  · rw [w6 0 (by omega) (by omega), w5 0 (by omega) (by omega), w4 0 (by omega) (by omega)]; exact f0
  · rw [w6 1 (by omega) (by omega), w5 1 (by omega) (by omega), w4 1 (by omega) (by omega)]; exact f1
  · rw [w6 3 (by omega) (by omega), w5 3 (by omega) (by omega)]; exact e4
  · rw [w6 4 (by omega) (by omega)]; exact e5
  · rw [w6 2 (by omega) (by omega), w5 2 (by omega) (by omega), w4 2 (by omega) (by omega), f2]; exact W.p
  · rw [(s6 (cA w c) (by unfold cA; omega) (by unfold cA; omega)).ai, (s5 (cA w c) (by unfold cA; omega) (by unfold cA; omega)).ai]; exact C4 c h1 h2 k h3 h4
  · rw [(s6 (fA w c) (by unfold fA; omega) (by unfold fA; omega)).ai]; exact C5 c h1 h2 k h3 h4
end CPW
