/-! WORLDS: copies -/
section CPY
variable {T N : Nat → Nat} {bs A a b w w1 lo hi : Nat} {h h2 h3 : PH} {u v e e2 g : Int → Int} {hs : Int → Int → Int} {d t n : Int} {K : Int → PH → Prop} {KV : PH → Prop}
theorem cp5 (hab : b ≠ a) : ∀ k, 0 ≤ k → k < 5 → ai (wi (wi (wi (wi (wi h a 0 (ai h b 0)) a 1 (ai h b 1)) a 2 (ai h b 2)) a 3 (ai h b 3)) a 4 (ai h b 4)) a k = ai h b k := by
  intro k a1 a2
  by_cases c : k = 4
  · subst c; rw [rd_eq rfl rfl (ai_in _ _ _)]
  · rw [rd_k c a1 (by omega)]; exact cp4 hab k a1 (by omega)
theorem d_copyL (hab : b ≠ a) (ta : T a = 7) (tb : T b = 7) (k : ∀ h2, Fp (fun x => x = a) h h2 → gr h2 = gr h → (∀ k, 0 ≤ k → k < 5 → ai h2 a k = ai h b k) → KV h2) : CV T N 57 [vr (some a), vr (some b)] h KV := by
  refine z57 tb ta ?_
  intro h3 g; subst g; intro h3 g; subst g; intro h3 g; subst g; intro h3 g; subst g; intro h3 g; subst g
  rw [rd_a hab, rd_a hab, rd_a hab, rd_a hab, rd_a hab, rd_a hab, rd_a hab, rd_a hab, rd_a hab, rd_a hab]
  exact k _ (Fp.pw2 (wr4_fp rfl) rfl) rfl (cp5 hab)
theorem d_copyD_legs (Da : DT T N h a) (Db : DT T N h b) (hab : a + 44 ≤ b ∨ b + 44 ≤ a) (h5 : 0 ≤ e 5 ∧ e 5 ≤ 41) (G : DrD v h b e)
    (k : ∀ h2, Fp (fun x => a ≤ x ∧ x < a + 44) h h2 → gr h2 = gr h → DrD v h2 a e → KV h2) :
    ∀ (m : Nat) (i : Int) (h3 : PH), i = e 5 - m → 0 ≤ i → Fp (fun x => a ≤ x ∧ x < a + 44) h h3 → gr h3 = gr h → (ai h3 a 0 = e 0 ∧ ai h3 a 1 = e 1 ∧ ai h3 a 2 = e 2 ∧ ai h3 a 3 = e 3 ∧ ai h3 a 4 = e 4 ∧ ai h3 a 5 = e 6 ∧ ai h3 a 6 = e 12 ∧ ai h3 a 8 = e 5) → (∀ j, 0 ≤ j → j < 5 → ai h3 (a + 1) j = e (7 + j)) → (∀ j, 0 ≤ j → j < i → ∀ b', gr h (a + 2) (Int.toNat j) = some b' → LegD v h3 b' (e (13 + j))) →
      WV T N 16 91 [some (vr (some a)), some (vr (some b)), some (vi (J i)), none, none] [] h3 KV := by
  obtain ⟨p, hp, hinj⟩ := Da.pe
  intro m
  induction m with
  | zero =>
    intro i h3 hi h0 F gg f s L
    refine z16_91 Da.t Db.t (by omega) ⟨fun c => by omega, fun c => k h3 F gg ⟨f, s, fun j h1 h2 b' hb => L j h1 (by omega) b' (by rw [gg] at hb; exact hb)⟩⟩
  | succ m ih =>
    intro i h3 hi h0 F gg f s L
    have Da3 := Da.to gg
    have Db3 := Db.to gg
    have sb := F.1 b (by omega)
    have e8b : ai h3 b 8 = e 5 := by rw [sb.ai]; exact G.1.2.2.2.2.2.2.2
    refine z16_91 Da.t Db.t (by omega) ⟨fun c => ?_, fun c => absurd (by omega) c⟩
    refine d_legAt Da3 (n := i) (by omega) (by omega) (fun c1 x hx q1 q2 tx => ?_) (fun c => absurd (by omega) c)
    refine d_legAt Db3 (n := i) (by omega) (by omega) (fun c1 y hy r1 r2 ty => ?_) (fun c => absurd (by omega) c)
    refine ⟨fun z => by (cases z), fun x' ex => ⟨fun z => by (cases z), fun y' ey => ?_⟩⟩
    cases ex; cases ey
    refine ⟨tx, d_copyL (by omega) tx ty fun h4 F4 g4 C4 => ?_⟩
    rw [gg] at hx hy
    have Ly := G.2.2 i h0 (by omega) y hy
    have s1 := F4.1 a (by omega)
    have s2 := F4.1 (a + 1) (by omega)
    have sy := F.1 y (by omega)
    refine ih (i + 1) h4 (by omega) (by omega) (F.tr (F4.mo fun z e => by omega)) (g4.trans gg) (by rw [s1.ai, s1.ai, s1.ai, s1.ai, s1.ai, s1.ai, s1.ai, s1.ai]; exact f) (fun j h1 h2 => by rw [s2.ai]; exact s j h1 h2) fun j h1 h2 b' hb => ?_
    by_cases c2 : j = i
    · subst c2
      rw [hx] at hb
      have q := Option.some.inj hb
      subst q
      unfold LegD at Ly ⊢
      rw [C4 0 (by omega) (by omega), C4 1 (by omega) (by omega), C4 2 (by omega) (by omega), C4 3 (by omega) (by omega), C4 4 (by omega) (by omega), sy.ai, sy.ai, sy.ai, sy.ai, sy.ai]
      exact Ly
    · have q1 := (hp j.toNat (by omega)).1
      have q2 := (hp i.toNat (by omega)).1
      rw [q1] at hb
      rw [q2] at hx
      have n1 := Option.some.inj hb
      have n2 := Option.some.inj hx
      have ne : b' ≠ x := fun z => by
        have := hinj j.toNat i.toNat (by omega) (by omega) (by rw [n1, n2]; exact z)
        omega
      exact (L j h1 (by omega) b' (by rw [q1, n1])).fr (F4.1 b' ne)
theorem d_copyD_sums (Da : DT T N h a) (Db : DT T N h b) (hab : a + 44 ≤ b ∨ b + 44 ≤ a) (h5 : 0 ≤ e 5 ∧ e 5 ≤ 41) (G : DrD v h b e)
    (k : ∀ h2, Fp (fun x => a ≤ x ∧ x < a + 44) h h2 → gr h2 = gr h → DrD v h2 a e → KV h2) :
    ∀ (m : Nat) (i : Int) (h3 : PH), i = 5 - m → 0 ≤ i → Fp (fun x => x = a ∨ x = a + 1) h h3 → gr h3 = gr h → (ai h3 a 0 = e 0 ∧ ai h3 a 1 = e 1 ∧ ai h3 a 2 = e 2 ∧ ai h3 a 3 = e 3 ∧ ai h3 a 4 = e 4 ∧ ai h3 a 5 = e 6 ∧ ai h3 a 6 = e 12) → (∀ j, 0 ≤ j → j < i → ai h3 (a + 1) j = e (7 + j)) →
      WV T N 16 58 [some (vr (some a)), some (vr (some b)), some (vi (J i)), none, none] [] h3 KV := by
  intro m
  induction m with
  | zero =>
    intro i h3 hi h0 F gg f s
    have sb := F.1 b (by omega)
    refine z16_58 Db.t Da.t (by omega) ⟨fun c => by omega, fun c => ?_⟩
    intro h4 z4
    have e8b : ai h3 b 8 = e 5 := by rw [sb.ai]; exact G.1.2.2.2.2.2.2.2
    rw [e8b] at z4
    refine d_copyD_legs Da Db hab h5 G k (e 5).toNat 0 h4 (by omega) (by omega) ?_ (by subst z4; exact gg) ?_ (fun j h1 h2 => ?_) (fun j h1 h2 => by omega)
    · subst z4; exact (F.mo fun x e => by omega).tr (Fp.pw (by omega))
    · subst z4
      obtain ⟨f0, f1, f2, f3, f4, f5, f6⟩ := f
      exact ⟨by simp (disch := first | omega | exact ai_in _ _ _) only [rd_eq, rd_a, rd_k, up_eq, up_ne, f0], by simp (disch := first | omega | exact ai_in _ _ _) only [rd_eq, rd_a, rd_k, up_eq, up_ne, f1], by simp (disch := first | omega | exact ai_in _ _ _) only [rd_eq, rd_a, rd_k, up_eq, up_ne, f2], by simp (disch := first | omega | exact ai_in _ _ _) only [rd_eq, rd_a, rd_k, up_eq, up_ne, f3], by simp (disch := first | omega | exact ai_in _ _ _) only [rd_eq, rd_a, rd_k, up_eq, up_ne, f4], by simp (disch := first | omega | exact ai_in _ _ _) only [rd_eq, rd_a, rd_k, up_eq, up_ne, f5], by simp (disch := first | omega | exact ai_in _ _ _) only [rd_eq, rd_a, rd_k, up_eq, up_ne, f6], by simp (disch := first | omega | exact ai_in _ _ _) only [rd_eq, rd_a, rd_k, up_eq, up_ne, ]⟩
    · subst z4; rw [rd_a (by omega)]; exact s j h1 (by omega)
  | succ m ih =>
    intro i h3 hi h0 F gg f s
    have na := Da.su.2.1
    have nb := Db.su.2.1
    refine z16_58 Db.t Da.t (by omega) ⟨fun c => ⟨b + 1, by rw [gg]; exact Db.su.2.2, Db.su.1, by omega, a + 1, by rw [gg]; exact Da.su.2.2, Da.su.1, by omega, ?_⟩, fun c => absurd (by omega) c⟩
    intro h4 z4
    have eb : ai h3 (b + 1) i = e (7 + i) := by rw [(F.1 (b + 1) (by omega)).ai]; exact G.2.1 i h0 (by omega)
    refine ih (i + 1) h4 (by omega) (by omega) (by subst z4; exact F.tr (Fp.pw (Or.inr rfl))) (by subst z4; exact gg) ?_ (fun j h1 h2 => ?_)
    · subst z4
      rw [rd_a (by omega), rd_a (by omega), rd_a (by omega), rd_a (by omega), rd_a (by omega), rd_a (by omega), rd_a (by omega)]; exact f
    · subst z4
      by_cases c2 : j = i
      · rw [rd_eq rfl c2 (ai_in _ _ _), c2]; exact eb
      · rw [rd_k c2 h1 h0]; exact s j h1 (by omega)
theorem d_copyD (Da : DT T N h a) (Db : DT T N h b) (hab : a + 44 ≤ b ∨ b + 44 ≤ a) (h5 : 0 ≤ e 5 ∧ e 5 ≤ 41) (G : DrD v h b e) (k : ∀ h2, Fp (fun x => a ≤ x ∧ x < a + 44) h h2 → gr h2 = gr h → DrD v h2 a e → KV h2) : CV T N 16 [vr (some a), vr (some b)] h KV := by
  have hne : b ≠ a := by omega
  obtain ⟨g0, g1, g2, g3, g4, g5, g6, g8⟩ := G.1
  refine z16 Db.t Da.t ?_
  intro h3 z; subst z; intro h3 z; subst z; intro h3 z; subst z; intro h3 z; subst z; intro h3 z; subst z; intro h3 z; subst z; intro h3 z
  have rr : ∀ (k : Int) {hh : PH} {j x : Int}, ai (wi hh a j x) b k = ai hh b k := fun k {hh j x} => rd_a hne
  simp only [rr, g0, g1, g2, g3, g4, g5, g6] at z
  have i0 : In (e 0) := by rw [← g0]; exact ai_in _ _ _
  have i1 : In (e 1) := by rw [← g1]; exact ai_in _ _ _
  have i2 : In (e 2) := by rw [← g2]; exact ai_in _ _ _
  have i3 : In (e 3) := by rw [← g3]; exact ai_in _ _ _
  have i4 : In (e 4) := by rw [← g4]; exact ai_in _ _ _
  have i5 : In (e 6) := by rw [← g5]; exact ai_in _ _ _
  have i6 : In (e 12) := by rw [← g6]; exact ai_in _ _ _
  refine d_copyD_sums Da Db hab h5 G k 5 0 h3 (by omega) (by omega) ?_ (by subst z; rfl) ?_ (fun j h1 h2 => by omega)
  · subst z
    exact Fp.pw2 (Fp.pw2 (Fp.pw2 (Fp.pw2 (Fp.pw2 (Fp.pw2 (Fp.pw (Or.inl rfl)) (Or.inl rfl)) (Or.inl rfl)) (Or.inl rfl)) (Or.inl rfl)) (Or.inl rfl)) (Or.inl rfl)
  · subst z
    exact ⟨by simp (disch := first | omega | exact ai_in _ _ _) only [rd_eq, rd_a, rd_k, up_eq, up_ne, ], by simp (disch := first | omega | exact ai_in _ _ _) only [rd_eq, rd_a, rd_k, up_eq, up_ne, ], by simp (disch := first | omega | exact ai_in _ _ _) only [rd_eq, rd_a, rd_k, up_eq, up_ne, ], by simp (disch := first | omega | exact ai_in _ _ _) only [rd_eq, rd_a, rd_k, up_eq, up_ne, ], by simp (disch := first | omega | exact ai_in _ _ _) only [rd_eq, rd_a, rd_k, up_eq, up_ne, ], by simp (disch := first | omega | exact ai_in _ _ _) only [rd_eq, rd_a, rd_k, up_eq, up_ne, ], by simp (disch := first | omega | exact ai_in _ _ _) only [rd_eq, rd_a, rd_k, up_eq, up_ne, ]⟩
end CPY
