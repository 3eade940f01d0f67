/-! DRONES: the tick -/
section PAS
variable {T N : Nat → Nat} {h h2 : PH} {w a b : Nat} {v u e e2 : Int → Int} {t : Int} {K : Int → PH → Prop} {KV : PH → Prop}
theorem rot_loop (D : DT T N h a) {b0 : Nat} {n : Int} (hb0 : gr h (a + 2) 0 = some b0) (hn : ai h a 8 = n ∧ 1 ≤ n ∧ n ≤ 41)
    (k : ∀ h2, Fp (fun x => x = a ∨ x = a + 2) h h2 → gi h2 = gi (wi h a 8 (n - 1)) → (∀ j : Nat, gr h2 (a + 2) j = if (j : Int) = n - 1 then some b0 else if (j : Int) < n - 1 then gr h (a + 2) (j + 1) else gr h (a + 2) j) → (∀ j, gr h2 a j = gr h a j) → KV h2) :
    ∀ (m : Nat) (i : Int) (h3 : PH), i = n - m → 1 ≤ i → Fp (fun x => x = a + 2) h h3 → gi h3 = gi h → (∀ j : Nat, gr h3 (a + 2) j = if (j : Int) < i - 1 then gr h (a + 2) (j + 1) else gr h (a + 2) j) → WV T N 24 30 [some (vr (some a)), some (vr (some b0)), some (vi (J i))] [] h3 KV := by
  obtain ⟨p, hp, -⟩ := D.pe
  have tl := D.le.1
  have nl := D.le.2.1
  intro m
  induction m with
  | zero =>
    intro i h3 hi h1 F gg C
    have s0 := F.1 a (by omega)
    have e8 : ai h3 a 8 = n := by rw [s0.ai]; exact hn.1
    refine z24_30 D.t (by omega) ⟨fun c => by omega, fun c => ?_⟩
    obtain ⟨p0, q1, q2⟩ := hp 0 (by omega)
    rw [hb0] at p0
    have e0 := Option.some.inj p0
    have tb : T b0 = 7 := by rw [e0]; exact D.tl q1 q2
    rw [e8]
    refine ⟨a + 2, by rw [s0.gr]; exact D.le.2.2, by omega, by omega, ?_⟩
    intro h4 z4; intro h5 z5
    have e9 : ai h4 a 8 = n := by subst z4; exact e8
    rw [e9] at z5
    have F5 : Fp (fun x => x = a ∨ x = a + 2) h h5 := by subst z5; subst z4; exact ((F.mo fun x e => Or.inr e).tr (Fp.pr (Or.inr rfl))).tr (Fp.pw (Or.inl rfl))
    refine k h5 F5 ?_ (fun j => ?_) fun j => ?_
    · subst z5; subst z4
      show (fun b j => if b = a ∧ j = _ then _ else gi h3 b j) = _
      rw [gg]; rfl
    · subst z5; subst z4
      show (if a + 2 = a + 2 ∧ j = Int.toNat (n - 1) then some b0 else gr h3 (a + 2) j) = _
      rw [C j]
      by_cases c1 : (j : Int) = n - 1
      · rw [if_pos c1, if_pos (by omega)]
      · rw [if_neg c1, if_neg (by omega)]
        by_cases c2 : (j : Int) < n - 1
        · rw [if_pos c2, if_pos (by omega)]
        · rw [if_neg c2, if_neg (by omega)]
    · subst z5; subst z4
      show (if a = a + 2 ∧ j = Int.toNat (n - 1) then some b0 else gr h3 a j) = _
      rw [if_neg (by omega)]; exact s0.gr j
  | succ m ih =>
    intro i h3 hi h1 F gg C
    have s0 := F.1 a (by omega)
    have e8 : ai h3 a 8 = n := by rw [s0.ai]; exact hn.1
    refine z24_30 D.t (by omega) ⟨fun c => ?_, fun c => absurd (by omega) c⟩
    obtain ⟨pi, q1, q2⟩ := hp i.toNat (by omega)
    have tb : T (p i.toNat) = 7 := D.tl q1 q2
    refine ⟨a + 2, by rw [s0.gr]; exact D.le.2.2, by omega, by omega, p i.toNat, ?_, by omega, by omega, ?_⟩
    · rw [C, if_neg (by omega)]; exact pi
    · intro h4 z4
      refine ih (i + 1) h4 (by omega) (by omega) (by subst z4; exact F.tr (Fp.pr rfl)) (by subst z4; exact gg) fun j => ?_
      subst z4
      show (if a + 2 = a + 2 ∧ j = Int.toNat (i - 1) then some (p i.toNat) else gr h3 (a + 2) j) = _
      rw [C j]
      by_cases c1 : (j : Int) = i - 1
      · rw [if_pos (by omega), if_pos (by omega), ← pi]; congr 1; omega
      · rw [if_neg (by omega)]
        by_cases c2 : (j : Int) < i - 1
        · rw [if_pos c2, if_pos (by omega)]
        · rw [if_neg c2, if_neg (by omega)]
theorem d_dropFirst (D : DT T N h a) (O : drOK v t e) (g : DrD v h a e) (h1 : 1 ≤ e 5) (k : ∀ h2, Fp (fun x => a ≤ x ∧ x < a + 44) h h2 → DT T N h2 a → DrD v h2 a (shE e) → KV h2) : CV T N 24 [vr (some a)] h KV := by
  obtain ⟨⟨g0, g1, g2, g3, g4, g5, g6, g8⟩, gs, gl⟩ := id g
  obtain ⟨o0, o1, o2, o3, o4, o5, o6, o7, o8, o9, o10, o11, o12, os, oa, ob, oc, ol⟩ := id O
  have tl := D.le.1
  have nl := D.le.2.1
  obtain ⟨p, hp, hi⟩ := D.pe
  obtain ⟨p0, q1, q2⟩ := hp 0 (by omega)
  refine z24 D.t ⟨fun c => by omega, fun c => ⟨a + 2, D.le.2.2, by omega, by omega, fun c => by omega, fun c => ⟨a + 2, D.le.2.2, by omega, by omega, p 0, p0, ?_⟩⟩⟩
  refine rot_loop D p0 ⟨g8, h1, o5.2⟩ (fun h2 F gg C C2 => ?_) (e 5 - 1).toNat 1 h (by omega) (by omega) Fp.rf rfl fun j => by rw [if_neg (by omega)]
  have F2 : Fp (fun x => x = a) h (wi h a 8 (e 5 - 1)) := Fp.pw rfl
  have ea : ∀ b j, ai h2 b j = ai (wi h a 8 (e 5 - 1)) b j := fun b j => by show (gi h2 b j.toNat).toInt = _; rw [gg]; rfl
  have n5 : shE e 5 = e 5 - 1 := rfl
  refine k h2 (F.mo fun x z => by omega) ⟨D.t, ?_, ?_, D.2.2.2.1, fun j => if (j : Int) = e 5 - 1 then p 0 else if (j : Int) < e 5 - 1 then p (j + 1) else p j, fun j hj => ?_, fun i j h1 h2 h3 => ?_⟩ ⟨?_, fun j h1 h2 => ?_, fun i h1 h2 b hb => ?_⟩
  · rw [C2]; exact D.su
  · rw [C2]; exact D.le
  · rw [C j]
    dsimp only
    by_cases c1 : (j : Int) = e 5 - 1
    · rw [if_pos c1, if_pos c1]; exact ⟨rfl, q1, q2⟩
    · rw [if_neg c1, if_neg c1]
      by_cases c2 : (j : Int) < e 5 - 1
      · rw [if_pos c2, if_pos c2]; exact hp (j + 1) (by omega)
      · rw [if_neg c2, if_neg c2]; exact hp j hj
  · dsimp only at h3
    by_cases a1 : (i : Int) = e 5 - 1
    · rw [if_pos a1] at h3
      by_cases b1 : (j : Int) = e 5 - 1
      · omega
      · rw [if_neg b1] at h3
        by_cases b2 : (j : Int) < e 5 - 1
        · rw [if_pos b2] at h3; have := hi _ _ (by omega) (by omega) h3; omega
        · rw [if_neg b2] at h3; have := hi _ _ (by omega) (by omega) h3; omega
    · rw [if_neg a1] at h3
      by_cases a2 : (i : Int) < e 5 - 1
      · rw [if_pos a2] at h3
        by_cases b1 : (j : Int) = e 5 - 1
        · rw [if_pos b1] at h3; have := hi _ _ (by omega) (by omega) h3; omega
        · rw [if_neg b1] at h3
          by_cases b2 : (j : Int) < e 5 - 1
          · rw [if_pos b2] at h3; have := hi _ _ (by omega) (by omega) h3; omega
          · rw [if_neg b2] at h3; have := hi _ _ (by omega) (by omega) h3; omega
      · rw [if_neg a2] at h3
        by_cases b1 : (j : Int) = e 5 - 1
        · rw [if_pos b1] at h3; have := hi _ _ (by omega) (by omega) h3; omega
        · rw [if_neg b1] at h3
          by_cases b2 : (j : Int) < e 5 - 1
          · rw [if_pos b2] at h3; have := hi _ _ (by omega) (by omega) h3; omega
          · rw [if_neg b2] at h3; have := hi _ _ (by omega) (by omega) h3; omega
  · have sh : ∀ j, 0 ≤ j → j < 13 → j ≠ 5 → shE e j = e j := fun j a1 a2 a3 => by unfold shE; rw [if_neg a3, if_neg (by omega)]
    rw [ea, ea, ea, ea, ea, ea, ea, ea, sh 0 (by omega) (by omega) (by omega), sh 1 (by omega) (by omega) (by omega), sh 2 (by omega) (by omega) (by omega), sh 3 (by omega) (by omega) (by omega), sh 4 (by omega) (by omega) (by omega), sh 6 (by omega) (by omega) (by omega), sh 12 (by omega) (by omega) (by omega), n5]
    exact ⟨by simp (disch := first | omega | exact ai_in _ _ _) only [rd_eq, rd_a, rd_k, up_eq, up_ne, g0], by simp (disch := first | omega | exact ai_in _ _ _) only [rd_eq, rd_a, rd_k, up_eq, up_ne, g1], by simp (disch := first | omega | exact ai_in _ _ _) only [rd_eq, rd_a, rd_k, up_eq, up_ne, g2], by simp (disch := first | omega | exact ai_in _ _ _) only [rd_eq, rd_a, rd_k, up_eq, up_ne, g3], by simp (disch := first | omega | exact ai_in _ _ _) only [rd_eq, rd_a, rd_k, up_eq, up_ne, g4], by simp (disch := first | omega | exact ai_in _ _ _) only [rd_eq, rd_a, rd_k, up_eq, up_ne, g5], by simp (disch := first | omega | exact ai_in _ _ _) only [rd_eq, rd_a, rd_k, up_eq, up_ne, g6], by simp (disch := first | omega | exact ai_in _ _ _) only [rd_eq, rd_a, rd_k, up_eq, up_ne, g8]⟩
  · rw [ea, rd_a (by omega), gs j h1 h2]
    unfold shE; rw [if_neg (by omega), if_neg (by omega)]
  · rw [n5] at h2
    rw [C, if_neg (by omega), if_pos (by omega)] at hb
    have hb' : gr h (a + 2) (Int.toNat (i + 1)) = some b := by rw [← hb]; congr 1; omega
    have L := gl (i + 1) (by omega) (by omega) b hb'
    have e1 : shE e (13 + i) = e (13 + (i + 1)) := by
      unfold shE; rw [if_neg (by omega), if_pos (by omega)]; congr 1; omega
    rw [e1]
    obtain ⟨b', z1, z2, z3, z4⟩ := D.at (i := i + 1) (by omega)
    rw [z1] at hb'
    have q := Option.some.inj hb'
    unfold LegD at L ⊢
    rw [ea, ea, ea, ea, ea, rd_a (by omega), rd_a (by omega), rd_a (by omega), rd_a (by omega), rd_a (by omega)]
    exact L
end PAS
