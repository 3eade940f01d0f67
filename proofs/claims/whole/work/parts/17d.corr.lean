/-! CORRIDOR -/
/-- the drones that fly in a corridor -/
def FM (v : Int → Int) (c : Int) (m i : Int) : Prop := In m ∧ ∀ j : Nat, j < 32 → (mb m j = true ↔ (j : Int) < i ∧ rc v j 0 = 2 ∧ rc v j 13 % 16 = c)
section CRR
variable {T N : Nat → Nat} {bs A p q w x : Nat} {h h1 h2 h3 h7 h10 : PH} {v u sv tx e e2 : Int → Int} {hs hs2 : Int → Int → Int} {iss n tn re er d t a b l m c y : Int} {i : Nat} {K : Int → PH → Prop} {KV : PH → Prop} {KP : PR → PH → Prop} {Q : Int → Int → Int → PH → Prop} {f g : Int → Int}
theorem FM.un {m1 m2 i1 : Int} (S : FM v c m1 i1) (R : FM v c m2 i1) : m1 = m2 := mb_ext S.1 R.1 fun j hj => by
  have g := S.2 j hj
  have k := R.2 j hj
  cases ea : mb m1 j <;> cases eb : mb m2 j <;> simp [ea, eb] at g k ⊢
  · exact g k.1 k.2.1 k.2.2
  · exact k g.1 g.2.1 g.2.2
theorem FM0 : FM v c 0 0 := ⟨by decide, fun j hj => by
  rw [mb_0]
  constructor
  · intro z; cases z
  · intro z; have := z.1; omega⟩
theorem FM.yes {i1 : Nat} (S : FM v c m i1) (hi : i1 < 32) (g : rc v i1 0 = 2 ∧ rc v i1 13 % 16 = c) : FM v c (zor m (zshl 1 i1)) (i1 + 1) := ⟨zor_in _ _, fun j hj => by
  rw [mb_or, mb_shl (by omega) hj, Bool.or_eq_true, S.2 j hj, decide_eq_true_eq]
  constructor
  · rintro (z | z)
    · exact ⟨by omega, z.2⟩
    · exact ⟨by omega, by rw [z]; exact g⟩
  · intro z
    by_cases c2 : (j : Int) = i1
    · exact Or.inr c2
    · exact Or.inl ⟨by omega, z.2⟩⟩
theorem FM.no {i1 : Nat} (S : FM v c m i1) (g : ¬ (rc v i1 0 = 2 ∧ rc v i1 13 % 16 = c)) : FM v c m (i1 + 1) := ⟨S.1, fun j hj => by
  rw [S.2 j hj]
  constructor
  · intro z; exact ⟨by omega, z.2⟩
  · intro z
    by_cases c2 : (j : Int) = i1
    · rw [c2] at z; exact absurd z.2 g
    · exact ⟨by omega, z.2⟩⟩
theorem zor0 (hm : In m) : zor m 0 = m := mb_ext (zor_in _ _) hm fun j hj => by rw [mb_or, mb_0, Bool.or_false]
theorem d_place (Dt : DT T N h p) (O : drOK v t e) (G : DrD v h p e) (k : K (if e 0 = 2 then 100 + e 13 % 16 else e 3) h) : ZI T N 21 [vr (some p)] h K := by
  obtain ⟨⟨g0, g1, g2, g3, g4, g5, g6, g8⟩, gs, gl⟩ := id G
  obtain ⟨o0, o1, o2, o3, o4, o5, o6, o7, o8, o9, o10, o11, o12, os, oa, ob, oc, ol⟩ := id O
  refine z21 Dt.t (d_legAt Dt (n := 0) (by omega) (by omega) (fun c1 x hx q1 q2 tx => ?_) (fun c1 => ?_))
  · have L : LegD v h x (e 13) := gl 0 (by omega) (by omega) x hx
    refine ⟨fun c => ⟨fun z => by (cases z), fun x' ex => ⟨?_, ?_⟩⟩, fun c => ?_⟩
    · cases ex; exact tx
    · cases ex; rw [L.1]; rw [if_pos (by omega)] at k; exact ⟨by omega, k⟩
    · rw [if_neg (by omega)] at k; rw [g3]; exact k
  · refine ⟨fun c => ?_, fun c => ?_⟩
    · have := oc (by omega); omega
    · rw [if_neg (by omega)] at k; rw [g3]; exact k
theorem d_flyLoop (W : Wo T N h w v) (I : Iv v) (hc : 0 ≤ c ∧ c < 16) (k : ∀ m, FM v c m (v 117) → K m h) : ∀ (q i : Nat) (m : Int), (i : Int) + q = v 117 → FM v c m i → ZW T N 98 4 [some (vr (some w)), some (vi (J c)), some (vi (J m)), some (vi (J (i : Int))), none] [] h K := by
  have b := I.b
  have eb := W.b
  intro q
  induction q with
  | zero =>
    intro i m hi S
    exact z98_4 W.o.t (by omega) S.1 (by omega) ⟨fun c => by omega, fun c => k m (by rw [← show (i : Int) = v 117 by omega]; exact S)⟩
  | succ q ih =>
    intro i m hi S
    have Dt := (W.o.d (c := (i : Int)) (by omega)).2
    have O := I.d (n := (i : Int)) (by omega) (by omega)
    refine z98_4 W.o.t (by omega) S.1 (by omega) ⟨fun cq => ?_, fun cq => absurd (by omega) cq⟩
    refine d_dro (n := (i : Int)) W.o (by omega) (by omega) (fun c1 => ⟨fun z => by (cases z), fun a' ea => ?_⟩) (fun c1 => absurd (by omega) c1)
    cases ea
    refine ⟨Dt.t, d_place Dt O (W.d (d := (i : Int)) (by omega) (by omega)) ⟨by omega, fun c2 => ?_, fun c2 => ?_⟩⟩
    · have g : rc v i 0 = 2 ∧ rc v i 13 % 16 = c := by
        by_cases z : rc v i 0 = 2
        · rw [if_pos z] at c2; exact ⟨z, by omega⟩
        · rw [if_neg z] at c2; have := O.2.2.2.1; omega
      have := ih (i + 1) _ (by omega) (by rw [show ((i + 1 : Nat) : Int) = (i : Int) + 1 by omega]; exact S.yes (by omega) g)
      rw [show ((i + 1 : Nat) : Int) = (i : Int) + 1 by omega] at this; exact this
    · have g : ¬ (rc v i 0 = 2 ∧ rc v i 13 % 16 = c) := fun z => c2 (by rw [if_pos z.1, z.2])
      have := ih (i + 1) _ (by omega) (by rw [show ((i + 1 : Nat) : Int) = (i : Int) + 1 by omega]; exact S.no g)
      rw [show ((i + 1 : Nat) : Int) = (i : Int) + 1 by omega] at this; exact this
theorem r_flyLoop (R : RT T N A h) (V : Rv A h v) (I : Iv v) (hc : 0 ≤ c ∧ c < 16) (k : ∀ m, FM v c m (v 117) → K m h) : ∀ (q i : Nat) (m : Int), (i : Int) + q = v 117 → FM v c m i → ZW T N 180 79 [some (vr (some A)), some (vi (J c)), none, some (vi (J m)), some (vi (J (i : Int)))] [] h K := by
  have b := I.b
  have n1 := R.a1.2.1
  have e117 := V 117 (by omega) (by omega)
  intro q
  induction q with
  | zero =>
    intro i m hi S
    exact z180_79 R.t (by omega) S.1 (by omega) ⟨A + 1, R.a1.2.2, R.a1.1, by omega, fun c => by omega, fun c => k m (by rw [← show (i : Int) = v 117 by omega]; exact S)⟩
  | succ q ih =>
    intro i m hi S
    have O := I.d (n := (i : Int)) (by omega) (by omega)
    have oc := O.2.2.2.2.2.2.2.2.2.2.2.2.2.2.2.2.1
    have go : FM v c m (i + 1) → ZW T N 180 79 [some (vr (some A)), some (vi (J c)), none, some (vi (J (zor m 0))), some (vi (J ((i : Int) + 1)))] [] h K := fun S2 => by
      rw [zor0 S.1]
      have := ih (i + 1) m (by omega) (by rw [show ((i + 1 : Nat) : Int) = (i : Int) + 1 by omega]; exact S2)
      rw [show ((i + 1 : Nat) : Int) = (i : Int) + 1 by omega] at this; exact this
    refine z180_79 R.t (by omega) S.1 (by omega) ⟨A + 1, R.a1.2.2, R.a1.1, by omega, fun c => r_of R (by omega) (by omega) ?_, fun c => absurd (by omega) c⟩
    rw [V _ (by omega) (by omega)]
    refine ⟨fun c2 => r_leg R (by omega) (by omega) ?_, fun c2 => go (S.no fun z => c2 z.1)⟩
    rw [V _ (by omega) (by omega)]
    have := oc c2
    have L : legOK v (rc v i (13 + 0)) := rc_leg I ⟨by omega, by omega⟩ (j := 0) (by omega)
    have gb := endV_b I L
    unfold legOK at L
    refine r_cOf (show 0 ≤ rc v i (13 + 0) ∧ rc v i (13 + 0) < _ by omega) ⟨fun c3 => ?_, fun c3 => go (S.no fun z => c3 z.2)⟩
    have := ih (i + 1) _ (by omega) (by rw [show ((i + 1 : Nat) : Int) = (i : Int) + 1 by omega]; exact S.yes (by omega) ⟨c2, c3⟩)
    rw [show ((i + 1 : Nat) : Int) = (i : Int) + 1 by omega] at this; exact this
/-- what corridor tells -/
def CrV (v : Int → Int) (c w r : Int) : Prop := In r ∧ ((w < 4 ∧ r = v (12 + 4 * c + w)) ∨ (4 ≤ w ∧ w < 6 ∧ r = costV v c (w - 4)) ∨ (w = 6 ∧ FM v c r (v 117)))
theorem CrV.un {r1 r2 : Int} (S : CrV v c y r1) (R : CrV v c y r2) : r1 = r2 := by
  rcases S.2 with g | g | g <;> rcases R.2 with k | k | k
  · rw [g.2, k.2]
  · omega
  · omega
  · omega
  · rw [g.2.2, k.2.2]
  · omega
  · omega
  · omega
  · exact g.2.un k.2
theorem cor_in (I : Iv v) (hc : 0 ≤ c ∧ c < v 11) (hy : 0 ≤ y ∧ y < 4) : In (v (12 + 4 * c + y)) := by
  have b := I.b
  have g := I.c hc.1 hc.2
  unfold corOK at g
  rcases (show y = 0 ∨ y = 1 ∨ y = 2 ∨ y = 3 by omega) with z | z | z | z <;> subst z <;> omega
theorem c_corridor (C : Com T N bs h i) (I : IvS v iss sv n hs tn tx re er) (D : SD T N bs h v iss sv n hs tn tx re er) (hc : In c) (hy : In y) (k0 : 0 ≤ c ∧ c < v 11 → 0 ≤ y ∧ y ≤ 6 → ∀ r, CrV v c y r → KP (.inl (some (vi (J r)))) h) (k1 : ¬ (0 ≤ c ∧ c < v 11) → KP (.inr 2) (bump h)) (k2 : 0 ≤ c ∧ c < v 11 → ¬ (0 ≤ y ∧ y ≤ 6) → KP (.inr 1) (bump h)) : CALL T N 112 [vr (some bs), vi (J c), vi (J y)] h KP := by
  have b := I.1.b
  have o := C.o
  have eb := D.1.b
  refine z112 o.1 hc hy ⟨bs + 1, o.2.1, C.2.1.1.t, d_cor C.2.1.1 hc (by omega) (fun c1 => ⟨fun z => by (cases z), fun a' ea => ?_⟩) (fun c1 => ⟨fun _ => ⟨C.t0, k1 (by omega)⟩, fun a' ea => by (cases ea)⟩)⟩
  cases ea
  have cf : 0 ≤ c ∧ c < v 11 := by omega
  have tc := (C.2.1.1.c (c := c) (by omega)).1
  have cO := I.1.c cf.1 cf.2
  have w0 := D.1.c (c := c) (k := 0) cf.1 cf.2 (by omega) (by omega)
  have w1 := D.1.c (c := c) (k := 1) cf.1 cf.2 (by omega) (by omega)
  have w2 := D.1.c (c := c) (k := 2) cf.1 cf.2 (by omega) (by omega)
  have w3 := D.1.c (c := c) (k := 3) cf.1 cf.2 (by omega) (by omega)
  have k4 : ∀ j, y = j → 0 ≤ j → j < 4 → KP (.inl (some (vi (J (v (12 + 4 * c + j)))))) h := fun j z h1 h2 => k0 cf (by omega) _ ⟨cor_in I.1 cf ⟨h1, h2⟩, Or.inl ⟨by omega, by rw [z]⟩⟩
  have k5 : ∀ j, y = 4 + j → 0 ≤ j → j < 2 → KP (.inl (some (vi (J (if j = 0 then 2 * v (12 + 4 * c + 2) - v (12 + 4 * c + 3) else 2 * v (12 + 4 * c + 2) + v (12 + 4 * c + 3)))))) h := fun j z h1 h2 => by
    refine k0 cf (by omega) _ ⟨?_, Or.inr (Or.inl ⟨by omega, by omega, ?_⟩)⟩
    · unfold corOK at cO; split <;> omega
    · unfold costV
      rw [show y - 4 = j by omega]
      by_cases c2 : j = 0
      · rw [if_pos c2, if_pos c2]
      · rw [if_neg c2, if_neg c2]; omega
  rw [w0, w1, w2, w3]
  unfold corOK at cO
  refine ⟨fun z => ⟨tc, k4 0 z (by omega) (by omega)⟩, fun z0 => ⟨fun z => ⟨tc, k4 1 z (by omega) (by omega)⟩, fun z1 => ⟨fun z => ⟨tc, k4 2 z (by omega) (by omega)⟩, fun z2 => ⟨fun z => ⟨tc, k4 3 z (by omega) (by omega)⟩, fun z3 => ⟨fun z => ⟨tc, d_energyOf tc (by decide) (by omega) ?_⟩, fun z4 => ⟨fun z => ⟨tc, d_energyOf tc (by decide) (by omega) ?_⟩, fun z5 => ⟨fun z => ⟨bs + 1, o.2.1, C.2.1.1.t, z98 hc (d_flyLoop D.1 I.1 (by omega) (fun m Fm => k0 cf (by omega) m ⟨Fm.1, Or.inr (Or.inr ⟨z, Fm⟩)⟩) (v 117).toNat 0 0 (by omega) FM0)⟩, fun z6 => ⟨C.t0, k2 cf (by omega)⟩⟩⟩⟩⟩⟩⟩⟩
  · rw [w2, w3]; exact k5 0 (by omega) (by omega) (by omega)
  · rw [w2, w3]; exact k5 1 (by omega) (by omega) (by omega)
theorem q_corridor (T7 : RT T N A h7) (I : IvS v iss sv n hs tn tx re er) (R7 : SR A h7 v iss sv n hs tn tx re er) (hc : In c) (hy : In y) (k0 : 0 ≤ c ∧ c < v 11 → 0 ≤ y ∧ y ≤ 6 → ∀ r, CrV v c y r → ∀ h8, FR (Scr A) h7 h8 → SR A h8 v iss sv n hs tn tx re er → ai h8 A 0 = 0 → K r h8) (k1 : ¬ (0 ≤ c ∧ c < v 11) → ∀ h8, FR (Scr A) h7 h8 → SR A h8 v iss sv n hs tn tx re er → ai h8 A 0 = 1 → K 0 h8) (k2 : 0 ≤ c ∧ c < v 11 → ¬ (0 ≤ y ∧ y ≤ 6) → ∀ h8, FR (Scr A) h7 h8 → SR A h8 v iss sv n hs tn tx re er → ai h8 A 0 = 2 → K 0 h8) : ZI T N 180 [vr (some A), vi (J c), vi (J y)] h7 K := by
  have b := I.1.b
  have e11 := R7.1 11 (by omega) (by omega)
  refine z180 T7.t hc hy (r_isCor T7 hc (by omega) (fun c1 => ⟨(fun z => absurd z (by decide)), fun _ => ?_⟩) (fun c1 => ⟨fun _ => ?_, (fun z => absurd rfl z)⟩))
  rotate_left
  · intro h8 z8; obtain ⟨R8, F8⟩ := R7.th (x := 1); rw [← z8] at R8 F8; have e8 : ai h8 A 0 = 1 := (by subst z8; exact rd_eq rfl rfl (by decide)); have T8 := T7.fr F8; rw [e8]; clear z8
    exact ⟨fun _ => k1 (by omega) h8 F8 R8 e8, fun z => absurd (by decide) z⟩
  have cf : 0 ≤ c ∧ c < v 11 := by omega
  refine r_in hy (by decide) (by decide) (fun c3 => ⟨(fun z => absurd z (by decide)), fun _ => ?_⟩) (fun c3 => ⟨fun _ => ?_, (fun z => absurd rfl z)⟩)
  rotate_left
  · intro h8 z8; obtain ⟨R8, F8⟩ := R7.th (x := 2); rw [← z8] at R8 F8; have e8 : ai h8 A 0 = 2 := (by subst z8; exact rd_eq rfl rfl (by decide)); have T8 := T7.fr F8; rw [e8]; clear z8
    exact ⟨fun _ => k2 cf c3 h8 F8 R8 e8, fun z => absurd (by decide) z⟩
  intro h8 z8; obtain ⟨R8, F8⟩ := R7.th (x := 0); rw [← z8] at R8 F8; have e8 : ai h8 A 0 = 0 := (by subst z8; exact rd_eq rfl rfl (by decide)); have T8 := T7.fr F8; rw [e8]; clear z8
  have n1 := T8.a1.2.1
  have cO := I.1.c cf.1 cf.2
  have cb := costV_b (x := y - 4) cO
  refine ⟨(fun z => absurd z (by decide)), fun _ => ⟨fun c4 => ⟨A + 1, T8.a1.2.2, T8.a1.1, by omega, ?_⟩, fun c4 => ⟨fun c5 => ?_, fun c5 => ?_⟩⟩⟩
  · rw [R8.1 _ (by omega) (by omega)]
    exact k0 cf c3 _ ⟨cor_in I.1 cf ⟨c3.1, c4⟩, Or.inl ⟨c4, rfl⟩⟩ h8 F8 R8 e8
  · exact r_costD (u := v) (v := v) (d := 0) (e := rc v 0) T8 (by rw [putD_rc]; exact R8.1) I.1 (fun j _ _ => rfl) (by decide) cf (by omega) (k0 cf c3 _ ⟨by omega, Or.inr (Or.inl ⟨by omega, c5, rfl⟩)⟩ h8 F8 R8 e8)
  · exact r_flyLoop T8 R8.1 I.1 (by omega) (fun m Fm => k0 cf c3 m ⟨Fm.1, Or.inr (Or.inr ⟨by omega, Fm⟩)⟩ h8 F8 R8 e8) (v 117).toNat 0 0 (by omega) FM0
theorem P_corridor (S : Sim T N bs h i) (hc : In c) (hy : In y) (k : Cont T N bs i h Q) : ZI T N 261 [vr (some bs), vi (J c), vi (J y), vr (some (bs + 3309))] h (fun z1 h1 => ZI T N 180 [vr (some (bs + 3296)), vi (J c), vi (J y)] h1 (fun z2 h2 => ZI T N 156 [vr (some (bs + 3296))] h2 (fun z3 h3 => Q z1 z2 z3 h3))) := by
  obtain ⟨v, iss, sv, n, hs, tn, tx, re, er, C, I, D, R⟩ := S; have b := I.1.b; have o := C.o; have out := C.out
  refine z261 o.1 out.1 hc hy (c_corridor C I D hc hy (fun a1 a2 r Cr => Or.inl ⟨r, rfl, Cr.1, by omega, ?_⟩) (fun a1 => Or.inr (Or.inl ⟨rfl, ?_⟩)) (fun a1 a2 => Or.inr (Or.inr ⟨rfl, ?_⟩)))
  · intro h7 z7; subst z7; obtain ⟨C7, D7, F7, G7⟩ := tail0 (h := h) C D I Fcl.rf (x := (J r).toInt64); generalize sL h (bs + 3309) (Int.toNat 0) (J r).toInt64 = h7 at *; have R7 := R.fd F7
    exact q_corridor C7.rt I R7 hc hy (fun _ _ r2 Cr2 h8 F8 R8 e8 => by rw [Cr2.un Cr]; exact fin k C7 I D7 F7 F8.sk R8 e8 Cr.1 fun _ => G7) (fun z => absurd a1 z) (fun _ z => absurd a2 z)
  · have C7 := C.bm; have D7 := D.bm I; have F7 : Fcl bs h (bump h) := Fcl.bm; generalize bump h = h7 at *; have R7 := R.fd F7
    exact q_corridor C7.rt I R7 hc hy (fun z => absurd z a1) (fun _ h8 F8 R8 e8 => fin k C7 I D7 F7 F8.sk R8 e8 (by decide) fun z => by omega) (fun z => absurd z a1)
  · have C7 := C.bm; have D7 := D.bm I; have F7 : Fcl bs h (bump h) := Fcl.bm; generalize bump h = h7 at *; have R7 := R.fd F7
    exact q_corridor C7.rt I R7 hc hy (fun _ z => absurd z a2) (fun z => absurd a1 z) (fun _ _ h8 F8 R8 e8 => fin k C7 I D7 F7 F8.sk R8 e8 (by decide) fun z => by omega)
end CRR
