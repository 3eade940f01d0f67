/-! RESERVE, TICKS BETWEEN, LOW -/
section RES
variable {T N : Nat → Nat} {bs A p q w x : Nat} {h h1 h2 h3 h7 h10 : PH} {v u sv tx e e2 : Int → Int} {hs hs2 : Int → Int → Int} {iss n tn re er d t a b l m c y : Int} {i : Nat} {K : Int → PH → Prop} {KV : PH → Prop} {KP : PR → PH → Prop} {Q : Int → Int → Int → PH → Prop} {f g : Int → Int}
theorem Com.wy1 (C : Com T N bs h i) : WY T N h (bs + 3238) := ⟨C.1.2.2.2.1.1, C.1.2.2.2.1.2.1, C.1.2.2.2.1.2.2.1, C.1.2.2.2.1.2.2.2⟩
theorem Com.wy2 (C : Com T N bs h i) : WY T N h (bs + 3248) := ⟨C.1.2.2.2.2.2.2.1.1, C.1.2.2.2.2.2.2.1.2.1, C.1.2.2.2.2.2.2.1.2.2.1, C.1.2.2.2.2.2.2.1.2.2.2⟩
/-- the class's search and ways are its own -/
theorem dv_own (C : Com T N bs h i) (I : IvS v iss sv n hs tn tx re er) (D : SD T N bs h v iss sv n hs tn tx re er) {P : Nat → Prop} (F : Fp P h h2) (g : gr h2 = gr h) (s : ∀ x, P x → bs + 3237 ≤ x ∧ x < bs + 3250) : Com T N bs h2 i ∧ SD T N bs h2 v iss sv n hs tn tx re er ∧ Fcl bs h h2 :=
  ⟨C.to F g, D.fr I fun x q1 q2 q3 => F.1 x fun z => q3 (s x z), Fcl.fp F fun x z => by have := s x z; omega⟩
theorem resF_m (I : Iv v) (P : padsR m v) : ∀ j : Nat, j < 10 → (mb m j = true ↔ resF v j = 0) := fun j hj => by
  rw [P j (by omega)]
  unfold resF
  constructor
  · intro z; exact if_pos ⟨by omega, z.1, z.2⟩
  · intro z
    by_cases c : 0 ≤ (j : Int) ∧ (j : Int) < v 0 ∧ v (1 + j) = 1
    · exact c.2
    · rw [if_neg c] at z; omega
theorem nearF_m (ht : 0 ≤ t ∧ t < 32) : ∀ j : Nat, j < 10 → (mb (zshl 1 t) j = true ↔ nearF t j = 0) := fun j hj => by
  rw [mb_shl ht (by omega), decide_eq_true_eq]
  unfold nearF
  constructor
  · intro z; exact if_pos z
  · intro z
    by_cases c : (j : Int) = t
    · exact c
    · rw [if_neg c] at z; omega
theorem c_reserve (C : Com T N bs h i) (I : IvS v iss sv n hs tn tx re er) (D : SD T N bs h v iss sv n hs tn tx re er) (ha : In a) (k0 : 0 ≤ a ∧ a < v 0 → resV v a < 1000000 → ∀ h4, Com T N bs h4 i → SD T N bs h4 v iss sv n hs tn tx re er → Fcl bs h h4 → KP (.inl (some (vi (J (resV v a))))) h4) (k1 : ¬ (0 ≤ a ∧ a < v 0) → KP (.inr 2) (bump h)) (k2 : 0 ≤ a ∧ a < v 0 → ¬ resV v a < 1000000 → ∀ h4, Com T N bs h4 i → SD T N bs h4 v iss sv n hs tn tx re er → Fcl bs h h4 → KP (.inr 5) (bump h4)) : CALL T N 114 [vr (some bs), vi (J a)] h KP := by
  have b := I.1.b
  have o := C.o
  have eb := D.1.b
  refine z114 o.1 ha ⟨bs + 1, o.2.1, C.2.1.1.t, d_hasNode C.2.1.1 ha (fun c1 => ⟨(fun z => absurd z (by decide)), fun _ => ⟨bs + 1, o.2.1, C.2.1.1.t, bs + 3248, o.2.2.2.2.2.1, C.wy2.1, ?_⟩⟩) (fun c1 => ⟨fun _ => ⟨C.t0, k1 (by omega)⟩, (fun z => absurd rfl z)⟩)⟩
  have cf : 0 ≤ a ∧ a < v 0 := by omega
  refine d_measure D.1 I.1 C.wy2 (by omega) (f := resF v) resF_b (ai_in _ _ _) (resF_m I.1 D.1.p) (by decide) fun h4 F4 g4 W4 => ?_
  obtain ⟨C4, D4, L4⟩ := dv_own C I D F4 g4 fun x z => by omega
  have o4 := C4.o
  refine ⟨bs + 3248, o4.2.2.2.2.2.1, C.wy2.1, d_least C4.wy2 W4 (by omega) ⟨fun z => k0 cf z h4 C4 D4 L4, fun z => ⟨C4.t0, k2 cf z h4 C4 D4 L4⟩⟩⟩
theorem q_reserve (T7 : RT T N A h7) (I : IvS v iss sv n hs tn tx re er) (R7 : SR A h7 v iss sv n hs tn tx re er) (ha : In a) (k0 : 0 ≤ a ∧ a < v 0 → resV v a < 1000000 → ∀ h8, FR (Scr A) h7 h8 → SR A h8 v iss sv n hs tn tx re er → ai h8 A 0 = 0 → K (resV v a) h8) (k1 : ¬ (0 ≤ a ∧ a < v 0) → ∀ h8, FR (Scr A) h7 h8 → SR A h8 v iss sv n hs tn tx re er → ai h8 A 0 = 1 → K 0 h8) (k2 : 0 ≤ a ∧ a < v 0 → ¬ resV v a < 1000000 → ∀ h8, FR (Scr A) h7 h8 → SR A h8 v iss sv n hs tn tx re er → ai h8 A 0 = 2 → K 0 h8) : ZI T N 183 [vr (some A), vi (J a)] h7 K := by
  have b := I.1.b
  have e0 := R7.1 0 (by omega) (by omega)
  refine z183 T7.t ha (r_isNode T7 ha (by omega) (fun c1 => ⟨(fun z => absurd z (by decide)), fun _ => ?_⟩) (fun c1 => ⟨fun _ => ?_, (fun z => absurd rfl z)⟩))
  rotate_left
  · intro h8 z8; obtain ⟨R8, F8⟩ := R7.th (x := 1); rw [← z8] at R8 F8; have e8 : ai h8 A 0 = 1 := (by subst z8; exact rd_eq rfl rfl (by decide)); have T8 := T7.fr F8; rw [e8]; clear z8
    exact ⟨fun _ => k1 (by omega) h8 F8 R8 e8, fun z => absurd rfl z⟩
  have cf : 0 ≤ a ∧ a < v 0 := by omega
  intro h8 z8; obtain ⟨R8, F8⟩ := R7.th (x := 0); rw [← z8] at R8 F8; have e8 : ai h8 A 0 = 0 := (by subst z8; exact rd_eq rfl rfl (by decide)); have T8 := T7.fr F8; rw [e8]; clear z8
  refine ⟨(fun z => absurd z (by decide)), fun _ => r_reserves T8 R8.1 I.1 fun h9 T9 F9 W9 => ?_⟩
  have n7 := T9.a7.2.1
  have F89 : FR (Scr A) h8 h9 := F9.mo fun b k z => by unfold Scr; omega
  have R9 := R8.vv F89.sc (R8.1.fr F89)
  have e9 : ai h9 A 0 = 0 := by rw [F9.ai (by omega)]; exact e8
  refine ⟨A + 7, T9.a7.2.2, T9.a7.1, by omega, ?_⟩
  rw [W9 a cf.1 cf.2]
  refine ⟨fun z => ⟨A + 7, T9.a7.2.2, T9.a7.1, by omega, ?_⟩, fun z => r_no T9 (by decide) ?_⟩
  · rw [W9 a cf.1 cf.2]; exact k0 cf z h9 (F8.tr F89) R9 e9
  · obtain ⟨R10, F10⟩ := R9.th (x := 2)
    exact k2 cf z _ ((F8.tr F89).tr F10) R10 (rd_eq rfl rfl (by decide))
theorem P_reserve (S : Sim T N bs h i) (ha : In a) (k : Cont T N bs i h Q) : ZI T N 263 [vr (some bs), vi (J a), vr (some (bs + 3309))] h (fun z1 h1 => ZI T N 183 [vr (some (bs + 3296)), vi (J a)] h1 (fun z2 h2 => ZI T N 156 [vr (some (bs + 3296))] h2 (fun z3 h3 => Q z1 z2 z3 h3))) := by
  obtain ⟨v, iss, sv, n, hs, tn, tx, re, er, C, I, D, R⟩ := S; have b := I.1.b; have o := C.o; have out := C.out
  have rb := resV_b I.1 a
  refine z263 o.1 out.1 ha (c_reserve C I D ha (fun a1 a2 h4 C4 D4 F4 => Or.inl ⟨_, rfl, by omega, by omega, ?_⟩) (fun a1 => Or.inr (Or.inl ⟨rfl, ?_⟩)) (fun a1 a2 h4 C4 D4 F4 => Or.inr (Or.inr ⟨rfl, ?_⟩)))
  · intro h7 z7; subst z7
    obtain ⟨C7, D7, F7, G7⟩ := tail0 (h := h) C4 D4 I F4 (x := (J (resV v a)).toInt64)
    generalize sL h4 (bs + 3309) (Int.toNat 0) (J (resV v a)).toInt64 = h7 at *
    exact q_reserve C7.rt I (R.fd F7) ha (fun _ _ h8 F8 R8 e8 => fin k C7 I D7 F7 F8.sk R8 e8 (by omega) fun _ => G7) (fun z => absurd a1 z) (fun _ z => absurd a2 z)
  · have C7 := C.bm; have D7 := D.bm I; have F7 : Fcl bs h (bump h) := Fcl.bm; generalize bump h = h7 at *; have R7 := R.fd F7
    exact q_reserve C7.rt I R7 ha (fun z => absurd z a1) (fun _ h8 F8 R8 e8 => fin k C7 I D7 F7 F8.sk R8 e8 (by decide) fun z => by omega) (fun z => absurd z a1)
  · have F7 := F4.tr Fcl.bm
    exact q_reserve C4.bm.rt I (R.fd F7) ha (fun _ z => absurd z a2) (fun z => absurd a1 z) (fun _ _ h8 F8 R8 e8 => fin k C4.bm I (D4.bm I) F7 F8.sk R8 e8 (by decide) fun z => by omega)
theorem c_ticksB (C : Com T N bs h i) (I : IvS v iss sv n hs tn tx re er) (D : SD T N bs h v iss sv n hs tn tx re er) (ha : In a) (ht : In t) (k0 : (0 ≤ a ∧ a < v 0) ∧ 0 ≤ t ∧ t < v 0 → neaV v t a < 1000000 → ∀ h4, Com T N bs h4 i → SD T N bs h4 v iss sv n hs tn tx re er → Fcl bs h h4 → KP (.inl (some (vi (J (neaV v t a))))) h4) (k1 : ¬ ((0 ≤ a ∧ a < v 0) ∧ 0 ≤ t ∧ t < v 0) → KP (.inr 2) (bump h)) (k2 : (0 ≤ a ∧ a < v 0) ∧ 0 ≤ t ∧ t < v 0 → ¬ neaV v t a < 1000000 → ∀ h4, Com T N bs h4 i → SD T N bs h4 v iss sv n hs tn tx re er → Fcl bs h h4 → KP (.inr 5) (bump h4)) : CALL T N 115 [vr (some bs), vi (J a), vi (J t)] h KP := by
  have b := I.1.b
  have o := C.o
  have eb := D.1.b
  refine z115 o.1 ha ht ⟨bs + 1, o.2.1, C.2.1.1.t, d_hasNode C.2.1.1 ha (fun c1 => ⟨(fun z => absurd z (by decide)), fun _ => ⟨bs + 1, o.2.1, C.2.1.1.t, d_hasNode C.2.1.1 ht (fun c2 => ⟨(fun z => absurd z (by decide)), fun _ => ⟨bs + 3248, o.2.2.2.2.2.1, C.wy2.1, ?_⟩⟩) (fun c2 => ⟨fun _ => ⟨C.t0, k1 (by omega)⟩, (fun z => absurd rfl z)⟩)⟩⟩) (fun c1 => ⟨fun _ => ⟨C.t0, k1 (by omega)⟩, (fun z => absurd rfl z)⟩)⟩
  have cf : (0 ≤ a ∧ a < v 0) ∧ 0 ≤ t ∧ t < v 0 := by omega
  rw [o.2.1]
  refine d_measure D.1 I.1 C.wy2 (by omega) (f := nearF t) nearF_b (zshl_in _ _) (nearF_m (by omega)) (by decide) fun h4 F4 g4 W4 => ?_
  obtain ⟨C4, D4, L4⟩ := dv_own C I D F4 g4 fun x z => by omega
  have o4 := C4.o
  refine ⟨bs + 3248, o4.2.2.2.2.2.1, C.wy2.1, d_least C4.wy2 W4 (by omega) ⟨fun z => k0 cf z h4 C4 D4 L4, fun z => ⟨C4.t0, k2 cf z h4 C4 D4 L4⟩⟩⟩
theorem q_ticksB (T7 : RT T N A h7) (I : IvS v iss sv n hs tn tx re er) (R7 : SR A h7 v iss sv n hs tn tx re er) (ha : In a) (ht : In t) (k0 : (0 ≤ a ∧ a < v 0) ∧ 0 ≤ t ∧ t < v 0 → neaV v t a < 1000000 → ∀ h8, FR (Scr A) h7 h8 → SR A h8 v iss sv n hs tn tx re er → ai h8 A 0 = 0 → K (neaV v t a) h8) (k1 : ¬ ((0 ≤ a ∧ a < v 0) ∧ 0 ≤ t ∧ t < v 0) → ∀ h8, FR (Scr A) h7 h8 → SR A h8 v iss sv n hs tn tx re er → ai h8 A 0 = 1 → K 0 h8) (k2 : (0 ≤ a ∧ a < v 0) ∧ 0 ≤ t ∧ t < v 0 → ¬ neaV v t a < 1000000 → ∀ h8, FR (Scr A) h7 h8 → SR A h8 v iss sv n hs tn tx re er → ai h8 A 0 = 2 → K 0 h8) : ZI T N 184 [vr (some A), vi (J a), vi (J t)] h7 K := by
  have b := I.1.b
  have e0 := R7.1 0 (by omega) (by omega)
  refine z184 T7.t ha ht (r_isNode T7 ha (by omega) (fun c1 => ⟨(fun z => absurd z (by decide)), fun _ => r_isNode T7 ht (by omega) (fun c2 => ⟨(fun z => absurd z (by decide)), fun _ => ?_⟩) (fun c2 => ⟨fun _ => ?_, (fun z => absurd rfl z)⟩)⟩) (fun c1 => ⟨fun _ => ?_, (fun z => absurd rfl z)⟩))
  rotate_left
  · intro h8 z8; obtain ⟨R8, F8⟩ := R7.th (x := 1); rw [← z8] at R8 F8; have e8 : ai h8 A 0 = 1 := (by subst z8; exact rd_eq rfl rfl (by decide)); have T8 := T7.fr F8; rw [e8]; clear z8
    exact ⟨fun _ => k1 (by omega) h8 F8 R8 e8, fun z => absurd rfl z⟩
  · intro h8 z8; obtain ⟨R8, F8⟩ := R7.th (x := 1); rw [← z8] at R8 F8; have e8 : ai h8 A 0 = 1 := (by subst z8; exact rd_eq rfl rfl (by decide)); have T8 := T7.fr F8; rw [e8]; clear z8
    exact ⟨fun _ => k1 (by omega) h8 F8 R8 e8, fun z => absurd rfl z⟩
  have cf : (0 ≤ a ∧ a < v 0) ∧ 0 ≤ t ∧ t < v 0 := by omega
  intro h8 z8; obtain ⟨R8, F8⟩ := R7.th (x := 0); rw [← z8] at R8 F8; have e8 : ai h8 A 0 = 0 := (by subst z8; exact rd_eq rfl rfl (by decide)); have T8 := T7.fr F8; rw [e8]; clear z8
  refine ⟨(fun z => absurd z (by decide)), fun _ => r_near T8 R8.1 I.1 cf.1 cf.2 (fun h9 T9 F9 => ?_) (v 0).toNat 0 h8 (by omega) FR.rf fun i a1 a2 => by omega⟩
  have F89 : FR (Scr A) h8 h9 := F9.mo fun b k z => by unfold Scr; omega
  have R9 := R8.vv F89.sc (R8.1.fr F89)
  have e9 : ai h9 A 0 = 0 := by rw [F9.ai (by omega)]; exact e8
  refine ⟨fun z => k0 cf z h9 (F8.tr F89) R9 e9, fun z => ?_⟩
  obtain ⟨R10, F10⟩ := R9.th (x := 2)
  exact k2 cf z _ ((F8.tr F89).tr F10) R10 (rd_eq rfl rfl (by decide))
theorem P_ticksBetween (S : Sim T N bs h i) (ha : In a) (ht : In t) (k : Cont T N bs i h Q) : ZI T N 264 [vr (some bs), vi (J a), vi (J t), vr (some (bs + 3309))] h (fun z1 h1 => ZI T N 184 [vr (some (bs + 3296)), vi (J a), vi (J t)] h1 (fun z2 h2 => ZI T N 156 [vr (some (bs + 3296))] h2 (fun z3 h3 => Q z1 z2 z3 h3))) := by
  obtain ⟨v, iss, sv, n, hs, tn, tx, re, er, C, I, D, R⟩ := S; have b := I.1.b; have o := C.o; have out := C.out
  have rb := neaV_b (t := t) I.1 a
  refine z264 o.1 out.1 ha ht (c_ticksB C I D ha ht (fun a1 a2 h4 C4 D4 F4 => Or.inl ⟨_, rfl, by omega, by omega, ?_⟩) (fun a1 => Or.inr (Or.inl ⟨rfl, ?_⟩)) (fun a1 a2 h4 C4 D4 F4 => Or.inr (Or.inr ⟨rfl, ?_⟩)))
  · intro h7 z7; subst z7
    obtain ⟨C7, D7, F7, G7⟩ := tail0 (h := h) C4 D4 I F4 (x := (J (neaV v t a)).toInt64)
    generalize sL h4 (bs + 3309) (Int.toNat 0) (J (neaV v t a)).toInt64 = h7 at *
    exact q_ticksB C7.rt I (R.fd F7) ha ht (fun _ _ h8 F8 R8 e8 => fin k C7 I D7 F7 F8.sk R8 e8 (by omega) fun _ => G7) (fun z => absurd a1 z) (fun _ z => absurd a2 z)
  · have C7 := C.bm; have D7 := D.bm I; have F7 : Fcl bs h (bump h) := Fcl.bm; generalize bump h = h7 at *; have R7 := R.fd F7
    exact q_ticksB C7.rt I R7 ha ht (fun z => absurd z a1) (fun _ h8 F8 R8 e8 => fin k C7 I D7 F7 F8.sk R8 e8 (by decide) fun z => by omega) (fun z => absurd z a1)
  · have F7 := F4.tr Fcl.bm
    exact q_ticksB C4.bm.rt I (R.fd F7) ha ht (fun _ z => absurd z a2) (fun z => absurd a1 z) (fun _ _ h8 F8 R8 e8 => fin k C4.bm I (D4.bm I) F7 F8.sk R8 e8 (by decide) fun z => by omega)
/-! low -/
/-- the drones whose energy is low, of the first i -/
def LM (v : Int → Int) (m i : Int) : Prop := In m ∧ ∀ j : Nat, j < 32 → (mb m j = true ↔ (j : Int) < i ∧ rc v j 0 = 1 ∧ rc v j 1 < resV v (rc v j 3))
theorem LM.un {m1 m2 i1 : Int} (S : LM v m1 i1) (R : LM v m2 i1) : m1 = m2 := mb_ext S.1 R.1 fun j hj => by
  have g := S.2 j hj
  have k := R.2 j hj
  cases ea : mb m1 j <;> cases eb : mb m2 j <;> simp [ea, eb] at g k ⊢
  · have := g k.1 k.2.1; have := k.2.2; omega
  · have := k g.1 g.2.1; have := g.2.2; omega
theorem LM0 : LM v 0 0 := ⟨by decide, fun j hj => by
  rw [mb_0]
  constructor
  · intro z; cases z
  · intro z; have := z.1; omega⟩
theorem LM.yes {i1 : Nat} (S : LM v m i1) (hi : i1 < 32) (g : rc v i1 0 = 1 ∧ rc v i1 1 < resV v (rc v i1 3)) : LM v (zor m (zshl 1 i1)) (i1 + 1) := ⟨zor_in _ _, fun j hj => by
  rw [mb_or, mb_shl (by omega) hj, Bool.or_eq_true, S.2 j hj, decide_eq_true_eq]
  constructor
  · rintro (z | z)
    · exact ⟨by omega, z.2⟩
    · exact ⟨by omega, by rw [z]; exact g⟩
  · intro z
    by_cases c2 : (j : Int) = i1
    · exact Or.inr c2
    · exact Or.inl ⟨by omega, z.2⟩⟩
theorem LM.no {i1 : Nat} (S : LM v m i1) (g : ¬ (rc v i1 0 = 1 ∧ rc v i1 1 < resV v (rc v i1 3))) : LM v m (i1 + 1) := ⟨S.1, fun j hj => by
  rw [S.2 j hj]
  constructor
  · intro z; exact ⟨by omega, z.2⟩
  · intro z
    by_cases c2 : (j : Int) = i1
    · rw [c2] at z; exact absurd z.2 g
    · exact ⟨by omega, z.2⟩⟩
theorem d_lowLoop (C : Com T N bs h i) (I : IvS v iss sv n hs tn tx re er) (D : SD T N bs h v iss sv n hs tn tx re er) (W : Ar h (bs + 3248 + 1) 10 (resV v)) (k : ∀ m, LM v m (v 117) → K m h) : ∀ (q j : Nat) (m : Int), (j : Int) + q = v 117 → LM v m j → ZW T N 128 23 [some (vr (some bs)), some (vi (J m)), some (vi (J (j : Int))), none] [] h K := by
  have b := I.1.b
  have o := C.o
  have eb := D.1.b
  intro q
  induction q with
  | zero =>
    intro j m hj S
    exact z128_23 o.1 S.1 (by omega) ⟨bs + 1, o.2.1, C.2.1.1.t, fun z => by omega, fun _ => k m (by rw [← show (j : Int) = v 117 by omega]; exact S)⟩
  | succ q ih =>
    intro j m hj S
    have O := I.1.d (n := (j : Int)) (by omega) (by omega)
    have no : ¬ (rc v j 0 = 1 ∧ rc v j 1 < resV v (rc v j 3)) → ZW T N 128 23 [some (vr (some bs)), some (vi (J m)), some (vi (J ((j : Int) + 1))), none] [] h K := fun z => by
      have := ih (j + 1) m (by omega) (by rw [show ((j + 1 : Nat) : Int) = (j : Int) + 1 by omega]; exact S.no z)
      rw [show ((j + 1 : Nat) : Int) = (j : Int) + 1 by omega] at this; exact this
    refine z128_23 o.1 S.1 (by omega) ⟨bs + 1, o.2.1, C.2.1.1.t, fun _ => ⟨bs + 1, o.2.1, C.2.1.1.t, d_dro C.2.1.1 (n := (j : Int)) (by omega) (by omega) (fun c1 => ⟨fun z => by (cases z), fun a' ea => ?_⟩) (fun c1 => absurd (by omega) c1)⟩, fun z => absurd (by omega) z⟩
    cases ea
    have Dt := (C.2.1.1.d (c := (j : Int)) (by omega)).2
    have G := (D.1.d (d := (j : Int)) (by omega) (by omega)).1
    rw [G.1, G.2.1, G.2.2.2.1]
    have o3 := O.2.2.2.1
    refine ⟨Dt.t, fun c2 => ⟨bs + 3248, o.2.2.2.2.2.1, C.wy2.1, d_least C.wy2 W (by omega) ⟨fun c3 => ?_, fun c3 => no fun z => c3 z.2⟩⟩, fun c2 => no fun z => c2 z.1⟩
    have := ih (j + 1) _ (by omega) (by rw [show ((j + 1 : Nat) : Int) = (j : Int) + 1 by omega]; exact S.yes (by omega) ⟨c2, c3⟩)
    rw [show ((j + 1 : Nat) : Int) = (j : Int) + 1 by omega] at this; exact this
theorem r_lowLoop (R : RT T N A h) (V : Rv A h v) (I : Iv v) (W : Ar h (A + 7) (v 0) (resV v)) (k : ∀ m, LM v m (v 117) → K m h) : ∀ (q j : Nat) (m : Int), (j : Int) + q = v 117 → LM v m j → ZW T N 225 13 [some (vr (some A)), some (vi (J m)), some (vi (J (j : Int)))] [] h K := by
  have b := I.b
  have n1 := R.a1.2.1
  have n7 := R.a7.2.1
  have e117 := V 117 (by omega) (by omega)
  intro q
  induction q with
  | zero =>
    intro j m hj S
    exact z225_13 R.t S.1 (by omega) ⟨A + 1, R.a1.2.2, R.a1.1, by omega, fun z => by omega, fun _ => k m (by rw [← show (j : Int) = v 117 by omega]; exact S)⟩
  | succ q ih =>
    intro j m hj S
    have O := I.d (n := (j : Int)) (by omega) (by omega)
    have o3 := O.2.2.2.1
    have no : ¬ (rc v j 0 = 1 ∧ rc v j 1 < resV v (rc v j 3)) → ZW T N 225 13 [some (vr (some A)), some (vi (J (zor m 0))), some (vi (J ((j : Int) + 1)))] [] h K := fun z => by
      rw [zor0 S.1]
      have := ih (j + 1) m (by omega) (by rw [show ((j + 1 : Nat) : Int) = (j : Int) + 1 by omega]; exact S.no z)
      rw [show ((j + 1 : Nat) : Int) = (j : Int) + 1 by omega] at this; exact this
    refine z225_13 R.t S.1 (by omega) ⟨A + 1, R.a1.2.2, R.a1.1, by omega, fun _ => r_of R (by omega) (by omega) ?_, fun z => absurd (by omega) z⟩
    rw [V _ (by omega) (by omega)]
    refine ⟨fun c2 => r_of R (by omega) (by omega) (r_of R (by omega) (by omega) ?_), fun c2 => no fun z => c2 z.1⟩
    rw [V _ (by omega) (by omega), V _ (by omega) (by omega)]
    have o3' : 0 ≤ v (118 + 55 * (j : Int) + 3) ∧ v (118 + 55 * (j : Int) + 3) < v 0 := o3
    refine ⟨A + 7, R.a7.2.2, R.a7.1, by omega, ?_⟩
    rw [W _ o3'.1 o3'.2]
    refine ⟨fun c3 => ?_, fun c3 => no fun z => c3 z.2⟩
    have := ih (j + 1) _ (by omega) (by rw [show ((j + 1 : Nat) : Int) = (j : Int) + 1 by omega]; exact S.yes (by omega) ⟨c2, c3⟩)
    rw [show ((j + 1 : Nat) : Int) = (j : Int) + 1 by omega] at this; exact this
theorem P_low (S : Sim T N bs h i) {Q2 : Int → Int → PH → Prop} (k : ∀ x h3, Sim T N bs h3 (i + 1) → Scp bs h h3 → Q2 x x h3) : ZI T N 128 [vr (some bs)] h (fun x h1 => ZI T N 225 [vr (some (bs + 3296))] h1 (fun y h2 => Q2 x y h2)) := by
  obtain ⟨v, iss, sv, n, hs, tn, tx, re, er, C, I, D, R⟩ := S; have b := I.1.b; have o := C.o; have out := C.out
  refine z128 o.1 ⟨bs + 1, o.2.1, C.2.1.1.t, bs + 3248, o.2.2.2.2.2.1, C.wy2.1, d_measure D.1 I.1 C.wy2 (by omega) (f := resF v) resF_b (ai_in _ _ _) (resF_m I.1 D.1.p) (by decide) fun h4 F4 g4 W4 => ?_⟩
  obtain ⟨C4, D4, L4⟩ := dv_own C I D F4 g4 fun x z => by omega
  refine d_lowLoop C4 I D4 W4 (fun m Lm => ?_) (v 117).toNat 0 0 (by omega) LM0
  have T7 := C4.rt
  have R7 := R.fd L4
  refine z225 T7.t ?_
  intro h8 z8
  obtain ⟨R8, F8⟩ := R7.th (x := 0)
  rw [← z8] at R8 F8
  refine r_reserves (T7.fr F8) R8.1 I.1 fun h9 T9 F9 W9 => ?_
  have F89 : FR (Scr (bs + 3296)) h8 h9 := F9.mo fun b k z => by unfold Scr; omega
  have R9 := R8.vv F89.sc (R8.1.fr F89)
  refine r_lowLoop T9 R9.1 I.1 W9 (fun m2 Lm2 => ?_) (v 117).toNat 0 0 (by omega) LM0
  rw [Lm2.un Lm]
  obtain ⟨S10, s10, _⟩ := Sim.mk' C4.up I D4 (F8.tr F89).sk RKw_in R9
  exact k _ h9 S10 ((Scp.cl L4).tr s10)
end RES
