/-! STRUCK DRONES -/
def fenS (v : Int → Int) (f x : Int) : Prop := v (77 + 4 * f + 0) = x % 16 ∧ mb (v (77 + 4 * f + 1)) (x / 32 % 4).toNat = true ∧ x / 128 < v (77 + 4 * f + 3) ∧ v (77 + 4 * f + 2) < endV v x
def legS (v : Int → Int) (x : Int) : Prop := ∃ f, 0 ≤ f ∧ f < v 76 ∧ fenS v f x
def droS (v e : Int → Int) : Prop := ∃ i, aheadE e ≤ i ∧ i < e 5 ∧ legS v (e (13 + i))
/-- m is the mask of the struck drones -/
def SM (v : Int → Int) (m : Int) : Prop := In m ∧ ∀ j : Nat, j < 32 → (mb m j = true ↔ (j : Int) < v 117 ∧ droS v (rc v j))
section STR
variable {T N : Nat → Nat} {bs A p q w x : Nat} {h h1 h2 h3 h7 h10 : PH} {v u sv tx e e2 : Int → Int} {hs hs2 : Int → Int → Int} {iss n tn re er d t a b l m c y : Int} {i : Nat} {K : Int → PH → Prop} {KV : PH → Prop} {KP : PR → PH → Prop} {Q : Int → Int → Int → PH → Prop} {f g : Int → Int}
theorem SM.un (S : SM v a) (R : SM v b) : a = b := mb_ext S.1 R.1 fun j hj => by
  have g := S.2 j hj
  have k := R.2 j hj
  cases ea : mb a j <;> cases eb : mb b j <;> simp [ea, eb] at g k ⊢
  · exact g k.1 k.2
  · exact k g.1 g.2
theorem aheadE_b (O : drOK v t e) : 0 ≤ aheadE e ∧ aheadE e ≤ 1 ∧ aheadE e ≤ e 5 := by
  obtain ⟨o0, o1, o2, o3, o4, o5, o6, o7, o8, o9, o10, o11, o12, os, oa, ob, oc, ol⟩ := O
  unfold aheadE
  by_cases c : e 0 = 2
  · rw [if_pos c]; have := oc c; omega
  · rw [if_neg c]; omega
theorem d_fenced_loop (W : Wo T N h w v) (I : Iv v) (tx' : T x = 7) (L : LegD v h x y) (Ly : legOK v y) (k1 : legS v y → K 1 h) (k0 : ¬ legS v y → K 0 h) : ∀ (m i : Nat), (i : Int) + m = v 76 → (∀ f, 0 ≤ f → f < (i : Int) → ¬ fenS v f y) → ZW T N 101 2 [some (vr (some w)), some (vr (some x)), some (vi (J (i : Int))), none] [] h K := by
  have b := I.b
  have eb := W.b
  obtain ⟨l0, l1, l2, l3, l4⟩ := L
  unfold legOK at Ly
  intro m
  induction m with
  | zero =>
    intro i hi no
    refine z101_2 W.o.t (by omega) ⟨fun c => by omega, fun c => k0 fun ⟨f, a1, a2, a3⟩ => no f a1 (by omega) a3⟩
  | succ m ih =>
    intro i hi no
    have go : ¬ fenS v i y → ZW T N 101 2 [some (vr (some w)), some (vr (some x)), some (vi (J ((i : Int) + 1))), none] [] h K := fun nf => by
      have := ih (i + 1) (by omega) fun f a1 a2 => by
        by_cases c : f = i
        · rw [c]; exact nf
        · exact no f a1 (by omega)
      rw [show ((i + 1 : Nat) : Int) = (i : Int) + 1 by omega] at this
      exact this
    have F := I.f (n := (i : Int)) (by omega) (by omega)
    unfold fenOK at F
    have w0 := W.f (c := (i : Int)) (k := 0) (by omega) (by omega) (by omega) (by omega)
    have w1 := W.f (c := (i : Int)) (k := 1) (by omega) (by omega) (by omega) (by omega)
    have w2 := W.f (c := (i : Int)) (k := 2) (by omega) (by omega) (by omega) (by omega)
    have w3 := W.f (c := (i : Int)) (k := 3) (by omega) (by omega) (by omega) (by omega)
    have tf := (W.o.f (c := (i : Int)) (by omega)).1
    refine z101_2 W.o.t (by omega) ⟨fun c => ?_, fun c => absurd (by omega) c⟩
    refine d_fen (n := (i : Int)) W.o (by omega) (by omega) (fun c1 => ⟨fun z => by (cases z), fun a' ea => ?_⟩) (fun c1 => absurd (by omega) c1)
    cases ea
    refine ⟨tf, z37 tx' tf ?_⟩
    rw [w0, w1, l0, l2]
    have no1 : ¬ fenS v i y → (0 = (0 : Int) → ZW T N 101 2 [some (vr (some w)), some (vr (some x)), some (vi (J ((i : Int) + 1))), none] [] h K) ∧ (¬ (0 = (0 : Int)) → K 1 h) := fun nf => ⟨fun _ => go nf, (fun z => absurd rfl z)⟩
    refine ⟨fun c2 => d_holds (S := mb (v (77 + 4 * (i : Int) + 1)) (y / 32 % 4).toNat = true) (by omega) (by omega) Iff.rfl (fun s => ⟨(fun z => absurd z (by decide)), fun _ => by
      rw [l3, w3, w2, l4]
      exact ⟨fun c3 => ⟨fun c4 => ⟨(fun z => absurd z (by decide)), fun _ => k1 ⟨i, by omega, by omega, c2.symm, s, c3, c4⟩⟩, fun c4 => no1 fun z => c4 z.2.2.2⟩, fun c3 => no1 fun z => c3 z.2.2.1⟩⟩) (fun s => ⟨fun _ => no1 fun z => s z.2.1, (fun z => absurd rfl z)⟩), fun c2 => no1 fun z => c2 z.1.symm⟩
theorem d_isFenced (W : Wo T N h w v) (I : Iv v) (tx' : T x = 7) (L : LegD v h x y) (Ly : legOK v y) (k1 : legS v y → K 1 h) (k0 : ¬ legS v y → K 0 h) : ZI T N 101 [vr (some w), vr (some x)] h K := by
  have b := I.b
  exact z101 (d_fenced_loop W I tx' L Ly k1 k0 (v 76).toNat 0 (by omega) fun f a1 a2 => by omega)
theorem d_struck_loop (W : Wo T N h w v) (I : Iv v) (Dt : DT T N h p) (O : drOK v t e) (G : DrD v h p e) (k1 : droS v e → K 1 h) (k0 : ¬ droS v e → K 0 h) : ∀ (m : Nat) (i : Int), i + m = e 5 → aheadE e ≤ i → (∀ j, aheadE e ≤ j → j < i → ¬ legS v (e (13 + j))) → ZW T N 100 5 [some (vr (some w)), some (vr (some p)), some (vi (J i)), none] [] h K := by
  have hb := aheadE_b O
  have h5 := O.2.2.2.2.2.1
  have g8 := G.1.2.2.2.2.2.2.2
  have ol := O.2.2.2.2.2.2.2.2.2.2.2.2.2.2.2.2.2
  intro m
  induction m with
  | zero =>
    intro i hi ha no
    exact z100_5 Dt.t W.o.t (by omega) ⟨fun c => by omega, fun c => k0 fun ⟨j, a1, a2, a3⟩ => no j a1 (by omega) a3⟩
  | succ m ih =>
    intro i hi ha no
    refine z100_5 Dt.t W.o.t (by omega) ⟨fun c => ?_, fun c => absurd (by omega) c⟩
    refine d_legAt Dt (n := i) (by omega) (by omega) (fun c1 x hx q1 q2 tx => ⟨fun z => by (cases z), fun a' ea => ?_⟩) (fun c => absurd (by omega) c)
    cases ea
    refine d_isFenced W I tx (G.2.2 i (by omega) (by omega) x hx) (ol i (by omega) (by omega)) (fun s => ⟨(fun z => absurd z (by decide)), fun _ => k1 ⟨i, ha, by omega, s⟩⟩) (fun s => ⟨fun _ => ih (i + 1) (by omega) (by omega) fun j a1 a2 => ?_, (fun z => absurd rfl z)⟩)
    by_cases c2 : j = i
    · rw [c2]; exact s
    · exact no j a1 (by omega)
theorem d_isStruck (W : Wo T N h w v) (I : Iv v) (Dt : DT T N h p) (O : drOK v t e) (G : DrD v h p e) (k1 : droS v e → K 1 h) (k0 : ¬ droS v e → K 0 h) : ZI T N 100 [vr (some w), vr (some p)] h K := by
  have hb := aheadE_b O
  have g0 := G.1.1
  have g8 := G.1.2.2.2.2.2.2.2
  have oc := O.2.2.2.2.2.2.2.2.2.2.2.2.2.2.2.2.1
  have ea : (if ai h p 0 = 2 ∧ 0 < ai h p 8 then (1 : Int) else 0) = aheadE e := by
    unfold aheadE
    by_cases c : e 0 = 2
    · have := oc c; rw [if_pos (by omega), if_pos c]
    · rw [if_neg (by omega), if_neg c]
  refine z100 Dt.t (d_legsBegun Dt ?_)
  rw [ea]
  exact d_struck_loop W I Dt O G k1 k0 (e 5 - aheadE e).toNat (aheadE e) (by omega) (Int.le_refl _) fun j a1 a2 => by omega
/-- the mask so far -/
def SMi (v : Int → Int) (m : Int) (i : Int) : Prop := In m ∧ ∀ j : Nat, j < 32 → (mb m j = true ↔ (j : Int) < i ∧ droS v (rc v j))
theorem d_mask_loop (W : Wo T N h w v) (I : Iv v) (k : ∀ m, SM v m → K m h) : ∀ (q i : Nat) (m : Int), (i : Int) + q = v 117 → SMi v m i → ZW T N 99 4 [some (vr (some w)), some (vi (J m)), some (vi (J (i : Int))), none] [] h K := by
  have b := I.b
  have eb := W.b
  intro q
  induction q with
  | zero =>
    intro i m hi S
    refine z99_4 W.o.t S.1 (by omega) ⟨fun c => by omega, fun c => k m ⟨S.1, fun j hj => by rw [S.2 j hj, show (i : Int) = v 117 by omega]⟩⟩
  | succ q ih =>
    intro i m hi S
    have Dt := (W.o.d (c := (i : Int)) (by omega)).2
    refine z99_4 W.o.t S.1 (by omega) ⟨fun c => ?_, fun c => absurd (by omega) c⟩
    refine d_dro (n := (i : Int)) W.o (by omega) (by omega) (fun c1 => ⟨fun z => by (cases z), fun a' ea => ?_⟩) (fun c1 => absurd (by omega) c1)
    cases ea
    refine d_isStruck W I Dt (I.d (n := (i : Int)) (by omega) (by omega)) (W.d (d := (i : Int)) (by omega) (by omega)) (fun s => ⟨(fun z => absurd z (by decide)), fun _ => ?_⟩) (fun s => ⟨fun _ => ?_, (fun z => absurd rfl z)⟩)
    · have := ih (i + 1) (zor m (zshl 1 i)) (by omega) ⟨zor_in _ _, fun j hj => ?_⟩
      · rw [show ((i + 1 : Nat) : Int) = (i : Int) + 1 by omega] at this; exact this
      · rw [mb_or, mb_shl (by omega) hj, Bool.or_eq_true, S.2 j hj, decide_eq_true_eq]
        constructor
        · rintro (z | z)
          · exact ⟨by omega, z.2⟩
          · exact ⟨by omega, by rw [z]; exact s⟩
        · intro z
          by_cases c2 : (j : Int) = i
          · exact Or.inr c2
          · exact Or.inl ⟨by omega, z.2⟩
    · have := ih (i + 1) m (by omega) ⟨S.1, fun j hj => ?_⟩
      · rw [show ((i + 1 : Nat) : Int) = (i : Int) + 1 by omega] at this; exact this
      · rw [S.2 j hj]
        constructor
        · intro z; exact ⟨by omega, z.2⟩
        · intro z
          by_cases c2 : (j : Int) = i
          · rw [c2] at z; exact absurd z.2 s
          · exact ⟨by omega, z.2⟩
theorem SMi0 : SMi v 0 0 := ⟨by decide, fun j hj => by
  rw [mb_0]
  constructor
  · intro z; cases z
  · intro z; have := z.1; omega⟩
theorem d_struck (W : Wo T N h w v) (I : Iv v) (k : ∀ m, SM v m → K m h) : ZI T N 99 [vr (some w)] h K := by
  have b := I.b
  exact z99 (d_mask_loop W I k (v 117).toNat 0 0 (by omega) SMi0)
/-! the reference -/
theorem r_isStruck_loop (R : RT T N A h) (V : Rv A h v) (I : Iv v) (Ly : legOK v y) (k1 : legS v y → K 1 h) (k0 : ¬ legS v y → K 0 h) : ∀ (m i : Nat), (i : Int) + m = v 76 → (∀ f, 0 ≤ f → f < (i : Int) → ¬ fenS v f y) → ZW T N 199 2 [some (vr (some A)), some (vi (J y)), some (vi (J (i : Int))), none] [] h K := by
  have b := I.b
  have n1 := R.a1.2.1
  have e76 := V 76 (by omega) (by omega)
  have gb := endV_b I Ly
  have Ly2 := Ly
  unfold legOK at Ly2
  intro m
  induction m with
  | zero =>
    intro i hi no
    exact z199_2 R.t (by omega) (by omega) ⟨A + 1, R.a1.2.2, R.a1.1, by omega, fun c => by omega, fun c => k0 fun ⟨f, a1, a2, a3⟩ => no f a1 (by omega) a3⟩
  | succ m ih =>
    intro i hi no
    have go : ¬ fenS v i y → ZW T N 199 2 [some (vr (some A)), some (vi (J y)), some (vi (J ((i : Int) + 1))), none] [] h K := fun nf => by
      have := ih (i + 1) (by omega) fun f a1 a2 => by
        by_cases c : f = i
        · rw [c]; exact nf
        · exact no f a1 (by omega)
      rw [show ((i + 1 : Nat) : Int) = (i : Int) + 1 by omega] at this
      exact this
    have F := I.f (n := (i : Int)) (by omega) (by omega)
    unfold fenOK at F
    have v0 := V (77 + 4 * (i : Int) + 0) (by omega) (by omega)
    have v1 := V (77 + 4 * (i : Int) + 1) (by omega) (by omega)
    have v2 := V (77 + 4 * (i : Int) + 2) (by omega) (by omega)
    have v3 := V (77 + 4 * (i : Int) + 3) (by omega) (by omega)
    rw [Int.add_zero] at v0
    refine z199_2 R.t (by omega) (by omega) ⟨A + 1, R.a1.2.2, R.a1.1, by omega, fun c => ⟨A + 1, R.a1.2.2, R.a1.1, by omega, r_cOf (by omega) ?_⟩, fun c => absurd (by omega) c⟩
    rw [v0]
    refine ⟨fun c1 => ⟨A + 1, R.a1.2.2, R.a1.1, by omega, r_lOf (by omega) ?_⟩, fun c1 => go fun z => c1 z.1⟩
    rw [v1, hold_z (by omega)]
    refine ⟨fun c2 => r_sOf (by omega) ⟨A + 1, R.a1.2.2, R.a1.1, by omega, ?_⟩, fun c2 => go fun z => c2 (if_pos z.2.1)⟩
    have s : mb (v (77 + 4 * (i : Int) + 1)) (y / 32 % 4).toNat = true := by
      by_cases z : mb (v (77 + 4 * (i : Int) + 1)) (y / 32 % 4).toNat = true
      · exact z
      · rw [if_neg z] at c2; omega
    rw [v3]
    refine ⟨fun c3 => s_eOf R I V Ly ⟨A + 1, R.a1.2.2, R.a1.1, by omega, ?_⟩, fun c3 => go fun z => c3 z.2.2.1⟩
    rw [v2]
    exact ⟨fun c4 => k1 ⟨i, by omega, by omega, by rw [Int.add_zero]; exact c1, s, c3, c4⟩, fun c4 => go fun z => c4 z.2.2.2⟩
theorem r_isStruck (R : RT T N A h) (V : Rv A h v) (I : Iv v) (Ly : legOK v y) (k1 : legS v y → K 1 h) (k0 : ¬ legS v y → K 0 h) : ZI T N 199 [vr (some A), vi (J y)] h K := by
  have b := I.b
  have gb := endV_b I Ly
  have Ly2 := Ly
  unfold legOK at Ly2
  exact z199 (by omega) (r_isStruck_loop R V I Ly k1 k0 (v 76).toNat 0 (by omega) fun f a1 a2 => by omega)
/-- the mask while drone d is looked at, its legs below x -/
def SMj (v : Int → Int) (m d x : Int) : Prop := In m ∧ ∀ j : Nat, j < 32 → (mb m j = true ↔ ((j : Int) < d ∧ droS v (rc v j)) ∨ ((j : Int) = d ∧ ∃ i, aheadE (rc v d) ≤ i ∧ i < x ∧ legS v (rc v d (13 + i))))
theorem r_legs_loop (R : RT T N A h) (V : Rv A h v) (I : Iv v) (hd : 0 ≤ d ∧ d < v 117) (k : ∀ m, SMi v m (d + 1) → ZW T N 200 4 [some (vr (some A)), some (vi (J m)), some (vi (J (d + 1))), none] [] h K) : ∀ (q : Nat) (i m : Int), i + q = rc v d 5 → aheadE (rc v d) ≤ i → SMj v m d i → ZW T N 200 21 [some (vr (some A)), some (vi (J m)), some (vi (J d)), some (vi (J i))] [] h K := by
  have b := I.b
  have O := I.d hd.1 hd.2
  have h5 := O.2.2.2.2.2.1
  have hb := aheadE_b O
  intro q
  induction q with
  | zero =>
    intro i m hi ha S
    refine z200_21 R.t S.1 (by omega) (by omega) (r_of R (by omega) (by omega) ?_)
    rw [V _ (by omega) (by omega)]
    refine ⟨fun c => absurd (show i < rc v d 5 from c) (by omega), fun c => k m ⟨S.1, fun j hj => ?_⟩⟩
    rw [S.2 j hj]
    constructor
    · rintro (z | ⟨z1, i', z2, z3, z4⟩)
      · exact ⟨by omega, z.2⟩
      · exact ⟨by omega, by rw [z1]; exact ⟨i', z2, by omega, z4⟩⟩
    · intro ⟨z1, z2⟩
      by_cases c2 : (j : Int) = d
      · rw [c2] at z2
        obtain ⟨i', q1, q2, q3⟩ := z2
        exact Or.inr ⟨c2, i', q1, by omega, q3⟩
      · exact Or.inl ⟨by omega, z2⟩
  | succ q ih =>
    intro i m hi ha S
    have L := rc_leg I hd (j := i) (by omega)
    refine z200_21 R.t S.1 (by omega) (by omega) (r_of R (by omega) (by omega) ?_)
    rw [V _ (by omega) (by omega)]
    refine ⟨fun c => r_leg R (by omega) (by omega) ?_, fun c => absurd (show i < rc v d 5 by omega) c⟩
    rw [V _ (by omega) (by omega)]
    refine r_isStruck R V I L (fun s => ⟨(fun z => absurd z (by decide)), fun _ => ih (i + 1) _ (by omega) (by omega) ⟨zor_in _ _, fun j hj => ?_⟩⟩) (fun s => ⟨fun _ => ih (i + 1) _ (by omega) (by omega) ⟨zor_in _ _, fun j hj => ?_⟩, (fun z => absurd rfl z)⟩)
    · rw [mb_or, mb_shl (by omega) hj, Bool.or_eq_true, S.2 j hj, decide_eq_true_eq]
      constructor
      · rintro ((z | ⟨z1, i', z2, z3, z4⟩) | z)
        · exact Or.inl z
        · exact Or.inr ⟨z1, i', z2, by omega, z4⟩
        · exact Or.inr ⟨z, i, ha, by omega, s⟩
      · rintro (z | ⟨z1, i', z2, z3, z4⟩)
        · exact Or.inl (Or.inl z)
        · exact Or.inr z1
    · rw [mb_or, mb_0, Bool.or_false, S.2 j hj]
      constructor
      · rintro (z | ⟨z1, i', z2, z3, z4⟩)
        · exact Or.inl z
        · exact Or.inr ⟨z1, i', z2, by omega, z4⟩
      · rintro (z | ⟨z1, i', z2, z3, z4⟩)
        · exact Or.inl z
        · by_cases c2 : i' = i
          · rw [c2] at z4; exact absurd z4 s
          · exact Or.inr ⟨z1, i', z2, by omega, z4⟩
theorem r_mask_loop (R : RT T N A h) (V : Rv A h v) (I : Iv v) (k : ∀ m, SM v m → K m h) : ∀ (q i : Nat) (m : Int), (i : Int) + q = v 117 → SMi v m i → ZW T N 200 4 [some (vr (some A)), some (vi (J m)), some (vi (J (i : Int))), none] [] h K := by
  have b := I.b
  have n1 := R.a1.2.1
  have e117 := V 117 (by omega) (by omega)
  intro q
  induction q with
  | zero =>
    intro i m hi S
    exact z200_4 R.t S.1 (by omega) ⟨A + 1, R.a1.2.2, R.a1.1, by omega, fun c => by omega, fun c => k m ⟨S.1, fun j hj => by rw [S.2 j hj, show (i : Int) = v 117 by omega]⟩⟩
  | succ q ih =>
    intro i m hi S
    have O := I.d (n := (i : Int)) (by omega) (by omega)
    have hb := aheadE_b O
    refine z200_4 R.t S.1 (by omega) ⟨A + 1, R.a1.2.2, R.a1.1, by omega, fun c => r_aheadD (u := v) (e := rc v i) R (by rw [putD_rc]; exact V) (by omega) ?_, fun c => absurd (by omega) c⟩
    refine r_legs_loop R V I (d := (i : Int)) (by omega) (fun m2 S2 => ?_) (rc v i 5 - aheadE (rc v i)).toNat (aheadE (rc v i)) m (by omega) (Int.le_refl _) ⟨S.1, fun j hj => ?_⟩
    · have := ih (i + 1) m2 (by omega) (by rw [show ((i + 1 : Nat) : Int) = (i : Int) + 1 by omega]; exact S2)
      rw [show ((i + 1 : Nat) : Int) = (i : Int) + 1 by omega] at this; exact this
    · rw [S.2 j hj]
      constructor
      · intro z; exact Or.inl z
      · rintro (z | ⟨z1, i', z2, z3, z4⟩)
        · exact z
        · omega
theorem r_strikes (R : RT T N A h) (V : Rv A h v) (I : Iv v) (k : ∀ m, SM v m → K m h) : ZI T N 200 [vr (some A)] h K := by
  have b := I.b
  exact z200 (r_mask_loop R V I k (v 117).toNat 0 0 (by omega) SMi0)
theorem P_struck (S : Sim T N bs h i) {Q2 : Int → Int → PH → Prop} (k : ∀ x h3, Sim T N bs h3 (i + 1) → Scp bs h h3 → Q2 x x h3) : ZI T N 125 [vr (some bs)] h (fun x h1 => ZI T N 201 [vr (some (bs + 3296))] h1 (fun y h2 => Q2 x y h2)) := by
  obtain ⟨v, iss, sv, n, hs, tn, tx, re, er, C, I, D, R⟩ := S; have b := I.1.b; have o := C.o; have out := C.out
  refine z125 o.1 ⟨bs + 1, o.2.1, C.2.1.1.t, d_struck D.1 I.1 fun m Sm => ?_⟩
  refine z201 C.rt.t ?_
  intro h8 z8
  obtain ⟨R8, F8⟩ := R.th (x := 0)
  rw [← z8] at R8 F8
  refine r_strikes (C.rt.fr F8) R8.1 I.1 fun m2 Sm2 => ?_
  rw [Sm2.un Sm]
  obtain ⟨S10, s10, -⟩ := Sim.mk' C.up I D F8.sk RKw_in R8
  exact k m h8 S10 s10
end STR
