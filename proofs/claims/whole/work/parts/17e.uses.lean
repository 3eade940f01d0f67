/-! USES -/
def useL (v : Int → Int) (c l d : Int) : Int → Int := fun j => if rc v d (13 + j) % 16 = c ∧ (l < 0 ∨ rc v d (13 + j) / 32 % 4 = l) then 1 else 0
def useD (v : Int → Int) (c l : Int) : Int → Int := fun d => sumI (useL v c l d) (rc v d 5).toNat
section USE
variable {T N : Nat → Nat} {bs A p q w x : Nat} {h h1 h2 h3 h7 h10 : PH} {v u sv tx e e2 : Int → Int} {hs hs2 : Int → Int → Int} {iss n tn re er d t a b l m c y : Int} {i : Nat} {K : Int → PH → Prop} {KV : PH → Prop} {KP : PR → PH → Prop} {Q : Int → Int → Int → PH → Prop} {f g : Int → Int}
theorem useL_b : useL v c l d a = 0 ∨ useL v c l d a = 1 := by unfold useL; split; exact Or.inr rfl; exact Or.inl rfl
theorem useD_b (I : Iv v) (hd : 0 ≤ d ∧ d < v 117) : 0 ≤ useD v c l d ∧ useD v c l d ≤ 41 := by
  have h5 := rc_5 I hd
  have := sumI_b (f := useL v c l d) (fun _ => useL_b) (rc v d 5).toNat
  unfold useD; omega
theorem useT_b (I : Iv v) (i : Nat) (hi : (i : Int) ≤ v 117) : 0 ≤ sumI (useD v c l) i ∧ sumI (useD v c l) i ≤ 41 * i := sumI_bd2 (by decide) i fun j hj => useD_b I (by omega)
theorem d_useL (Dt : DT T N h p) (I : Iv v) (hd : 0 ≤ d ∧ d < v 117) (G : DrD v h p (rc v d)) (hc : In c) (hl : -1 ≤ l ∧ l ≤ 2) (k : K (useD v c l d) h) : ∀ (m j : Nat), (j : Int) + m = rc v d 5 → ZW T N 25 5 [some (vr (some p)), some (vi (J c)), some (vi (J l)), some (vi (J (sumI (useL v c l d) j))), some (vi (J (j : Int))), none] [] h K := by
  have h5 := rc_5 I hd
  have g8 := G.1.2.2.2.2.2.2.2
  intro m
  induction m with
  | zero =>
    intro j hj
    have sb := sumI_b (f := useL v c l d) (fun _ => useL_b) j
    refine z25_5 Dt.t hc (by omega) (by omega) (by omega) ⟨fun z => by omega, fun _ => ?_⟩
    unfold useD at k
    rw [show j = (rc v d 5).toNat by omega]; exact k
  | succ m ih =>
    intro j hj
    have sb := sumI_b (f := useL v c l d) (fun _ => useL_b) j
    have nxt := ih (j + 1) (by omega)
    rw [show ((j + 1 : Nat) : Int) = (j : Int) + 1 by omega] at nxt
    have es : sumI (useL v c l d) (j + 1) = sumI (useL v c l d) j + useL v c l d j := rfl
    rw [es] at nxt
    refine z25_5 Dt.t hc (by omega) (by omega) (by omega) ⟨fun z => d_legAt Dt (n := (j : Int)) (by omega) (by omega) (fun c1 x hx q1 q2 tx => ⟨fun z => by (cases z), fun a' ea => ?_⟩) (fun c1 => absurd (by omega) c1), fun z => absurd (by omega) z⟩
    cases ea
    obtain ⟨l0, l1, l2, l3, l4⟩ := G.2.2 (j : Int) (by omega) (by omega) x hx
    rw [l0, l2]
    refine ⟨tx, fun c1 => ⟨fun c2 => ?_, fun c2 => ⟨fun c3 => ?_, fun c3 => ?_⟩⟩, fun c1 => ?_⟩
    · rw [show useL v c l d j = 1 from if_pos ⟨c1, Or.inl (by omega)⟩] at nxt; exact nxt
    · rw [show useL v c l d j = 1 from if_pos ⟨c1, Or.inr c3⟩] at nxt; exact nxt
    · rw [show useL v c l d j = 0 from if_neg (by omega), Int.add_zero] at nxt; exact nxt
    · rw [show useL v c l d j = 0 from if_neg (fun z => c1 z.1), Int.add_zero] at nxt; exact nxt
theorem d_useT (C : Com T N bs h i) (I : IvS v iss sv n hs tn tx re er) (D : SD T N bs h v iss sv n hs tn tx re er) (hc : In c) (hl : -1 ≤ l ∧ l ≤ 2) (k : KP (.inl (some (vi (J (sumI (useD v c l) (v 117).toNat))))) h) : ∀ (m j : Nat), (j : Int) + m = v 117 → WX T N 133 47 [some (vr (some bs)), some (vi (J c)), some (vi (J l)), some (vi (J (sumI (useD v c l) j))), some (vi (J (j : Int))), none] [] h KP := by
  have b := I.1.b
  have o := C.o
  have eb := D.1.b
  intro m
  induction m with
  | zero =>
    intro j hj
    have sb := useT_b (c := c) (l := l) I.1 j (by omega)
    refine z133_47 o.1 hc (by omega) (by omega) (by omega) ⟨bs + 1, o.2.1, C.2.1.1.t, fun z => by omega, fun _ => ?_⟩
    rw [show j = (v 117).toNat by omega]; exact k
  | succ m ih =>
    intro j hj
    have sb := useT_b (c := c) (l := l) I.1 j (by omega)
    have nxt := ih (j + 1) (by omega)
    rw [show ((j + 1 : Nat) : Int) = (j : Int) + 1 by omega] at nxt
    refine z133_47 o.1 hc (by omega) (by omega) (by omega) ⟨bs + 1, o.2.1, C.2.1.1.t, fun z => ⟨bs + 1, o.2.1, C.2.1.1.t, d_dro (n := (j : Int)) C.2.1.1 (by omega) (by omega) (fun c1 => ⟨fun z => by (cases z), fun a' ea => ?_⟩) (fun c1 => absurd (by omega) c1)⟩, fun z => absurd (by omega) z⟩
    cases ea
    have Dt := (C.2.1.1.d (c := (j : Int)) (by omega)).2
    have h5 := rc_5 I.1 (f := (j : Int)) (by omega)
    exact ⟨Dt.t, z25 hc (by omega) (d_useL Dt I.1 (d := (j : Int)) (by omega) (D.1.d (d := (j : Int)) (by omega) (by omega)) hc hl nxt (rc v j 5).toNat 0 (by omega))⟩
theorem r_useL (R : RT T N A h) (V : Rv A h v) (I : Iv v) (hd : 0 ≤ d ∧ d < v 117) (hc : In c) (hl : -1 ≤ l ∧ l ≤ 2) (hm : 0 ≤ m ∧ m ≤ 1000) (k : ZW T N 235 44 [some (vr (some A)), some (vi (J c)), some (vi (J l)), some (vi (J (m + useD v c l d))), some (vi (J (d + 1))), none] [] h K) : ∀ (q j : Nat), (j : Int) + q = rc v d 5 → ZW T N 235 59 [some (vr (some A)), some (vi (J c)), some (vi (J l)), some (vi (J (m + sumI (useL v c l d) j))), some (vi (J d)), some (vi (J (j : Int)))] [] h K := by
  have b := I.b
  have h5 := rc_5 I hd
  intro q
  induction q with
  | zero =>
    intro j hj
    have sb := sumI_b (f := useL v c l d) (fun _ => useL_b) j
    refine z235_59 R.t hc (by omega) (by omega) (by omega) (by omega) (r_of R (by omega) (by omega) ?_)
    rw [V _ (by omega) (by omega)]
    refine ⟨fun z => absurd z (show ¬ (j : Int) < rc v d 5 by omega), fun _ => ?_⟩
    unfold useD at k
    rw [show j = (rc v d 5).toNat by omega]; exact k
  | succ q ih =>
    intro j hj
    have sb := sumI_b (f := useL v c l d) (fun _ => useL_b) j
    have nxt := ih (j + 1) (by omega)
    rw [show ((j + 1 : Nat) : Int) = (j : Int) + 1 by omega] at nxt
    have es : m + sumI (useL v c l d) (j + 1) = m + sumI (useL v c l d) j + useL v c l d j := by
      show m + (sumI (useL v c l d) j + useL v c l d j) = _; omega
    rw [es] at nxt
    have L := rc_leg I hd (j := (j : Int)) (by omega)
    have lb := endV_b I L
    unfold legOK at L
    refine z235_59 R.t hc (by omega) (by omega) (by omega) (by omega) (r_of R (by omega) (by omega) ?_)
    rw [V _ (by omega) (by omega)]
    refine ⟨fun _ => r_leg R (by omega) (by omega) ?_, fun z => absurd (show (j : Int) < rc v d 5 by omega) z⟩
    rw [V _ (by omega) (by omega)]
    refine r_cOf (show 0 ≤ rc v d (13 + j) ∧ rc v d (13 + j) < _ by omega) ⟨fun c1 => ⟨fun c2 => ?_, fun c2 => r_leg R (by omega) (by omega) ?_⟩, fun c1 => ?_⟩
    · rw [show useL v c l d j = 1 from if_pos ⟨c1, Or.inl c2⟩] at nxt; exact nxt
    · rw [V _ (by omega) (by omega)]
      refine r_lOf (show 0 ≤ rc v d (13 + j) ∧ rc v d (13 + j) < _ by omega) ⟨fun c3 => ?_, fun c3 => ?_⟩
      · rw [show useL v c l d j = 1 from if_pos ⟨c1, Or.inr c3⟩] at nxt; exact nxt
      · rw [show useL v c l d j = 0 from if_neg fun z => z.2.elim (fun z => c2 z) (fun z => c3 z)] at nxt; exact nxt
    · rw [show useL v c l d j = 0 from if_neg (fun z => c1 z.1)] at nxt; exact nxt
theorem r_useT (R : RT T N A h) (V : Rv A h v) (I : Iv v) (hc : In c) (hl : -1 ≤ l ∧ l ≤ 2) (k : K (sumI (useD v c l) (v 117).toNat) h) : ∀ (q j : Nat), (j : Int) + q = v 117 → ZW T N 235 44 [some (vr (some A)), some (vi (J c)), some (vi (J l)), some (vi (J (sumI (useD v c l) j))), some (vi (J (j : Int))), none] [] h K := by
  have b := I.b
  have n1 := R.a1.2.1
  have e117 := V 117 (by omega) (by omega)
  intro q
  induction q with
  | zero =>
    intro j hj
    have sb := useT_b (c := c) (l := l) I j (by omega)
    refine z235_44 R.t hc (by omega) (by omega) (by omega) ⟨A + 1, R.a1.2.2, R.a1.1, by omega, fun z => by omega, fun _ => ?_⟩
    rw [show j = (v 117).toNat by omega]; exact k
  | succ q ih =>
    intro j hj
    have sb := useT_b (c := c) (l := l) I j (by omega)
    have nxt := ih (j + 1) (by omega)
    rw [show ((j + 1 : Nat) : Int) = (j : Int) + 1 by omega] at nxt
    have h5 := rc_5 I (f := (j : Int)) (by omega)
    refine z235_44 R.t hc (by omega) (by omega) (by omega) ⟨A + 1, R.a1.2.2, R.a1.1, by omega, fun z => ?_, fun z => absurd (by omega) z⟩
    have kk := r_useL (d := (j : Int)) (m := sumI (useD v c l) j) R V I (by omega) hc hl (by omega) nxt (rc v j 5).toNat 0 (by omega)
    rw [show sumI (useL v c l j) 0 = 0 from rfl, Int.add_zero] at kk
    exact kk
theorem c_uses (C : Com T N bs h i) (I : IvS v iss sv n hs tn tx re er) (D : SD T N bs h v iss sv n hs tn tx re er) (hc : In c) (hl : In l) (k0 : 0 ≤ c ∧ c < v 11 → -1 ≤ l ∧ l ≤ 2 → KP (.inl (some (vi (J (sumI (useD v c l) (v 117).toNat))))) h) (k1 : ¬ (0 ≤ c ∧ c < v 11) → KP (.inr 2) (bump h)) (k2 : 0 ≤ c ∧ c < v 11 → ¬ (-1 ≤ l ∧ l ≤ 2) → KP (.inr 1) (bump h)) : CALL T N 133 [vr (some bs), vi (J c), vi (J l)] h KP := by
  have b := I.1.b
  have o := C.o
  have eb := D.1.b
  refine z133 o.1 hc hl ⟨bs + 1, o.2.1, C.2.1.1.t, d_cor C.2.1.1 hc (by omega) (fun c1 => ⟨fun z => by (cases z), fun a' ea => ?_⟩) (fun c1 => ⟨fun _ => ⟨C.t0, k1 (by omega)⟩, fun a' ea => by (cases ea)⟩)⟩
  have cf : 0 ≤ c ∧ c < v 11 := by omega
  exact ⟨fun z => ⟨C.t0, k2 cf (by omega)⟩, fun z => ⟨fun z2 => d_useT C I D hc (by omega) (k0 cf (by omega)) (v 117).toNat 0 (by omega), fun z2 => ⟨C.t0, k2 cf (by omega)⟩⟩⟩
theorem q_uses (T7 : RT T N A h7) (I : IvS v iss sv n hs tn tx re er) (R7 : SR A h7 v iss sv n hs tn tx re er) (hc : In c) (hl : In l) (k0 : 0 ≤ c ∧ c < v 11 → -1 ≤ l ∧ l ≤ 2 → ∀ h8, FR (Scr A) h7 h8 → SR A h8 v iss sv n hs tn tx re er → ai h8 A 0 = 0 → K (sumI (useD v c l) (v 117).toNat) h8) (k1 : ¬ (0 ≤ c ∧ c < v 11) → ∀ h8, FR (Scr A) h7 h8 → SR A h8 v iss sv n hs tn tx re er → ai h8 A 0 = 1 → K 0 h8) (k2 : 0 ≤ c ∧ c < v 11 → ¬ (-1 ≤ l ∧ l ≤ 2) → ∀ h8, FR (Scr A) h7 h8 → SR A h8 v iss sv n hs tn tx re er → ai h8 A 0 = 2 → K 0 h8) : ZI T N 235 [vr (some A), vi (J c), vi (J l)] h7 K := by
  have b := I.1.b
  have e11 := R7.1 11 (by omega) (by omega)
  refine z235 T7.t hc hl (r_isCor T7 hc (by omega) (fun c1 => ⟨(fun z => absurd z (by decide)), fun _ => ?_⟩) (fun c1 => ⟨fun _ => ?_, (fun z => absurd rfl z)⟩))
  rotate_left
  · intro h8 z8; obtain ⟨R8, F8⟩ := R7.th (x := 1); rw [← z8] at R8 F8; have e8 : ai h8 A 0 = 1 := (by subst z8; exact rd_eq rfl rfl (by decide)); have T8 := T7.fr F8; rw [e8]; clear z8
    exact ⟨fun _ => k1 (by omega) h8 F8 R8 e8, fun z => absurd (by decide) z⟩
  have cf : 0 ≤ c ∧ c < v 11 := by omega
  refine r_in hl (by decide) (by decide) (fun c3 => ⟨(fun z => absurd z (by decide)), fun _ => ?_⟩) (fun c3 => ⟨fun _ => ?_, (fun z => absurd rfl z)⟩)
  rotate_left
  · intro h8 z8; obtain ⟨R8, F8⟩ := R7.th (x := 2); rw [← z8] at R8 F8; have e8 : ai h8 A 0 = 2 := (by subst z8; exact rd_eq rfl rfl (by decide)); have T8 := T7.fr F8; rw [e8]; clear z8
    exact ⟨fun _ => k2 cf c3 h8 F8 R8 e8, fun z => absurd (by decide) z⟩
  intro h8 z8; obtain ⟨R8, F8⟩ := R7.th (x := 0); rw [← z8] at R8 F8; have e8 : ai h8 A 0 = 0 := (by subst z8; exact rd_eq rfl rfl (by decide)); have T8 := T7.fr F8; rw [e8]; clear z8
  exact ⟨(fun z => absurd z (by decide)), fun _ => r_useT T8 R8.1 I.1 hc c3 (k0 cf c3 h8 F8 R8 e8) (v 117).toNat 0 (by omega)⟩
theorem P_uses (S : Sim T N bs h i) (hc : In c) (hl : In l) (k : Cont T N bs i h Q) : ZI T N 278 [vr (some bs), vi (J c), vi (J l), vr (some (bs + 3309))] h (fun z1 h1 => ZI T N 235 [vr (some (bs + 3296)), vi (J c), vi (J l)] h1 (fun z2 h2 => ZI T N 156 [vr (some (bs + 3296))] h2 (fun z3 h3 => Q z1 z2 z3 h3))) := by
  obtain ⟨v, iss, sv, n, hs, tn, tx, re, er, C, I, D, R⟩ := S; have b := I.1.b; have o := C.o; have out := C.out
  have ub := useT_b (c := c) (l := l) I.1 (v 117).toNat (by omega)
  refine z278 o.1 out.1 hc hl (c_uses C I D hc hl (fun a1 a2 => Or.inl ⟨_, rfl, by omega, by omega, ?_⟩) (fun a1 => Or.inr (Or.inl ⟨rfl, ?_⟩)) (fun a1 a2 => Or.inr (Or.inr ⟨rfl, ?_⟩)))
  · intro h7 z7; subst z7; obtain ⟨C7, D7, F7, G7⟩ := tail0 (h := h) C D I Fcl.rf (x := (J (sumI (useD v c l) (v 117).toNat)).toInt64); generalize sL h (bs + 3309) (Int.toNat 0) (J (sumI (useD v c l) (v 117).toNat)).toInt64 = h7 at *; have R7 := R.fd F7
    exact q_uses C7.rt I R7 hc hl (fun _ _ h8 F8 R8 e8 => fin k C7 I D7 F7 F8.sk R8 e8 (by omega) fun _ => G7) (fun z => absurd a1 z) (fun _ z => absurd a2 z)
  · have C7 := C.bm; have D7 := D.bm I; have F7 : Fcl bs h (bump h) := Fcl.bm; generalize bump h = h7 at *; have R7 := R.fd F7
    exact q_uses C7.rt I R7 hc hl (fun z => absurd z a1) (fun _ h8 F8 R8 e8 => fin k C7 I D7 F7 F8.sk R8 e8 (by decide) fun z => by omega) (fun z => absurd z a1)
  · have C7 := C.bm; have D7 := D.bm I; have F7 : Fcl bs h (bump h) := Fcl.bm; generalize bump h = h7 at *; have R7 := R.fd F7
    exact q_uses C7.rt I R7 hc hl (fun _ z => absurd z a2) (fun z => absurd a1 z) (fun _ _ h8 F8 R8 e8 => fin k C7 I D7 F7 F8.sk R8 e8 (by decide) fun z => by omega)
end USE
