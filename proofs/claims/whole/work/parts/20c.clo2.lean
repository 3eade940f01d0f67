/-! SEARCH: the class's closures, opened and asked; its legs that end -/
def SE (T N : Nat → Nat) (h : PH) (g : Nat) : Prop := T g = 8 ∧ (WY T N h (g + 1) ∧ gr h g 4 = some (g + 1)) ∧ (CO T N h (g + 3) ∧ gr h g 5 = some (g + 3)) ∧ (T (g + 5) = 22 ∧ N (g + 5) = 3840 ∧ gr h g 6 = some (g + 5)) ∧ (T (g + 6) = 22 ∧ N (g + 6) = 3840 ∧ gr h g 7 = some (g + 6)) ∧ (T (g + 7) = 22 ∧ N (g + 7) = 30 ∧ gr h g 8 = some (g + 7)) ∧ (T (g + 8) = 22 ∧ N (g + 8) = 30 ∧ gr h g 9 = some (g + 8)) ∧ (T (g + 9) = 22 ∧ N (g + 9) = 30 ∧ gr h g 10 = some (g + 9)) ∧ (T (g + 10) = 22 ∧ N (g + 10) = 30 ∧ gr h g 11 = some (g + 10))
/-- the numbers of the class's legs -/
def shK (o b : Int) : Int := if b < 0 then b else b + 96 * o
def KT (h : PH) (g : Nat) (v : Int → Int) (d q o s : Int) : Prop := ∀ k, 0 ≤ k → k < 96 * s → k % 96 < 6 * v 11 → enK v k ≤ limV v d → ai h (g + 5) (k + 96 * o) = TK v d q k ∧ (0 ≤ TK v d q k → ai h (g + 6) (k + 96 * o) = shK o (BF v d q k))
def KW (h : PH) (g : Nat) (o : Int) (W : (Int → Int) × (Int → Int)) : Prop := ∀ a, 0 ≤ a → a < 30 → ai h (g + 7) a = shK o (W.1 a) ∧ (0 ≤ W.1 a → ai h (g + 8) a = W.2 a - o)
section CL2
variable {T N : Nat → Nat} {a b c w g : Nat} {h h0 h1 h2 h3 : PH} {v u : Int → Int} {d q e i k l m n s t x y o p j x1 x2 x3 x4 : Int} {W : (Int → Int) × (Int → Int)} {K : Int → PH → Prop} {KV : PH → Prop} {KL : Int64 → PH → Prop} {P P0 Q : Int → Int → Prop}
theorem SE.to (S : SE T N h g) (e : gr h2 = gr h) : SE T N h2 g := by unfold SE WY CO at S ⊢; rw [e]; exact S
theorem d_co33 (Wd : Wo T N h0 w v) (I : Iv v) (C : CO T N h0 a) (hy : w + 294 ≤ a + 1) (hd : In d) (hp : 0 ≤ p ∧ p < v 117) (hne : p ≠ d) (kk : ∀ h4, QF a h0 h4 (fun e o => P0 e o ∨ OSn v d (p + 1) e o) → WV T N 4 2 [some (vr (some a)), some (vr (some w)), some (vi (J d)), some (vi (J (p + 1))), none, none, none] [] h4 KV) :
    ∀ (m j : Nat) (h3 : PH), (j : Int) + m = rc v p 5 → QF a h0 h3 (fun e o => P0 e o ∨ OSn v d p e o ∨ OSj v p j e o) → WV T N 4 33 [some (vr (some a)), some (vr (some w)), some (vi (J d)), some (vi (J p)), some (vr (some (dA w p))), some (vi (J (j : Int))), none] [] h3 KV := by
  have b := I.b
  have r5 := rc_5 I hp
  intro m
  induction m with
  | zero =>
    intro j h3 hj G
    have W3 : Wo T N h3 w v := Wd.fr (fun b q1 q2 => G.1.1 b (by omega)) I
    have Dt := (W3.o.d (c := p) (by omega)).2
    have Gd := (W3.d hp.1 hp.2).1
    have g8 : ai h3 (dA w p) 8 = rc v p 5 := Gd.2.2.2.2.2.2.2
    refine z4_33 Dt.t Wd.o.t C.1 hd (by omega) (by omega) ⟨fun z => by omega, fun _ => kk h3 (G.cg fun e o _ _ _ _ => ?_)⟩
    constructor
    · rintro (z | ⟨p2, z1, z2, z3, z4⟩ | z)
      · exact Or.inl z
      · exact Or.inr ⟨p2, z1, by omega, z3, z4⟩
      · exact Or.inr ⟨p, hp.1, by omega, hne, by rw [show (j : Int) = rc v p 5 by omega] at z; exact z⟩
    · rintro (z | ⟨p2, z1, z2, z3, z4⟩)
      · exact Or.inl z
      · by_cases c : p2 = p
        · rw [c] at z4; exact Or.inr (Or.inr (by rw [show (j : Int) = rc v p 5 by omega]; exact z4))
        · exact Or.inr (Or.inl ⟨p2, z1, by omega, z3, z4⟩)
  | succ m ih =>
    intro j h3 hj G
    have W3 : Wo T N h3 w v := Wd.fr (fun b q1 q2 => G.1.1 b (by omega)) I
    have Dt := (W3.o.d (c := p) (by omega)).2
    have Gd := W3.d hp.1 hp.2
    have g8 : ai h3 (dA w p) 8 = rc v p 5 := Gd.1.2.2.2.2.2.2.2
    refine z4_33 Dt.t Wd.o.t C.1 hd (by omega) (by omega) ⟨fun _ => d_legAt Dt (n := (j : Int)) (by omega) (by omega) (fun c1 r er r1 r2 tr' => ⟨fun z => by (cases z), fun a' ea => ?_⟩) (fun c1 => absurd (by omega) c1), fun z => absurd (by omega) z⟩
    cases ea
    have Lr := Gd.2.2 (j : Int) (by omega) (by omega) r er
    have Lx := rc_leg I hp (j := (j : Int)) (by omega)
    have wa : dA w p < w + 294 - 43 := by unfold dA; omega
    rw [W3.b.1]
    refine d_around (C.to G.2.1) ⟨Fp.rf, rfl, G.2.2⟩ I tr' Lr Lx (by omega) fun h4 G4 => ?_
    have G5 : QF a h0 h4 _ := ⟨G.1.tr G4.1, G4.2.1.trans G.2.1, G4.2.2⟩
    have := ih (j + 1) h4 (by omega) (G5.cg fun e o _ _ _ _ => by
      constructor
      · rintro ((z | z | ⟨i, z1, z2, z3⟩) | z)
        · exact Or.inl z
        · exact Or.inr (Or.inl z)
        · exact Or.inr (Or.inr ⟨i, z1, by omega, z3⟩)
        · exact Or.inr (Or.inr ⟨j, by omega, by omega, z⟩)
      · rintro (z | z | ⟨i, z1, z2, z3⟩)
        · exact Or.inl (Or.inl z)
        · exact Or.inl (Or.inr (Or.inl z))
        · by_cases c : i = j
          · rw [c] at z3; exact Or.inr z3
          · exact Or.inl (Or.inr (Or.inr ⟨i, z1, by omega, z3⟩)))
    rw [show ((j + 1 : Nat) : Int) = (j : Int) + 1 by omega] at this; exact this
theorem d_co (Wd : Wo T N h0 w v) (I : Iv v) (C : CO T N h0 a) (hy : w + 294 ≤ a + 1) (hd : In d) (kk : ∀ h4, QF a h0 h4 (fun e o => P0 e o ∨ OSn v d (v 117) e o) → KV h4) :
    ∀ (m i : Nat) (h3 : PH), (i : Int) + m = v 117 → QF a h0 h3 (fun e o => P0 e o ∨ OSn v d i e o) → WV T N 4 2 [some (vr (some a)), some (vr (some w)), some (vi (J d)), some (vi (J (i : Int))), none, none, none] [] h3 KV := by
  have b := I.b
  intro m
  induction m with
  | zero =>
    intro i h3 hi G
    have W3 : Wo T N h3 w v := Wd.fr (fun b q1 q2 => G.1.1 b (by omega)) I
    have eb := W3.b
    refine z4_2 Wd.o.t hd (by omega) ⟨fun z => by omega, fun _ => kk h3 ?_⟩
    rw [← show (i : Int) = v 117 by omega]; exact G
  | succ m ih =>
    intro i h3 hi G
    have W3 : Wo T N h3 w v := Wd.fr (fun b q1 q2 => G.1.1 b (by omega)) I
    have eb := W3.b
    have r5 := rc_5 I (f := (i : Int)) (by omega)
    have nx : ∀ h4, QF a h0 h4 (fun e o => P0 e o ∨ OSn v d ((i : Int) + 1) e o) → WV T N 4 2 [some (vr (some a)), some (vr (some w)), some (vi (J d)), some (vi (J ((i : Int) + 1))), none, none, none] [] h4 KV := fun h4 G4 => by
      have := ih (i + 1) h4 (by omega) (by rw [show ((i + 1 : Nat) : Int) = (i : Int) + 1 by omega]; exact G4)
      rw [show ((i + 1 : Nat) : Int) = (i : Int) + 1 by omega] at this; exact this
    refine z4_2 Wd.o.t hd (by omega) ⟨fun _ => d_dro W3.o (n := (i : Int)) (by omega) (by omega) (fun c1 => ⟨fun z => by (cases z), fun a' ea => ?_⟩) (fun c1 => absurd (by omega) c1), fun z => absurd (by omega) z⟩
    cases ea
    refine ⟨fun z => nx h3 (G.cg fun e o _ _ _ _ => ?_), fun z => d_co33 Wd I C hy hd (by omega) z nx (rc v i 5).toNat 0 h3 (by omega) (G.cg fun e o _ _ _ _ => ⟨fun z => z.imp id Or.inl, fun z => z.imp id fun z => z.elim id fun z => ?_⟩)⟩
    · constructor
      · exact Or.imp id fun ⟨p2, z1, z2, z3, z4⟩ => ⟨p2, z1, by omega, z3, z4⟩
      · exact Or.imp id fun ⟨p2, z1, z2, z3, z4⟩ => ⟨p2, z1, by omega, z3, z4⟩
    · obtain ⟨i2, z1, z2, _⟩ := z
      omega
theorem d_open (C : CO T N h a) (kk : ∀ h2, QF a h h2 (fun _ _ => False) → KV h2) : CV T N 2 [vr (some a)] h KV := by
  have n := C.2.2.2
  have t := C.2.2.1
  refine z2 C.1 ?_
  rw [C.2.1]
  refine z253 (by omega) ?_
  have go : ∀ (m i : Nat) (h3 : PH), i + m = 96 → Fp (fun b => b = a + 1) h h3 → gr h3 = gr h → (∀ j : Nat, j < i → gl h3 (a + 1) j = 0) → WV T N 253 6 [some (vr (some (a + 1))), some (vl 0), none, some (vi (J (i : Int))), some (vi (J (N (a + 1) : Int)))] [] h3 KV := by
    intro m
    induction m with
    | zero =>
      intro i h3 hi F e z
      refine z253_6 t (by omega) (by omega) ⟨fun z => by omega, fun _ => kk h3 ⟨F, e, fun e o h1 h2 h3 h4 => ?_⟩⟩
      rw [z _ (by omega), lb_0]
      exact ⟨fun z => absurd z (by decide), fun z => z.elim⟩
    | succ m ih =>
      intro i h3 hi F e z
      refine z253_6 t (by omega) (by omega) ⟨fun _ => ⟨by omega, ?_⟩, fun z => absurd (by omega) z⟩
      intro h4 e4
      have := ih (i + 1) h4 (by omega) (by subst e4; exact F.tr (Fp.pl rfl)) (by subst e4; exact e) (fun j hj => by
        subst e4
        rw [gl_sL']
        by_cases c : j = i
        · rw [if_pos ⟨rfl, by omega⟩]
        · rw [if_neg fun y => c (by omega)]; exact z j (by omega))
      rw [show ((i + 1 : Nat) : Int) = (i : Int) + 1 by omega] at this; exact this
  exact go 96 0 h (by omega) Fp.rf rfl fun j hj => by omega
theorem d_isClosed (C : CO T N h a) (Z : CZ h (a + 1) P) (hl : 0 ≤ l ∧ l < 96) (ho : 0 ≤ o ∧ o < 40) (k1 : P l o → K 1 h) (k0 : ¬ P l o → K 0 h) : ZI T N 1 [vr (some a), vi (J l), vi (J o)] h K := by
  have n := C.2.2.2
  have t := C.2.2.1
  have z := Z l o hl.1 hl.2 ho.1 ho.2
  have s := l_set (m := gl h (a + 1) l.toNat) (x := o) (by omega)
  refine z1 C.1 (by omega) (by omega) ⟨fun z => by omega, fun _ => ⟨a + 1, C.2.1, by omega, by omega, fun _ => ⟨a + 1, C.2.1, t, by omega, fun c => k0 fun y => ?_, fun c => k1 (z.mp ?_)⟩, fun z => absurd (by omega) z⟩⟩
  · have := s.mp c
    rw [z.mpr y] at this; exact absurd this (by decide)
  · cases hb : lb (gl h (a + 1) l.toNat) o.toNat
    · exact absurd (s.mpr hb) c
    · rfl
/-- what is closed -/
def cls (v : Int → Int) (d q e o : Int) : Prop := (1 ≤ q ∧ FSn v (v 76) e o) ∨ (2 ≤ q ∧ OSn v d (v 117) e o)
theorem cls_iff : cls v d q e o ↔ clP v d q (lgA e (v 448 + o)) := by
  unfold cls clP
  refine or_congr (and_congr_right fun _ => Iff.rfl) (and_congr_right fun _ => ?_)
  unfold sepV
  constructor
  · rintro ⟨p, z1, z2, z3, i, z4, z5, z6, z7⟩ s
    exact z7 (s p z1 z2 z3 i z4 z5 z6)
  · intro s
    refine Classical.byContradiction fun n => s fun p z1 z2 z3 i z4 z5 z6 => ?_
    exact Classical.byContradiction fun z7 => n ⟨p, z1, z2, z3, i, z4, z5, z6, z7⟩
end CL2
