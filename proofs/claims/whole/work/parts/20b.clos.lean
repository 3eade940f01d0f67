/-! SEARCH: the class's closures -/
def CO (T N : Nat → Nat) (h : PH) (a : Nat) : Prop := T a = 1 ∧ gr h a 0 = some (a + 1) ∧ T (a + 1) = 24 ∧ N (a + 1) = 96
def CZ (h : PH) (c : Nat) (P : Int → Int → Prop) : Prop := ∀ e o, 0 ≤ e → e < 96 → 0 ≤ o → o < 40 → (lb (gl h c e.toNat) o.toNat = true ↔ P e o)
def FSn (v : Int → Int) (i e o : Int) : Prop := ∃ f, 0 ≤ f ∧ f < i ∧ fenS v f (lgA e (v 448 + o))
def FSl (v : Int → Int) (i l e o : Int) : Prop := fenS v i (lgA e (v 448 + o)) ∧ e % 3 < l
def NSo (v : Int → Int) (x e o : Int) : Prop := (lgA e (v 448 + o) % 16 = x % 16 ∧ lgA e (v 448 + o) / 32 % 4 = x / 32 % 4) ∧ apV v (lgA e (v 448 + o)) x ≠ 1
def OSj (v : Int → Int) (p j e o : Int) : Prop := ∃ i, 0 ≤ i ∧ i < j ∧ NSo v (rc v p (13 + i)) e o
def OSn (v : Int → Int) (d p e o : Int) : Prop := ∃ p2, 0 ≤ p2 ∧ p2 < p ∧ p2 ≠ d ∧ OSj v p2 (rc v p2 5) e o
def QF (a : Nat) (h0 h : PH) (P : Int → Int → Prop) : Prop := Fp (fun b => b = a + 1) h0 h ∧ gr h = gr h0 ∧ CZ h (a + 1) P
section CLO
variable {T N : Nat → Nat} {a b c w g : Nat} {h h0 h1 h2 h3 : PH} {v u : Int → Int} {d q e i k l m n t x y o p j x1 x2 x3 x4 : Int} {K : Int → PH → Prop} {KV : PH → Prop} {KL : Int64 → PH → Prop} {P P0 Q : Int → Int → Prop}
theorem CO.to (C : CO T N h a) (e : gr h2 = gr h) : CO T N h2 a := by unfold CO at C ⊢; rw [e]; exact C
theorem CZ.cg (C : CZ h c P) (g : ∀ e o, 0 ≤ e → e < 96 → 0 ≤ o → o < 40 → (P e o ↔ Q e o)) : CZ h c Q := fun e o h1 h2 h3 h4 => (C e o h1 h2 h3 h4).trans (g e o h1 h2 h3 h4)
theorem CZ.step (C : CZ h c P) (hl : 0 ≤ l ∧ l < 96) : CZ (sL h c l.toNat (gl h c l.toNat ||| btw x y)) c (fun e o => P e o ∨ (e = l ∧ x ≤ o ∧ o ≤ y)) := by
  intro e o h1 h2 h3 h4
  rw [gl_sL']
  by_cases z : e = l
  · rw [if_pos ⟨rfl, by rw [z]⟩, lb_or, lb_btw (by omega), Bool.or_eq_true, decide_eq_true_eq, ← z, C e o h1 h2 h3 h4]
    rw [show ((o.toNat : Nat) : Int) = o by omega]
    exact ⟨fun y => y.imp id fun y => ⟨rfl, y⟩, fun y => y.imp id fun y => y.2⟩
  · rw [if_neg fun y => z (by omega), C e o h1 h2 h3 h4]
    exact ⟨Or.inl, fun y => y.elim id fun y => absurd y.1 z⟩
theorem QF.step (G : QF a h0 h P) (hl : 0 ≤ l ∧ l < 96) : QF a h0 (sL h (a + 1) l.toNat (gl h (a + 1) l.toNat ||| btw x y)) (fun e o => P e o ∨ (e = l ∧ x ≤ o ∧ o ≤ y)) :=
  ⟨G.1.tr (Fp.pl rfl), G.2.1, G.2.2.step hl⟩
theorem QF.cg (G : QF a h0 h P) (g : ∀ e o, 0 ≤ e → e < 96 → 0 ≤ o → o < 40 → (P e o ↔ Q e o)) : QF a h0 h Q := ⟨G.1, G.2.1, G.2.2.cg g⟩
theorem d_close (C : CO T N h a) (hl : 0 ≤ l ∧ l < 96) {y : Int64} (k : KV (sL h (a + 1) l.toNat (gl h (a + 1) l.toNat ||| y))) : CV T N 6 [vr (some a), vi (J l), vl y] h KV := by
  have n := C.2.2.2
  have t := C.2.2.1
  exact z6 C.1 (by omega) ⟨fun z => by omega, fun _ => ⟨a + 1, C.2.1, by omega, by omega, fun _ => ⟨a + 1, C.2.1, t, by omega, fun h18 e => by rw [e]; exact k⟩, fun z => absurd (by omega) z⟩⟩
theorem d_btw (hx : In x) (hy : In y) (k : KL (btw x y) h) : CL T N 7 [vi (J x), vi (J y)] h KL := by
  unfold btw at k
  refine z7 hx hy ⟨by split <;> omega, by split <;> omega, fun c => ?_, fun c => ?_⟩
  · rw [if_pos c] at k; exact k
  · rw [if_neg c] at k; exact k
theorem d_lane (h1 : 0 ≤ x ∧ x < 16) (h2 : 0 ≤ y ∧ y < 2) (h3 : 0 ≤ l ∧ l < 3) (k : K ((x * 2 + y) * 3 + l) h) : ZI T N 8 [vi (J x), vi (J y), vi (J l)] h K := z8 (by omega) (by omega) (by omega) ⟨by omega, k⟩
theorem fenX (he : 0 ≤ e ∧ e < 96) (ht : 0 ≤ v 448 + o) : fenS v i (lgA e (v 448 + o)) ↔ (v (77 + 4 * i + 0) = e / 6 ∧ mb (v (77 + 4 * i + 1)) (e % 3).toNat = true ∧ v 448 + o < v (77 + 4 * i + 3) ∧ v (77 + 4 * i + 2) < v 448 + o + lnV v e) := by
  unfold fenS
  rw [lgA_c he ht, lgA_l he ht, lgA_s he ht, lgA_e he ht]
theorem d_cfL (Wd : Wo T N h0 w v) (I : Iv v) (C : CO T N h0 a) (hy : a + 1 < w ∨ w + 294 ≤ a + 1) (hi : 0 ≤ i ∧ i < v 76) (ex : x = v (77 + 4 * i + 2) - v (12 + 4 * v (77 + 4 * i + 0) + 2) + 1 - v 448) (ey : y = v (77 + 4 * i + 3) - 1 - v 448) (kk : ∀ h4, QF a h0 h4 (fun e o => P0 e o ∨ FSn v (i + 1) e o) → WV T N 3 2 [some (vr (some a)), some (vr (some w)), some (vi (J (i + 1))), none, none, none, none, none] [] h4 KV) :
    ∀ (m l : Nat) (h3 : PH), l + m = 3 → QF a h0 h3 (fun e o => P0 e o ∨ FSn v i e o ∨ FSl v i l e o) → WV T N 3 78 [some (vr (some a)), some (vr (some w)), some (vi (J i)), some (vr (some (fA w i))), none, some (vl (btw x y)), none, some (vi (J (l : Int)))] [] h3 KV := by
  have b := I.b
  have F := I.f hi.1 hi.2
  have tf := (Wd.o.f (c := i) (by omega)).1
  have Fc := I.c F.1.1 F.1.2
  unfold fenOK at F
  intro m
  induction m with
  | zero =>
    intro l h3 hl G
    refine z3_78 tf C.1 (by omega) (by omega) ⟨fun z => by omega, fun _ => kk h3 (G.cg fun e o g1 g2 g3 g4 => ?_)⟩
    constructor
    · rintro (z | ⟨f, z1, z2, z3⟩ | ⟨z, _⟩)
      · exact Or.inl z
      · exact Or.inr ⟨f, z1, by omega, z3⟩
      · exact Or.inr ⟨i, hi.1, by omega, z⟩
    · rintro (z | ⟨f, z1, z2, z3⟩)
      · exact Or.inl z
      · by_cases c : f = i
        · rw [c] at z3; exact Or.inr (Or.inr ⟨z3, by omega⟩)
        · exact Or.inr (Or.inl ⟨f, z1, by omega, z3⟩)
  | succ m ih =>
    intro l h3 hl G
    have W3 : Wo T N h3 w v := Wd.fr (fun b q1 q2 => G.1.1 b (by omega)) I
    have C3 := C.to G.2.1
    have w0 := fun {h4 : PH} (W4 : Wo T N h4 w v) => W4.f (c := i) (k := 0) hi.1 hi.2 (by omega) (by omega)
    have w1 := W3.f (c := i) (k := 1) hi.1 hi.2 (by omega) (by omega)
    refine z3_78 tf C.1 (by omega) (by omega) ⟨fun _ => ?_, fun z => absurd (by omega) z⟩
    rw [w1]
    have nx : ∀ h4, QF a h0 h4 (fun e o => P0 e o ∨ FSn v i e o ∨ FSl v i ((l : Int) + 1) e o) → WV T N 3 78 [some (vr (some a)), some (vr (some w)), some (vi (J i)), some (vr (some (fA w i))), none, some (vl (btw x y)), none, some (vi (J ((l : Int) + 1)))] [] h4 KV := fun h4 G4 => by
      have := ih (l + 1) h4 (by omega) (by rw [show ((l + 1 : Nat) : Int) = (l : Int) + 1 by omega]; exact G4)
      rw [show ((l + 1 : Nat) : Int) = (l : Int) + 1 by omega] at this; exact this
    refine d_holds (S := mb (v (77 + 4 * i + 1)) ((l : Int)).toNat = true) (by omega) (by omega) Iff.rfl (fun s => ⟨(fun z => absurd z (by decide)), fun _ => ?_⟩) (fun s => ⟨fun _ => nx h3 (G.cg fun e o g1 g2 g3 g4 => ?_), (fun z => absurd rfl z)⟩)
    · rw [w0 W3]
      refine d_lane (by omega) (by omega) (by omega) (d_close C3 (by omega) ?_)
      have G4 := G.step (x := x) (y := y) (l := (v (77 + 4 * i + 0) * 2 + 0) * 3 + l) (by omega)
      have C4 := C.to G4.2.1
      have W4 : Wo T N _ w v := Wd.fr (fun b q1 q2 => G4.1.1 b (by omega)) I
      rw [w0 W4]
      refine d_lane (by omega) (by omega) (by omega) (d_close C4 (by omega) (nx _ ((G4.step (x := x) (y := y) (l := (v (77 + 4 * i + 0) * 2 + 1) * 3 + l) (by omega)).cg fun e o g1 g2 g3 g4 => ?_)))
      have fx := fenX (v := v) (i := i) (o := o) ⟨g1, g2⟩ (by omega)
      have ln : e / 6 = v (77 + 4 * i + 0) → lnV v e = v (12 + 4 * v (77 + 4 * i + 0) + 2) := fun z => by unfold lnV; rw [z]
      unfold FSl
      rw [fx]
      constructor
      · rintro ((z | z) | z)
        · exact z.imp id (Or.imp id fun z => ⟨z.1, by omega⟩)
        · have z6 : e / 6 = v (77 + 4 * i + 0) := by omega
          have z3 : e % 3 = l := by omega
          have := ln z6
          exact Or.inr (Or.inr ⟨⟨z6.symm, by rw [z3]; exact s, by omega, by omega⟩, by omega⟩)
        · have z6 : e / 6 = v (77 + 4 * i + 0) := by omega
          have z3 : e % 3 = l := by omega
          have := ln z6
          exact Or.inr (Or.inr ⟨⟨z6.symm, by rw [z3]; exact s, by omega, by omega⟩, by omega⟩)
      · rintro (z | z | ⟨⟨z1, z2, z3, z4⟩, z5⟩)
        · exact Or.inl (Or.inl (Or.inl z))
        · exact Or.inl (Or.inl (Or.inr (Or.inl z)))
        · by_cases c : e % 3 < l
          · exact Or.inl (Or.inl (Or.inr (Or.inr ⟨⟨z1, z2, z3, z4⟩, c⟩)))
          · have := ln z1.symm
            rcases (show e / 3 % 2 = 0 ∨ e / 3 % 2 = 1 by omega) with c2 | c2
            · exact Or.inl (Or.inr ⟨by omega, by omega, by omega⟩)
            · exact Or.inr ⟨by omega, by omega, by omega⟩
    · have fx := fenX (v := v) (i := i) (o := o) ⟨g1, g2⟩ (by omega)
      unfold FSl
      rw [fx]
      refine ⟨fun z => z.imp id (Or.imp id fun z => ⟨z.1, by omega⟩), fun z => z.imp id (Or.imp id fun z => ⟨z.1, ?_⟩)⟩
      by_cases c : e % 3 = l
      · have := z.1.2.1
        rw [c] at this; exact absurd this s
      · omega
theorem d_cf (Wd : Wo T N h0 w v) (I : Iv v) (C : CO T N h0 a) (hy : a + 1 < w ∨ w + 294 ≤ a + 1) (kk : ∀ h4, QF a h0 h4 (fun e o => P0 e o ∨ FSn v (v 76) e o) → KV h4) :
    ∀ (m i : Nat) (h3 : PH), (i : Int) + m = v 76 → QF a h0 h3 (fun e o => P0 e o ∨ FSn v i e o) → WV T N 3 2 [some (vr (some a)), some (vr (some w)), some (vi (J (i : Int))), none, none, none, none, none] [] h3 KV := by
  have b := I.b
  intro m
  induction m with
  | zero =>
    intro i h3 hi G
    have W3 : Wo T N h3 w v := Wd.fr (fun b q1 q2 => G.1.1 b (by omega)) I
    have eb := W3.b
    refine z3_2 Wd.o.t (by omega) ⟨fun z => by omega, fun _ => kk h3 ?_⟩
    rw [← show (i : Int) = v 76 by omega]; exact G
  | succ m ih =>
    intro i h3 hi G
    have W3 : Wo T N h3 w v := Wd.fr (fun b q1 q2 => G.1.1 b (by omega)) I
    have eb := W3.b
    have F := I.f (n := (i : Int)) (by omega) (by omega)
    have Fc := I.c F.1.1 F.1.2
    unfold fenOK at F
    unfold corOK at Fc
    have tf := (Wd.o.f (c := (i : Int)) (by omega)).1
    have w0 := W3.f (c := (i : Int)) (k := 0) (by omega) (by omega) (by omega) (by omega)
    have w2 := W3.f (c := (i : Int)) (k := 2) (by omega) (by omega) (by omega) (by omega)
    have w3 := W3.f (c := (i : Int)) (k := 3) (by omega) (by omega) (by omega) (by omega)
    have c2 := W3.c (c := v (77 + 4 * (i : Int) + 0)) (k := 2) F.1.1 F.1.2 (by omega) (by omega)
    have tc := (Wd.o.c (c := v (77 + 4 * (i : Int) + 0)) (by omega)).1
    refine z3_2 Wd.o.t (by omega) ⟨fun _ => d_fen W3.o (n := (i : Int)) (by omega) (by omega) (fun c1 => ⟨fun z => by (cases z), fun a' ea => ?_⟩) (fun c1 => absurd (by omega) c1), fun z => absurd (by omega) z⟩
    cases ea
    refine ⟨tf, ?_⟩
    rw [w0]
    refine d_cor W3.o (n := v (77 + 4 * (i : Int) + 0)) (by omega) (by omega) (fun c1 => ⟨fun z => by (cases z), fun a' ea => ?_⟩) (fun c1 => absurd (by omega) c1)
    cases ea
    refine ⟨tc, ?_⟩
    rw [w2, w3, c2, eb.1]
    refine d_btw (by omega) (by omega) (d_cfL (i := (i : Int)) Wd I C hy (by omega) rfl rfl (fun h4 G4 => ?_) 3 0 h3 (by omega) (G.cg fun e o g1 g2 g3 g4 => ⟨fun z => z.imp id Or.inl, fun z => z.imp id fun z => z.elim id fun z => ?_⟩))
    · have := ih (i + 1) h4 (by omega) (by rw [show ((i + 1 : Nat) : Int) = (i : Int) + 1 by omega]; exact G4)
      rw [show ((i + 1 : Nat) : Int) = (i : Int) + 1 by omega] at this; exact this
    · have := z.2; omega
theorem nsX (I : Iv v) (he : 0 ≤ e ∧ e < 96) (ht : 0 ≤ v 448 + o) (L : legOK v x) : NSo v x e o ↔ ((e / 6 = x % 16 ∧ e % 3 = x / 32 % 4) ∧ ((e / 3 % 2 = x / 16 % 2 ∧ x / 128 - v 448 - 1 ≤ o ∧ o ≤ x / 128 - v 448 + 1) ∨ (e / 3 % 2 ≠ x / 16 % 2 ∧ x / 128 - v 448 - (endV v x - x / 128) + 1 ≤ o ∧ o ≤ x / 128 - v 448 + (endV v x - x / 128) - 1))) := by
  have ee : endV v x = x / 128 + v (12 + 4 * (x % 16) + 2) := rfl
  have ln : e / 6 = x % 16 → lnV v e = v (12 + 4 * (x % 16) + 2) := fun z => by unfold lnV; rw [z]
  unfold NSo apV
  rw [lgA_c he ht, lgA_l he ht, lgA_s he ht, lgA_w he ht, lgA_e he ht]
  generalize e / 6 = ec at *
  generalize e % 3 = el at *
  generalize e / 3 % 2 = ew at *
  generalize x % 16 = xc at *
  generalize x / 32 % 4 = xl at *
  generalize x / 16 % 2 = xw at *
  generalize x / 128 = xs at *
  constructor
  · rintro ⟨⟨z1, z2⟩, z3⟩
    have l := ln z1
    refine ⟨⟨z1, z2⟩, ?_⟩
    by_cases c : ew = xw
    · rw [if_pos c] at z3
      left
      refine ⟨c, ?_⟩
      split at z3
      · omega
      · exact absurd rfl z3
    · rw [if_neg c] at z3
      right
      refine ⟨c, ?_⟩
      split at z3
      · omega
      · exact absurd rfl z3
  · rintro ⟨⟨z1, z2⟩, z3⟩
    have l := ln z1
    refine ⟨⟨z1, z2⟩, ?_⟩
    rcases z3 with ⟨c, z4, z5⟩ | ⟨c, z4, z5⟩
    · rw [if_pos c, if_pos (by omega)]; decide
    · rw [if_neg c, if_pos (by omega)]; decide
theorem d_around (C : CO T N h a) (G : QF a h0 h P) (I : Iv v) {r : Nat} (tr' : T r = 7) (Lr : LegD v h r x) (Lx : legOK v x) (hr : r ≠ a + 1) (kk : ∀ h2, QF a h0 h2 (fun e o => P e o ∨ NSo v x e o) → KV h2) : CV T N 5 [vr (some a), vr (some r), vi (J (v 448))] h KV := by
  have b := I.b
  have lx := Lx
  unfold legOK at lx
  have eb := endV_b I Lx
  have ee : endV v x = x / 128 + v (12 + 4 * (x % 16) + 2) := rfl
  have Fc := (I.c (n := x % 16) (by omega) (by omega)).2.2.2.1
  obtain ⟨l0, l1, l2, l3, l4⟩ := Lr
  have hc : 0 ≤ x % 16 ∧ x % 16 < 16 := by omega
  have hw : 0 ≤ x / 16 % 2 ∧ x / 16 % 2 < 2 := by omega
  have hl : 0 ≤ x / 32 % 4 ∧ x / 32 % 4 < 3 := by omega
  have hs : 0 ≤ x / 128 ∧ x / 128 ≤ 10100 := by omega
  have nx := fun e o (h1 : 0 ≤ e) (h2 : e < 96) (h3 : 0 ≤ o) (h4 : o < 40) => nsX (o := o) I ⟨h1, h2⟩ (by omega) Lx
  clear lx Lx
  refine z5 tr' C.1 (by omega) ?_
  rw [l0, l1, l2, l3, l4]
  generalize endV v x = xe at *
  generalize x / 128 = xs at *
  generalize x % 16 = xc at *
  generalize x / 32 % 4 = xl at *
  generalize x / 16 % 2 = xw at *
  refine d_lane hc hw hl (d_btw (by omega) (by omega) (d_close C (by omega) ?_))
  have G2 := G.step (x := xs - v 448 - 1) (y := xs - v 448 + 1) (l := (xc * 2 + xw) * 3 + xl) (by omega)
  have C2 := C.to (h2 := sL h (a + 1) ((xc * 2 + xw) * 3 + xl).toNat (gl h (a + 1) ((xc * 2 + xw) * 3 + xl).toNat ||| btw (xs - v 448 - 1) (xs - v 448 + 1))) rfl
  have s0 : ∀ j, ai (sL h (a + 1) ((xc * 2 + xw) * 3 + xl).toNat (gl h (a + 1) ((xc * 2 + xw) * 3 + xl).toNat ||| btw (xs - v 448 - 1) (xs - v 448 + 1))) r j = ai h r j := fun j => rfl
  rw [s0, s0, s0, l0, l1, l2]
  refine ⟨fun c => d_lane hc (by omega) hl (d_btw (by omega) (by omega) (d_close C2 (by omega) (kk _ ((G2.step (by omega)).cg fun e o g1 g2 g3 g4 => ?_)))), fun c => d_lane hc (by omega) hl (d_btw (by omega) (by omega) (d_close C2 (by omega) (kk _ ((G2.step (by omega)).cg fun e o g1 g2 g3 g4 => ?_))))⟩
  · rw [nx e o g1 g2 g3 g4]
    constructor
    · rintro ((z | z) | z)
      · exact Or.inl z
      · exact Or.inr ⟨⟨by omega, by omega⟩, Or.inl ⟨by omega, z.2⟩⟩
      · exact Or.inr ⟨⟨by omega, by omega⟩, Or.inr ⟨by omega, z.2⟩⟩
    · rintro (z | ⟨⟨z1, z2⟩, z | z⟩)
      · exact Or.inl (Or.inl z)
      · exact Or.inl (Or.inr ⟨by omega, z.2⟩)
      · exact Or.inr ⟨by omega, z.2⟩
  · rw [nx e o g1 g2 g3 g4]
    constructor
    · rintro ((z | z) | z)
      · exact Or.inl z
      · exact Or.inr ⟨⟨by omega, by omega⟩, Or.inl ⟨by omega, z.2⟩⟩
      · exact Or.inr ⟨⟨by omega, by omega⟩, Or.inr ⟨by omega, z.2⟩⟩
    · rintro (z | ⟨⟨z1, z2⟩, z | z⟩)
      · exact Or.inl (Or.inl z)
      · exact Or.inl (Or.inr ⟨by omega, z.2⟩)
      · exact Or.inr ⟨by omega, z.2⟩
end CLO
