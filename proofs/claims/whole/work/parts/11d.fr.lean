/-! WHAT STAYS -/
/-- the object b is the same in both heaps -/
def sm (b : Nat) (h h2 : PH) : Prop := (∀ k, gi h2 b k = gi h b k) ∧ (∀ k, gr h2 b k = gr h b k) ∧ (∀ k, gl h2 b k = gl h b k)
/-- all objects but those of P are the same; nothing new -/
def Fp (P : Nat → Prop) (h h2 : PH) : Prop := (∀ b, ¬ P b → sm b h h2) ∧ gd h2 = gd h ∧ nx h2 = nx h ∧ ce h2 = ce h ∧ sl h2 = sl h
section FR
variable {T N : Nat → Nat} {h h2 h3 : PH} {w a b : Nat} {v u : Int → Int} {P Q : Nat → Prop}
theorem sm.rf : sm b h h := ⟨fun _ => rfl, fun _ => rfl, fun _ => rfl⟩
theorem sm.tr (s : sm b h h2) (t : sm b h2 h3) : sm b h h3 := ⟨fun k => (t.1 k).trans (s.1 k), fun k => (t.2.1 k).trans (s.2.1 k), fun k => (t.2.2 k).trans (s.2.2 k)⟩
theorem sm.ai (s : sm b h h2) (k : Int) : ai h2 b k = ai h b k := by show (gi h2 b k.toNat).toInt = _; rw [s.1]; rfl
theorem sm.gr (s : sm b h h2) (k : Nat) : gr h2 b k = gr h b k := s.2.1 k
theorem Fp.rf : Fp P h h := ⟨fun _ _ => sm.rf, rfl, rfl, rfl, rfl⟩
theorem Fp.tr (s : Fp P h h2) (t : Fp P h2 h3) : Fp P h h3 := ⟨fun b g => (s.1 b g).tr (t.1 b g), t.2.1.trans s.2.1, t.2.2.1.trans s.2.2.1, t.2.2.2.1.trans s.2.2.2.1, t.2.2.2.2.trans s.2.2.2.2⟩
theorem Fp.mo (s : Fp P h h2) (i : ∀ b, P b → Q b) : Fp Q h h2 := ⟨fun b g => s.1 b fun z => g (i b z), s.2⟩
theorem Fp.pw {k x : Int} (g : P a) : Fp P h (wi h a k x) := ⟨fun b z => ⟨fun j => by show (if b = a ∧ j = k.toNat then J x else gi h b j) = gi h b j; rw [if_neg fun (e : b = a ∧ j = k.toNat) => z (e.1 ▸ g)], fun _ => rfl, fun _ => rfl⟩, rfl, rfl, rfl, rfl⟩
theorem Fp.pr {k : Nat} {x : Option Nat} (g : P a) : Fp P h (sr h a k x) := ⟨fun b z => ⟨fun _ => rfl, fun j => by show (if b = a ∧ j = k then x else gr h b j) = gr h b j; rw [if_neg fun (e : b = a ∧ j = k) => z (e.1 ▸ g)], fun _ => rfl⟩, rfl, rfl, rfl, rfl⟩
theorem Fp.pl {k : Nat} {x : Int64} (g : P a) : Fp P h (sL h a k x) := ⟨fun b z => ⟨fun _ => rfl, fun _ => rfl, fun j => by show (if b = a ∧ j = k then x else gl h b j) = gl h b j; rw [if_neg fun (e : b = a ∧ j = k) => z (e.1 ▸ g)]⟩, rfl, rfl, rfl, rfl⟩
theorem Fp.pw2 {k x : Int} (s : Fp P h h2) (g : P a) : Fp P h (wi h2 a k x) := s.tr (Fp.pw g)
theorem PermOK.fr (s : sm (a + 2) h h2) (p : PermOK h a) : PermOK h2 a := by
  obtain ⟨p, h1, h3⟩ := p
  exact ⟨p, fun j hj => by rw [s.gr]; exact h1 j hj, h3⟩
theorem DT.fr (s : ∀ b, a ≤ b → b < a + 44 → sm b h h2) (D : DT T N h a) : DT T N h2 a := by
  refine ⟨D.t, ?_, ?_, D.2.2.2.1, D.pe.fr (s _ (by omega) (by omega))⟩
  · rw [(s a (by omega) (by omega)).gr]; exact D.su
  · rw [(s a (by omega) (by omega)).gr]; exact D.le
theorem WO.fr (s : ∀ b, w ≤ b → b < w + 294 → sm b h h2) (W : WO T N h w) : WO T N h2 w := by
  have s0 := s w (by omega) (by omega)
  refine ⟨W.t, ?_, ?_, ?_, fun c hc => ?_, fun c hc => ?_, fun d hd => ?_⟩
  · rw [s0.gr]; exact W.co
  · rw [s0.gr]; exact W.fe
  · rw [s0.gr]; exact W.dr
  · rw [(s (w + 1) (by omega) (by omega)).gr]; exact W.2.2.2.2.1 c hc
  · rw [(s (w + 2) (by omega) (by omega)).gr]; exact W.2.2.2.2.2.1 c hc
  · rw [(s (w + 3) (by omega) (by omega)).gr]
    have g := W.2.2.2.2.2.2 d hd
    exact ⟨g.1, g.2.fr fun b h1 h2 => s b (by omega) (by omega)⟩
theorem LegD.fr {x : Int} (s : sm b h h2) (L : LegD v h b x) : LegD v h2 b x := by
  unfold LegD at L ⊢
  rw [s.ai, s.ai, s.ai, s.ai, s.ai]; exact L
theorem DrD.fr {e : Int → Int} (s : ∀ b, a ≤ b → b < a + 44 → sm b h h2) (D : DT T N h a) (h5 : e 5 ≤ 41) (g : DrD v h a e) : DrD v h2 a e := by
  have s0 := s a (by omega) (by omega)
  have s1 := s (a + 1) (by omega) (by omega)
  have s2 := s (a + 2) (by omega) (by omega)
  refine ⟨?_, fun k h1 h2 => ?_, fun i h1 h2 b hb => ?_⟩
  · rw [s0.ai, s0.ai, s0.ai, s0.ai, s0.ai, s0.ai, s0.ai, s0.ai]; exact g.1
  · rw [s1.ai]; exact g.2.1 k h1 h2
  · rw [s2.gr] at hb
    obtain ⟨b', e1, e2, e3, e4⟩ := D.at (i := i) (by omega)
    rw [e1] at hb
    have e := Option.some.inj hb
    rw [← e]
    exact (g.2.2 i h1 h2 b' e1).fr (s b' (by omega) (by omega))
theorem Wo.fr (s : ∀ b, w ≤ b → b < w + 294 → sm b h h2) (I : Iv v) (W : Wo T N h w v) : Wo T N h2 w v := by
  have s0 := s w (by omega) (by omega)
  have b := I.b
  refine ⟨W.o.fr s, ?_, ?_, fun c h1 h2 k h3 h4 => ?_, fun c h1 h2 k h3 h4 => ?_, fun d h1 h2 => ?_⟩
  · rw [s0.ai, s0.ai, s0.ai, s0.ai, s0.ai]; exact W.b
  · rw [s0.ai]; exact W.p
  · rw [(s (cA w c) (by unfold cA; omega) (by unfold cA; omega)).ai]; exact W.c h1 h2 h3 h4
  · rw [(s (fA w c) (by unfold fA; omega) (by unfold fA; omega)).ai]; exact W.f h1 h2 h3 h4
  · exact (W.d h1 h2).fr (fun b e1 e2 => s b (by unfold dA at e1; omega) (by unfold dA at e2; omega)) (W.o.d (by omega)).2 (I.d h1 h2).2.2.2.2.2.1.2
end FR
