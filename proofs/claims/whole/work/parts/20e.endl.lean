/-! SEARCH: the class lets the legs that end wait -/
def EI (h0 h : PH) (g : Nat) (v : Int → Int) (d q o : Int) (s : Nat) (e : Nat) (x : Int) : Prop := (Fp (fun b => b = g + 7 ∨ b = g + 8) h0 h ∧ gr h = gr h0) ∧ KW h g o (arN v (TK v d q) s e (wsF v d q s)) ∧ MKE x (AR v d q s e)
section ENL
variable {T N : Nat → Nat} {a b w g : Nat} {h h0 h1 h2 h3 : PH} {v u : Int → Int} {d q e i k l m n t x y o p j x1 x2 x3 x4 : Int} {W : (Int → Int) × (Int → Int)} {K : Int → PH → Prop} {KV : PH → Prop} {P : Int → Prop} {c r s : Nat}
theorem AR_s {e : Nat} (n : Int) : AR v d q t (e + 1) n ↔ AR v d q t e n ∨ (lnV v e ≤ t ∧ 0 ≤ TK v d q (96 * (t - lnV v e) + e) ∧ tnV v e = n) := by
  constructor
  · rintro ⟨e2, z1, z2⟩
    by_cases c : e2 = e
    · rw [c] at z2; exact Or.inr z2
    · exact Or.inl ⟨e2, by omega, z2⟩
  · rintro (⟨e2, z1, z2⟩ | z)
    · exact ⟨e2, by omega, z2⟩
    · exact ⟨e, by omega, z⟩
theorem KT.fr {Pn : Nat → Prop} (G : KT h g v d q o t) (F : Fp Pn h h2) (n5 : ¬ Pn (g + 5)) (n6 : ¬ Pn (g + 6)) : KT h2 g v d q o t := fun k a1 a2 a3 a4 => by
  rw [(F.1 _ n5).ai, (F.1 _ n6).ai]; exact G k a1 a2 a3 a4
theorem d_eL (S : SE T N h0 g) (Wd : Wo T N h0 w v) (hy : w + 294 ≤ g) (I : Iv v) (hd : 0 ≤ d ∧ d < v 117) (G0 : KT h0 g v d q o s) (e13 : ai h0 g 13 = o) (ho : o = orgV v d - v 448) (hs : (s : Int) ≤ limV v d) (hc : (c : Int) < v 11) (hr : r < 2) (kk : ∀ h4 x4, EI h0 h4 g v d q o s (6 * c + 3 * r + 3) x4 → ZW T N 66 33 [some (vr (some g)), some (vr (some w)), some (vi (J ((s : Int) + o))), some (vi (J (x4))), some (vi (J (c : Int))), some (vr (some (cA w c))), some (vi (J ((r : Int) + 1))), none, none, none] [] h4 K) :
    ∀ (m l : Nat) (h3 : PH) (x3 : Int), l + m = 3 → EI h0 h3 g v d q o s (6 * c + 3 * r + l) x3 → ZW T N 66 53 [some (vr (some g)), some (vr (some w)), some (vi (J ((s : Int) + o))), some (vi (J (x3))), some (vi (J (c : Int))), some (vr (some (cA w c))), some (vi (J (r : Int))), some (vi (J (v (12 + 4 * (c : Int) + (1 - (r : Int))) * 3))), some (vi (J ((l : Int)))), none] [] h3 K := by
  have b := I.b
  have ob := org_b I hd
  have lm := lim_b I hd
  have eo : limV v d = v 448 + 40 - orgV v d := rfl
  have Fc := I.c (n := (c : Int)) (by omega) (by omega)
  unfold corOK at Fc
  have tb : 0 ≤ v (12 + 4 * (c : Int) + (1 - (r : Int))) ∧ v (12 + 4 * (c : Int) + (1 - (r : Int))) < 10 := by
    rcases (show r = 0 ∨ r = 1 by omega) with z | z <;> subst z
    · have := Fc.2.1; rw [show 12 + 4 * (c : Int) + (1 - ((0 : Nat) : Int)) = 12 + 4 * (c : Int) + 1 by omega]; omega
    · have := Fc.1; rw [show 12 + 4 * (c : Int) + (1 - ((1 : Nat) : Int)) = 12 + 4 * (c : Int) + 0 by omega]; omega
  have tc := (Wd.o.c (c := (c : Int)) (by omega)).1
  intro m
  induction m with
  | zero =>
    intro l h3 x3 hl G
    refine z66_53 tc S.1 (by omega) G.2.2.1 (by omega) (by omega) (by omega) (by omega) ⟨fun z => by omega, fun _ => kk h3 x3 ?_⟩
    rw [show 6 * c + 3 * r + 3 = 6 * c + 3 * r + l by omega]; exact G
  | succ m ih =>
    intro l h3 x3 hl G
    have F3 := G.1.1
    have S3 := S.to G.1.2
    have W3 : Wo T N h3 w v := Wd.fr (fun b q1 q2 => F3.1 b (by omega)) I
    have c2 := W3.c (c := (c : Int)) (k := 2) (by omega) (by omega) (by omega) (by omega)
    have e13' : ai h3 g 13 = o := by rw [(F3.1 g (by omega)).ai]; exact e13
    have G3 := G0.fr F3 (by omega) (by omega)
    obtain ⟨e, ee⟩ : ∃ e : Nat, e = 6 * c + 3 * r + l := ⟨_, rfl⟩
    have e6 : (e : Int) / 6 = c := by omega
    have e3 : (e : Int) / 3 % 2 = r := by omega
    have el : (e : Int) % 3 = l := by omega
    have lne : lnV v e = v (12 + 4 * (c : Int) + 2) := by unfold lnV; rw [e6]
    have tne : tnV v e = v (12 + 4 * (c : Int) + (1 - (r : Int))) := by unfold tnV; rw [e6, e3]
    have step : arN v (TK v d q) s (6 * c + 3 * r + (l + 1)) (wsF v d q s) = ar1 v (TK v d q) s (e : Int) (arN v (TK v d q) s e (wsF v d q s)) := by rw [ee]; rfl
    rw [← ee] at G
    have nx : ∀ h4 x4, (Fp (fun b => b = g + 7 ∨ b = g + 8) h0 h4 ∧ gr h4 = gr h0) → KW h4 g o (ar1 v (TK v d q) s (e : Int) (arN v (TK v d q) s e (wsF v d q s))) → MKE x4 (AR v d q s (e + 1)) → ZW T N 66 53 [some (vr (some g)), some (vr (some w)), some (vi (J ((s : Int) + o))), some (vi (J (x4))), some (vi (J (c : Int))), some (vr (some (cA w c))), some (vi (J (r : Int))), some (vi (J (v (12 + 4 * (c : Int) + (1 - (r : Int))) * 3))), some (vi (J ((l : Int) + 1))), none] [] h4 K := fun h4 x4 F4 K4 M4 => by
      have := ih (l + 1) h4 x4 (by omega) ⟨F4, by rw [step]; exact K4, by rw [show 6 * c + 3 * r + (l + 1) = e + 1 by omega]; exact M4⟩
      rw [show ((l + 1 : Nat) : Int) = (l : Int) + 1 by omega] at this; exact this
    refine z66_53 tc S.1 (by omega) G.2.2.1 (by omega) (by omega) (by omega) (by omega) ⟨fun _ => d_lane (by omega) (by omega) (by omega) ?_, fun z => absurd (by omega) z⟩
    rw [c2, ← lne, show ((c : Int) * 2 + r) * 3 + l = e by omega]
    refine d_legEnd S3 I hd G3 e13' ho ⟨by omega, hs⟩ (by omega) (fun z1 z2 => ⟨fun y => ?_, fun _ => ?_⟩) (fun z => ⟨fun _ => nx h3 x3 G.1 ?_ (G.2.2.cg fun n _ => ?_), (fun z => absurd rfl z)⟩)
    · omega
    · have lb := ln_b I (e := (e : Int)) (by omega)
      have P := TK_pos I hd (k := 96 * (s - lnV v e) + e) (by omega) z2
      have kb : 0 ≤ 96 * ((s : Int) - lnV v e) + e ∧ 96 * ((s : Int) - lnV v e) + e + 96 * o < 3840 := by omega
      have pb := P.2.2.2.1
      have km : (96 * ((s : Int) - lnV v e) + e) % 96 = e := by omega
      have kd : (96 * ((s : Int) - lnV v e) + e) / 96 = s - lnV v e := by omega
      have Gk := (G3 (96 * (s - lnV v e) + e) kb.1 (by omega) (by omega) (by unfold enK; rw [km, kd]; omega)).1
      clear P kd km
      refine d_energy S3 (by omega) ?_
      rw [Gk, show v (12 + 4 * (c : Int) + (1 - (r : Int))) * 3 + l = (((3 * tnV v e + (e : Int) % 3).toNat : Nat) : Int) by rw [tne]; omega]
      have GI := WI_arN (d := d) (q := q) (s := (s : Int)) I (WIv_mo' I s) (by omega) e (by omega)
      refine d_letWait S3 I hd G.2.1 GI (by omega) kb.1 z2 (by omega) (by rw [tne]; omega) fun h4 F4 g4 n4 K4 => ?_
      have F4' : Fp (fun b => b = g + 7 ∨ b = g + 8) h0 h4 := F3.tr ⟨fun b hb => n4 b (fun z => hb (Or.inl z)) (fun z => hb (Or.inr z)), F4.2⟩
      have W4 : Wo T N h4 w v := Wd.fr (fun b q1 q2 => F4'.1 b (by omega)) I
      have w0 := W4.c (c := (c : Int)) (k := 0) (by omega) (by omega) (by omega) (by omega)
      have w1 := W4.c (c := (c : Int)) (k := 1) (by omega) (by omega) (by omega) (by omega)
      refine d_endOf tc (by omega) ?_
      have er : (if (r : Int) = 0 then ai h4 (cA w c) 1 else ai h4 (cA w c) 0) = tnV v e := by
        rw [tne]
        rcases (show r = 0 ∨ r = 1 by omega) with z | z <;> subst z
        · rw [if_pos (by decide), w1]; congr 1
        · rw [if_neg (by decide), w0]; congr 1
      rw [er]
      refine nx h4 _ ⟨F4', g4.trans G.1.2⟩ ?_ ((G.2.2.set (y := tnV v e) (by rw [tne]; omega)).cg fun n _ => ?_)
      · unfold ar1
        rw [if_pos ⟨z1, z2⟩]
        rw [show (((3 * tnV v e + (e : Int) % 3).toNat : Nat) : Int) = 3 * tnV v e + (e : Int) % 3 by rw [tne]; omega] at K4
        exact K4
      · rw [AR_s]
        exact ⟨fun y => y.imp id fun y => ⟨z1, z2, y.symm⟩, fun y => y.imp id fun y => y.2.2.symm⟩
    · rw [ar1_sk z]; exact G.2.1
    · rw [AR_s]
      exact ⟨Or.inl, fun y => y.elim id fun y => absurd ⟨y.1, y.2.1⟩ z⟩
theorem d_eR (S : SE T N h0 g) (Wd : Wo T N h0 w v) (hy : w + 294 ≤ g) (I : Iv v) (hd : 0 ≤ d ∧ d < v 117) (G0 : KT h0 g v d q o s) (e13 : ai h0 g 13 = o) (ho : o = orgV v d - v 448) (hs : (s : Int) ≤ limV v d) (hc : (c : Int) < v 11) (kk : ∀ h4 x4, EI h0 h4 g v d q o s (6 * c + 6) x4 → ZW T N 66 5 [some (vr (some g)), some (vr (some w)), some (vi (J ((s : Int) + o))), some (vi (J (x4))), some (vi (J ((c : Int) + 1))), none, none, none, none, none] [] h4 K) :
    ∀ (m r : Nat) (h3 : PH) (x3 : Int), r + m = 2 → EI h0 h3 g v d q o s (6 * c + 3 * r) x3 → ZW T N 66 33 [some (vr (some g)), some (vr (some w)), some (vi (J ((s : Int) + o))), some (vi (J (x3))), some (vi (J (c : Int))), some (vr (some (cA w c))), some (vi (J ((r : Int)))), none, none, none] [] h3 K := by
  have b := I.b
  have ob := org_b I hd
  have lm := lim_b I hd
  have eo : limV v d = v 448 + 40 - orgV v d := rfl
  have tc := (Wd.o.c (c := (c : Int)) (by omega)).1
  intro m
  induction m with
  | zero =>
    intro r h3 x3 hr G
    refine z66_33 tc (by omega) G.2.2.1 (by omega) (by omega) ⟨fun z => by omega, fun _ => kk h3 x3 ?_⟩
    rw [show 6 * c + 6 = 6 * c + 3 * r by omega]; exact G
  | succ m ih =>
    intro r h3 x3 hr G
    have F3 := G.1.1
    have W3 : Wo T N h3 w v := Wd.fr (fun b q1 q2 => F3.1 b (by omega)) I
    have w0 := W3.c (c := (c : Int)) (k := 0) (by omega) (by omega) (by omega) (by omega)
    have w1 := W3.c (c := (c : Int)) (k := 1) (by omega) (by omega) (by omega) (by omega)
    refine z66_33 tc (by omega) G.2.2.1 (by omega) (by omega) ⟨fun _ => d_endOf tc (by omega) ?_, fun z => absurd (by omega) z⟩
    have er : (if (r : Int) = 0 then ai h3 (cA w c) 1 else ai h3 (cA w c) 0) = v (12 + 4 * (c : Int) + (1 - (r : Int))) := by
      rcases (show r = 0 ∨ r = 1 by omega) with z | z <;> subst z
      · rw [if_pos (by decide), w1]; congr 1
      · rw [if_neg (by decide), w0]; congr 1
    rw [er]
    refine d_eL S Wd hy I hd G0 e13 ho hs hc (by omega) (fun h4 x4 G4 => ?_) 3 0 h3 x3 (by omega) G
    have := ih (r + 1) h4 x4 (by omega) (by rw [show 6 * c + 3 * (r + 1) = 6 * c + 3 * r + 3 by omega]; exact G4)
    rw [show ((r + 1 : Nat) : Int) = (r : Int) + 1 by omega] at this; exact this
theorem d_eC (S : SE T N h0 g) (Wd : Wo T N h0 w v) (hy : w + 294 ≤ g) (I : Iv v) (hd : 0 ≤ d ∧ d < v 117) (G0 : KT h0 g v d q o s) (e13 : ai h0 g 13 = o) (ho : o = orgV v d - v 448) (hs : (s : Int) ≤ limV v d) (kk : ∀ h4 x4, EI h0 h4 g v d q o s (6 * (v 11).toNat) x4 → K x4 h4) :
    ∀ (m c : Nat) (h3 : PH) (x3 : Int), (c : Int) + m = v 11 → EI h0 h3 g v d q o s (6 * c) x3 → ZW T N 66 5 [some (vr (some g)), some (vr (some w)), some (vi (J ((s : Int) + o))), some (vi (J (x3))), some (vi (J ((c : Int)))), none, none, none, none, none] [] h3 K := by
  have b := I.b
  have ob := org_b I hd
  have lm := lim_b I hd
  have eo : limV v d = v 448 + 40 - orgV v d := rfl
  intro m
  induction m with
  | zero =>
    intro c h3 x3 hc G
    have F3 := G.1.1
    have W3 : Wo T N h3 w v := Wd.fr (fun b q1 q2 => F3.1 b (by omega)) I
    have eb := W3.b
    refine z66_5 Wd.o.t (by omega) G.2.2.1 (by omega) ⟨fun z => by omega, fun _ => kk h3 x3 ?_⟩
    rw [show (v 11).toNat = c by omega]; exact G
  | succ m ih =>
    intro c h3 x3 hc G
    have F3 := G.1.1
    have W3 : Wo T N h3 w v := Wd.fr (fun b q1 q2 => F3.1 b (by omega)) I
    have eb := W3.b
    refine z66_5 Wd.o.t (by omega) G.2.2.1 (by omega) ⟨fun _ => d_cor W3.o (n := (c : Int)) (by omega) (by omega) (fun c1 => ⟨fun z => by (cases z), fun a' ea => ?_⟩) (fun c1 => absurd (by omega) c1), fun z => absurd (by omega) z⟩
    cases ea
    refine d_eR S Wd hy I hd G0 e13 ho hs (by omega) (fun h4 x4 G4 => ?_) 2 0 h3 x3 (by omega) G
    have := ih (c + 1) h4 x4 (by omega) G4
    rw [show ((c + 1 : Nat) : Int) = (c : Int) + 1 by omega] at this; exact this
theorem d_endLegs (S : SE T N h g) (Wd : Wo T N h w v) (hy : w + 294 ≤ g) (I : Iv v) (hd : 0 ≤ d ∧ d < v 117) (G0 : KT h g v d q o s) (GW : KW h g o (wsF v d q s)) (e13 : ai h g 13 = o) (ho : o = orgV v d - v 448) (hs : (s : Int) ≤ limV v d) (kk : ∀ h4 x4, (Fp (fun b => b = g + 7 ∨ b = g + 8) h h4 ∧ gr h4 = gr h) → KW h4 g o (wsF v d q (s + 1)) → MKE x4 (AR v d q s (6 * (v 11).toNat)) → K x4 h4) : ZI T N 66 [vr (some g), vr (some w), vi (J ((s : Int) + o))] h K := by
  have b := I.b
  have ob := org_b I hd
  have lm := lim_b I hd
  have eo : limV v d = v 448 + 40 - orgV v d := rfl
  exact z66 (by omega) (d_eC S Wd hy I hd G0 e13 ho hs (fun h4 x4 G4 => kk h4 x4 G4.1 G4.2.1 G4.2.2) (v 11).toNat 0 h 0 (by omega) ⟨⟨Fp.rf, rfl⟩, GW, MKE0 fun j _ z => by obtain ⟨e, z1, _⟩ := z; omega⟩)
end ENL
