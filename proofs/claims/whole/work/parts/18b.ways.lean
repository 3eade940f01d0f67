/-! WAYS: both sides' rounds -/
def eA (v : Int → Int) (e : Nat) : Int := v (12 + 4 * ((e / 2 : Nat) : Int) + ((e % 2 : Nat) : Int))
def eB (v : Int → Int) (e : Nat) : Int := v (12 + 4 * ((e / 2 : Nat) : Int) + (1 - ((e % 2 : Nat) : Int)))
def eC (v : Int → Int) (p : Int) (e : Nat) : Int := if p = 0 then costV v ((e / 2 : Nat) : Int) ((e % 2 : Nat) : Int) else v (12 + 4 * ((e / 2 : Nat) : Int) + 2)
/-- an array that says a function -/
def Ar (h : PH) (a : Nat) (n : Int) (g : Int → Int) : Prop := ∀ j, 0 ≤ j → j < n → ai h a j = g j
def WY (T N : Nat → Nat) (h : PH) (y : Nat) : Prop := T y = 9 ∧ gr h y 0 = some (y + 1) ∧ T (y + 1) = 22 ∧ N (y + 1) = 10
def itW (v : Int → Int) (p : Int) (f : Int → Int) (k : Nat) : Int → Int := itE (eA v) (eB v) (eC v p) (2 * (v 11).toNat) f k
/-- the round before changed nothing -/
def Rst (v : Int → Int) (p : Int) (f : Int → Int) (r : Nat) : Prop := ∃ s, r = s + 1 ∧ itW v p f (s + 1) = itW v p f s
section WAY
variable {T N : Nat → Nat} {bs A w y : Nat} {h h1 h2 h3 h7 h10 : PH} {v u sv tx f g f0 : Int → Int} {hs hs2 : Int → Int → Int} {d t a b l m c x p x3 : Int} {i : Nat} {K : Int → PH → Prop} {KV : PH → Prop} {KP : PR → PH → Prop}
theorem Ar.wr {a : Nat} {n k x : Int} (W : Ar h a n g) (hk : 0 ≤ k) (hx : In x) : Ar (wi h a k x) a n (up g k x) := fun j a1 a2 => by
  by_cases c : j = k
  · rw [rd_eq rfl c hx, up_eq c]
  · rw [rd_k c a1 hk, up_ne c]; exact W j a1 a2
theorem Ar.self {a : Nat} {n k : Int} (W : Ar h a n g) (hk : 0 ≤ k) : Ar (wi h a k (ai h a k)) a n g := fun j a1 a2 => by
  by_cases c : j = k
  · rw [rd_eq rfl c (ai_in _ _ _), ← c]; exact W j a1 a2
  · rw [rd_k c a1 hk]; exact W j a1 a2
theorem Ar.cg {a : Nat} {n : Int} (W : Ar h a n g) (e : ∀ j, 0 ≤ j → j < n → g j = f j) : Ar h a n f := fun j a1 a2 => by rw [W j a1 a2]; exact e j a1 a2
theorem WY.to (Y : WY T N h y) (e : gr h2 = gr h) : WY T N h2 y := by unfold WY at Y ⊢; rw [e]; exact Y
theorem eA_at (hd : d = 0 ∨ d = 1) (hc : 0 ≤ c) : eA v (2 * c.toNat + d.toNat) = v (12 + 4 * c + d) := by
  unfold eA; congr 1; omega
theorem eB_at (hd : d = 0 ∨ d = 1) (hc : 0 ≤ c) : eB v (2 * c.toNat + d.toNat) = v (12 + 4 * c + (1 - d)) := by
  unfold eB; congr 1; omega
theorem eC_at (hd : d = 0 ∨ d = 1) (hc : 0 ≤ c) : eC v p (2 * c.toNat + d.toNat) = if p = 0 then costV v c d else v (12 + 4 * c + 2) := by
  unfold eC
  rw [show (((2 * c.toNat + d.toNat) / 2 : Nat) : Int) = c by omega, show (((2 * c.toNat + d.toNat) % 2 : Nat) : Int) = d by omega]
theorem cor_e (I : Iv v) (hc : 0 ≤ c ∧ c < v 11) (hd : d = 0 ∨ d = 1) : (0 ≤ v (12 + 4 * c + d) ∧ v (12 + 4 * c + d) < v 0) ∧ (0 ≤ v (12 + 4 * c + (1 - d)) ∧ v (12 + 4 * c + (1 - d)) < v 0) ∧ (1 ≤ v (12 + 4 * c + 2) ∧ v (12 + 4 * c + 2) ≤ 9) ∧ (1 ≤ costV v c d ∧ costV v c d ≤ 27) := by
  have cO := I.c hc.1 hc.2
  have cb := costV_b (x := d) cO
  unfold corOK at cO
  rcases hd with z | z <;> subst z
  · rw [show (1 : Int) - 0 = 1 from rfl]; omega
  · rw [show (1 : Int) - 1 = 0 from rfl]; omega
theorem eOK (I : Iv v) (e : Nat) (he : e < 2 * (v 11).toNat) : (0 ≤ eA v e ∧ eA v e < (v 0).toNat) ∧ (0 ≤ eB v e ∧ eB v e < (v 0).toNat) ∧ 1 ≤ eC v p e := by
  have b := I.b
  have g := cor_e I (c := ((e / 2 : Nat) : Int)) (d := ((e % 2 : Nat) : Int)) (by omega) (by omega)
  unfold eA eB eC
  refine ⟨by omega, by omega, ?_⟩
  split <;> omega
theorem itW_lo (I : Iv v) (hf : ∀ x, 0 ≤ f x) (k : Nat) (x : Int) : 0 ≤ itW v p f k x := itE_lo (fun e he => by have := (eOK (p := p) I e he).2.2; omega) hf k x
theorem itW_hi {B : Int} (hf : ∀ x, f x ≤ B) (k : Nat) (x : Int) : itW v p f k x ≤ B := Int.le_trans (itE_mo (i := 0) x k (by omega)) (hf x)
theorem itW_n (I : Iv v) (hf : ∀ x, 0 ≤ f x) {k : Nat} (hk : (v 0).toNat ≤ k) : itW v p f k = itW v p f (v 0).toNat := rest_n (fun e he => (eOK (p := p) I e he).1) (fun e he => (eOK (p := p) I e he).2.1) (fun e he => (eOK (p := p) I e he).2.2) hf hk
/-! the class -/
theorem d_least (Y : WY T N h y) (W : Ar h (y + 1) 10 f) (hx : 0 ≤ x ∧ x < 10) (k : K (f x) h) : ZI T N 78 [vr (some y), vi (J x)] h K := by
  obtain ⟨y1, y2, y3, y4⟩ := Y
  refine z78 y1 (by omega) ⟨fun z => absurd z (by omega), fun _ => ⟨y + 1, y2, by omega, by omega, fun _ => ⟨y + 1, y2, y3, by omega, ?_⟩, fun z => absurd z (by omega)⟩⟩
  rw [W x hx.1 hx.2]; exact k
theorem d_short (Y : WY T N h y) (W : Ar h (y + 1) 10 f) (hx : 0 ≤ x ∧ x < 10) (hc : In c) (k1 : c < f x → K 1 (wi h (y + 1) x c)) (k0 : ¬ c < f x → K 0 h) : ZI T N 81 [vr (some y), vi (J x), vi (J c)] h K := by
  obtain ⟨y1, y2, y3, y4⟩ := Y
  refine z81 y1 (by omega) hc ⟨fun z => absurd z (by omega), fun _ => ⟨y + 1, y2, by omega, by omega, fun _ => ⟨y + 1, y2, y3, by omega, ?_⟩, fun z => absurd z (by omega)⟩⟩
  rw [W x hx.1 hx.2]
  exact ⟨fun z => ⟨y + 1, y2, y3, by omega, fun h2 e => by subst e; exact k1 z⟩, fun z => k0 z⟩
theorem d_edge (Wd : Wo T N h w v) (I : Iv v) (Y : WY T N h y) (W : Ar h (y + 1) 10 f) (hf : ∀ x, 0 ≤ f x ∧ f x ≤ 1000000) (hp : In p) (h3' : x3 = 0 ∨ x3 = 1) (hc : 0 ≤ c ∧ c < v 11) (hd : d = 0 ∨ d = 1)
    (k : ∀ h4 z, Fp (fun b => b = y + 1) h h4 → gr h4 = gr h → Ar h4 (y + 1) 10 (rx (v (12 + 4 * c + d)) (v (12 + 4 * c + (1 - d))) (if p = 0 then costV v c d else v (12 + 4 * c + 2)) f) → (z = 0 ∨ z = 1) → (z = 0 → x3 = 0 ∧ rx (v (12 + 4 * c + d)) (v (12 + 4 * c + (1 - d))) (if p = 0 then costV v c d else v (12 + 4 * c + 2)) f = f) → ZW T N 80 25 [some (vr (some y)), some (vr (some w)), some (vi (J p)), some (vi (J z)), some (vi (J c)), some (vr (some (cA w c))), some (vi (J (d + 1))), none] [] h4 K) :
    ZW T N 80 25 [some (vr (some y)), some (vr (some w)), some (vi (J p)), some (vi (J x3)), some (vi (J c)), some (vr (some (cA w c))), some (vi (J d)), none] [] h K := by
  have b := I.b
  obtain ⟨g1, g2, g3, g4⟩ := cor_e I hc hd
  have tc := (Wd.o.c (c := c) (by omega)).1
  have w0 := Wd.c (c := c) (k := 0) hc.1 hc.2 (by omega) (by omega)
  have w1 := Wd.c (c := c) (k := 1) hc.1 hc.2 (by omega) (by omega)
  have w2 := Wd.c (c := c) (k := 2) hc.1 hc.2 (by omega) (by omega)
  have w3 := Wd.c (c := c) (k := 3) hc.1 hc.2 (by omega) (by omega)
  have cO := I.c hc.1 hc.2
  unfold corOK at cO
  have hb := hf (v (12 + 4 * c + (1 - d)))
  have eb : (if d = 0 then ai h (cA w c) 0 else ai h (cA w c) 1) = v (12 + 4 * c + d) := by
    rcases hd with z | z <;> subst z
    · rw [if_pos rfl, w0]
    · rw [if_neg (by decide), w1]
  have ee : (if d = 0 then ai h (cA w c) 1 else ai h (cA w c) 0) = v (12 + 4 * c + (1 - d)) := by
    rcases hd with z | z <;> subst z
    · rw [if_pos rfl, w1]; rfl
    · rw [if_neg (by decide), w0]; rfl
  have fin : ∀ cost, 0 ≤ cost → cost ≤ 100 → (∀ h4 z, Fp (fun b => b = y + 1) h h4 → gr h4 = gr h → Ar h4 (y + 1) 10 (rx (v (12 + 4 * c + d)) (v (12 + 4 * c + (1 - d))) cost f) → (z = 0 ∨ z = 1) → (z = 0 → x3 = 0 ∧ rx (v (12 + 4 * c + d)) (v (12 + 4 * c + (1 - d))) cost f = f) → ZW T N 80 25 [some (vr (some y)), some (vr (some w)), some (vi (J p)), some (vi (J z)), some (vi (J c)), some (vr (some (cA w c))), some (vi (J (d + 1))), none] [] h4 K) → ZI T N 81 [vr (some y), vi (J (v (12 + 4 * c + d))), vi (J (f (v (12 + 4 * c + (1 - d))) + cost))] h (fun x_22 h_21 => ((x_22 = 0 → ZW T N 80 25 [some (vr (some y)), some (vr (some w)), some (vi (J p)), some (vi (J x3)), some (vi (J c)), some (vr (some (cA w c))), some (vi (J (d + 1))), none] [] h_21 K) ∧ (¬ (x_22 = 0) → ZW T N 80 25 [some (vr (some y)), some (vr (some w)), some (vi (J p)), some (vi (J 1)), some (vi (J c)), some (vr (some (cA w c))), some (vi (J (d + 1))), none] [] h_21 K))) := by
    intro cost c0 c1 kk
    refine d_short Y W (by omega) (by omega) (fun z => ⟨fun z => absurd z (by decide), fun _ => ?_⟩) (fun z => ⟨fun _ => ?_, fun z => absurd rfl z⟩)
    · refine kk _ 1 (Fp.pw rfl) rfl ?_ (Or.inr rfl) (fun z => absurd z (by decide))
      unfold rx; rw [if_pos z]
      exact W.wr g1.1 (by omega)
    · have e : rx (v (12 + 4 * c + d)) (v (12 + 4 * c + (1 - d))) cost f = f := by unfold rx; rw [if_neg z]
      exact kk h x3 Fp.rf rfl (by rw [e]; exact W) h3' (fun z => ⟨z, e⟩)
  refine z80_25 tc Y.1 hp (by omega) (by omega) (by omega) ⟨fun _ => ⟨fun c2 => ?_, fun c2 => ?_⟩, fun z => absurd z (by omega)⟩
  · refine d_energyOf tc (by omega) (by omega) (d_beginOf tc (by omega) (d_endOf tc (by omega) ?_))
    rw [eb, ee]
    have ec : (if d = 0 then 2 * ai h (cA w c) 2 - ai h (cA w c) 3 else 2 * ai h (cA w c) 2 + ai h (cA w c) 3) = costV v c d := by
      unfold costV; rw [w2, w3]
      by_cases z : d = 0
      · rw [if_pos z, if_pos z]
      · rw [if_neg z, if_neg z]; omega
    rw [ec]
    rw [if_pos c2] at k
    exact d_least Y W (by omega) (fin _ (by omega) (by omega) k)
  · refine d_beginOf tc (by omega) (d_endOf tc (by omega) ?_)
    rw [eb, ee, w2]
    rw [if_neg c2] at k
    exact d_least Y W (by omega) (fin _ (by omega) (by omega) k)
theorem d_round (Wd : Wo T N h w v) (I : Iv v) (Y : WY T N h y) (hy : y + 1 < w ∨ w + 294 ≤ y) (W : Ar h (y + 1) 10 f) (hf : ∀ x, 0 ≤ f x ∧ f x ≤ 1000000) (hp : In p)
    (k : ∀ h4 z, Fp (fun b => b = y + 1) h h4 → gr h4 = gr h → Ar h4 (y + 1) 10 (rdE (eA v) (eB v) (eC v p) f (2 * (v 11).toNat)) → (z = 0 ∨ z = 1) → (z = 0 → rdE (eA v) (eB v) (eC v p) f (2 * (v 11).toNat) = f) → K z h4) :
    ∀ (q : Nat) (j : Nat) (h3 : PH) (x3 : Int), (j : Int) + q = v 11 → Fp (fun b => b = y + 1) h h3 → gr h3 = gr h → Ar h3 (y + 1) 10 (rdE (eA v) (eB v) (eC v p) f (2 * j)) → (x3 = 0 ∨ x3 = 1) → (x3 = 0 → rdE (eA v) (eB v) (eC v p) f (2 * j) = f) →
      ZW T N 80 5 [some (vr (some y)), some (vr (some w)), some (vi (J p)), some (vi (J x3)), some (vi (J (j : Int))), none, none, none] [] h3 K := by
  have b := I.b
  intro q
  induction q with
  | zero =>
    intro j h3 x3 hj F gg W3 b3 e3
    have s0 := F.1 w (by omega)
    refine z80_5 Wd.o.t hp (by omega) (by omega) ⟨fun z => absurd z (by rw [s0.ai, Wd.b.2.2.1]; omega), fun _ => ⟨b3, ?_⟩⟩
    have e : j = (v 11).toNat := by omega
    rw [e] at W3 e3
    exact k h3 x3 F gg W3 b3 e3
  | succ q ih =>
    intro j h3 x3 hj F gg W3 b3 e3
    have Wd3 : Wo T N h3 w v := Wd.fr (fun x q1 q2 => F.1 x (by omega)) I
    have Y3 := Y.to gg
    have hf3 : ∀ x, 0 ≤ rdE (eA v) (eB v) (eC v p) f (2 * j) x ∧ rdE (eA v) (eB v) (eC v p) f (2 * j) x ≤ 1000000 := fun x => ⟨rdE_lo (M := 2 * (v 11).toNat) (fun e he => by have := (eOK (p := p) I e he).2.2; omega) (fun x => (hf x).1) (2 * j) (by omega) x, Int.le_trans (rdE_le x _) (hf x).2⟩
    refine z80_5 Wd.o.t hp (by omega) (by omega) ⟨fun _ => d_cor Wd3.o (n := (j : Int)) (by omega) (by rw [Wd3.b.2.2.1]; omega) (fun c1 => ⟨cA w j, rfl, ?_⟩) (fun c1 => absurd (by rw [Wd3.b.2.2.1]; omega) c1), fun z => absurd (by rw [Wd3.b.2.2.1]; omega) z⟩
    have a0 := eA_at (v := v) (c := (j : Int)) (d := 0) (Or.inl rfl) (by omega)
    have b0 := eB_at (v := v) (c := (j : Int)) (d := 0) (Or.inl rfl) (by omega)
    have c0 := eC_at (v := v) (p := p) (c := (j : Int)) (d := 0) (Or.inl rfl) (by omega)
    have a1 := eA_at (v := v) (c := (j : Int)) (d := 1) (Or.inr rfl) (by omega)
    have b1 := eB_at (v := v) (c := (j : Int)) (d := 1) (Or.inr rfl) (by omega)
    have c1' := eC_at (v := v) (p := p) (c := (j : Int)) (d := 1) (Or.inr rfl) (by omega)
    rw [show 2 * ((j : Int)).toNat + (0 : Int).toNat = 2 * j by omega] at a0 b0 c0
    rw [show 2 * ((j : Int)).toNat + (1 : Int).toNat = 2 * j + 1 by omega] at a1 b1 c1'
    have r1 : rdE (eA v) (eB v) (eC v p) f (2 * j + 1) = rx (eA v (2 * j)) (eB v (2 * j)) (eC v p (2 * j)) (rdE (eA v) (eB v) (eC v p) f (2 * j)) := rfl
    have r2 : rdE (eA v) (eB v) (eC v p) f (2 * j + 1 + 1) = rx (eA v (2 * j + 1)) (eB v (2 * j + 1)) (eC v p (2 * j + 1)) (rdE (eA v) (eB v) (eC v p) f (2 * j + 1)) := rfl
    refine d_edge Wd3 I Y3 W3 hf3 hp b3 (c := (j : Int)) (d := 0) (by omega) (Or.inl rfl) fun h4 z4 F4 g4 W4 b4 e4 => ?_
    rw [← a0, ← b0, ← c0, ← r1] at W4 e4
    have Wd4 : Wo T N h4 w v := Wd3.fr (fun x q1 q2 => F4.1 x (by omega)) I
    have hf4 : ∀ x, 0 ≤ rdE (eA v) (eB v) (eC v p) f (2 * j + 1) x ∧ rdE (eA v) (eB v) (eC v p) f (2 * j + 1) x ≤ 1000000 := fun x => ⟨rdE_lo (M := 2 * (v 11).toNat) (fun e he => by have := (eOK (p := p) I e he).2.2; omega) (fun x => (hf x).1) (2 * j + 1) (by omega) x, Int.le_trans (rdE_le x _) (hf x).2⟩
    refine d_edge Wd4 I (Y3.to g4) W4 hf4 hp b4 (c := (j : Int)) (d := 1) (by omega) (Or.inr rfl) fun h5 z5 F5 g5 W5 b5 e5 => ?_
    rw [← a1, ← b1, ← c1', ← r2] at W5 e5
    have tc := (Wd4.o.c (c := (j : Int)) (by omega)).1
    refine z80_25 tc Y.1 hp (by omega) (by omega) (by decide) ⟨fun z => absurd z (by decide), fun _ => ?_⟩
    have := ih (j + 1) h5 z5 (by omega) ((F.tr F4).tr F5) ((g5.trans g4).trans gg) W5 b5 (fun z => by
      have q5 := e5 z
      have q4 := e4 q5.1
      show rdE (eA v) (eB v) (eC v p) f (2 * j + 1 + 1) = f
      rw [q5.2, q4.2]; exact e3 q4.1)
    rw [show ((j + 1 : Nat) : Int) = (j : Int) + 1 by omega] at this
    exact this
theorem d_rounds (Wd : Wo T N h w v) (I : Iv v) (Y : WY T N h y) (hy : y + 1 < w ∨ w + 294 ≤ y) (hf : ∀ x, 0 ≤ f x ∧ f x ≤ 1000000) (hp : In p)
    (k : ∀ h4, Fp (fun b => b = y + 1) h h4 → gr h4 = gr h → Ar h4 (y + 1) 10 (itW v p f (v 0).toNat) → KV h4) :
    ∀ (q r : Nat) (h3 : PH) (x4 : Int), r + q = 10 → Fp (fun b => b = y + 1) h h3 → gr h3 = gr h → Ar h3 (y + 1) 10 (itW v p f r) → (x4 = 0 ∨ x4 = 1) → (x4 = 0 → Rst v p f r) →
      WV T N 79 47 [some (vr (some y)), some (vr (some w)), none, some (vi (J p)), some (vi (J x4)), some (vi (J (r : Int)))] [] h3 KV := by
  have b := I.b
  intro q
  induction q with
  | zero =>
    intro r h3 x4 hr F gg W3 b4 e4
    refine z79_47 Y.1 hp (by omega) (by omega) ⟨fun z => absurd z (by omega), fun _ => k h3 F gg ?_⟩
    rw [← itW_n I (fun x => (hf x).1) (k := r) (by omega)]; exact W3
  | succ q ih =>
    intro r h3 x4 hr F gg W3 b4 e4
    refine z79_47 Y.1 hp (by omega) (by omega) ⟨fun _ => ⟨fun z => k h3 F gg ?_, fun z => ?_⟩, fun z => absurd (by omega) z⟩
    · obtain ⟨s, e1, e2⟩ := e4 z
      rw [e1] at W3
      by_cases c : (v 0).toNat ≤ s + 1
      · rw [← itW_n I (fun x => (hf x).1) (k := s + 1) c]; exact W3
      · have : itW v p f (v 0).toNat = itW v p f s := itE_fix e2 _ (by omega)
        rw [this, ← e2]; exact W3
    · have Wd3 : Wo T N h3 w v := Wd.fr (fun x q1 q2 => F.1 x (by omega)) I
      refine z80 hp (d_round Wd3 I (Y.to gg) hy W3 (fun x => ⟨itW_lo I (fun x => (hf x).1) r x, itW_hi (fun x => (hf x).2) r x⟩) hp (fun h4 z F4 g4 W4 b5 e5 => ?_) (v 11).toNat 0 h3 0 (by omega) Fp.rf rfl W3 (Or.inl rfl) (fun _ => rfl))
      have := ih (r + 1) h4 z (by omega) (F.tr F4) (g4.trans gg) W4 b5 (fun z => ⟨r, rfl, e5 z⟩)
      rw [show ((r + 1 : Nat) : Int) = (r : Int) + 1 by omega] at this
      exact this
theorem d_measure (Wd : Wo T N h w v) (I : Iv v) (Y : WY T N h y) (hy : y + 1 < w ∨ w + 294 ≤ y) (hf : ∀ x, f x = 0 ∨ f x = 1000000) (hm : In m) (hb : ∀ j : Nat, j < 10 → (mb m j = true ↔ f j = 0)) (hp : In p)
    (k : ∀ h4, Fp (fun b => b = y + 1) h h4 → gr h4 = gr h → Ar h4 (y + 1) 10 (itW v p f (v 0).toNat) → KV h4) : CV T N 79 [vr (some y), vr (some w), vi (J m), vi (J p)] h KV := by
  have b := I.b
  have hf2 : ∀ x, 0 ≤ f x ∧ f x ≤ 1000000 := fun x => by rcases hf x with z | z <;> omega
  have loop : ∀ (q j : Nat) (h3 : PH), j + q = 10 → Fp (fun b => b = y + 1) h h3 → gr h3 = gr h → Ar h3 (y + 1) j f → WV T N 79 3 [some (vr (some y)), some (vr (some w)), some (vi (J m)), some (vi (J p)), some (vi (J (j : Int))), none] [] h3 KV := by
    intro q
    induction q with
    | zero =>
      intro j h3 hj F gg W3
      obtain ⟨y1, y2, y3, y4⟩ := Y.to gg
      refine z79_3 y1 hm hp (by omega) ⟨y + 1, y2, by omega, by omega, fun z => absurd z (by omega), fun _ => ?_⟩
      refine d_rounds Wd I Y hy hf2 hp k 10 0 h3 1 (by omega) F gg ?_ (Or.inr rfl) (fun z => absurd z (by decide))
      rw [show ((10 : Int)) = (j : Int) by omega]; exact W3
    | succ q ih =>
      intro j h3 hj F gg W3
      obtain ⟨y1, y2, y3, y4⟩ := Y.to gg
      have nxt : ∀ x, x = f j → In x → WV T N 79 3 [some (vr (some y)), some (vr (some w)), some (vi (J m)), some (vi (J p)), some (vi (J ((j : Int) + 1))), none] [] (wi h3 (y + 1) j x) KV := fun x hx ix => by
        have := ih (j + 1) (wi h3 (y + 1) j x) (by omega) (F.tr (Fp.pw rfl)) gg (fun i a1 a2 => by
          by_cases c : i = j
          · rw [rd_eq rfl c ix, hx, c]
          · rw [rd_k c a1 (by omega)]; exact W3 i a1 (by omega))
        rw [show ((j + 1 : Nat) : Int) = (j : Int) + 1 by omega] at this
        exact this
      refine z79_3 y1 hm hp (by omega) ⟨y + 1, y2, by omega, by omega, fun _ => d_holds (S := f j = 0) hm (by omega) (by rw [show ((j : Int)).toNat = j by omega]; exact hb j (by omega)) (fun z => ⟨fun z => absurd z (by decide), fun _ => ⟨y + 1, y2, y3, by omega, fun h5 e => ?_⟩⟩) (fun z => ⟨fun _ => ⟨y + 1, y2, y3, by omega, fun h5 e => ?_⟩, fun z => absurd rfl z⟩), fun z => absurd (by omega) z⟩
      · subst e; exact nxt 0 z.symm (by decide)
      · subst e; exact nxt 1000000 (by rcases hf j with q | q; exact absurd q z; exact q.symm) (by decide)
  exact z79 hm hp (loop 10 0 h (by omega) Fp.rf rfl fun i a1 a2 => by omega)
end WAY
