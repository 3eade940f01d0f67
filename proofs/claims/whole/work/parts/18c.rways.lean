/-! WAYS: the reference's rounds -/
def resF (v : Int → Int) : Int → Int := fun x => if 0 ≤ x ∧ x < v 0 ∧ v (1 + x) = 1 then 0 else 1000000
def nearF (t : Int) : Int → Int := fun x => if x = t then 0 else 1000000
def resV (v : Int → Int) : Int → Int := itW v 0 (resF v) (v 0).toNat
def neaV (v : Int → Int) (t : Int) : Int → Int := itW v 1 (nearF t) (v 0).toNat
section RWY
variable {T N : Nat → Nat} {bs A w y : Nat} {h h1 h2 h3 h7 h10 : PH} {v u sv tx f g f0 : Int → Int} {hs hs2 : Int → Int → Int} {d t a b l m c x p r : Int} {i : Nat} {K : Int → PH → Prop} {KV : PH → Prop} {KP : PR → PH → Prop}
theorem resF_b (x : Int) : resF v x = 0 ∨ resF v x = 1000000 := by unfold resF; split; exact Or.inl rfl; exact Or.inr rfl
theorem nearF_b (x : Int) : nearF t x = 0 ∨ nearF t x = 1000000 := by unfold nearF; split; exact Or.inl rfl; exact Or.inr rfl
theorem itB (hf : ∀ x, f x = 0 ∨ f x = 1000000) (x : Int) : 0 ≤ f x ∧ f x ≤ 1000000 := by rcases hf x with z | z <;> omega
theorem itW_b (I : Iv v) (hf : ∀ x, f x = 0 ∨ f x = 1000000) (k : Nat) (x : Int) : 0 ≤ itW v p f k x ∧ itW v p f k x ≤ 1000000 := ⟨itW_lo I (fun x => (itB hf x).1) k x, itW_hi (fun x => (itB hf x).2) k x⟩
theorem resV_b (I : Iv v) (x : Int) : 0 ≤ resV v x ∧ resV v x ≤ 1000000 := itW_b I resF_b _ x
theorem neaV_b (I : Iv v) (x : Int) : 0 ≤ neaV v t x ∧ neaV v t x ≤ 1000000 := itW_b I nearF_b _ x
theorem r_costV0 (R : RT T N A h) (V : Rv A h v) (I : Iv v) (hc : 0 ≤ c ∧ c < v 11) (hx : In d) (k : K (costV v c d) h) : ZI T N 167 [vr (some A), vi (J c), vi (J d)] h K :=
  r_costD (u := v) (v := v) (d := 0) (e := rc v 0) R (by rw [putD_rc]; exact V) I (fun j _ _ => rfl) (by decide) hc hx k
theorem r_edgeR (R : RT T N A h) (V : Rv A h v) (I : Iv v) (W : Ar h (A + 7) (v 0) f) (hf : ∀ x, 0 ≤ f x ∧ f x ≤ 1000000) (hr : In r) (hc : 0 ≤ c ∧ c < v 11) (hd : d = 0 ∨ d = 1)
    (k : ∀ h4, FR (fun b _ => b = A + 7) h h4 → Ar h4 (A + 7) (v 0) (rx (v (12 + 4 * c + d)) (v (12 + 4 * c + (1 - d))) (costV v c d) f) → WV T N 182 69 [some (vr (some A)), some (vi (J r)), some (vi (J c)), some (vi (J (d + 1))), none, none] [] h4 KV) : WV T N 182 69 [some (vr (some A)), some (vi (J r)), some (vi (J c)), some (vi (J d)), none, none] [] h KV := by
  have b := I.b
  obtain ⟨g1, g2, g3, g4⟩ := cor_e I hc hd
  have n7 := R.a7.2.1
  have V1 := V (12 + 4 * c + (1 - d)) (by omega) (by omega)
  have V2 := V (12 + 4 * c + d) (by omega) (by omega)
  have V3 := V (12 + 4 * c + 2) (by omega) (by omega)
  have hb := hf (v (12 + 4 * c + (1 - d)))
  have P : ∃ q, gr h A 12 = some q ∧ q = A + 7 := ⟨A + 7, R.a7.2.2, rfl⟩
  refine z182_69 R.t hr (by omega) (by omega) ⟨fun _ => r_end R (by omega) (by omega) ?_, fun z => absurd z (by omega)⟩
  rw [V1]
  refine ⟨A + 7, R.a7.2.2, R.a7.1, by omega, r_costV0 R V I hc (by omega) (r_end R (by omega) (by omega) ?_)⟩
  rw [V2]
  refine ⟨A + 7, R.a7.2.2, R.a7.1, by omega, ?_⟩
  rw [W _ g2.1 g2.2, W _ g1.1 g1.2]
  refine ⟨by omega, fun z h4 e => ?_, fun z => ⟨A + 7, R.a7.2.2, R.a7.1, by omega, fun h4 e => ?_⟩⟩
  · refine k h4 (by subst e; exact FR.pw rfl) ?_
    subst e
    unfold rx; rw [if_pos z]
    exact W.wr g1.1 (by omega)
  · refine k h4 (by subst e; exact FR.pw rfl) ?_
    subst e
    unfold rx; rw [if_neg z]
    have sf := W.self g1.1
    exact sf
theorem r_roundR (R : RT T N A h) (V : Rv A h v) (I : Iv v) (hf : ∀ x, 0 ≤ f x ∧ f x ≤ 1000000) (hr : In r)
    (k : ∀ h4, FR (fun b _ => b = A + 7) h h4 → Ar h4 (A + 7) (v 0) (rdE (eA v) (eB v) (eC v 0) f (2 * (v 11).toNat)) → WV T N 182 44 [some (vr (some A)), some (vi (J (r + 1))), none, none, none, none] [] h4 KV) :
    ∀ (q : Nat) (j : Nat) (h3 : PH), (j : Int) + q = v 11 → FR (fun b _ => b = A + 7) h h3 → Ar h3 (A + 7) (v 0) (rdE (eA v) (eB v) (eC v 0) f (2 * j)) → WV T N 182 56 [some (vr (some A)), some (vi (J r)), some (vi (J (j : Int))), none, none, none] [] h3 KV := by
  have b := I.b
  intro q
  induction q with
  | zero =>
    intro j h3 hj F W3
    have R3 := R.fr F
    have n1 := R3.a1.2.1
    have e11 : ai h3 (A + 1) 11 = v 11 := by rw [F.ai (by omega)]; exact V 11 (by omega) (by omega)
    refine z182_56 R.t hr (by omega) ⟨A + 1, R3.a1.2.2, R3.a1.1, by omega, fun z => absurd z (by omega), fun _ => k h3 F ?_⟩
    rw [show (v 11).toNat = j by omega]; exact W3
  | succ q ih =>
    intro j h3 hj F W3
    have R3 := R.fr F
    have n1 := R3.a1.2.1
    have V3 : Rv A h3 v := fun z a1 a2 => by rw [F.ai (by omega)]; exact V z a1 a2
    have e11 := V3 11 (by omega) (by omega)
    have hf3 : ∀ i, i ≤ 2 * (v 11).toNat → ∀ x, 0 ≤ rdE (eA v) (eB v) (eC v 0) f i x ∧ rdE (eA v) (eB v) (eC v 0) f i x ≤ 1000000 := fun i hi x => ⟨rdE_lo (M := 2 * (v 11).toNat) (fun e he => by have := (eOK (p := 0) I e he).2.2; omega) (fun x => (hf x).1) i hi x, Int.le_trans (rdE_le x _) (hf x).2⟩
    refine z182_56 R.t hr (by omega) ⟨A + 1, R3.a1.2.2, R3.a1.1, by omega, fun _ => ?_, fun z => absurd (by omega) z⟩
    have a0 := eA_at (v := v) (c := (j : Int)) (d := 0) (Or.inl rfl) (by omega)
    have b0 := eB_at (v := v) (c := (j : Int)) (d := 0) (Or.inl rfl) (by omega)
    have c0 := eC_at (v := v) (p := 0) (c := (j : Int)) (d := 0) (Or.inl rfl) (by omega)
    have a1 := eA_at (v := v) (c := (j : Int)) (d := 1) (Or.inr rfl) (by omega)
    have b1 := eB_at (v := v) (c := (j : Int)) (d := 1) (Or.inr rfl) (by omega)
    have c1' := eC_at (v := v) (p := 0) (c := (j : Int)) (d := 1) (Or.inr rfl) (by omega)
    rw [show 2 * ((j : Int)).toNat + (0 : Int).toNat = 2 * j by omega] at a0 b0 c0
    rw [show 2 * ((j : Int)).toNat + (1 : Int).toNat = 2 * j + 1 by omega] at a1 b1 c1'
    rw [if_pos rfl] at c0 c1'
    have r1 : rdE (eA v) (eB v) (eC v 0) f (2 * j + 1) = rx (eA v (2 * j)) (eB v (2 * j)) (eC v 0 (2 * j)) (rdE (eA v) (eB v) (eC v 0) f (2 * j)) := rfl
    have r2 : rdE (eA v) (eB v) (eC v 0) f (2 * j + 1 + 1) = rx (eA v (2 * j + 1)) (eB v (2 * j + 1)) (eC v 0 (2 * j + 1)) (rdE (eA v) (eB v) (eC v 0) f (2 * j + 1)) := rfl
    refine r_edgeR R3 V3 I W3 (hf3 (2 * j) (by omega)) hr (c := (j : Int)) (d := 0) (by omega) (Or.inl rfl) fun h4 F4 W4 => ?_
    rw [← a0, ← b0, ← c0, ← r1] at W4
    have R4 := R3.fr F4
    have V4 : Rv A h4 v := fun z a1 a2 => by rw [F4.ai (by omega)]; exact V3 z a1 a2
    refine r_edgeR R4 V4 I W4 (hf3 (2 * j + 1) (by omega)) hr (c := (j : Int)) (d := 1) (by omega) (Or.inr rfl) fun h5 F5 W5 => ?_
    rw [← a1, ← b1, ← c1', ← r2] at W5
    refine z182_69 (R4.fr F5).t hr (by omega) (by decide) ⟨fun z => absurd z (by decide), fun _ => ?_⟩
    have := ih (j + 1) h5 (by omega) ((F.tr F4).tr F5) W5
    rw [show ((j + 1 : Nat) : Int) = (j : Int) + 1 by omega] at this
    exact this
theorem r_rounds_r (R : RT T N A h) (V : Rv A h v) (I : Iv v) (hf : ∀ x, f x = 0 ∨ f x = 1000000) (k : ∀ h2, RT T N A h2 → FR (fun b _ => b = A + 7) h h2 → Ar h2 (A + 7) (v 0) (itW v 0 f (v 0).toNat) → KV h2) : ∀ (q j : Nat) (h3 : PH), (j : Int) + q = v 0 → FR (fun b _ => b = A + 7) h h3 → Ar h3 (A + 7) (v 0) (itW v 0 f j) → WV T N 182 44 [some (vr (some A)), some (vi (J (j : Int))), none, none, none, none] [] h3 KV := by
  have b := I.b
  intro q
  induction q with
  | zero =>
    intro j h3 hj F W3
    have R3 := R.fr F
    have n1 := R3.a1.2.1
    have e0 : ai h3 (A + 1) 0 = v 0 := by rw [F.ai (by omega)]; exact V 0 (by omega) (by omega)
    refine z182_44 R.t (by omega) ⟨A + 1, R3.a1.2.2, R3.a1.1, by omega, fun z => absurd z (by omega), fun _ => k h3 R3 F ?_⟩
    rw [show (v 0).toNat = j by omega]; exact W3
  | succ q ih =>
    intro j h3 hj F W3
    have R3 := R.fr F
    have n1 := R3.a1.2.1
    have V3 : Rv A h3 v := fun z a1 a2 => by rw [F.ai (by omega)]; exact V z a1 a2
    have e0 := V3 0 (by omega) (by omega)
    refine z182_44 R.t (by omega) ⟨A + 1, R3.a1.2.2, R3.a1.1, by omega, fun _ => ?_, fun z => absurd (by omega) z⟩
    refine r_roundR R3 V3 I (itW_b I hf j) (r := (j : Int)) (by omega) (fun h4 F4 W4 => ?_) (v 11).toNat 0 h3 (by omega) FR.rf W3
    have := ih (j + 1) h4 (by omega) (F.tr F4) W4
    rw [show ((j + 1 : Nat) : Int) = (j : Int) + 1 by omega] at this
    exact this
theorem r_reserves (R : RT T N A h) (V : Rv A h v) (I : Iv v) (k : ∀ h2, RT T N A h2 → FR (fun b _ => b = A + 7) h h2 → Ar h2 (A + 7) (v 0) (resV v) → KV h2) : CV T N 182 [vr (some A)] h KV := by
  have b := I.b
  have loop : ∀ (q j : Nat) (h3 : PH), (j : Int) + q = v 0 → FR (fun b _ => b = A + 7) h h3 → Ar h3 (A + 7) j (resF v) → WV T N 182 2 [some (vr (some A)), some (vi (J (j : Int))), none, none, none, none] [] h3 KV := by
    intro q
    induction q with
    | zero =>
      intro j h3 hj F W3
      have R3 := R.fr F
      have n1 := R3.a1.2.1
      have e0 : ai h3 (A + 1) 0 = v 0 := by rw [F.ai (by omega)]; exact V 0 (by omega) (by omega)
      refine z182_2 R.t (by omega) ⟨A + 1, R3.a1.2.2, R3.a1.1, by omega, fun z => absurd z (by omega), fun _ => r_rounds_r R V I resF_b k (v 0).toNat 0 h3 (by omega) F ?_⟩
      rw [show v 0 = (j : Int) by omega]; exact W3
    | succ q ih =>
      intro j h3 hj F W3
      have R3 := R.fr F
      have n1 := R3.a1.2.1
      have n7 := R3.a7.2.1
      have V3 : Rv A h3 v := fun z a1 a2 => by rw [F.ai (by omega)]; exact V z a1 a2
      have e0 := V3 0 (by omega) (by omega)
      have e1 := V3 (1 + (j : Int)) (by omega) (by omega)
      have nxt : ∀ x, x = resF v j → In x → WV T N 182 2 [some (vr (some A)), some (vi (J ((j : Int) + 1))), none, none, none, none] [] (wi h3 (A + 7) j x) KV := fun x hx ix => by
        have := ih (j + 1) (wi h3 (A + 7) j x) (by omega) (F.tr (FR.pw rfl)) (fun i a1 a2 => by
          by_cases c : i = j
          · rw [rd_eq rfl c ix, hx, c]
          · rw [rd_k c a1 (by omega)]; exact W3 i a1 (by omega))
        rw [show ((j + 1 : Nat) : Int) = (j : Int) + 1 by omega] at this
        exact this
      refine z182_2 R.t (by omega) ⟨A + 1, R3.a1.2.2, R3.a1.1, by omega, fun _ => ⟨A + 1, R3.a1.2.2, R3.a1.1, by omega, fun z => ⟨A + 7, R3.a7.2.2, R3.a7.1, by omega, fun h4 e => ?_⟩, fun z => ⟨A + 7, R3.a7.2.2, R3.a7.1, by omega, fun h4 e => ?_⟩⟩, fun z => absurd (by omega) z⟩
      · subst e
        exact nxt 0 (show (0 : Int) = if _ then 0 else 1000000 from (if_pos ⟨by omega, by omega, by omega⟩).symm) (by decide)
      · subst e
        exact nxt 1000000 (show (1000000 : Int) = if _ then 0 else 1000000 from (if_neg (by omega)).symm) (by decide)
  exact z182 (loop (v 0).toNat 0 h (by omega) FR.rf fun i a1 a2 => by omega)
theorem r_edgeN (R : RT T N A h) (V : Rv A h v) (I : Iv v) (W : Ar h (A + 8) (v 0) f) (hf : ∀ x, 0 ≤ f x ∧ f x ≤ 1000000) (hx : In x) (hr : In r) (hc : 0 ≤ c ∧ c < v 11) (hd : d = 0 ∨ d = 1)
    (k : ∀ h4, FR (fun b _ => b = A + 8) h h4 → Ar h4 (A + 8) (v 0) (rx (v (12 + 4 * c + d)) (v (12 + 4 * c + (1 - d))) (v (12 + 4 * c + 2)) f) → ZW T N 184 100 [some (vr (some A)), some (vi (J x)), none, some (vi (J r)), some (vi (J c)), some (vi (J (d + 1))), none, none] [] h4 K) : ZW T N 184 100 [some (vr (some A)), some (vi (J x)), none, some (vi (J r)), some (vi (J c)), some (vi (J d)), none, none] [] h K := by
  have b := I.b
  obtain ⟨g1, g2, g3, g4⟩ := cor_e I hc hd
  have n7 := R.a8.2.1
  have V1 := V (12 + 4 * c + (1 - d)) (by omega) (by omega)
  have V2 := V (12 + 4 * c + d) (by omega) (by omega)
  have V3 := V (12 + 4 * c + 2) (by omega) (by omega)
  have hb := hf (v (12 + 4 * c + (1 - d)))
  have P : ∃ q, gr h A 13 = some q ∧ q = A + 8 := ⟨A + 8, R.a8.2.2, rfl⟩
  refine z184_100 R.t hx hr (by omega) (by omega) ⟨fun _ => r_end R (by omega) (by omega) ?_, fun z => absurd z (by omega)⟩
  rw [V1]
  refine ⟨A + 8, R.a8.2.2, R.a8.1, by omega, r_len R (by omega) (r_end R (by omega) (by omega) ?_)⟩
  rw [V2]
  refine ⟨A + 8, R.a8.2.2, R.a8.1, by omega, ?_⟩
  rw [W _ g2.1 g2.2, W _ g1.1 g1.2, V3]
  refine ⟨by omega, fun z h4 e => ?_, fun z => ⟨A + 8, R.a8.2.2, R.a8.1, by omega, fun h4 e => ?_⟩⟩
  · refine k h4 (by subst e; exact FR.pw rfl) ?_
    subst e
    unfold rx; rw [if_pos z]
    exact W.wr g1.1 (by omega)
  · refine k h4 (by subst e; exact FR.pw rfl) ?_
    subst e
    unfold rx; rw [if_neg z]
    have sf := W.self g1.1
    exact sf
theorem r_roundN (R : RT T N A h) (V : Rv A h v) (I : Iv v) (hf : ∀ x, 0 ≤ f x ∧ f x ≤ 1000000) (hx : In x) (hr : In r)
    (k : ∀ h4, FR (fun b _ => b = A + 8) h h4 → Ar h4 (A + 8) (v 0) (rdE (eA v) (eB v) (eC v 1) f (2 * (v 11).toNat)) → ZW T N 184 72 [some (vr (some A)), some (vi (J x)), none, some (vi (J (r + 1))), none, none, none, none] [] h4 K) :
    ∀ (q : Nat) (j : Nat) (h3 : PH), (j : Int) + q = v 11 → FR (fun b _ => b = A + 8) h h3 → Ar h3 (A + 8) (v 0) (rdE (eA v) (eB v) (eC v 1) f (2 * j)) → ZW T N 184 85 [some (vr (some A)), some (vi (J x)), none, some (vi (J r)), some (vi (J (j : Int))), none, none, none] [] h3 K := by
  have b := I.b
  intro q
  induction q with
  | zero =>
    intro j h3 hj F W3
    have R3 := R.fr F
    have n1 := R3.a1.2.1
    have e11 : ai h3 (A + 1) 11 = v 11 := by rw [F.ai (by omega)]; exact V 11 (by omega) (by omega)
    refine z184_85 R.t hx hr (by omega) ⟨A + 1, R3.a1.2.2, R3.a1.1, by omega, fun z => absurd z (by omega), fun _ => k h3 F ?_⟩
    rw [show (v 11).toNat = j by omega]; exact W3
  | succ q ih =>
    intro j h3 hj F W3
    have R3 := R.fr F
    have n1 := R3.a1.2.1
    have V3 : Rv A h3 v := fun z a1 a2 => by rw [F.ai (by omega)]; exact V z a1 a2
    have e11 := V3 11 (by omega) (by omega)
    have hf3 : ∀ i, i ≤ 2 * (v 11).toNat → ∀ x, 0 ≤ rdE (eA v) (eB v) (eC v 1) f i x ∧ rdE (eA v) (eB v) (eC v 1) f i x ≤ 1000000 := fun i hi x => ⟨rdE_lo (M := 2 * (v 11).toNat) (fun e he => by have := (eOK (p := 1) I e he).2.2; omega) (fun x => (hf x).1) i hi x, Int.le_trans (rdE_le x _) (hf x).2⟩
    refine z184_85 R.t hx hr (by omega) ⟨A + 1, R3.a1.2.2, R3.a1.1, by omega, fun _ => ?_, fun z => absurd (by omega) z⟩
    have a0 := eA_at (v := v) (c := (j : Int)) (d := 0) (Or.inl rfl) (by omega)
    have b0 := eB_at (v := v) (c := (j : Int)) (d := 0) (Or.inl rfl) (by omega)
    have c0 := eC_at (v := v) (p := 1) (c := (j : Int)) (d := 0) (Or.inl rfl) (by omega)
    have a1 := eA_at (v := v) (c := (j : Int)) (d := 1) (Or.inr rfl) (by omega)
    have b1 := eB_at (v := v) (c := (j : Int)) (d := 1) (Or.inr rfl) (by omega)
    have c1' := eC_at (v := v) (p := 1) (c := (j : Int)) (d := 1) (Or.inr rfl) (by omega)
    rw [show 2 * ((j : Int)).toNat + (0 : Int).toNat = 2 * j by omega] at a0 b0 c0
    rw [show 2 * ((j : Int)).toNat + (1 : Int).toNat = 2 * j + 1 by omega] at a1 b1 c1'
    rw [if_neg (by decide)] at c0 c1'
    have r1 : rdE (eA v) (eB v) (eC v 1) f (2 * j + 1) = rx (eA v (2 * j)) (eB v (2 * j)) (eC v 1 (2 * j)) (rdE (eA v) (eB v) (eC v 1) f (2 * j)) := rfl
    have r2 : rdE (eA v) (eB v) (eC v 1) f (2 * j + 1 + 1) = rx (eA v (2 * j + 1)) (eB v (2 * j + 1)) (eC v 1 (2 * j + 1)) (rdE (eA v) (eB v) (eC v 1) f (2 * j + 1)) := rfl
    refine r_edgeN R3 V3 I W3 (hf3 (2 * j) (by omega)) hx hr (c := (j : Int)) (d := 0) (by omega) (Or.inl rfl) fun h4 F4 W4 => ?_
    rw [← a0, ← b0, ← c0, ← r1] at W4
    have R4 := R3.fr F4
    have V4 : Rv A h4 v := fun z a1 a2 => by rw [F4.ai (by omega)]; exact V3 z a1 a2
    refine r_edgeN R4 V4 I W4 (hf3 (2 * j + 1) (by omega)) hx hr (c := (j : Int)) (d := 1) (by omega) (Or.inr rfl) fun h5 F5 W5 => ?_
    rw [← a1, ← b1, ← c1', ← r2] at W5
    refine z184_100 (R4.fr F5).t hx hr (by omega) (by decide) ⟨fun z => absurd z (by decide), fun _ => ?_⟩
    have := ih (j + 1) h5 (by omega) ((F.tr F4).tr F5) W5
    rw [show ((j + 1 : Nat) : Int) = (j : Int) + 1 by omega] at this
    exact this
theorem r_rounds_n (R : RT T N A h) (V : Rv A h v) (I : Iv v) (hf : ∀ x, f x = 0 ∨ f x = 1000000) (hx : 0 ≤ x ∧ x < v 0) (k : ∀ h2, RT T N A h2 → FR (fun b _ => b = A + 8) h h2 → (itW v 1 f (v 0).toNat x < 1000000 → K (itW v 1 f (v 0).toNat x) h2) ∧ (¬ itW v 1 f (v 0).toNat x < 1000000 → K 0 (wi h2 A 0 2))) : ∀ (q j : Nat) (h3 : PH), (j : Int) + q = v 0 → FR (fun b _ => b = A + 8) h h3 → Ar h3 (A + 8) (v 0) (itW v 1 f j) → ZW T N 184 72 [some (vr (some A)), some (vi (J x)), none, some (vi (J (j : Int))), none, none, none, none] [] h3 K := by
  have b := I.b
  intro q
  induction q with
  | zero =>
    intro j h3 hj F W3
    have R3 := R.fr F
    have n1 := R3.a1.2.1
    have n8 := R3.a8.2.1
    have e0 : ai h3 (A + 1) 0 = v 0 := by rw [F.ai (by omega)]; exact V 0 (by omega) (by omega)
    obtain ⟨k1, k0⟩ := k h3 R3 F
    rw [show (v 0).toNat = j by omega] at k1 k0
    refine z184_72 R.t (by omega) (by omega) ⟨A + 1, R3.a1.2.2, R3.a1.1, by omega, fun z => absurd z (by omega), fun _ => ⟨A + 8, R3.a8.2.2, R3.a8.1, by omega, ?_⟩⟩
    rw [W3 x hx.1 hx.2]
    refine ⟨fun z => ⟨A + 8, R3.a8.2.2, R3.a8.1, by omega, ?_⟩, fun z => r_no R3 (by decide) (k0 z)⟩
    rw [W3 x hx.1 hx.2]
    exact k1 z
  | succ q ih =>
    intro j h3 hj F W3
    have R3 := R.fr F
    have n1 := R3.a1.2.1
    have V3 : Rv A h3 v := fun z a1 a2 => by rw [F.ai (by omega)]; exact V z a1 a2
    have e0 := V3 0 (by omega) (by omega)
    refine z184_72 R.t (by omega) (by omega) ⟨A + 1, R3.a1.2.2, R3.a1.1, by omega, fun _ => ?_, fun z => absurd (by omega) z⟩
    refine r_roundN R3 V3 I (itW_b I hf j) (by omega) (r := (j : Int)) (by omega) (fun h4 F4 W4 => ?_) (v 11).toNat 0 h3 (by omega) FR.rf W3
    have := ih (j + 1) h4 (by omega) (F.tr F4) W4
    rw [show ((j + 1 : Nat) : Int) = (j : Int) + 1 by omega] at this
    exact this
theorem r_near (R : RT T N A h) (V : Rv A h v) (I : Iv v) (hx : 0 ≤ x ∧ x < v 0) (ht : 0 ≤ t ∧ t < v 0) (k : ∀ h2, RT T N A h2 → FR (fun b _ => b = A + 8) h h2 → (neaV v t x < 1000000 → K (neaV v t x) h2) ∧ (¬ neaV v t x < 1000000 → K 0 (wi h2 A 0 2))) : ∀ (q j : Nat) (h3 : PH), (j : Int) + q = v 0 → FR (fun b _ => b = A + 8) h h3 → Ar h3 (A + 8) j (nearF t) → ZW T N 184 37 [some (vr (some A)), some (vi (J x)), some (vi (J t)), some (vi (J (j : Int))), none, none, none, none] [] h3 K := by
  have b := I.b
  intro q
  induction q with
  | zero =>
    intro j h3 hj F W3
    have R3 := R.fr F
    have n1 := R3.a1.2.1
    have e0 : ai h3 (A + 1) 0 = v 0 := by rw [F.ai (by omega)]; exact V 0 (by omega) (by omega)
    refine z184_37 R.t (by omega) (by omega) (by omega) ⟨A + 1, R3.a1.2.2, R3.a1.1, by omega, fun z => absurd z (by omega), fun _ => r_rounds_n R V I nearF_b hx k (v 0).toNat 0 h3 (by omega) F ?_⟩
    rw [show v 0 = (j : Int) by omega]; exact W3
  | succ q ih =>
    intro j h3 hj F W3
    have R3 := R.fr F
    have n1 := R3.a1.2.1
    have n8 := R3.a8.2.1
    have e0 : ai h3 (A + 1) 0 = v 0 := by rw [F.ai (by omega)]; exact V 0 (by omega) (by omega)
    have nxt : ∀ y, y = nearF t j → In y → ZW T N 184 37 [some (vr (some A)), some (vi (J x)), some (vi (J t)), some (vi (J ((j : Int) + 1))), none, none, none, none] [] (wi h3 (A + 8) j y) K := fun y hy iy => by
      have := ih (j + 1) (wi h3 (A + 8) j y) (by omega) (F.tr (FR.pw rfl)) (fun i a1 a2 => by
        by_cases c : i = j
        · rw [rd_eq rfl c iy, hy, c]
        · rw [rd_k c a1 (by omega)]; exact W3 i a1 (by omega))
      rw [show ((j + 1 : Nat) : Int) = (j : Int) + 1 by omega] at this
      exact this
    refine z184_37 R.t (by omega) (by omega) (by omega) ⟨A + 1, R3.a1.2.2, R3.a1.1, by omega, fun _ => ⟨fun z => ⟨A + 8, R3.a8.2.2, R3.a8.1, by omega, fun h4 e => ?_⟩, fun z => ⟨A + 8, R3.a8.2.2, R3.a8.1, by omega, fun h4 e => ?_⟩⟩, fun z => absurd (by omega) z⟩
    · subst e
      exact nxt 0 (show (0 : Int) = if _ then 0 else 1000000 from (if_pos z).symm) (by decide)
    · subst e
      exact nxt 1000000 (show (1000000 : Int) = if _ then 0 else 1000000 from (if_neg z).symm) (by decide)
end RWY
