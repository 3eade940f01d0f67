/-! TEXTS: the class reads -/
def wkV (tx : Int → Int) (tn : Int) (v : Int → Int) : Nat → Int → Int
  | 0 => v
  | k + 1 => acV tx tn (psT tx tn k) (wkV tx tn v k)
def AOk (tx : Int → Int) (tn : Int) (v : Int → Int) (k : Nat) : Prop := acO tx tn (psT tx tn k) (wkV tx tn v k)
section CRD
variable {T N : Nat → Nat} {bs A : Nat} {h h1 h2 h3 h7 h10 : PH} {v u sv tx e e2 : Int → Int} {hs hs2 : Int → Int → Int} {iss n tn re er d t a b l w c p x y : Int} {i m m2 : Nat} {K : Int → PH → Prop} {KV : PH → Prop} {KP : PR → PH → Prop} {Q : Int → Int → Int → PH → Prop} {f g : Int → Int}
theorem TXer.bd (ht : 0 ≤ tn) (h : TXer tx tn x) : 0 ≤ x ∧ x ≤ tn := by
  obtain ⟨m, h1, h2, h3⟩ := h
  have pb := psT_b ht m h1
  rcases h3 with ⟨z1, z2⟩ | ⟨z1, i, z2, z3, z4, z5, z6⟩
  · omega
  · have lt := hr_lt z1
    by_cases c : i = 0
    · omega
    · have g := z6 (i - 1) (by omega) (by omega)
      have cb := txc_b z1 (i := i - 1) (by omega)
      by_cases c2 : psT tx tn m + 1 + (i - 1) < tn
      · omega
      · rw [show hrT tx tn (psT tx tn m + 1 + (i - 1)) = -1 from if_neg c2] at g
        exact absurd g (lk_m1 cb.1)
theorem wkV_Iv (I : Iv v) (g : ∀ j : Nat, j < m → GE tx tn j) : ∀ k : Nat, k ≤ m → (∀ j : Nat, j < k → AOk tx tn v j) → Iv (wkV tx tn v k)
  | 0, _, _ => I
  | k + 1, h, o => acV_Iv (wkV_Iv I g k (by omega) fun j hj => o j (by omega)) (g k (by omega)).2 (o k (by omega))
theorem dv_in0 (C : Com T N bs h i) (I : IvS v iss sv n hs tn tx re er) (D : SD T N bs h v iss sv n hs tn tx re er) (e : h2 = wi h (bs + 3250) 0 0) : Com T N bs h2 i ∧ SD T N bs h2 v iss sv n hs 0 tx re er ∧ IvS v iss sv n hs 0 tx re er ∧ Fcl bs h h2 ∧ Fp (fun x => x = bs + 3250) h h2 ∧ gr h2 = gr h := by
  have F : Fp (fun b => b = bs + 3250) h h2 := by subst e; exact Fp.pw rfl
  have g : gr h2 = gr h := by subst e; rfl
  obtain ⟨s1, ⟨s2, s3⟩, s4, ⟨s5, s6⟩, s7, s8⟩ := D
  have e1 := F.1 bs (by omega)
  refine ⟨C.to F g, ⟨s1.fr (fun b q1 q2 => F.1 b (by omega)) I.1, ⟨by rw [e1.ai]; exact s2, fun z => (s3 z).fr (fun b q1 q2 => F.1 b (by omega)) (I.2.2.1 z)⟩, s4.fr I.2.2.2.2.1 (fun b q1 q2 => F.1 b (by omega)), ⟨by subst e; exact rd_eq rfl rfl (by decide), fun i h1 h2 => by omega⟩, by rw [e1.ai]; exact s7, by rw [e1.ai]; exact s8⟩, ⟨I.1, I.2.1, I.2.2.1, I.2.2.2.1, I.2.2.2.2.1, ⟨by decide, by decide⟩, fun i h1 h2 => by omega, I.2.2.2.2.2.2.2.1, I.2.2.2.2.2.2.2.2⟩, Fcl.fp F fun x z => by omega, F, g⟩
theorem dv_er (C : Com T N bs h i) (I : IvS v iss sv n hs tn tx re er) (D : SD T N bs h v iss sv n hs tn tx re er) (hx : 0 ≤ x ∧ x ≤ 60) (e : h2 = wi h bs 9 x) : Com T N bs h2 i ∧ SD T N bs h2 v iss sv n hs tn tx re x ∧ IvS v iss sv n hs tn tx re x ∧ Fcl bs h h2 ∧ gr h2 = gr h := by
  have F : Fp (fun b => b = bs) h h2 := by subst e; exact Fp.pw rfl
  have g : gr h2 = gr h := by subst e; rfl
  obtain ⟨s1, ⟨s2, s3⟩, s4, ⟨s5, s6⟩, s7, s8⟩ := D
  have e1 := F.1 (bs + 3250) (by omega)
  have e2 := F.1 (bs + 3251) (by omega)
  refine ⟨C.to F g, ⟨s1.fr (fun b q1 q2 => F.1 b (by omega)) I.1, ⟨by subst e; rw [rd_k (by decide) (by decide) (by decide)]; exact s2, fun z => (s3 z).fr (fun b q1 q2 => F.1 b (by omega)) (I.2.2.1 z)⟩, s4.fr I.2.2.2.2.1 (fun b q1 q2 => F.1 b (by omega)), ⟨by rw [e1.ai]; exact s5, fun i h1 h2 => by rw [e2.ai]; exact s6 i h1 h2⟩, by subst e; rw [rd_k (by decide) (by decide) (by decide)]; exact s7, by subst e; exact rd_eq rfl rfl (by omega)⟩, ⟨I.1, I.2.1, I.2.2.1, I.2.2.2.1, I.2.2.2.2.1, I.2.2.2.2.2.1, I.2.2.2.2.2.2.1, I.2.2.2.2.2.2.2.1, ⟨by omega, hx.2⟩⟩, Fcl.fp F fun x z => by omega, g⟩
theorem c_152 (I : IvS v iss sv n hs tn tx re er) (X : TXok tx tn m) (k1 : (∀ j : Nat, j < m → AOk tx tn v j) → ∀ h4, Com T N bs h4 i → SD T N bs h4 (wkV tx tn v m) iss sv n hs tn tx re er → IvS (wkV tx tn v m) iss sv n hs tn tx re er → Fcl bs h h4 → Fp (fun x => bs + 1 ≤ x ∧ x < bs + 1 + 294) h h4 → K m h4) (k0 : ¬ (∀ j : Nat, j < m → AOk tx tn v j) → ∀ v' h4, Com T N bs h4 i → SD T N bs h4 v' iss sv n hs tn tx re er → IvS v' iss sv n hs tn tx re er → Fcl bs h h4 → Fp (fun x => bs + 1 ≤ x ∧ x < bs + 1 + 294) h h4 → K (-1) h4) : ∀ (q k : Nat) (h3 : PH), k + q = m → (∀ j : Nat, j < k → AOk tx tn v j) → Com T N bs h3 i → SD T N bs h3 (wkV tx tn v k) iss sv n hs tn tx re er → IvS (wkV tx tn v k) iss sv n hs tn tx re er → Fcl bs h h3 → Fp (fun x => bs + 1 ≤ x ∧ x < bs + 1 + 294) h h3 → ZW T N 152 4 [some (vr (some bs)), some (vi (J (k : Int))), some (vi (J (psT tx tn k)))] [] h3 K := by
  obtain ⟨X1, X2, X3⟩ := X
  have tb := I.2.2.2.2.2.1
  intro q
  induction q with
  | zero =>
    intro k h3 hk o C3 D3 I3 L3 F3
    have P := C3.inp I3 D3
    have pb := psT_b tb.1 k fun j hj => X2 j (by omega)
    have g5 : gr h3 bs 5 = some (bs + 3250) := C3.o.2.2.2.2.2.2.1
    have km : k = m := by omega
    subst km
    refine z152_4 C3.o.1 (by omega) (by omega) ⟨bs + 3250, g5, P.1, fun z => ?_, fun _ => k1 o h3 C3 D3 I3 L3 F3⟩
    rw [P.2.2.2.2.1] at z; exact absurd z X3
  | succ q ih =>
    intro k h3 hk o C3 D3 I3 L3 F3
    have P := C3.inp I3 D3
    have pb := psT_b tb.1 k fun j hj => X2 j (by omega)
    have g5 : gr h3 bs 5 = some (bs + 3250) := C3.o.2.2.2.2.2.2.1
    have ok := (X2 k (by omega)).2
    have oe := okE_end ok
    have s4 := sOf_4 (c := hrT tx tn (psT tx tn k))
    refine z152_4 C3.o.1 (by omega) (by omega) ⟨bs + 3250, g5, P.1, fun _ => c_153 C3 I3 D3 (by omega) ok (fun ao h4 C4 D4 I4 L4 F4 => ⟨(fun z => absurd z (by decide)), fun _ => ?_⟩) (fun na => ⟨fun _ => k0 (fun al => na (al k (by omega))) _ h3 C3 D3 I3 L3 F3, (fun z => absurd rfl z)⟩), fun z => ?_⟩
    · have g54 : gr h4 bs 5 = some (bs + 3250) := C4.o.2.2.2.2.2.2.1
      have P4 := C4.inp I4 D4
      refine ⟨bs + 3250, g54, P4.1, d_rest P4 (by omega) ⟨by omega, ?_⟩⟩
      have := ih (k + 1) h4 (by omega) (fun j hj => by
        by_cases c : j = k
        · rw [c]; exact ao
        · exact o j (by omega)) C4 D4 I4 (L3.tr L4) (F3.tr F4)
      rw [show ((k + 1 : Nat) : Int) = (k : Int) + 1 by omega] at this
      exact this
    · rw [P.2.2.2.2.1] at z; exact absurd oe.2.1 z
theorem DH_sk {o : Int} (D : DH T N bs h n hs) (ho : ai h (bs + 589) 1 = o) (I : ∀ i, 0 ≤ i → i < n → Iv (hs i)) (s : ∀ x, bs + 589 ≤ x → x < bs + 3237 → ¬ (HW bs o n ≤ x ∧ x < HW bs o n + 294) → sm x h h2) : DH T N bs h2 n hs := by
  obtain ⟨D1, D2, D3, D4⟩ := D
  have a2 := HW_lo (bs := bs) o n
  have s0 := s (bs + 589) (by omega) (by omega) (by omega)
  rw [ho] at D4
  refine ⟨by rw [s0.ai]; exact D1, D2, by rw [s0.ai]; exact D3, fun i h1 h2' => ?_⟩
  rw [s0.ai, ho]
  have a1 := HW_lo (bs := bs) o i
  have : (o + i) % 9 ≠ (o + n) % 9 := by omega
  refine (D4 i h1 h2').fr (fun b q1 q2 => s b (by omega) (by omega) ?_) (I i h1 h2')
  unfold HW at q1 q2 ⊢; omega
theorem c_139 (C : Com T N bs h i) (I : IvS v iss sv n hs tn tx re er) (D : SD T N bs h v iss sv n hs tn tx re er) (ke : ∀ x, TXer tx tn x → ∀ h4, Com T N bs h4 i → SD T N bs h4 v iss sv n hs 0 tx re x → IvS v iss sv n hs 0 tx re x → Fcl bs h h4 → KP (.inr 1) (bump h4)) (ko : ∀ m, TXok tx tn m → (∀ j : Nat, j < m → AOk tx tn v j) → ∀ h4, Com T N bs h4 i → SD T N bs h4 (wkV tx tn v m) iss sv (pushN n) (pushH n hs v) 0 tx re er → IvS (wkV tx tn v m) iss sv (pushN n) (pushH n hs v) 0 tx re er → Fcl bs h h4 → KP (.inl (some (vi (J (m : Int))))) h4) (kx : ∀ m, TXok tx tn m → ¬ (∀ j : Nat, j < m → AOk tx tn v j) → ∀ h4, Com T N bs h4 i → SD T N bs h4 v iss sv n hs 0 tx re er → IvS v iss sv n hs 0 tx re er → Fcl bs h h4 → KP (.inr 0) (bump h4)) : CALL T N 139 [vr (some bs)] h KP := by
  have o := C.o
  have P := C.inp I D
  have tb := P.2.2.2.2.2.1
  have g5 : gr h bs 5 = some (bs + 3250) := o.2.2.2.2.2.2.1
  refine z139 o.1 ⟨bs + 3250, g5, P.1, d_findError P (fun x hx => ⟨fun z => ?_, fun _ => ?_⟩) (fun m hm => ⟨fun _ => ?_, fun z => absurd rfl z⟩)⟩
  · have := hx.bd tb.1; omega
  · have xb := hx.bd tb.1
    intro h4 e4
    obtain ⟨C4, D4, I4, L4, g4⟩ := dv_er C I D (by omega) e4
    refine ⟨bs + 3250, C4.o.2.2.2.2.2.2.1, P.1, fun h5 e5 => ?_⟩
    obtain ⟨C5, D5, I5, L5, -, -⟩ := dv_in0 C4 I4 D4 e5
    exact ⟨C5.t0, ke x hx h5 C5 D5 I5 (L4.tr L5)⟩
  · refine ⟨bs + 589, o.2.2.2.1, C.1.his.1, ?_⟩
    rw [o.2.1]
    have DD := D.2.2.1
    obtain ⟨d1, d2, d3, d4⟩ := id DD
    obtain ⟨oo, ho⟩ : ∃ oo, oo = ai h (bs + 589) 1 := ⟨_, rfl⟩
    have hw := HW_lo (bs := bs) oo n
    refine d_sketch C.1 C.2.1 d3 ⟨d1, d2⟩ D.1 I.1 fun h2 F2 g2 W2 => ?_
    rw [← ho] at F2 W2
    have C2 := C.to F2 g2
    have D2 := D.hi I (fun x z => F2.1 x (by omega)) (DH_sk DD ho.symm I.2.2.2.2.1 fun x q1 q2 q3 => F2.1 x q3)
    have L2 : Fcl bs h h2 := Fcl.fp F2 fun x z => by omega
    have s2 := F2.1 (bs + 589) (by omega)
    refine z152 (c_152 (h := h2) I hm (fun al h4 C4 D4 I4 L4 F4 => ?_) (fun na v' h4 C4 D4 I4 L4 F4 => ?_) m 0 h2 (by omega) (fun j hj => absurd hj (Nat.not_lt_zero _)) C2 D2 I (fun _ _ => sm.rf) Fp.rf)
    · refine ⟨bs + 3250, C4.o.2.2.2.2.2.2.1, P.1, fun h5 e5 => ?_⟩
      obtain ⟨C5, D5, I5, L5, F5, g5'⟩ := dv_in0 C4 I4 D4 e5
      have s4 := F4.1 (bs + 589) (by omega)
      have s5 := F5.1 (bs + 589) (by omega)
      refine ⟨fun z => by omega, fun _ => ⟨bs + 589, C5.o.2.2.2.1, C5.1.his.1, ?_⟩⟩
      refine d_keep C5.1 (n := n) (o := oo) ⟨by rw [s5.ai, s4.ai, s2.ai]; exact d1, d2⟩ ⟨by rw [s5.ai, s4.ai, s2.ai]; exact ho.symm, by omega⟩ fun h6 F6 g6 e0 e1 => ?_
      have D6 := DH_push DD ho.symm I.2.2.2.2.1 I.1 (fun x q1 q2 q3 => F2.1 x q3) W2 (fun x q1 q2 => ((F4.1 x (by omega)).tr (F5.1 x (by omega))).tr (F6.1 x (by omega))) e0 e1
      have I0 : IvS v iss sv n hs 0 tx re er := ⟨I.1, I.2.1, I.2.2.1, I.2.2.2.1, I.2.2.2.2.1, I5.2.2.2.2.2.1, I5.2.2.2.2.2.2.1, I.2.2.2.2.2.2.2.1, I.2.2.2.2.2.2.2.2⟩
      exact ko m hm al h6 (C5.to F6 g6) (D5.hi I5 (fun x z => F6.1 x (by omega)) D6) (I0.push I5.1) ((L2.tr L4).tr (L5.tr (Fcl.fp F6 fun x z => by omega)))
    · refine ⟨bs + 3250, C4.o.2.2.2.2.2.2.1, P.1, fun h5 e5 => ?_⟩
      obtain ⟨C5, D5, I5, L5, F5, g5'⟩ := dv_in0 C4 I4 D4 e5
      have s4 := F4.1 (bs + 589) (by omega)
      have s5 := F5.1 (bs + 589) (by omega)
      refine ⟨fun _ => ⟨bs + 589, C5.o.2.2.2.1, C5.1.his.1, ?_⟩, fun z => absurd rfl z⟩
      rw [C5.o.2.1]
      have W5 : Wo T N h5 (HW bs oo n) v := (W2.fr (fun b q1 q2 => F4.1 b (by omega)) I.1).fr (fun b q1 q2 => F5.1 b (by omega)) I.1
      refine d_takeBack C5.1 C5.2.1 (n := n) (o := oo) ⟨by rw [s5.ai, s4.ai, s2.ai]; exact d1, d2⟩ ⟨by rw [s5.ai, s4.ai, s2.ai]; exact ho.symm, by omega⟩ W5 I.1 fun h6 F6 g6 W6 => ?_
      obtain ⟨C6, D6, I6, L6⟩ := dv_wo C5 I5 D5 (F6.mo fun x z => by omega) W6 I.1
      exact ⟨C6.t0, kx m hm na h6 C6 D6 I6 ((L2.tr L4).tr (L5.tr L6))⟩
end CRD
