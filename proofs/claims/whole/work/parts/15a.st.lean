/-! THE STATE OF BOTH SIDES -/
def IvS (v : Int → Int) (iss : Int) (sv : Int → Int) (n : Int) (hs : Int → Int → Int) (tn : Int) (tx : Int → Int) (re er : Int) : Prop :=
  Iv v ∧ (iss = 0 ∨ iss = 1) ∧ (iss = 1 → Iv sv) ∧ (0 ≤ n ∧ n ≤ 8) ∧ (∀ i, 0 ≤ i → i < n → Iv (hs i)) ∧ (0 ≤ tn ∧ tn ≤ 60) ∧ (∀ i, 0 ≤ i → i < tn → 32 ≤ tx i ∧ tx i ≤ 126) ∧ (0 ≤ re ∧ re ≤ 5) ∧ (-1 ≤ er ∧ er ≤ 60)
/-- the class -/
def SD (T N : Nat → Nat) (bs : Nat) (h : PH) (v : Int → Int) (iss : Int) (sv : Int → Int) (n : Int) (hs : Int → Int → Int) (tn : Int) (tx : Int → Int) (re er : Int) : Prop :=
  Wo T N h (bs + 1) v ∧ (ai h bs 7 = iss ∧ (iss = 1 → Wo T N h (bs + 295) sv)) ∧ DH T N bs h n hs ∧ (ai h (bs + 3250) 0 = tn ∧ ∀ i, 0 ≤ i → i < tn → ai h (bs + 3251) i = tx i) ∧ (ai h bs 8 = (if re = 0 then -1 else re) ∧ ai h bs 9 = er)
/-- the reference -/
def SR (A : Nat) (h : PH) (v : Int → Int) (iss : Int) (sv : Int → Int) (n : Int) (hs : Int → Int → Int) (tn : Int) (tx : Int → Int) (re er : Int) : Prop :=
  Rv A h v ∧ (ai h A 9 = iss ∧ (iss = 1 → ∀ j, 0 ≤ j → j < 449 → ai h (A + 2) j = sv j)) ∧ RH A h n hs ∧ (ai h A 11 = tn ∧ ∀ i, 0 ≤ i → i < tn → ai h (A + 6) i = tx i) ∧ (ai h A 7 = re ∧ ai h A 8 = er)
/-- what is common: places, room -/
def Com (T N : Nat → Nat) (bs : Nat) (h : PH) (i : Nat) : Prop := S1 T N bs h ∧ S2 T N bs h ∧ nx h = bs + 3311 ∧ ce h ≤ 3311 + i ∧ sl h ≤ 100000 + 6 * i
/-- all but the class's part is the same -/
def Fcl (bs : Nat) (h h2 : PH) : Prop := ∀ x, ¬ ((bs ≤ x ∧ x < bs + 3296) ∨ x = bs + 3309 ∨ x = bs + 3310) → sm x h h2
/-- all but the reference's part is the same -/
def Fm (bs : Nat) (h h2 : PH) : Prop := ∀ x, ¬ (bs + 3296 ≤ x ∧ x < bs + 3309) → sm x h h2
section STT
variable {T N : Nat → Nat} {bs A a b w : Nat} {h h2 h3 : PH} {v u sv tx e : Int → Int} {hs hs2 : Int → Int → Int} {iss n tn re er d t : Int} {i : Nat} {K : Int → PH → Prop} {KV : PH → Prop}
theorem SD.fr (S : SD T N bs h v iss sv n hs tn tx re er) (I : IvS v iss sv n hs tn tx re er) (s : ∀ x, bs ≤ x → x < bs + 3252 → ¬ (bs + 3237 ≤ x ∧ x < bs + 3250) → sm x h h2) : SD T N bs h2 v iss sv n hs tn tx re er := by
  obtain ⟨s1, ⟨s2, s3⟩, s4, ⟨s5, s6⟩, s7, s8⟩ := S
  have e0 := s bs (by omega) (by omega) (by omega)
  have e1 := s (bs + 3250) (by omega) (by omega) (by omega)
  have e2 := s (bs + 3251) (by omega) (by omega) (by omega)
  refine ⟨s1.fr (fun b q1 q2 => s b (by omega) (by omega) (by omega)) I.1, ⟨by rw [e0.ai]; exact s2, fun z => (s3 z).fr (fun b q1 q2 => s b (by omega) (by omega) (by omega)) (I.2.2.1 z)⟩, s4.fr I.2.2.2.2.1 (fun b q1 q2 => s b (by omega) (by omega) (by omega)), ⟨by rw [e1.ai]; exact s5, fun i h1 h2 => by rw [e2.ai]; exact s6 i h1 h2⟩, by rw [e0.ai]; exact s7, by rw [e0.ai]; exact s8⟩
theorem SD.wo (S : SD T N bs h v iss sv n hs tn tx re er) (I : IvS v iss sv n hs tn tx re er) (s : ∀ x, ¬ (bs + 1 ≤ x ∧ x < bs + 295) → sm x h h2) (W : Wo T N h2 (bs + 1) u) : SD T N bs h2 u iss sv n hs tn tx re er := by
  obtain ⟨s1, ⟨s2, s3⟩, s4, ⟨s5, s6⟩, s7, s8⟩ := S
  have e0 := s bs (by omega)
  have e1 := s (bs + 3250) (by omega)
  have e2 := s (bs + 3251) (by omega)
  refine ⟨W, ⟨by rw [e0.ai]; exact s2, fun z => (s3 z).fr (fun b q1 q2 => s b (by omega)) (I.2.2.1 z)⟩, s4.fr I.2.2.2.2.1 (fun b q1 q2 => s b (by omega)), ⟨by rw [e1.ai]; exact s5, fun i h1 h2 => by rw [e2.ai]; exact s6 i h1 h2⟩, by rw [e0.ai]; exact s7, by rw [e0.ai]; exact s8⟩
theorem SD.hi (S : SD T N bs h v iss sv n hs tn tx re er) (I : IvS v iss sv n hs tn tx re er) {n2 : Int} (s : ∀ x, ¬ (bs + 589 ≤ x ∧ x < bs + 3237) → sm x h h2) (D : DH T N bs h2 n2 hs2) : SD T N bs h2 v iss sv n2 hs2 tn tx re er := by
  obtain ⟨s1, ⟨s2, s3⟩, s4, ⟨s5, s6⟩, s7, s8⟩ := S
  have e0 := s bs (by omega)
  have e1 := s (bs + 3250) (by omega)
  have e2 := s (bs + 3251) (by omega)
  refine ⟨s1.fr (fun b q1 q2 => s b (by omega)) I.1, ⟨by rw [e0.ai]; exact s2, fun z => (s3 z).fr (fun b q1 q2 => s b (by omega)) (I.2.2.1 z)⟩, D, ⟨by rw [e1.ai]; exact s5, fun i h1 h2 => by rw [e2.ai]; exact s6 i h1 h2⟩, by rw [e0.ai]; exact s7, by rw [e0.ai]; exact s8⟩
theorem IvS.push (I : IvS v iss sv n hs tn tx re er) (J : Iv u) : IvS u iss sv (pushN n) (pushH n hs v) tn tx re er := ⟨J, I.2.1, I.2.2.1, pushN_b I.2.2.2.1, push_Iv I.2.2.2.1 I.2.2.2.2.1 I.1, I.2.2.2.2.2⟩
theorem Com.s1 (C : Com T N bs h i) : S1 T N bs h := C.1
theorem Com.s2 (C : Com T N bs h i) : S2 T N bs h := C.2.1
theorem Com.fr {P : Nat → Prop} (C : Com T N bs h i) (F : Fp P h h2) (Q : S2 T N bs h2) (s : ∀ b, b = bs ∨ b = bs + 589 ∨ b = bs + 590 ∨ (bs + 3237 ≤ b ∧ b < bs + 3252) ∨ b = bs + 3296 → ∀ k, gr h2 b k = gr h b k) : Com T N bs h2 i := ⟨C.1.fr s, Q, F.2.2.1.trans C.2.2.1, by rw [F.2.2.2.1]; exact C.2.2.2.1, by rw [F.2.2.2.2]; exact C.2.2.2.2⟩
theorem Com.to {P : Nat → Prop} (C : Com T N bs h i) (F : Fp P h h2) (g : gr h2 = gr h) : Com T N bs h2 i := C.fr F (C.2.1.to g) fun b _ k => by rw [g]
theorem Com.up (C : Com T N bs h i) : Com T N bs h (i + 1) := ⟨C.1, C.2.1, C.2.2.1, by have := C.2.2.2.1; omega, by have := C.2.2.2.2; omega⟩
theorem Com.bm (C : Com T N bs h i) : Com T N bs (bump h) (i + 1) := ⟨C.1.to rfl, C.2.1.to rfl, C.2.2.1, by have := C.2.2.2.1; show ce h + 1 ≤ _; omega, by have := C.2.2.2.2; show sl h + 6 ≤ _; omega⟩
theorem Com.t0 (C : Com T N bs h i) : ∀ a, nx h ≤ a → T a = 0 := fun a ha => C.1.2.2.2.2.2.2.2.2.2.2 a (by have := C.2.2.1; omega)
theorem Com.rt (C : Com T N bs h i) : RT T N (bs + 3296) h := C.1.2.2.2.2.2.2.2.2.1
theorem Com.out (C : Com T N bs h i) : T (bs + 3309) = 24 ∧ N (bs + 3309) = 1 ∧ T (bs + 3310) = 25 ∧ N (bs + 3310) = 1 := C.1.2.2.2.2.2.2.2.2.2.1
theorem Com.o (C : Com T N bs h i) : T bs = 11 ∧ gr h bs 0 = some (bs + 1) ∧ gr h bs 1 = some (bs + 295) ∧ gr h bs 2 = some (bs + 589) ∧ gr h bs 3 = some (bs + 3237) ∧ gr h bs 4 = some (bs + 3248) ∧ gr h bs 5 = some (bs + 3250) ∧ gr h bs 6 = some (bs + 3252) := C.1.1
theorem sm_bump : sm b h (bump h) := ⟨fun _ => rfl, fun _ => rfl, fun _ => rfl⟩
theorem SD.bm (S : SD T N bs h v iss sv n hs tn tx re er) (I : IvS v iss sv n hs tn tx re er) : SD T N bs (bump h) v iss sv n hs tn tx re er := S.fr I fun x _ _ _ => sm_bump
theorem Fcl.rf : Fcl bs h h := fun x _ => sm.rf
theorem Fcl.tr (s : Fcl bs h h2) (t : Fcl bs h2 h3) : Fcl bs h h3 := fun x g => (s x g).tr (t x g)
theorem Fcl.fp {P : Nat → Prop} (F : Fp P h h2) (i : ∀ x, P x → (bs ≤ x ∧ x < bs + 3296) ∨ x = bs + 3309 ∨ x = bs + 3310) : Fcl bs h h2 := fun x g => F.1 x fun z => g (i x z)
theorem Fcl.bm : Fcl bs h (bump h) := fun x _ => sm_bump
theorem Fm.rf : Fm bs h h := fun x _ => sm.rf
theorem Fm.tr (s : Fm bs h h2) (t : Fm bs h2 h3) : Fm bs h h3 := fun x g => (s x g).tr (t x g)
theorem FR.sm {P : Nat → Nat → Prop} (F : FR P h h2) (g : ∀ k, ¬ P b k) : sm b h h2 := ⟨fun k => F.2 b k (g k), fun k => by rw [F.gr], fun k => by show h2.2.1 b k = h.2.1 b k; rw [F.1]⟩
theorem Fm.fr {P : Nat → Nat → Prop} (F : FR P h h2) (g : ∀ b k, P b k → bs + 3296 ≤ b ∧ b < bs + 3309) : Fm bs h h2 := fun x z => F.sm fun k q => z (g x k q)
theorem Com.fm {P : Nat → Nat → Prop} (C : Com T N bs h i) (F : FR P h h2) : Com T N bs h2 i := by
  have e : h2.2 = h.2 := F.1
  refine ⟨C.1.to F.gr, C.2.1.to F.gr, ?_, ?_, ?_⟩
  · show h2.2.2.2.2.1 = _; rw [e]; exact C.2.2.1
  · show h2.2.2.2.2.2.1 ≤ _; rw [e]; exact C.2.2.2.1
  · show h2.2.2.2.2.2.2 ≤ _; rw [e]; exact C.2.2.2.2
theorem SD.fm (S : SD T N bs h v iss sv n hs tn tx re er) (I : IvS v iss sv n hs tn tx re er) (F : Fm bs h h2) : SD T N bs h2 v iss sv n hs tn tx re er := S.fr I fun x q1 q2 q3 => F x (by omega)
theorem SR.fd (S : SR (bs + 3296) h v iss sv n hs tn tx re er) (F : Fcl bs h h2) : SR (bs + 3296) h2 v iss sv n hs tn tx re er := by
  have s : ∀ x, bs + 3296 ≤ x → x < bs + 3309 → sm x h h2 := fun x q1 q2 => F x (by omega)
  obtain ⟨s1, ⟨s2, s3⟩, ⟨s4, s4'⟩, ⟨s5, s6⟩, s7, s8⟩ := S
  have e0 := s (bs + 3296) (by omega) (by omega)
  have e1 := s (bs + 3296 + 1) (by omega) (by omega); have e2 := s (bs + 3296 + 2) (by omega) (by omega); have e5 := s (bs + 3296 + 5) (by omega) (by omega); have e6 := s (bs + 3296 + 6) (by omega) (by omega)
  exact ⟨fun j a b => by rw [e1.ai]; exact s1 j a b, ⟨by rw [e0.ai]; exact s2, fun z j a b => by rw [e2.ai]; exact s3 z j a b⟩, ⟨by rw [e0.ai]; exact s4, fun i a b j c d => by rw [e5.ai]; exact s4' i a b j c d⟩, ⟨by rw [e0.ai]; exact s5, fun i a b => by rw [e6.ai]; exact s6 i a b⟩, by rw [e0.ai]; exact s7, by rw [e0.ai]; exact s8⟩
/-- the reference's state behind a call that writes row and scratch -/
theorem SR.vv (S : SR A h v iss sv n hs tn tx re er) (F : FR (RVw A) h h2) (V : Rv A h2 u) : SR A h2 u iss sv n hs tn tx re er := by
  obtain ⟨s1, ⟨s2, s3⟩, ⟨s4, s4'⟩, ⟨s5, s6⟩, s7, s8⟩ := S
  have f : ∀ {k : Int}, k.toNat = 6 ∨ k.toNat = 7 ∨ k.toNat = 8 ∨ k.toNat = 9 ∨ k.toNat = 11 → ai h2 A k = ai h A k := fun z => F.ai (by unfold RVw Scr; omega)
  exact ⟨V, ⟨by rw [f (by decide)]; exact s2, fun z j a b => by rw [F.ai (by unfold RVw Scr; omega)]; exact s3 z j a b⟩, ⟨by rw [f (by decide)]; exact s4, fun i a b j c d => by rw [F.ai (by unfold RVw Scr; omega)]; exact s4' i a b j c d⟩, ⟨by rw [f (by decide)]; exact s5, fun i a b => by rw [F.ai (by unfold RVw Scr; omega)]; exact s6 i a b⟩, by rw [f (by decide)]; exact s7, by rw [f (by decide)]; exact s8⟩
theorem SR.k (S : SR A h v iss sv n hs tn tx re er) (F : FR (Kw A) h h2) {n2 : Int} (V : RH A h2 n2 hs2) : SR A h2 v iss sv n2 hs2 tn tx re er := by
  obtain ⟨s1, ⟨s2, s3⟩, s4, ⟨s5, s6⟩, s7, s8⟩ := S
  have f : ∀ {k : Int}, k.toNat ≠ 6 → ai h2 A k = ai h A k := fun z => F.ai (by unfold Kw; omega)
  exact ⟨fun j a b => by rw [F.ai (by unfold Kw; omega)]; exact s1 j a b, ⟨by rw [f (by decide)]; exact s2, fun z j a b => by rw [F.ai (by unfold Kw; omega)]; exact s3 z j a b⟩, V, ⟨by rw [f (by decide)]; exact s5, fun i a b => by rw [F.ai (by unfold Kw; omega)]; exact s6 i a b⟩, by rw [f (by decide)]; exact s7, by rw [f (by decide)]; exact s8⟩
theorem SR.cg (S : SR A h v iss sv n hs tn tx re er) (e : ∀ i, 0 ≤ i → i < n → ∀ j, 0 ≤ j → j < 449 → hs i j = hs2 i j) : SR A h v iss sv n hs2 tn tx re er := ⟨S.1, S.2.1, S.2.2.1.cg e, S.2.2.2⟩
theorem pushH_cg (hn : 0 ≤ n ∧ n ≤ 8) (e : ∀ j, 0 ≤ j → j < 449 → u j = v j) : ∀ i, 0 ≤ i → i < pushN n → ∀ j, 0 ≤ j → j < 449 → pushH n hs u i j = pushH n hs v i j := by
  intro i h1 h2 j h3 h4
  unfold pushH
  by_cases c : n = 8
  · rw [if_pos c, if_pos c]
    by_cases c2 : i = 7
    · rw [if_pos c2, if_pos c2]; exact e j h3 h4
    · rw [if_neg c2, if_neg c2]
  · rw [if_neg c, if_neg c]
    by_cases c2 : i = n
    · rw [if_pos c2, if_pos c2]; exact e j h3 h4
    · rw [if_neg c2, if_neg c2]
/-- keeps, on the state -/
theorem rs_keeps (R : RT T N A h) (S : SR A h v iss sv n hs tn tx re er) (hn : 0 ≤ n ∧ n ≤ 8) (k : ∀ h2, RT T N A h2 → FR (Kw A) h h2 → SR A h2 v iss sv (pushN n) (pushH n hs v) tn tx re er → KV h2) : CV T N 160 [vr (some A)] h KV :=
  r_keeps R S.2.2.1 hn fun h2 R2 F2 H2 => k h2 R2 F2 ((S.k F2 H2).cg (pushH_cg hn S.1))
/-- thrown is written -/
theorem SR.th (S : SR A h v iss sv n hs tn tx re er) {x : Int} : SR A (wi h A 0 x) v iss sv n hs tn tx re er ∧ FR (Scr A) h (wi h A 0 x) := by
  have F : FR (Scr A) h (wi h A 0 x) := FR.pw (Or.inl ⟨rfl, by decide⟩)
  exact ⟨S.vv (F.mo fun b k z => Or.inr z) (S.1.fr F), F⟩
end STT
