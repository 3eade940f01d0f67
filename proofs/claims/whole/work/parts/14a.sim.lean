/-! BOTH SIDES SAY THE SAME: what lies where, what each side says -/
/-- places and references that never change -/
def S1 (T N : Nat → Nat) (bs : Nat) (h : PH) : Prop :=
  (T bs = 11 ∧ gr h bs 0 = some (bs + 1) ∧ gr h bs 1 = some (bs + 295) ∧ gr h bs 2 = some (bs + 589) ∧ gr h bs 3 = some (bs + 3237) ∧ gr h bs 4 = some (bs + 3248) ∧ gr h bs 5 = some (bs + 3250) ∧ gr h bs 6 = some (bs + 3252)) ∧
  (T (bs + 589) = 5 ∧ gr h (bs + 589) 2 = some (bs + 590) ∧ T (bs + 590) = 40 ∧ N (bs + 590) = 9 ∧ ∀ j : Nat, j < 9 → gr h (bs + 590) j = some (bs + 591 + 294 * j)) ∧
  (T (bs + 3237) = 8 ∧ gr h (bs + 3237) 4 = some (bs + 3238) ∧ gr h (bs + 3237) 5 = some (bs + 3240) ∧ gr h (bs + 3237) 6 = some (bs + 3242) ∧ gr h (bs + 3237) 7 = some (bs + 3243) ∧ gr h (bs + 3237) 8 = some (bs + 3244) ∧ gr h (bs + 3237) 9 = some (bs + 3245) ∧ gr h (bs + 3237) 10 = some (bs + 3246) ∧ gr h (bs + 3237) 11 = some (bs + 3247)) ∧
  (T (bs + 3238) = 9 ∧ gr h (bs + 3238) 0 = some (bs + 3239) ∧ T (bs + 3239) = 22 ∧ N (bs + 3239) = 10) ∧ (T (bs + 3240) = 1 ∧ gr h (bs + 3240) 0 = some (bs + 3241) ∧ T (bs + 3241) = 24 ∧ N (bs + 3241) = 96) ∧
  (T (bs + 3242) = 22 ∧ N (bs + 3242) = 3840 ∧ T (bs + 3243) = 22 ∧ N (bs + 3243) = 3840 ∧ T (bs + 3244) = 22 ∧ N (bs + 3244) = 30 ∧ T (bs + 3245) = 22 ∧ N (bs + 3245) = 30 ∧ T (bs + 3246) = 22 ∧ N (bs + 3246) = 30 ∧ T (bs + 3247) = 22 ∧ N (bs + 3247) = 30) ∧
  (T (bs + 3248) = 9 ∧ gr h (bs + 3248) 0 = some (bs + 3249) ∧ T (bs + 3249) = 22 ∧ N (bs + 3249) = 10) ∧ (T (bs + 3250) = 6 ∧ gr h (bs + 3250) 1 = some (bs + 3251) ∧ T (bs + 3251) = 23 ∧ N (bs + 3251) = 60) ∧
  RT T N (bs + 3296) h ∧ (T (bs + 3309) = 24 ∧ N (bs + 3309) = 1 ∧ T (bs + 3310) = 25 ∧ N (bs + 3310) = 1) ∧ ∀ a, bs + 3311 ≤ a → T a = 0
/-- all worlds and the ghost -/
def S2 (T N : Nat → Nat) (bs : Nat) (h : PH) : Prop := WO T N h (bs + 1) ∧ WO T N h (bs + 295) ∧ (∀ j : Nat, j < 9 → WO T N h (bs + 591 + 294 * j)) ∧ DT T N h (bs + 3252)
/-- the world that was remembered i-th -/
def HW (bs : Nat) (o i : Int) : Nat := bs + 591 + 294 * ((o + i) % 9).toNat
/-- the class's memory of n rows -/
def DH (T N : Nat → Nat) (bs : Nat) (h : PH) (n : Int) (hs : Int → Int → Int) : Prop :=
  ai h (bs + 589) 0 = n ∧ (0 ≤ n ∧ n ≤ 8) ∧ (0 ≤ ai h (bs + 589) 1 ∧ ai h (bs + 589) 1 < 9) ∧ ∀ i, 0 ≤ i → i < n → Wo T N h (HW bs (ai h (bs + 589) 1) i) (hs i)
def RH (A : Nat) (h : PH) (n : Int) (hs : Int → Int → Int) : Prop := ai h A 6 = n ∧ ∀ i, 0 ≤ i → i < n → ∀ j, 0 ≤ j → j < 449 → ai h (A + 5) (449 * i + j) = hs i j
def pushN (n : Int) : Int := if n = 8 then 8 else n + 1
def pushH (n : Int) (hs : Int → Int → Int) (v : Int → Int) : Int → Int → Int := if n = 8 then fun i => if i = 7 then v else hs (i + 1) else fun i => if i = n then v else hs i
section SIM
variable {T N : Nat → Nat} {bs A a b lo hi : Nat} {h h2 h3 : PH} {u v e e2 g : Int → Int} {hs : Int → Int → Int} {d t n : Int} {K : Int → PH → Prop} {KV : PH → Prop}
theorem S1.to (S : S1 T N bs h) (e : gr h2 = gr h) : S1 T N bs h2 := by unfold S1 RT at S ⊢; rw [e]; exact S
theorem S2.to (S : S2 T N bs h) (e : gr h2 = gr h) : S2 T N bs h2 := ⟨S.1.to e, S.2.1.to e, fun j hj => (S.2.2.1 j hj).to e, S.2.2.2.to e⟩
/-- everything but worlds and ghost -/
theorem S1.fr (S : S1 T N bs h) (s : ∀ b, b = bs ∨ b = bs + 589 ∨ b = bs + 590 ∨ (bs + 3237 ≤ b ∧ b < bs + 3252) ∨ b = bs + 3296 → ∀ k, gr h2 b k = gr h b k) : S1 T N bs h2 := by
  unfold S1 RT at S ⊢
  have s0 := s bs (by omega); have s1 := s (bs + 589) (by omega); have s2 := s (bs + 590) (by omega); have s3 := s (bs + 3237) (by omega); have s4 := s (bs + 3238) (by omega); have s5 := s (bs + 3240) (by omega); have s6 := s (bs + 3248) (by omega); have s7 := s (bs + 3250) (by omega); have s8 := s (bs + 3296) (by omega)
  simp only [s0, s1, s2, s3, s4, s5, s6, s7, s8]
  exact S
theorem DH.fr (D : DH T N bs h n hs) (I : ∀ i, 0 ≤ i → i < n → Iv (hs i)) (s : ∀ b, bs + 589 ≤ b → b < bs + 3237 → sm b h h2) : DH T N bs h2 n hs := by
  obtain ⟨D1, D2, D3, D4⟩ := D
  have s0 := s (bs + 589) (by omega) (by omega)
  refine ⟨by rw [s0.ai]; exact D1, D2, by rw [s0.ai]; exact D3, fun i h1 h2 => ?_⟩
  rw [s0.ai]
  exact (D4 i h1 h2).fr (fun b e1 e2 => s b (by unfold HW at e1; omega) (by unfold HW at e2; omega)) (I i h1 h2)
theorem pushN_b (h : 0 ≤ n ∧ n ≤ 8) : 0 ≤ pushN n ∧ pushN n ≤ 8 := by unfold pushN; split <;> omega
theorem push_Iv (h : 0 ≤ n ∧ n ≤ 8) (I : ∀ i, 0 ≤ i → i < n → Iv (hs i)) (J : Iv v) : ∀ i, 0 ≤ i → i < pushN n → Iv (pushH n hs v i) := by
  intro i h1 h2
  unfold pushN at h2
  unfold pushH
  by_cases c : n = 8
  · rw [if_pos c] at h2 ⊢
    by_cases c2 : i = 7
    · rw [if_pos c2]; exact J
    · rw [if_neg c2]; exact I _ (by omega) (by omega)
  · rw [if_neg c] at h2 ⊢
    by_cases c2 : i = n
    · rw [if_pos c2]; exact J
    · rw [if_neg c2]; exact I _ (by omega) (by omega)
/-- what keeps writes -/
def Kw (A b k : Nat) : Prop := b = A + 5 ∨ (b = A ∧ k = 6)
theorem r_keeps_2 (R : RT T N A h) {hs2 : Int → Int → Int} (hn : 0 ≤ n ∧ n ≤ 7) (k : ∀ h2, RT T N A h2 → FR (Kw A) h h2 → RH A h2 (n + 1) (fun i => if i = n then ai h (A + 1) else hs2 i) → KV h2) :
    ∀ (m : Nat) (x : Int) (h3 : PH), x = 449 - m → 0 ≤ x → FR (Kw A) h h3 → ai h3 A 6 = n → (∀ i, 0 ≤ i → i < n → ∀ j, 0 ≤ j → j < 449 → ai h3 (A + 5) (449 * i + j) = hs2 i j) → (∀ j, 0 ≤ j → j < x → ai h3 (A + 5) (449 * n + j) = ai h (A + 1) j) → WV T N 160 52 [some (vr (some A)), some (vi (J x))] [] h3 KV := by
  intro m
  induction m with
  | zero =>
    intro x h3 hx h0 F e6 C D
    have R3 := R.fr F
    refine z160_52 R.t (by omega) ⟨fun c => by omega, fun c => ?_⟩
    intro h4 z4
    rw [e6] at z4
    have F4 : FR (Kw A) h h4 := by subst z4; exact F.tr (FR.pw (Or.inr ⟨rfl, rfl⟩))
    refine k h4 (R.fr F4) F4 ⟨by subst z4; exact rd_eq rfl rfl (by omega), fun i h1 h2 j h3 h5 => ?_⟩
    subst z4
    rw [rd_a (by omega)]
    dsimp only
    by_cases c2 : i = n
    · rw [if_pos c2, c2]; exact D j h3 (by omega)
    · rw [if_neg c2]; exact C i h1 (by omega) j h3 h5
  | succ m ih =>
    intro x h3 hx h0 F e6 C D
    have R3 := R.fr F
    have n1 := R.a1.2.1
    have n5 := R.a5.2.1
    refine z160_52 R.t (by omega) ⟨fun c => ?_, fun c => absurd (by omega) c⟩
    rw [e6]
    refine ⟨A + 1, R3.a1.2.2, R3.a1.1, by omega, A + 5, R3.a5.2.2, R3.a5.1, by omega, ?_⟩
    intro h4 z4
    have ev : ai h3 (A + 1) x = ai h (A + 1) x := F.ai (by unfold Kw; omega)
    refine ih (x + 1) h4 (by omega) (by omega) (by subst z4; exact F.tr (FR.pw (Or.inl rfl))) (by subst z4; rw [rd_a (by omega)]; exact e6) (fun i h1 h2 j h5 h6 => ?_) (fun j h1 h2 => ?_)
    · subst z4
      rw [rd_k (by omega) (by omega) (by omega)]; exact C i h1 h2 j h5 h6
    · subst z4
      by_cases c2 : j = x
      · rw [rd_eq rfl (by omega) (ai_in _ _ _), c2]; exact ev
      · rw [rd_k (by omega) (by omega) (by omega)]; exact D j h1 (by omega)
theorem r_keeps_1 (R : RT T N A h) (H : RH A h 8 hs) (k : ∀ h2, RT T N A h2 → FR (Kw A) h h2 → RH A h2 8 (fun i => if i = 7 then ai h (A + 1) else hs (i + 1)) → KV h2) :
    ∀ (m : Nat) (x : Int) (h3 : PH), x = 3143 - m → 0 ≤ x → FR (Kw A) h h3 → ai h3 A 6 = 8 → (∀ y, 0 ≤ y → y < 3592 → ai h3 (A + 5) y = if y < x then ai h (A + 5) (y + 449) else ai h (A + 5) y) → WV T N 160 11 [some (vr (some A)), some (vi (J x))] [] h3 KV := by
  intro m
  induction m with
  | zero =>
    intro x h3 hx h0 F e6 C
    refine z160_11 R.t (by omega) ⟨fun c => by omega, fun c => ?_⟩
    intro h4 z4
    rw [e6] at z4
    have F4 : FR (Kw A) h h4 := by subst z4; exact F.tr (FR.pw (Or.inr ⟨rfl, rfl⟩))
    have ev : ∀ j, ai h4 (A + 1) j = ai h (A + 1) j := fun j => F4.ai (by unfold Kw; omega)
    have ee : ai h4 (A + 1) = ai h (A + 1) := funext ev
    refine r_keeps_2 (h := h4) (hs2 := fun i => hs (i + 1)) (n := 7) (R.fr F4) (by omega) (fun h5 R5 F5 H5 => ?_) 449 0 h4 (by omega) (by omega) FR.rf (by subst z4; exact rd_eq rfl rfl (by omega)) (fun i h1 h2 j h5 h6 => ?_) (fun j h1 h2 => by omega)
    · rw [ee] at H5; exact k h5 R5 (F4.tr F5) H5
    · subst z4
      rw [rd_a (by omega), C _ (by omega) (by omega), if_pos (by omega)]
      have := H.2 (i + 1) (by omega) (by omega) j h5 h6
      rw [← this]; congr 1; omega
  | succ m ih =>
    intro x h3 hx h0 F e6 C
    have R3 := R.fr F
    have n5 := R.a5.2.1
    refine z160_11 R.t (by omega) ⟨fun c => ⟨A + 5, R3.a5.2.2, R3.a5.1, by omega, by omega, ?_⟩, fun c => absurd (by omega) c⟩
    intro h4 z4
    refine ih (x + 1) h4 (by omega) (by omega) (by subst z4; exact F.tr (FR.pw (Or.inl rfl))) (by subst z4; rw [rd_a (by omega)]; exact e6) (fun y h1 h2 => ?_)
    subst z4
    by_cases c2 : y = x
    · rw [rd_eq rfl c2 (ai_in _ _ _), if_pos (by omega), C _ (by omega) (by omega), if_neg (by omega), c2]
    · rw [rd_k c2 h1 h0, C y h1 h2]
      by_cases c3 : y < x
      · rw [if_pos c3, if_pos (by omega)]
      · rw [if_neg c3, if_neg (by omega)]
theorem RH.cg {hs2 : Int → Int → Int} (H : RH A h n hs) (e : ∀ i, 0 ≤ i → i < n → ∀ j, 0 ≤ j → j < 449 → hs i j = hs2 i j) : RH A h n hs2 := ⟨H.1, fun i h1 h2 j h3 h4 => by rw [H.2 i h1 h2 j h3 h4]; exact e i h1 h2 j h3 h4⟩
theorem r_keeps (R : RT T N A h) (H : RH A h n hs) (hn : 0 ≤ n ∧ n ≤ 8) (k : ∀ h2, RT T N A h2 → FR (Kw A) h h2 → RH A h2 (pushN n) (pushH n hs (ai h (A + 1))) → KV h2) : CV T N 160 [vr (some A)] h KV := by
  refine z160 R.t ⟨fun c => ?_, fun c => ?_⟩
  · have c' : n = 8 := by rw [← H.1]; exact c
    subst c'
    exact r_keeps_1 R H k 3143 0 h (by omega) (by omega) FR.rf H.1 fun y h1 h2 => by rw [if_neg (by omega)]
  · have c' : ¬ n = 8 := by rw [← H.1]; exact c
    unfold pushN pushH at k
    rw [if_neg c', if_neg c'] at k
    exact r_keeps_2 (h := h) (hs2 := hs) R (by omega) k 449 0 h (by omega) (by omega) FR.rf H.1 H.2 fun j h1 h2 => by omega
end SIM
