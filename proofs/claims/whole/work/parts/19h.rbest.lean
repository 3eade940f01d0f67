/-! SEARCH: the reference takes the best -/
def PB (A b k : Nat) : Prop := b = A ∧ (k = 21 ∨ k = 22)
def BInv (A : Nat) (h : PH) (v : Int → Int) (d q n i x : Int) : Prop := (x = -1 ∧ ∀ k, 0 ≤ k → k < i → ¬ Cand v d q n k) ∨ (Cand v d q n x ∧ x < i ∧ (∀ k, k < i → Cand v d q n k → ¬ ltK v d q k x) ∧ ai h A 21 = orgV v d + enK v x ∧ ai h A 22 = TK v d q x)
section RBE
variable {T N : Nat → Nat} {A : Nat} {h h0 h1 h2 h3 : PH} {v u : Int → Int} {d q e k l m n t x y a b o w j x1 x2 x3 x4 x9 : Int} {W : (Int → Int) × (Int → Int)} {p : Int × Int} {K : Int → PH → Prop} {KV : PH → Prop} {s c : Nat}
theorem r_isFirst (hx : 0 ≤ x ∧ x < 2147483648) (hy : 0 ≤ y ∧ y < 2147483648) (k1 : (x / 32 % 4 < y / 32 % 4 ∨ (x / 32 % 4 = y / 32 % 4 ∧ (x % 16 < y % 16 ∨ (x % 16 = y % 16 ∧ y / 128 < x / 128)))) → K 1 h) (k0 : ¬ (x / 32 % 4 < y / 32 % 4 ∨ (x / 32 % 4 = y / 32 % 4 ∧ (x % 16 < y % 16 ∨ (x % 16 = y % 16 ∧ y / 128 < x / 128)))) → K 0 h) : ZI T N 211 [vi (J x), vi (J y)] h K := by
  refine z211 (by omega) (by omega) (r_lOf hx (r_lOf hy ⟨fun c1 => r_cOf hx (r_cOf hy ⟨fun c2 => r_sOf hx (r_sOf hy ⟨fun c3 => k1 (Or.inr ⟨c1, Or.inr ⟨c2, c3⟩⟩), fun c3 => k0 fun z => ?_⟩), fun c2 => r_cOf hx (r_cOf hy ⟨fun c3 => k1 (Or.inr ⟨c1, Or.inl c3⟩), fun c3 => k0 fun z => ?_⟩)⟩), fun c1 => r_lOf hx (r_lOf hy ⟨fun c2 => k1 (Or.inl c2), fun c2 => k0 fun z => ?_⟩)⟩))
  · rcases z with z | ⟨z1, z | z⟩
    · rw [c1] at z; exact Int.lt_irrefl _ z
    · rw [c2] at z; exact Int.lt_irrefl _ z
    · exact c3 z.2
  · rcases z with z | ⟨z1, z | z⟩
    · rw [c1] at z; exact Int.lt_irrefl _ z
    · exact c3 z
    · exact c2 z.1
  · rcases z with z | ⟨z1, z⟩
    · exact c2 z
    · exact c1 z1
theorem BInv.no (G : BInv A h v d q n k x) (z : ¬ Cand v d q n k ∨ (0 ≤ x ∧ ¬ ltK v d q k x)) : BInv A h v d q n (k + 1) x := by
  rcases G with ⟨g1, g2⟩ | ⟨g1, g2, g3, g4⟩
  · refine Or.inl ⟨g1, fun k2 h1 h2 => ?_⟩
    by_cases c : k2 = k
    · rcases z with z | z
      · rw [c]; exact z
      · omega
    · exact g2 k2 h1 (by omega)
  · refine Or.inr ⟨g1, by omega, fun k2 h2 hc => ?_, g4⟩
    by_cases c : k2 = k
    · rcases z with z | z
      · rw [c] at hc; exact absurd hc z
      · rw [c]; exact z.2
    · exact g3 k2 (by omega) hc
theorem BInv.up (G : BInv A h v d q n k x) (hc : Cand v d q n k) (z : x = -1 ∨ ltK v d q k x) (e1 : ai h2 A 21 = orgV v d + enK v k) (e2 : ai h2 A 22 = TK v d q k) : BInv A h2 v d q n (k + 1) k := by
  refine Or.inr ⟨hc, by omega, fun k2 h2 c2 => ?_, e1, e2⟩
  by_cases c : k2 = k
  · rw [c]; exact lt4_ir
  · rcases G with ⟨g1, g2⟩ | ⟨g1, g2, g3, g4⟩
    · exact absurd c2 (g2 k2 c2.1 (by omega))
    · rcases z with z | z
      · have := g1.1; omega
      · exact fun y => g3 k2 (by omega) c2 (lt4_tr y z)
theorem r_bestL (R : RT T N A h) (V : Rv A h v) (I : Iv v) (S : SB A h v d) (G : RK A h v d q 3936) (hd : 0 ≤ d ∧ d < v 117) (hn : In n) (k1 : (∀ k, ¬ Cand v d q n k) → ∀ h2, FR (PB A) h h2 → K (-1) h2) (k0 : ∀ k, Bst v d q n k → ∀ h2, FR (PB A) h h2 → ai h2 A 21 = orgV v d + enK v k → ai h2 A 22 = TK v d q k → K k h2) :
    ∀ (m i : Nat) (x2 : Int) (h3 : PH), i + m = 3936 → FR (PB A) h h3 → BInv A h3 v d q n i x2 → ZW T N 210 28 [some (vr (some A)), some (vi (J n)), some (vi (J x2)), some (vi (J (i : Int))), none, none, none, none, none] [] h3 K := by
  have b := I.b
  have ob := org_b I hd
  have lm := lim_b I hd
  intro m
  induction m with
  | zero =>
    intro i x2 h3 hi F B
    have xb : -1 ≤ x2 ∧ x2 < 3936 := by
      rcases B with ⟨g1, g2⟩ | ⟨g1, g2, g3, g4⟩
      · omega
      · have := g1.1; omega
    refine z210_28 R.t hn (by omega) (by omega) ⟨fun z => by omega, fun _ => ?_⟩
    rcases B with ⟨g1, g2⟩ | ⟨g1, g2, g3, g4⟩
    · rw [g1]
      refine k1 (fun k z => ?_) h3 F
      have P := TK_pos I hd z.1 z.2.1
      exact g2 k z.1 (by omega) z
    · refine k0 x2 ⟨g1, fun k2 c2 => ?_⟩ h3 F g4.1 g4.2
      have P := TK_pos I hd c2.1 c2.2.1
      exact g3 k2 (by omega) c2
  | succ m ih =>
    intro i x2 h3 hi F B
    have R3 := R.fr F
    have n9 := R.a9.2.1
    have xb : -1 ≤ x2 ∧ x2 < 3936 := by
      rcases B with ⟨g1, g2⟩ | ⟨g1, g2, g3, g4⟩
      · omega
      · have := g1.1; omega
    have nxt : ∀ x h4, FR (PB A) h h4 → BInv A h4 v d q n ((i : Int) + 1) x → ZW T N 210 28 [some (vr (some A)), some (vi (J n)), some (vi (J x)), some (vi (J ((i : Int) + 1))), none, none, none, none, none] [] h4 K := fun x h4 F4 B4 => by
      have := ih (i + 1) x h4 (by omega) F4 (by rw [show ((i + 1 : Nat) : Int) = (i : Int) + 1 by omega]; exact B4)
      rw [show ((i + 1 : Nat) : Int) = (i : Int) + 1 by omega] at this; exact this
    have hno : (¬ Cand v d q n i ∨ (0 ≤ x2 ∧ ¬ ltK v d q i x2)) → ZW T N 210 223 [some (vr (some A)), some (vi (J n)), some (vi (J x2)), some (vi (J (i : Int))), none, none, none, none, none] [] h3 K := fun z => z210_223 hn (by omega) (by omega) (nxt x2 h3 F (B.no z))
    have e9 : ai h3 (A + 9) i = TK v d q i := by
      rw [F.ai (by unfold PB; omega)]
      have := (G i (by omega) (by omega)).1
      rw [if_pos (by omega)] at this; exact this
    have e18 : ai h3 A 18 = orgV v d := by rw [F.ai (by unfold PB; omega)]; exact S.1
    have V3 : Rv A h3 v := fun j a1 a2 => by rw [F.ai (by unfold PB; omega)]; exact V j a1 a2
    refine z210_28 R3.t hn (by omega) (by omega) ⟨fun _ => ⟨A + 9, R3.a9.2.2, R3.a9.1, by omega, ?_⟩, fun z => absurd (by omega) z⟩
    rw [e9]
    refine ⟨fun c => hno (Or.inl fun z => by have := z.2.1; omega), fun c => ?_⟩
    have P := TK_pos (q := q) I hd (k := (i : Int)) (by omega) (by omega)
    refine ⟨by omega, by omega, by omega, r_end R3 (by omega) (by omega) ?_⟩
    have e1 : ai h3 (A + 1) (12 + 4 * ((i : Int) % 96 / 6) + (1 - (i : Int) % 6 / 3)) = tnV v ((i : Int) % 96) := by
      rw [V3 _ (by omega) (by omega)]
      unfold tnV
      congr 1; omega
    rw [e1]
    refine ⟨fun c2 => ?_, fun c2 => hno (Or.inl fun z => c2 z.2.2)⟩
    have hC : Cand v d q n i := ⟨by omega, by omega, c2⟩
    have q1 : 0 ≤ (i : Int) % 96 ∧ (i : Int) % 96 < 96 := by omega
    have lb := ln_b I P.2.1
    have en : enK v i = (i : Int) / 96 + lnV v ((i : Int) % 96) := rfl
    have q2 : 0 ≤ orgV v d + (i : Int) / 96 ∧ orgV v d + (i : Int) / 96 ≤ 10200 := by omega
    have q3 : 0 ≤ (i : Int) ∧ (i : Int) < 3936 := by omega
    have q4 : 0 ≤ orgV v d ∧ orgV v d ≤ 10100 := by omega
    have ly := lgA_ok (t := orgV v d + (i : Int) / 96) I P.2.1 (by omega)
    have le := lgA_e (v := v) q1 q2.1
    have lr := lgA_r q1 q2
    have I1 : In (i : Int) := by omega
    have I2 : In x2 := by omega
    have Ie : In (orgV v d + enK v i) := by omega
    have tin : In (TK v d q i) := by omega
    have hup : (x2 = -1 ∨ ltK v d q i x2) → ZW T N 210 205 [some (vr (some A)), some (vi (J n)), none, some (vi (J (i : Int))), some (vi (J (orgV v d + enK v i))), none, none, none, none] [] h3 K := fun z => by
      refine z210_205 R3.t hn I1 Ie ?_
      intro h4 e4
      have R4 : RT T N A h4 := by subst e4; exact R3.to rfl
      refine ⟨A + 9, R4.a9.2.2, R4.a9.1, by omega, ?_⟩
      have e5 : ai h4 (A + 9) i = TK v d q i := by subst e4; rw [rd_a (by omega)]; exact e9
      rw [e5]
      intro h5 e5
      have F5 : FR (PB A) h h5 := by subst e5; subst e4; exact (F.tr (FR.pw ⟨rfl, by decide⟩)).tr (FR.pw ⟨rfl, by decide⟩)
      refine z210_223 hn I1 I1 (nxt i h5 F5 (B.up hC z ?_ ?_))
      · subst e5; subst e4
        rw [rd_k (by decide) (by decide) (by decide), rd_eq rfl rfl Ie]
      · subst e5
        rw [rd_eq rfl rfl tin]
    refine r_legAt R3 e18 q3 q4 (s_eOf R3 I V3 ly ?_)
    rw [le, Int.add_assoc, ← en]
    clear P lb le q2 V3 ob lm b c c2 e1
    rcases B with ⟨g1, g2⟩ | ⟨g1, g2, g3, g4, g5⟩
    · have c0 : x2 < 0 := by omega
      refine ⟨fun _ => z210_94 R3.t hn I2 I1 Ie ⟨fun _ => z210_118 hn I2 I1 Ie (by decide) (z210_143 R3.t hn I2 I1 Ie (by decide) (by decide) ⟨fun _ => z210_184 hn I2 I1 Ie (by decide) (by decide) ⟨(fun z => absurd z (by decide)), fun _ => hup (Or.inl g1)⟩, (fun z => absurd rfl z)⟩), fun z => absurd c0 z⟩, fun z => absurd c0 z⟩
    · have c0 : ¬ x2 < 0 := by have := g1.1; omega
      have P2 := TK_pos I hd g1.1 g1.2.1
      have r1 : 0 ≤ x2 % 96 ∧ x2 % 96 < 96 := by omega
      have lb2 := ln_b I P2.2.1
      have ob := org_b I hd
      have lm := lim_b I hd
      have b := I.b
      have en2 : enK v x2 = x2 / 96 + lnV v (x2 % 96) := rfl
      have r2 : 0 ≤ orgV v d + x2 / 96 ∧ orgV v d + x2 / 96 ≤ 10200 := by omega
      have r3 : 0 ≤ x2 ∧ x2 < 3936 := by omega
      have lr2 := lgA_r r1 r2
      have q2 : 0 ≤ orgV v d + (i : Int) / 96 := by omega
      clear P2 lb2 ob lm b
      have nolt : TK v d q i = TK v d q x2 → enK v i = enK v x2 → (lgA ((i : Int) % 96) (orgV v d + (i : Int) / 96) / 32 % 4 < lgA (x2 % 96) (orgV v d + x2 / 96) / 32 % 4 ∨ (lgA ((i : Int) % 96) (orgV v d + (i : Int) / 96) / 32 % 4 = lgA (x2 % 96) (orgV v d + x2 / 96) / 32 % 4 ∧ (lgA ((i : Int) % 96) (orgV v d + (i : Int) / 96) % 16 < lgA (x2 % 96) (orgV v d + x2 / 96) % 16 ∨ (lgA ((i : Int) % 96) (orgV v d + (i : Int) / 96) % 16 = lgA (x2 % 96) (orgV v d + x2 / 96) % 16 ∧ lgA (x2 % 96) (orgV v d + x2 / 96) / 128 < lgA ((i : Int) % 96) (orgV v d + (i : Int) / 96) / 128))) ↔ ltK v d q i x2) := fun z1 z2 => by
        rw [lgA_l q1 q2, lgA_l r1 r2.1, lgA_c q1 q2, lgA_c r1 r2.1]
        constructor
        · rintro (y | ⟨y1, y | y⟩)
          · exact Or.inr ⟨z2, Or.inr ⟨z1, Or.inl y⟩⟩
          · exact Or.inr ⟨z2, Or.inr ⟨z1, Or.inr ⟨y1, y⟩⟩⟩
          · have := Cand.un I hd hC g1 z2 y1 y.1
            omega
        · rintro (y | ⟨_, y | ⟨_, y | y⟩⟩)
          · rw [z2] at y; exact absurd y (Int.lt_irrefl _)
          · rw [z1] at y; exact absurd y (Int.lt_irrefl _)
          · exact Or.inl y
          · exact Or.inr ⟨y.1, Or.inl y.2⟩
      refine ⟨fun z => absurd z c0, fun _ => ?_⟩
      rw [g4]
      refine ⟨fun c1 => ?_, fun c1 => ⟨fun z => absurd z c0, fun _ => ⟨fun c2 => ⟨A + 9, R3.a9.2.2, R3.a9.1, by omega, ?_⟩, fun c2 => ?_⟩⟩⟩
      · refine z210_94 R3.t hn I2 I1 Ie ⟨fun z => absurd z c0, fun _ => ?_⟩
        rw [g4]
        exact ⟨fun z => absurd c1 (by rw [z]; exact Int.lt_irrefl _), fun _ => z210_118 hn I2 I1 Ie (by decide) (z210_143 R3.t hn I2 I1 Ie (by decide) (by decide) ⟨fun _ => z210_184 hn I2 I1 Ie (by decide) (by decide) ⟨(fun z => absurd z (by decide)), fun _ => hup (Or.inr (Or.inl (i_lt c1)))⟩, (fun z => absurd rfl z)⟩)⟩
      · have c2' : enK v i = enK v x2 := by omega
        rw [e9, g5]
        refine ⟨fun c3 => ⟨A + 9, R3.a9.2.2, R3.a9.1, by omega, ?_⟩, fun c3 => z210_143 R3.t hn I2 I1 Ie (by decide) (by decide) ⟨(fun z => absurd z (by decide)), fun _ => ⟨A + 9, R3.a9.2.2, R3.a9.1, by omega, ?_⟩⟩⟩
        · rw [e9]
          exact ⟨fun z => absurd c3 (by rw [z]; exact Int.lt_irrefl _), fun _ => z210_184 hn I2 I1 Ie (by decide) (by decide) ⟨fun _ => ⟨(fun z => absurd z (by decide)), fun _ => hup (Or.inr (Or.inr ⟨c2', Or.inl c3⟩))⟩, (fun z => absurd rfl z)⟩⟩
        · rw [e9, g5]
          refine ⟨fun c4 => r_legAt R3 e18 q3 q4 (r_legAt R3 e18 r3 q4 (r_isFirst lr lr2 (fun z => ⟨(fun z => absurd z (by decide)), fun _ => ⟨fun _ => hup (Or.inr ((nolt c4 c2').mp z)), fun _ => hup (Or.inr ((nolt c4 c2').mp z))⟩⟩) (fun z => ⟨fun _ => z210_184 hn I2 I1 Ie (by decide) (by decide) ⟨fun _ => ⟨fun _ => hno (Or.inr ⟨g1.1, fun y => z ((nolt c4 c2').mpr y)⟩), (fun z => absurd rfl z)⟩, (fun z => absurd rfl z)⟩, (fun z => absurd rfl z)⟩))), fun c4 => z210_184 hn I2 I1 Ie (by decide) (by decide) ⟨fun _ => ⟨fun _ => hno (Or.inr ⟨g1.1, fun y => ?_⟩), (fun z => absurd rfl z)⟩, (fun z => absurd rfl z)⟩⟩
          rcases y with y | ⟨_, y | ⟨y, _⟩⟩
          · rw [c2'] at y; exact Int.lt_irrefl _ y
          · exact c3 y
          · exact c4 y
      · refine z210_118 hn I2 I1 Ie (by decide) (z210_143 R3.t hn I2 I1 Ie (by decide) (by decide) ⟨fun _ => z210_184 hn I2 I1 Ie (by decide) (by decide) ⟨fun _ => ⟨fun _ => hno (Or.inr ⟨g1.1, fun y => ?_⟩), (fun z => absurd rfl z)⟩, (fun z => absurd rfl z)⟩, (fun z => absurd rfl z)⟩)
        rcases y with y | ⟨y, _⟩
        · exact c1 (i_tl y)
        · exact c2 (by rw [y])
theorem r_best (R : RT T N A h) (V : Rv A h v) (I : Iv v) (S : SB A h v d) (G : RK A h v d q 3936) (hd : 0 ≤ d ∧ d < v 117) (hn : In n) (k2 : n = rc v d 3 → ∀ h2, FR (PB A) h h2 → ai h2 A 21 = orgV v d → ai h2 A 22 = 0 → K (-2) h2) (k1 : n ≠ rc v d 3 → (∀ k, ¬ Cand v d q n k) → ∀ h2, FR (PB A) h h2 → K (-1) h2) (k0 : n ≠ rc v d 3 → ∀ k, Bst v d q n k → ∀ h2, FR (PB A) h h2 → ai h2 A 21 = orgV v d + enK v k → ai h2 A 22 = TK v d q k → K k h2) : ZI T N 210 [vr (some A), vi (J n)] h K := by
  have b := I.b
  have ob := org_b I hd
  refine z210 R.t hn ?_
  rw [S.1]
  intro h3 e3 h4 e4
  have F : FR (PB A) h h4 := by subst e4; subst e3; exact (FR.pw ⟨rfl, by decide⟩).tr (FR.pw ⟨rfl, by decide⟩)
  have e20 : ai h4 A 20 = rc v d 3 := by rw [F.ai (by unfold PB; omega)]; exact S.2.2
  rw [e20]
  refine ⟨fun c => k2 c h4 F ?_ ?_, fun c => r_bestL R V I S G hd hn (k1 c) (k0 c) 3936 0 (-1) h4 (by omega) F (Or.inl ⟨rfl, fun k a1 a2 => by omega⟩)⟩
  · subst e4; subst e3
    rw [rd_k (by decide) (by decide) (by decide), rd_eq rfl rfl (by omega)]
  · subst e4
    exact rd_eq rfl rfl (by decide)
end RBE
