/-! SEARCH: the class applies what it found -/
/-- a drone whose legs from lo to hi are open -/
def DrW (v : Int → Int) (h : PH) (a : Nat) (e : Int → Int) (lo hi : Int) : Prop :=
  (ai h a 0 = e 0 ∧ ai h a 1 = e 1 ∧ ai h a 2 = e 2 ∧ ai h a 3 = e 3 ∧ ai h a 4 = e 4 ∧ ai h a 5 = e 6 ∧ ai h a 6 = e 12 ∧ ai h a 8 = e 5) ∧
  (∀ k, 0 ≤ k → k < 5 → ai h (a + 1) k = e (7 + k)) ∧ ∀ i, 0 ≤ i → i < e 5 → (i < lo ∨ hi ≤ i) → ∀ b, gr h (a + 2) (Int.toNat i) = some b → LegD v h b (e (13 + i))
/-- one drone's cells -/
def Dg (a b : Nat) : Prop := a ≤ b ∧ b < a + 44
section APL
variable {T N : Nat → Nat} {a w g r : Nat} {h h0 h1 h2 h3 : PH} {v u : Int → Int} {d q e b i k k2 k3 l m n n2 t x y o p0 j last node x1 x2 x3 x4 f z : Int} {E e1 e2 : Int → Int} {K : Int → PH → Prop} {KV : PH → Prop} {P : Int → Prop} {c s : Nat}
theorem WO.to' (W : WO T N h w) (e : gr h2 = gr h) : WO T N h2 w := W.to e
theorem d_writeLeg (W : WO T N h w) (I : Iv v) (hd : 0 ≤ d ∧ d < v 117) (e0 : ai h w 0 = v 448) (e3 : ai h w 3 = v 11) (ec : ∀ c, 0 ≤ c → c < v 11 → ai h (cA w c) 2 = v (12 + 4 * c + 2)) (tr' : T r = 7) (nr : r ≠ w ∧ ∀ c, 0 ≤ c → c < 16 → r ≠ cA w c) (ho : o = orgV v d - v 448) (hk : 0 ≤ k ∧ k < 3840) (hk2 : k % 96 < 6 * v 11) (hk3 : k + 96 * o < 3840) (kk : ∀ h2, Fp (fun b => b = r) h h2 → gr h2 = gr h → LegD v h2 r (lgK v d k) → KV h2) : CV T N 76 [vi (J (k + 96 * o)), vr (some w), vr (some r)] h KV := by
  have bb := I.b
  have ob := org_b I hd
  have m1 : (k + 96 * o) % 96 = k % 96 := by omega
  have d1 : (k + 96 * o) / 96 = k / 96 + o := by omega
  have q1 : 0 ≤ k % 96 ∧ k % 96 < 96 := by omega
  have c1 : 0 ≤ k % 96 / 6 ∧ k % 96 / 6 < v 11 := by omega
  have ln := (I.c c1.1 c1.2).2.2.2.1
  have tc := (W.c (c := k % 96 / 6) (by omega)).1
  have t0 : 0 ≤ orgV v d + k / 96 := by omega
  refine z76 W.t tr' (by omega) ⟨by omega, by omega, ?_⟩
  rw [m1, d1]
  refine d_cor W (n := k % 96 / 6) (by omega) (by omega) (fun c2 => ⟨fun z => by (cases z), fun a' ea => ?_⟩) (fun c2 => absurd (by omega) c2)
  cases ea
  have ecc := ec (k % 96 / 6) c1.1 c1.2
  have nc := nr.2 (k % 96 / 6) c1.1 (by omega)
  have i0 : In (k % 96 / 6) := by omega
  have i1 : In (k % 96 / 3 % 2) := by omega
  have i2 : In (k % 96 % 3) := by omega
  have i3 : In (v 448 + (k / 96 + o)) := by omega
  have i4 : In (v 448 + (k / 96 + o) + v (12 + 4 * (k % 96 / 6) + 2)) := by omega
  have hp : 0 ≤ k % 96 / 3 ∧ k % 96 / 3 < 2147483648 := by omega
  have lc := lgA_c q1 t0
  have lw := lgA_w q1 t0
  have ll := lgA_l q1 t0
  have ls := lgA_s q1 t0
  have le := lgA_e (v := v) q1 t0
  have es : v 448 + (k / 96 + o) = orgV v d + k / 96 := by omega
  have lne : lnV v (k % 96) = v (12 + 4 * (k % 96 / 6) + 2) := rfl
  clear m1 d1 ob
  intro h5 e5
  refine ⟨hp, fun h6 e6 h7 e7 h8 e8 => ⟨tc, fun h9 e9 => ?_⟩⟩
  have a7 : ai h7 w 0 = v 448 := by subst e7; subst e6; subst e5; rw [rd_a (Ne.symm nr.1), rd_a (Ne.symm nr.1), rd_a (Ne.symm nr.1)]; exact e0
  rw [a7] at e8
  have a83 : ai h8 r 3 = v 448 + (k / 96 + o) := by subst e8; exact rd_eq rfl rfl i3
  have a82 : ai h8 (cA w (k % 96 / 6)) 2 = v (12 + 4 * (k % 96 / 6) + 2) := by subst e8; subst e7; subst e6; subst e5; rw [rd_a (Ne.symm nc), rd_a (Ne.symm nc), rd_a (Ne.symm nc), rd_a (Ne.symm nc)]; exact ecc
  rw [a83, a82] at e9
  refine kk h9 ?_ (by subst e9; subst e8; subst e7; subst e6; subst e5; rfl) ?_
  · subst e9; subst e8; subst e7; subst e6; subst e5
    have pw : ∀ (h : PH) (k x : Int), Fp (fun b => b = r) h (wi h r k x) := fun h k x => Fp.pw rfl
    exact ((((pw _ _ _).tr (pw _ _ _)).tr (pw _ _ _)).tr (pw _ _ _)).tr (pw _ _ _)
  · unfold LegD lgK
    rw [lc, lw, ll, ls, le, lne, ← es]
    subst e9
    refine ⟨?_, ?_, ?_, ?_, rd_eq rfl rfl i4⟩
    · subst e8; subst e7; subst e6; subst e5
      rw [rd_k (by decide) (by decide) (by decide), rd_k (by decide) (by decide) (by decide), rd_k (by decide) (by decide) (by decide), rd_k (by decide) (by decide) (by decide), rd_eq rfl rfl i0]
    · subst e8; subst e7; subst e6
      rw [rd_k (by decide) (by decide) (by decide), rd_k (by decide) (by decide) (by decide), rd_k (by decide) (by decide) (by decide), rd_eq rfl rfl i1]
    · subst e8; subst e7
      rw [rd_k (by decide) (by decide) (by decide), rd_k (by decide) (by decide) (by decide), rd_eq rfl rfl i2]
    · rw [rd_k (by decide) (by decide) (by decide)]; exact a83
/-- the chain comes down -/
theorem ch_dn (I : Iv v) (hd : 0 ≤ d ∧ d < v 117) (hT : 0 ≤ last → 0 ≤ TK v d q last) : ∀ i : Nat, i < goM v d q last → chN (BF v d q) last i ≤ last
  | 0, _ => Int.le_refl _
  | i + 1, hi => by
    have g := (chain I hd hT).1 i (by omega)
    have g2 := (chain I hd hT).1 (i + 1) hi
    have ih := ch_dn I hd hT i (by omega)
    have B := BF_pos I hd g.1.1 g.2
    have e : chN (BF v d q) last (i + 1) = BF v d q (chN (BF v d q) last i) := rfl
    rw [e] at g2 ⊢
    rcases B with z | ⟨z, z2, _⟩
    · omega
    · have lb := (ln_b I (TK_pos I hd z.1 z.2).2.1).1
      unfold enK at z2
      generalize BF v d q (chN (BF v d q) last i) = b1 at *
      generalize chN (BF v d q) last i = b2 at *
      omega
theorem goS_f (hj : j < 13 ∧ j ≠ 5) {m : Int} {i : Int} {F : Int → Int} (hi : i ≤ m) : goS v d F last m i j = rc v d j := by
  have b := ahead_b (f := rc v d)
  unfold goS
  rw [if_neg hj.2, if_neg (by omega)]
theorem goS_5 {m : Int} {i : Int} {F : Int → Int} : goS v d F last m i 5 = aheadE (rc v d) + m := if_pos rfl
theorem d_before (S : SE T N h g) (G : KT h g v d q o t) (hk : 0 ≤ k ∧ k < 96 * t) (hk2 : k % 96 < 6 * v 11) (hk3 : enK v k ≤ limV v d) (ht : 0 ≤ TK v d q k) (ho : 0 ≤ o) (h38 : k + 96 * o < 3840) (kk : K (shK o (BF v d q k)) h) : ZI T N 74 [vr (some g), vi (J (k + 96 * o))] h K := by
  have n := S.ai7.2.1
  have tt := S.ai7.1
  have Gk := (G k hk.1 hk.2 hk2 hk3).2 ht
  refine z74 S.1 (by omega) ⟨fun z => by omega, fun _ => ⟨g + 6, S.ai7.2.2, by omega, by omega, fun _ => ⟨g + 6, S.ai7.2.2, tt, by omega, ?_⟩, fun z => absurd (by omega) z⟩⟩
  rw [Gk]; exact kk
end APL
