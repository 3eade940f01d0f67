/-! SEARCH: the class's legs that end -/
/-- the search's own cells -/
def Sg (g b : Nat) : Prop := g ≤ b ∧ b < g + 11
def AR (v : Int → Int) (d q s : Int) (m : Nat) (n : Int) : Prop := ∃ e : Nat, e < m ∧ lnV v e ≤ s ∧ 0 ≤ TK v d q (96 * (s - lnV v e) + e) ∧ tnV v e = n
def MKE (x : Int) (P : Int → Prop) : Prop := In x ∧ ∀ j : Nat, j < 32 → (mb x j = true ↔ P j)
section END
variable {T N : Nat → Nat} {a b w g : Nat} {h h0 h1 h2 h3 : PH} {v u : Int → Int} {d q e i k l m n s t x y o p j x1 x2 x3 x4 : Int} {W : (Int → Int) × (Int → Int)} {K : Int → PH → Prop} {KV : PH → Prop} {P : Int → Prop} {c r : Nat}
theorem SE.ai6 (S : SE T N h g) : T (g + 5) = 22 ∧ N (g + 5) = 3840 ∧ gr h g 6 = some (g + 5) := S.2.2.2.1
theorem SE.ai7 (S : SE T N h g) : T (g + 6) = 22 ∧ N (g + 6) = 3840 ∧ gr h g 7 = some (g + 6) := S.2.2.2.2.1
theorem SE.ai8 (S : SE T N h g) : T (g + 7) = 22 ∧ N (g + 7) = 30 ∧ gr h g 8 = some (g + 7) := S.2.2.2.2.2.1
theorem SE.ai9 (S : SE T N h g) : T (g + 8) = 22 ∧ N (g + 8) = 30 ∧ gr h g 9 = some (g + 8) := S.2.2.2.2.2.2.1
theorem SE.ai10 (S : SE T N h g) : T (g + 9) = 22 ∧ N (g + 9) = 30 ∧ gr h g 10 = some (g + 9) := S.2.2.2.2.2.2.2.1
theorem SE.ai11 (S : SE T N h g) : T (g + 10) = 22 ∧ N (g + 10) = 30 ∧ gr h g 11 = some (g + 10) := S.2.2.2.2.2.2.2.2
theorem MKE.set (M : MKE x P) (hy : 0 ≤ y ∧ y < 32) : MKE (zor x (zshl 1 y)) (fun j => P j ∨ j = y) := ⟨zor_in _ _, fun j hj => by
  rw [mb_or, mb_shl hy hj, Bool.or_eq_true, M.2 j hj, decide_eq_true_eq]⟩
theorem MKE.cg {Q : Int → Prop} (M : MKE x P) (e : ∀ j, 0 ≤ j → (P j ↔ Q j)) : MKE x Q := ⟨M.1, fun j hj => (M.2 j hj).trans (e j (by omega))⟩
theorem MKE0 (e : ∀ j, 0 ≤ j → ¬ P j) : MKE 0 P := ⟨by decide, fun j hj => by
  rw [mb_0]
  exact ⟨fun z => absurd z (by decide), fun z => absurd z (e j (by omega))⟩⟩
theorem d_energy (S : SE T N h g) (hx : 0 ≤ x ∧ x < 3840) (k : K (ai h (g + 5) x) h) : ZI T N 64 [vr (some g), vi (J x)] h K := by
  have n := S.ai6.2.1
  have t := S.ai6.1
  exact z64 S.1 (by omega) ⟨fun z => by omega, fun _ => ⟨g + 5, S.ai6.2.2, by omega, by omega, fun _ => ⟨g + 5, S.ai6.2.2, t, by omega, k⟩, fun z => absurd (by omega) z⟩⟩
theorem d_legEnd (S : SE T N h g) (I : Iv v) (hd : 0 ≤ d ∧ d < v 117) (G : KT h g v d q o s) (e13 : ai h g 13 = o) (ho : o = orgV v d - v 448) (hs : 0 ≤ s ∧ s ≤ limV v d) (he : 0 ≤ e ∧ e < 6 * v 11) (k1 : lnV v e ≤ s → 0 ≤ TK v d q (96 * (s - lnV v e) + e) → K (96 * (s - lnV v e) + e + 96 * o) h) (k0 : ¬ (lnV v e ≤ s ∧ 0 ≤ TK v d q (96 * (s - lnV v e) + e)) → K (-1) h) : ZI T N 65 [vr (some g), vi (J (s + o)), vi (J (lnV v e)), vi (J e)] h K := by
  have b := I.b
  have ob := org_b I hd
  have lm := lim_b I hd
  have lb := ln_b I he
  have eo : limV v d = v 448 + 40 - orgV v d := rfl
  refine z65 S.1 (by omega) (by omega) (by omega) ⟨by omega, ?_⟩
  rw [e13]
  refine ⟨fun z => k0 fun y => by omega, fun z => ?_⟩
  have hk : 0 ≤ 96 * (s - lnV v e) + e ∧ 96 * (s - lnV v e) + e < 96 * s := by omega
  have km : (96 * (s - lnV v e) + e) % 96 = e := by omega
  have kd : (96 * (s - lnV v e) + e) / 96 = s - lnV v e := by omega
  have Gk := (G (96 * (s - lnV v e) + e) hk.1 hk.2 (by omega) (by unfold enK; rw [km, kd]; omega)).1
  have ek : (s + o - lnV v e) * 96 + e = 96 * (s - lnV v e) + e + 96 * o := by omega
  rw [ek]
  refine d_energy S (by omega) ?_
  rw [Gk]
  clear km kd
  refine ⟨fun y => k0 fun y2 => by omega, fun y => ⟨by omega, k1 (by omega) ?_⟩⟩
  by_cases c : 0 ≤ TK v d q (96 * (s - lnV v e) + e)
  · exact c
  · exfalso
    have := TK_at (d := d) (q := q) (s := (s - lnV v e).toNat) (e := e) I (by omega) (by omega)
    rw [show (((s - lnV v e).toNat : Nat) : Int) = s - lnV v e by omega] at this
    rw [this] at y c
    by_cases c2 : e < 6 * v 11 ∧ s - lnV v e + lnV v e ≤ limV v d
    · rw [if_pos c2] at y c
      by_cases c3 : tryC v d q (s - lnV v e) e (bsV v d (wsF v d q ((s - lnV v e).toNat + 1)) (fnV v e) (e % 3) (s - lnV v e)).1
      · have p := tv_yes c3
        have := c3.2.1
        have := (cs_b I he).1
        omega
      · exact y (tv_neg c3)
    · rw [if_neg c2] at y; exact y rfl
theorem d_better (hx : 0 ≤ x ∧ x < 3840) (hy : 0 ≤ y ∧ y < 3840) (ho : 0 ≤ o ∧ o ≤ 40) (k1 : btr x y → K 1 h) (k0 : ¬ btr x y → K 0 h) : ZI T N 68 [vi (J (x + 96 * o)), vi (J (y + 96 * o))] h K := by
  have e1 : (x + 96 * o) % 96 = x % 96 := by omega
  have e2 : (y + 96 * o) % 96 = y % 96 := by omega
  have e3 : (x + 96 * o) / 96 = x / 96 + o := by omega
  have e4 : (y + 96 * o) / 96 = y / 96 + o := by omega
  refine z68 (by omega) (by omega) ?_
  rw [e1, e2, e3, e4]
  have q1 : 0 ≤ x % 96 ∧ x % 96 < 96 := by omega
  have q2 : 0 ≤ y % 96 ∧ y % 96 < 96 := by omega
  have q3 : 0 ≤ x / 96 ∧ x / 96 < 40 := by omega
  have q4 : 0 ≤ y / 96 ∧ y / 96 < 40 := by omega
  refine ⟨by omega, by omega, by omega, by omega, by omega, by omega, fun c => k1 (Or.inl c), fun c => ⟨fun c2 => ⟨by omega, by omega, fun c3 => k1 (Or.inr ⟨c2, by omega⟩), fun c3 => k0 fun z => ?_⟩, fun c2 => k0 fun z => ?_⟩⟩
  · rcases z with z | z
    · exact c z
    · have := z.2; omega
  · rcases z with z | z
    · exact c z
    · exact c2 z.1
theorem KW.wr (G : KW h g o W) (ha : 0 ≤ a ∧ a < 30) (hx : In x) (hk : 0 ≤ k) (hk2 : In (k + 96 * o)) : KW (wi (wi h (g + 7) (a : Nat) (k + 96 * o)) (g + 8) (a : Nat) x) g o (up W.1 a k, up W.2 a (x + o)) := by
  intro b h1 h2
  dsimp only
  by_cases c : b = a
  · rw [up_eq c, up_eq c, rd_a (by omega), rd_eq rfl c hk2, rd_eq rfl c hx]
    exact ⟨by unfold shK; rw [if_neg (by omega)], fun _ => by omega⟩
  · rw [up_ne c, up_ne c, rd_a (by omega), rd_k c h1 (by omega), rd_k c h1 (by omega), rd_a (by omega)]
    exact G b h1 h2
theorem d_letWait (S : SE T N h g) (I : Iv v) (hd : 0 ≤ d ∧ d < v 117) (G : KW h g o W) (GI : WIv v d q (s + 1) W) (ho : 0 ≤ o ∧ o ≤ 40) (hk : 0 ≤ k) (ht : 0 ≤ TK v d q k) (hs : -100 ≤ s ∧ s ≤ 100) (ha : 0 ≤ a ∧ a < 30) (kk : ∀ h2, Fp (Sg g) h h2 → gr h2 = gr h → (∀ b, b ≠ g + 7 → b ≠ g + 8 → sm b h h2) → KW h2 g o (ar2 a k (TK v d q k - s) W) → KV h2) : CV T N 67 [vr (some g), vi (J (k + 96 * o)), vi (J (a : Nat)), vi (J (TK v d q k - (s + o)))] h KV := by
  have n8 := S.ai8.2.1
  have n9 := S.ai9.2.1
  have t8 := S.ai8.1
  have t9 := S.ai9.1
  have P := TK_pos I hd hk ht
  have tb := P.2.2.2.1
  have kb := P.1
  clear P
  have ga := G a (by omega) (by omega)
  have gi := GI a
  have Ik : In (k + 96 * o) := by omega
  have In1 : In (TK v d q k - (s + o)) := by omega
  have hw : (W.1 a < 0 ∨ TK v d q k - s < W.2 a ∨ (TK v d q k - s = W.2 a ∧ btr k (W.1 a))) → ∀ h5, h5 = wi h (g + 7) (a : Nat) (k + 96 * o) → ∃ a_27, gr h5 g 9 = some a_27 ∧ T a_27 = 22 ∧ (0 ≤ ((a : Nat) : Int) ∧ ((a : Nat) : Int) < (N a_27 : Int) ∧ ((a : Nat) : Int) < 2147483648) ∧ ∀ h6, h6 = wi h5 a_27 (a : Nat) (TK v d q k - (s + o)) → KV h6 := by
    intro c h5 e5
    have S5 : SE T N h5 g := by subst e5; exact S.to rfl
    refine ⟨g + 8, S5.ai9.2.2, t9, by omega, fun h6 e6 => ?_⟩
    refine kk h6 (by subst e6; subst e5; exact (Fp.pw (by unfold Sg; omega)).tr (Fp.pw (by unfold Sg; omega))) (by subst e6; subst e5; rfl) (fun b b1 b2 => ?_) ?_
    · subst e6; subst e5
      exact ((Fp.pw (P := fun b => b = g + 7) rfl).1 b b1).tr ((Fp.pw (P := fun b => b = g + 8) rfl).1 b b2)
    · unfold ar2
      rw [if_pos c]
      subst e6; subst e5
      have g := G.wr (a := a) (k := k) (x := TK v d q k - (s + o)) ha In1 hk Ik
      rw [show TK v d q k - (s + o) + o = TK v d q k - s by omega] at g
      exact g
  have hn : ¬ (W.1 a < 0 ∨ TK v d q k - s < W.2 a ∨ (TK v d q k - s = W.2 a ∧ btr k (W.1 a))) → KV h := by
    intro c
    refine kk h Fp.rf rfl (fun _ _ _ => sm.rf) ?_
    unfold ar2
    rw [if_neg c]; exact G
  refine z67 S.1 Ik (by omega) In1 ⟨fun z => by omega, fun _ => ⟨g + 7, S.ai8.2.2, by omega, by omega, fun _ => ⟨g + 7, S.ai8.2.2, t8, by omega, ?_⟩, fun z => absurd (by omega) z⟩⟩
  rw [ga.1]
  rcases gi with z | ⟨⟨g1, g2⟩, g3, g4, g5⟩
  · refine ⟨fun _ => ⟨g + 7, S.ai8.2.2, t8, by omega, hw (Or.inl (by omega))⟩, fun c => absurd (by rw [z]; rfl) c⟩
  · have P2 := (TK_pos I hd g1 g2).1
    have c0 : ¬ W.1 a < 0 := by omega
    have es : shK o (W.1 a) = W.1 a + 96 * o := if_neg c0
    rw [es]
    refine ⟨fun c => by omega, fun _ => ⟨g + 8, S.ai9.2.2, t9, by omega, ?_⟩⟩
    rw [ga.2 g1]
    refine ⟨fun c => hn fun z => ?_, fun c => ⟨g + 8, S.ai9.2.2, t9, by omega, ?_⟩⟩
    · rcases z with z | z | z
      · exact c0 z
      · omega
      · omega
    · rw [ga.2 g1]
      refine ⟨fun c2 => d_better (by omega) (by omega) ho (fun c3 => ⟨(fun z => absurd z (by decide)), fun _ => ⟨g + 7, S.ai8.2.2, t8, by omega, hw (Or.inr (Or.inr ⟨by omega, c3⟩))⟩⟩) (fun c3 => ⟨fun _ => hn fun z => ?_, (fun z => absurd rfl z)⟩), fun c2 => ⟨g + 7, S.ai8.2.2, t8, by omega, hw (Or.inr (Or.inl (by omega)))⟩⟩
      rcases z with z | z | z
      · exact c0 z
      · omega
      · exact c3 z.2
end END
