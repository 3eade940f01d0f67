/-! SEARCH: what holds of the sums and ways -/
def WIv (v : Int → Int) (d q s : Int) (W : (Int → Int) × (Int → Int)) : Prop := ∀ a, W.1 a = -1 ∨ ((0 ≤ W.1 a ∧ 0 ≤ TK v d q (W.1 a)) ∧ enK v (W.1 a) < s ∧ W.2 a = TK v d q (W.1 a) - enK v (W.1 a) ∧ a = 3 * tnV v (W.1 a % 96) + W.1 a % 96 % 3)
def BI (v : Int → Int) (d q n s : Int) (p : Int × Int) : Prop := (p.1 = -1 ∧ p.2 = -1) ∨ ((0 ≤ p.1 ∧ p.1 ≤ 300) ∧ (p.2 = -1 ∨ ((0 ≤ p.2 ∧ 0 ≤ TK v d q p.2) ∧ enK v p.2 ≤ s ∧ tnV v (p.2 % 96) = n)))
def chN (f : Int → Int) (k : Int) : Nat → Int
  | 0 => k
  | n + 1 => f (chN f k n)
def chL (f : Int → Int) : Nat → Int → Nat
  | 0, _ => 0
  | n + 1, k => if k < 0 then 0 else chL f n (f k) + 1
def Cand (v : Int → Int) (d q n k : Int) : Prop := 0 ≤ k ∧ 0 ≤ TK v d q k ∧ tnV v (k % 96) = n
def lt4 (a b c d a2 b2 c2 d2 : Int) : Prop := a < a2 ∨ (a = a2 ∧ (b < b2 ∨ (b = b2 ∧ (c < c2 ∨ (c = c2 ∧ d < d2)))))
def ltK (v : Int → Int) (d q k k2 : Int) : Prop := lt4 (enK v k) (TK v d q k) (k % 96 % 3) (k % 96 / 6) (enK v k2) (TK v d q k2) (k2 % 96 % 3) (k2 % 96 / 6)
def Bst (v : Int → Int) (d q n k : Int) : Prop := Cand v d q n k ∧ ∀ k2, Cand v d q n k2 → ¬ ltK v d q k2 k
section SIV
variable {v tk tk2 : Int → Int} {d q e k k2 k3 l m n s t x y a b : Int} {W : (Int → Int) × (Int → Int)} {p : Int × Int} {f : Int → Int}
theorem WI_mo (G : WIv v d q s W) (h : s ≤ t) : WIv v d q t W := fun a => (G a).imp id fun z => ⟨z.1, by omega, z.2.2⟩
theorem WI_ar2 (G : WIv v d q (s + 1) W) (hk : 0 ≤ k) (ht : 0 ≤ TK v d q k) (he : enK v k = s) : WIv v d q (s + 1) (ar2 (3 * tnV v (k % 96) + k % 96 % 3) k (TK v d q k - s) W) := by
  unfold ar2
  split
  · intro a
    dsimp only
    by_cases c : a = 3 * tnV v (k % 96) + k % 96 % 3
    · rw [up_eq c, up_eq c]
      exact Or.inr ⟨⟨hk, ht⟩, by omega, by rw [he], c⟩
    · rw [up_ne c, up_ne c]; exact G a
  · exact G
theorem WI_ar1 (I : Iv v) (G : WIv v d q (s + 1) W) (hs : 0 ≤ s) (he : 0 ≤ e ∧ e < 6 * v 11) : WIv v d q (s + 1) (ar1 v (TK v d q) s e W) := by
  have b := I.b
  have l := ln_b I he
  unfold ar1
  split
  · rename_i c
    have e1 : (96 * (s - lnV v e) + e) % 96 = e := by omega
    have e2 : (96 * (s - lnV v e) + e) / 96 = s - lnV v e := by omega
    have g := WI_ar2 (k := 96 * (s - lnV v e) + e) G (by omega) c.2 (by unfold enK; rw [e1, e2]; omega)
    rw [e1] at g; exact g
  · exact G
theorem WI_arN (I : Iv v) (G : WIv v d q (s + 1) W) (hs : 0 ≤ s) : ∀ m : Nat, (m : Int) ≤ 6 * v 11 → WIv v d q (s + 1) (arN v (TK v d q) s m W)
  | 0, _ => G
  | m + 1, h => WI_ar1 I (WI_arN I G hs m (by omega)) hs (by omega)
theorem WI_ws (I : Iv v) : ∀ s : Nat, WIv v d q s (wsF v d q s)
  | 0 => fun a => Or.inl rfl
  | s + 1 => by
    have b := I.b
    have g := WI_arN (s := s) I (WI_mo (WI_ws I s) (t := s + 1) (by omega)) (by omega) (6 * (v 11).toNat) (by omega)
    rw [show ((s + 1 : Nat) : Int) = (s : Int) + 1 by omega]
    exact g
theorem BI_b0 (I : Iv v) (hd : 0 ≤ d ∧ d < v 117) (hs : 0 ≤ s ∧ s ≤ 40) (hl : 0 ≤ l ∧ l ≤ 2) : BI v d q n s (b0 v d n l s, -1) := by
  have O := (I.d hd.1 hd.2).2.2.1
  have a := ab_b (x := l - rc v d 2) (by omega)
  unfold b0
  by_cases c : n = rc v d 3
  · rw [if_pos c]
    refine Or.inr ⟨?_, Or.inl rfl⟩
    dsimp only
    split <;> omega
  · rw [if_neg c]; exact Or.inl ⟨rfl, rfl⟩
theorem BI_1 (I : Iv v) (hd : 0 ≤ d ∧ d < v 117) (G : WIv v d q (s + 1) W) (B : BI v d q n s p) (hs : 0 ≤ s ∧ s ≤ 40) (hl : 0 ≤ l ∧ l ≤ 2) (hj : 0 ≤ x ∧ x ≤ 2) : BI v d q n s (bs1 W n l s x p) := by
  have a := ab_b (x := l - x) (by omega)
  unfold bs1
  by_cases c : W.1 (3 * n + x) < 0
  · rw [if_pos c]; exact B
  rw [if_neg c]
  rcases G (3 * n + x) with g | ⟨⟨g1, g2⟩, g3, g4, g5⟩
  · omega
  have P := TK_pos I hd g1 g2
  have en : 1 ≤ enK v (W.1 (3 * n + x)) := by
    have := ln_b I P.2.1
    unfold enK; omega
  by_cases c2 : 0 ≤ p.1 ∧ p.1 ≤ W.2 (3 * n + x) + s + ab (l - x)
  · rw [if_pos c2]; exact B
  · rw [if_neg c2]
    exact Or.inr ⟨by dsimp only; omega, Or.inr ⟨⟨g1, g2⟩, by dsimp only; omega, by dsimp only; omega⟩⟩
theorem BI_V (I : Iv v) (hd : 0 ≤ d ∧ d < v 117) (G : WIv v d q (s + 1) W) (hs : 0 ≤ s ∧ s ≤ 40) (hl : 0 ≤ l ∧ l ≤ 2) : BI v d q n s (bsV v d W n l s) :=
  BI_1 I hd G (BI_1 I hd G (BI_1 I hd G (BI_b0 I hd hs hl) hs hl (by decide)) hs hl (by decide)) hs hl (by decide)
theorem BF_pos (I : Iv v) (hd : 0 ≤ d ∧ d < v 117) (hk : 0 ≤ k) (g : 0 ≤ TK v d q k) : BF v d q k = -1 ∨ ((0 ≤ BF v d q k ∧ 0 ≤ TK v d q (BF v d q k)) ∧ enK v (BF v d q k) ≤ k / 96 ∧ tnV v (BF v d q k % 96) = fnV v (k % 96)) := by
  have P := TK_pos I hd hk g
  have G := WI_ws (d := d) (q := q) I ((k / 96).toNat + 1)
  rw [show (((k / 96).toNat + 1 : Nat) : Int) = k / 96 + 1 by omega] at G
  have B := BI_V (n := fnV v (k % 96)) (l := k % 96 % 3) I hd G (by omega) (by omega)
  have t1 := P.2.2.2.2.1.2.1
  rw [P.2.2.2.2.2.2]
  rcases B with z | z
  · exact Or.inl z.2
  · exact z.2
theorem chN_s (f : Int → Int) (k : Int) : ∀ n : Nat, chN f (f k) n = chN f k (n + 1)
  | 0 => rfl
  | n + 1 => by show f (chN f (f k) n) = f (chN f k (n + 1)); rw [chN_s f k n]
theorem chL_spec (I : Iv v) (hd : 0 ≤ d ∧ d < v 117) : ∀ (n : Nat) (k : Int), k / 96 < n → (0 ≤ k → 0 ≤ TK v d q k) → (∀ i : Nat, i < chL (BF v d q) n k → 0 ≤ chN (BF v d q) k i ∧ 0 ≤ TK v d q (chN (BF v d q) k i)) ∧ chN (BF v d q) k (chL (BF v d q) n k) < 0 ∧ ((chL (BF v d q) n k : Nat) : Int) ≤ (if k < 0 then 0 else k / 96 + 1)
  | 0, k, h, _ => by
    have c : k < 0 := by omega
    rw [if_pos c]
    exact ⟨fun i hi => absurd hi (Nat.not_lt_zero _), c, Int.le_refl _⟩
  | n + 1, k, h, g => by
    by_cases c : k < 0
    · have z : chL (BF v d q) (n + 1) k = 0 := if_pos c
      rw [z, if_pos c]
      exact ⟨fun i hi => absurd hi (Nat.not_lt_zero _), c, Int.le_refl _⟩
    · have z : chL (BF v d q) (n + 1) k = chL (BF v d q) n (BF v d q k) + 1 := if_neg c
      have B := BF_pos I hd (by omega) (g (by omega))
      have ln : 0 ≤ BF v d q k → BF v d q k / 96 < k / 96 ∧ 0 ≤ TK v d q (BF v d q k) := fun hb => by
        rcases B with q1 | ⟨⟨q1, q2⟩, q3, q4⟩
        · omega
        · have P := TK_pos I hd q1 q2
          have := ln_b I P.2.1
          unfold enK at q3
          exact ⟨by omega, q2⟩
      have ih := chL_spec I hd n (BF v d q k) (by by_cases z : 0 ≤ BF v d q k; (have := ln z; omega); omega) fun z => (ln z).2
      rw [z, if_neg c]
      refine ⟨fun i hi => ?_, ?_, ?_⟩
      · match i with
        | 0 => exact ⟨by show 0 ≤ k; omega, g (by omega)⟩
        | i + 1 =>
          rw [← chN_s]
          exact ih.1 i (by omega)
      · rw [← chN_s]; exact ih.2.1
      · have i3 := ih.2.2
        by_cases z : BF v d q k < 0
        · rw [if_pos z] at i3; omega
        · rw [if_neg z] at i3
          have := ln (by omega); omega
theorem lt4_tr {a b c d a2 b2 c2 d2 a3 b3 c3 d3 : Int} (h : lt4 a b c d a2 b2 c2 d2) (g : lt4 a2 b2 c2 d2 a3 b3 c3 d3) : lt4 a b c d a3 b3 c3 d3 := by unfold lt4 at h g ⊢; omega
theorem lt4_ir {a b c d : Int} : ¬ lt4 a b c d a b c d := by unfold lt4; omega
theorem lt4_as {a b c d a2 b2 c2 d2 : Int} (h : lt4 a b c d a2 b2 c2 d2) : ¬ lt4 a2 b2 c2 d2 a b c d := by unfold lt4 at h ⊢; omega
theorem lt4_eq {a b c d a2 b2 c2 d2 : Int} (h : ¬ lt4 a b c d a2 b2 c2 d2) (g : ¬ lt4 a2 b2 c2 d2 a b c d) : a = a2 ∧ b = b2 ∧ c = c2 ∧ d = d2 := by unfold lt4 at h g; omega
theorem Cand.un (I : Iv v) (hd : 0 ≤ d ∧ d < v 117) (h : Cand v d q n k) (g : Cand v d q n k2) (e1 : enK v k = enK v k2) (e2 : k % 96 % 3 = k2 % 96 % 3) (e3 : k % 96 / 6 = k2 % 96 / 6) : k = k2 := by
  have P := TK_pos I hd h.1 h.2.1
  have Q := TK_pos I hd g.1 g.2.1
  have l1 : lnV v (k % 96) = lnV v (k2 % 96) := by unfold lnV; rw [e3]
  unfold enK at e1
  have O := I.c (n := k % 96 / 6) (by omega) (by omega)
  unfold corOK at O
  have t1 := h.2.2
  have t2 := g.2.2
  unfold tnV at t1 t2
  rw [← e3] at t2
  have w : k % 96 / 3 % 2 = k2 % 96 / 3 % 2 := by
    rcases (show k % 96 / 3 % 2 = 0 ∨ k % 96 / 3 % 2 = 1 by omega) with z1 | z1 <;> rcases (show k2 % 96 / 3 % 2 = 0 ∨ k2 % 96 / 3 % 2 = 1 by omega) with z2 | z2
    · omega
    · rw [z1] at t1; rw [z2] at t2
      exact absurd (t2.trans t1.symm) O.2.2.1
    · rw [z1] at t1; rw [z2] at t2
      exact absurd (t1.trans t2.symm) O.2.2.1
    · omega
  omega
theorem Bst.un (I : Iv v) (hd : 0 ≤ d ∧ d < v 117) (h : Bst v d q n k) (g : Bst v d q n k2) : k = k2 := by
  have z := lt4_eq (h.2 k2 g.1) (g.2 k h.1)
  exact Cand.un I hd h.1 g.1 z.1.symm z.2.2.1.symm z.2.2.2.symm
theorem WIv_mo' (I : Iv v) (s : Nat) : WIv v d q ((s : Int) + 1) (wsF v d q s) := WI_mo (WI_ws I s) (by omega)
end SIV
