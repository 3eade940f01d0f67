/-! SEARCH: the class gets ready -/
def cL (o : Int) (p : Int × Int) : Int := if p.1 < 0 then -2 else shK o p.2
def cE (p : Int × Int) : Int := if p.1 < 0 then 1000000 else p.1
/-- where the drone sets out -/
def SO (h : PH) (g : Nat) (v : Int → Int) (d o : Int) : Prop := ai h g 13 = o ∧ ai h g 14 = rc v d 3 ∧ ai h g 15 = rc v d 2 ∧ ai h g 16 = rc v d 1 ∧ ai h g 17 = (if rc v d 0 = 0 then 1 else 0)
def KRd (h : PH) (g : Nat) (o : Int) (v : Int → Int) (d : Int) (W : (Int → Int) × (Int → Int)) (s m : Int) : Prop := ∀ n l, 0 ≤ n → 0 ≤ l → l < 3 → n * 3 + l < m → ai h (g + 9) (n * 3 + l) = cL o (bsV v d W n l s) ∧ ai h (g + 10) (n * 3 + l) = cE (bsV v d W n l s)
def Rch (W : (Int → Int) × (Int → Int)) (x : Int) : Prop := In x ∧ ∀ n j : Int, 0 ≤ n → n < 10 → 0 ≤ j → j < 3 → 0 ≤ W.1 (3 * n + j) → mb x n.toNat = true
section RDY
variable {T N : Nat → Nat} {a b w g : Nat} {h h0 h1 h2 h3 : PH} {v u : Int → Int} {d q e i k l m n t x y o p0 j x1 x2 x3 x4 : Int} {W : (Int → Int) × (Int → Int)} {p : Int × Int} {K : Int → PH → Prop} {KV : PH → Prop} {P : Int → Prop} {c r s : Nat}
theorem d_rw (S : SE T N h g) (hs : 0 ≤ n ∧ n < 10) (hl : 0 ≤ l ∧ l < 3) (hx : In x) (hy : In y) (kk : ∀ h2, Fp (fun b => b = g + 9 ∨ b = g + 10) h h2 → gr h2 = gr h → ai h2 (g + 9) (n * 3 + l) = x → ai h2 (g + 10) (n * 3 + l) = y → (∀ j, 0 ≤ j → j ≠ n * 3 + l → ai h2 (g + 9) j = ai h (g + 9) j ∧ ai h2 (g + 10) j = ai h (g + 10) j) → KV h2) :
    ∃ a_7, (gr h g 10) = some a_7 ∧ 21 ≤ T a_7 ∧ In (N a_7 : Int) ∧ ((((n * 3) + l) < (N a_7 : Int) → (∃ a_15, (gr h g 10) = some a_15 ∧ T a_15 = 22 ∧ (0 ≤ ((n * 3) + l) ∧ ((n * 3) + l) < (N a_15 : Int) ∧ ((n * 3) + l) < 2147483648) ∧ ∀ h_17, h_17 = wi h a_15 ((n * 3) + l) x → ∃ a_23, (gr h_17 g 11) = some a_23 ∧ T a_23 = 22 ∧ (0 ≤ ((n * 3) + l) ∧ ((n * 3) + l) < (N a_23 : Int) ∧ ((n * 3) + l) < 2147483648) ∧ ∀ h_25, h_25 = wi h_17 a_23 ((n * 3) + l) y → KV h_25)) ∧ (¬ (((n * 3) + l) < (N a_7 : Int)) → (KV h))) := by
  have n10 := S.ai10.2.1
  have n11 := S.ai11.2.1
  have t10 := S.ai10.1
  refine ⟨g + 9, S.ai10.2.2, by omega, by omega, fun _ => ⟨g + 9, S.ai10.2.2, t10, by omega, fun h4 e4 => ?_⟩, fun z => absurd (by omega) z⟩
  have S4 : SE T N h4 g := by subst e4; exact S.to rfl
  refine ⟨g + 10, S4.ai11.2.2, S.ai11.1, by omega, fun h5 e5 => kk h5 ?_ ?_ ?_ ?_ fun j hj hne => ?_⟩
  · subst e5; subst e4; exact (Fp.pw (Or.inl rfl)).tr (Fp.pw (Or.inr rfl))
  · subst e5; subst e4; rfl
  · subst e5; subst e4
    rw [rd_a (by omega), rd_eq rfl rfl hx]
  · subst e5
    rw [rd_eq rfl rfl hy]
  · subst e5; subst e4
    rw [rd_a (by omega), rd_k hne hj (by omega), rd_k hne hj (by omega), rd_a (by omega)]
    exact ⟨rfl, rfl⟩
theorem cLE (I : Iv v) (hd : 0 ≤ d ∧ d < v 117) (B : BI v d q n t p) (ho : 0 ≤ o ∧ o ≤ 40) : In (cL o p) ∧ In (cE p) := by
  have b := BI_in I hd B
  unfold cL cE shK
  constructor
  · split
    · decide
    · split <;> omega
  · split
    · decide
    · omega
theorem d_51 (S : SE T N h g) (I : Iv v) (hd : 0 ≤ d ∧ d < v 117) (G : KW h g o W) (GI : WIv v d q ((s : Int) + 1) W) (hr : Rch W (ai h g 12)) (ho : 0 ≤ o ∧ o ≤ 40) (hs : s ≤ 40) (hn : 0 ≤ n ∧ n < 10) (hl : 0 ≤ l ∧ l < 3) (pp : Nat → Int × Int) (hp : ∀ i : Nat, pp (i + 1) = bs1 W n l s i (pp i)) (kk : ∀ h2, Fp (fun b => b = g + 9 ∨ b = g + 10) h h2 → gr h2 = gr h → ai h2 (g + 9) (n * 3 + l) = cL o (pp 3) → ai h2 (g + 10) (n * 3 + l) = cE (pp 3) → (∀ j, 0 ≤ j → j ≠ n * 3 + l → ai h2 (g + 9) j = ai h (g + 9) j ∧ ai h2 (g + 10) j = ai h (g + 10) j) → KV h2) :
    ∀ (m i : Nat), i + m = 3 → BI v d q n s (pp i) → WV T N 71 51 [some (vr (some g)), some (vi (J n)), some (vi (J l)), some (vi (J ((s : Int) + o))), some (vi (J (cL o (pp i)))), some (vi (J (cE (pp i)))), some (vi (J ((i : Int)))), none, none] [] h KV := by
  have b := I.b
  have n8 := S.ai8.2.1
  have n9 := S.ai9.2.1
  have t8 := S.ai8.1
  have t9 := S.ai9.1
  intro m
  induction m with
  | zero =>
    intro i hi B
    have e3 : i = 3 := by omega
    subst e3
    have c := cLE I hd B ho
    exact z71_51 S.1 (by omega) (by omega) (by omega) c.1 c.2 (by omega) ⟨fun z => by omega, fun _ => ⟨by omega, fun z => by omega, fun _ => d_rw S hn hl c.1 c.2 kk⟩⟩
  | succ m ih =>
    intro i hi B
    have c := cLE I hd B ho
    have B1 := BI_1 (x := (i : Int)) (l := l) I hd GI B (by omega) (by omega) (by omega)
    rw [← hp] at B1
    have nx := ih (i + 1) (by omega) B1
    rw [show ((i + 1 : Nat) : Int) = (i : Int) + 1 by omega] at nx
    have ga := G (3 * n + i) (by omega) (by omega)
    have gi := GI (3 * n + i)
    have bb := BI_in I hd B
    refine z71_51 S.1 (by omega) (by omega) (by omega) c.1 c.2 (by omega) ⟨fun _ => d_holds (S := mb (ai h g 12) n.toNat = true) hr.1 (by omega) Iff.rfl (fun s1 => ⟨(fun z => absurd z (by decide)), fun _ => ⟨by omega, fun z => by omega, fun _ => ⟨g + 7, S.ai8.2.2, by omega, by omega, fun _ => ⟨g + 7, S.ai8.2.2, t8, by omega, ?_⟩, fun z => absurd (by omega) z⟩⟩⟩) (fun s1 => ⟨fun _ => ⟨by omega, fun z => by omega, fun _ => ?_⟩, (fun z => absurd rfl z)⟩), fun z => absurd (by omega) z⟩
    · rw [show n * 3 + (i : Int) = 3 * n + i by omega, ga.1]
      have nxn : W.1 (3 * n + i) < 0 → WV T N 71 51 [some (vr (some g)), some (vi (J n)), some (vi (J l)), some (vi (J ((s : Int) + o))), some (vi (J (cL o (pp i)))), some (vi (J (cE (pp i)))), some (vi (J ((i : Int) + 1))), none, none] [] h KV := fun z => by
        have e1 : pp (i + 1) = pp i := by rw [hp]; unfold bs1; rw [if_pos z]
        rw [e1] at nx; exact nx
      rcases gi with z | ⟨⟨g1, g2⟩, g3, g4, g5⟩
      · exact ⟨fun _ => nxn (by omega), fun y => absurd (by rw [z]; rfl) y⟩
      · have P := TK_pos I hd g1 g2
        have en : 1 ≤ enK v (W.1 (3 * n + i)) := by
          have := ln_b I P.2.1
          unfold enK; omega
        have pb := P.2.2.2.1
        have kb := P.1
        have lm := lim_b I hd
        have eb := P.2.2.1
        have c0 : ¬ W.1 (3 * n + i) < 0 := by omega
        have es : shK o (W.1 (3 * n + i)) = W.1 (3 * n + i) + 96 * o := if_neg c0
        have av := ab_b (x := l - i) (by omega)
        have I1 : In (W.1 (3 * n + i) + 96 * o) := by omega
        rw [es]
        refine ⟨fun y => by omega, fun _ => ⟨g + 8, S.ai9.2.2, t9, by omega, by omega, ?_⟩⟩
        rw [ga.2 g1, ab_alt, show W.2 (3 * n + i) - o + ((s : Int) + o) + ab (l - i) = W.2 (3 * n + i) + s + ab (l - i) by omega]
        clear P
        have e1 := hp i
        unfold bs1 at e1
        rw [if_neg c0] at e1
        refine ⟨by omega, fun y => ⟨g + 7, S.ai8.2.2, t8, by omega, ?_⟩, fun y => ?_⟩
        · rw [ga.1, es]
          have ny : ¬ (0 ≤ (pp i).1 ∧ (pp i).1 ≤ W.2 (3 * n + i) + s + ab (l - i)) := fun z => by
            unfold cE at y
            rw [if_neg (by omega)] at y
            omega
          rw [if_neg ny] at e1
          rw [e1] at nx
          unfold cL cE at nx
          dsimp only at nx
          rw [if_neg (by omega), if_neg (by omega), es] at nx
          exact nx
        · have yy : 0 ≤ (pp i).1 ∧ (pp i).1 ≤ W.2 (3 * n + i) + s + ab (l - i) := by
            unfold cE at y
            split at y
            · omega
            · omega
          rw [if_pos yy] at e1
          rw [e1] at nx
          exact nx
    · have z : ∀ j : Int, 0 ≤ j → j < 3 → W.1 (3 * n + j) < 0 := fun j j1 j2 => by
        by_cases y : 0 ≤ W.1 (3 * n + j)
        · exact absurd (hr.2 n j hn.1 hn.2 j1 j2 y) s1
        · omega
      have id1 : ∀ i : Nat, i < 3 → pp (i + 1) = pp i := fun i hi => by rw [hp]; unfold bs1; rw [if_pos (z i (by omega) (by omega))]
      have e3 : pp 3 = pp i := by
        rcases (show i = 0 ∨ i = 1 ∨ i = 2 by omega) with y | y | y <;> subst y
        · rw [id1 2 (by decide), id1 1 (by decide), id1 0 (by decide)]
        · rw [id1 2 (by decide), id1 1 (by decide)]
        · rw [id1 2 (by decide)]
      rw [e3] at kk
      exact d_rw S hn hl c.1 c.2 kk
theorem d_readyAt (S : SE T N h g) (I : Iv v) (hd : 0 ≤ d ∧ d < v 117) (O : SO h g v d o) (G : KW h g o (wsF v d q (s + 1))) (hr : Rch (wsF v d q (s + 1)) (ai h g 12)) (ho : 0 ≤ o ∧ o ≤ 40) (hs : s ≤ 40) (hn : 0 ≤ n ∧ n < 10) (hl : 0 ≤ l ∧ l < 3) (kk : ∀ h2, Fp (fun b => b = g + 9 ∨ b = g + 10) h h2 → gr h2 = gr h → ai h2 (g + 9) (n * 3 + l) = cL o (bsV v d (wsF v d q (s + 1)) n l s) → ai h2 (g + 10) (n * 3 + l) = cE (bsV v d (wsF v d q (s + 1)) n l s) → (∀ j, 0 ≤ j → j ≠ n * 3 + l → ai h2 (g + 9) j = ai h (g + 9) j ∧ ai h2 (g + 10) j = ai h (g + 10) j) → KV h2) : CV T N 71 [vr (some g), vi (J n), vi (J l), vi (J ((s : Int) + o))] h KV := by
  have b := I.b
  have GI := WI_ws (d := d) (q := q) I (s + 1)
  rw [show ((s + 1 : Nat) : Int) = (s : Int) + 1 by omega] at GI
  have O2 := (I.d hd.1 hd.2).2.2.1
  have B := BI_b0 (n := n) (l := l) (q := q) I hd (s := s) (by omega) (by omega)
  have m51 := d_51 (KV := KV) S I hd G GI hr ho hs hn hl (fun i => bsN (wsF v d q (s + 1)) n l s (b0 v d n l s, -1) i) (fun i => rfl) kk 3 0 (by decide) B
  obtain ⟨o13, o14, o15, o16, o17⟩ := O
  have av := ab_b (x := l - rc v d 2) (by omega)
  have ep : bsN (wsF v d q (s + 1)) n l s (b0 v d n l s, -1) 0 = (b0 v d n l s, -1) := rfl
  simp only [ep] at m51
  unfold cL cE b0 at m51
  dsimp only at m51
  refine z71 S.1 (by omega) (by omega) (by omega) ?_
  rw [o13, o14, o15, o17, ab_alt]
  refine ⟨fun c => ?_, fun c => ?_⟩
  · rw [if_pos c] at m51
    refine ⟨fun c2 => ⟨by omega, ?_⟩, fun c2 => ⟨by omega, ?_⟩⟩
    · have c3 : ¬ rc v d 0 = 0 := fun z => by rw [if_pos z] at c2; exact absurd c2 (by decide)
      rw [if_neg c3, if_neg (by omega), if_neg (by omega)] at m51
      rw [show (s : Int) + o - o + ab (l - rc v d 2) = s + ab (l - rc v d 2) by omega]
      exact m51
    · have c3 : rc v d 0 = 0 := Classical.byContradiction fun z => c2 (if_neg z)
      rw [if_pos c3, if_neg (by omega), if_neg (by omega)] at m51
      exact m51
  · rw [if_neg c, if_pos (by decide), if_pos (by decide)] at m51
    exact m51
end RDY
