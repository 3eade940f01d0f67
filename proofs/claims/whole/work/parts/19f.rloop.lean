/-! SEARCH: the reference's loops -/
/-- while it looks: the sums until now, the tries until m -/
def LI (T N : Nat → Nat) (A : Nat) (h0 h : PH) (v : Int → Int) (d q : Int) (W : (Int → Int) × (Int → Int)) (m : Int) : Prop := LB T N A h v d ∧ RW A h (orgV v d) W ∧ RK A h v d q m ∧ FR (P9 A) h0 h
section RLP
variable {T N : Nat → Nat} {A : Nat} {h h0 h1 h2 h3 : PH} {v u : Int → Int} {d q e k l m n t x y a b o w j x1 x2 x3 x4 x9 : Int} {W : (Int → Int) × (Int → Int)} {p : Int × Int} {K : Int → PH → Prop} {KV : PH → Prop} {s c : Nat}
theorem RK_skip (G : RK A h v d q m) (z : ∀ k, m ≤ k → k < n → TK v d q k = -1) (hm : m ≤ n) : RK A h v d q n := by
  intro k h1 h2
  have g := G k h1 h2
  by_cases c : k < m
  · rw [if_pos (by omega)]; rw [if_pos c] at g
    exact ⟨g.1, fun _ => g.2 c⟩
  · rw [if_neg c] at g
    by_cases c2 : k < n
    · rw [if_pos c2, z k (by omega) c2]
      exact ⟨g.1, fun _ y => absurd y (by decide)⟩
    · rw [if_neg c2]
      exact ⟨g.1, fun y => absurd y c2⟩
theorem RK_step (G : RK A h v d q m) (hm : 0 ≤ m) (e9 : ∀ j, 0 ≤ j → ai h2 (A + 9) j = if j = m then TK v d q m else ai h (A + 9) j) (e10 : ∀ j, 0 ≤ j → j ≠ m → ai h2 (A + 10) j = ai h (A + 10) j) (eb : 0 ≤ TK v d q m → ai h2 (A + 10) m = BF v d q m) : RK A h2 v d q (m + 1) := by
  intro k h1 h2
  have g := G k h1 h2
  rw [e9 k h1]
  by_cases c : k = m
  · rw [if_pos c, if_pos (by omega), c]
    exact ⟨rfl, fun _ => eb⟩
  · rw [if_neg c, g.1, e10 k h1 c]
    refine ⟨?_, fun z => g.2 (by omega)⟩
    by_cases c2 : k < m
    · rw [if_pos c2, if_pos (by omega)]
    · rw [if_neg c2, if_neg (by omega)]
theorem TK_no (I : Iv v) (hs : s < 40) (he : 0 ≤ e ∧ e < 96) (z : ¬ (e < 6 * v 11 ∧ s + lnV v e ≤ limV v d)) : TK v d q (96 * s + e) = -1 := by rw [TK_at I hs he, if_neg z]
theorem LI.to (G : LI T N A h0 h v d q W m) (F : FR (fun b _ => b = A + 9 ∨ b = A + 10) h h2) (e9 : ∀ j, 0 ≤ j → ai h2 (A + 9) j = if j = m then TK v d q m else ai h (A + 9) j) (e10 : ∀ j, 0 ≤ j → j ≠ m → ai h2 (A + 10) j = ai h (A + 10) j) (eb : 0 ≤ TK v d q m → ai h2 (A + 10) m = BF v d q m) (hm : 0 ≤ m) : LI T N A h0 h2 v d q W (m + 1) := by
  have F2 : FR (P9 A) h h2 := F.mo fun b k z => by unfold P9; omega
  refine ⟨G.1.fr F2, fun a h1 h2 => ?_, RK_step G.2.2.1 hm e9 e10 eb, G.2.2.2.tr F2⟩
  rw [F.ai (by omega), F.ai (by omega)]
  exact G.2.1 a h1 h2
theorem r_lkT (I : Iv v) (hd : 0 ≤ d ∧ d < v 117) (hs : s < 40) (hc : (c : Int) < v 11) (hl : s + v (12 + 4 * (c : Int) + 2) ≤ limV v d) (h2 : x2 = if 1 ≤ q then 1 else 0) (h3' : x3 = if 2 ≤ q then 1 else 0) (kk : ∀ h4, LI T N A h0 h4 v d q (wsF v d q (s + 1)) (96 * s + 6 * c + 6) → WV T N 208 188 [some (vr (some A)), some (vi (J d)), some (vi (J x2)), some (vi (J x3)), some (vi (J (v 448 + 40))), some (vi (J (orgV v d + s))), some (vi (J ((c : Int) + 1))), none, none, none] [] h4 KV) :
    ∀ (m r : Nat) (h3 : PH), r + m = 6 → LI T N A h0 h3 v d q (wsF v d q (s + 1)) (96 * s + 6 * c + r) → WV T N 208 220 [some (vr (some A)), some (vi (J d)), some (vi (J x2)), some (vi (J x3)), some (vi (J (v 448 + 40))), some (vi (J (orgV v d + s))), some (vi (J ((c : Int)))), some (vi (J ((r : Int)))), none, none] [] h3 KV := by
  have b := I.b
  have ob := org_b I hd
  have I2 : In x2 := by rw [h2]; split <;> decide
  have I3 : In x3 := by rw [h3']; split <;> decide
  intro m
  induction m with
  | zero =>
    intro r h3 hr G
    refine z208_220 G.1.1.t (by omega) I2 I3 (by omega) (by omega) (by omega) (by omega) ⟨fun z => by omega, fun _ => kk h3 ?_⟩
    rw [show (96 * (s : Int) + 6 * c + 6) = 96 * s + 6 * c + r by omega]; exact G
  | succ m ih =>
    intro r h3 hr G
    have e1 : 96 * (orgV v d + (s : Int) - orgV v d) + 6 * c + r = 96 * s + (6 * c + r) := by omega
    have e2 : 96 * (s : Int) + 6 * c + r = 96 * s + (6 * c + r) := by omega
    have lne : lnV v (6 * c + r) = v (12 + 4 * (c : Int) + 2) := by unfold lnV; rw [show (6 * (c : Int) + r) / 6 = c by omega]
    have G' := G
    rw [e2] at G'
    refine z208_220 G.1.1.t (by omega) I2 I3 (by omega) (by omega) (by omega) (by omega) ⟨fun _ => ?_, fun z => absurd (by omega) z⟩
    rw [G.1.2.2.1.1, e1]
    have g9 := (G'.2.2.1 (96 * s + (6 * c + r)) (by omega) (by omega)).1
    rw [if_neg (by omega)] at g9
    refine r_tries G.1 I hd G.2.1 hs (by omega) (by rw [lne]; exact hl) h2 h3' g9 fun h4 F4 k9 k10 kb => ?_
    have := ih (r + 1) h4 (by omega) (by
      have g := G'.to F4 k9 k10 kb (by omega)
      rw [show 96 * (s : Int) + 6 * c + ((r + 1 : Nat) : Int) = 96 * s + (6 * c + r) + 1 by omega]; exact g)
    rw [show ((r + 1 : Nat) : Int) = (r : Int) + 1 by omega] at this; exact this
theorem r_lkC (I : Iv v) (hd : 0 ≤ d ∧ d < v 117) (hs : s < 40) (h2 : x2 = if 1 ≤ q then 1 else 0) (h3' : x3 = if 2 ≤ q then 1 else 0) (kk : ∀ h4, LI T N A h0 h4 v d q (wsF v d q (s + 1)) (96 * s + 96) → WV T N 208 72 [some (vr (some A)), some (vi (J d)), some (vi (J x2)), some (vi (J x3)), some (vi (J (v 448 + 40))), some (vi (J (orgV v d + s + 1))), none, none, none, none] [] h4 KV) :
    ∀ (m c : Nat) (h3 : PH), (c : Int) + m = v 11 → LI T N A h0 h3 v d q (wsF v d q (s + 1)) (96 * s + 6 * c) → WV T N 208 188 [some (vr (some A)), some (vi (J d)), some (vi (J x2)), some (vi (J x3)), some (vi (J (v 448 + 40))), some (vi (J (orgV v d + s))), some (vi (J ((c : Int)))), none, none, none] [] h3 KV := by
  have b := I.b
  have ob := org_b I hd
  have I2 : In x2 := by rw [h2]; split <;> decide
  have I3 : In x3 := by rw [h3']; split <;> decide
  intro m
  induction m with
  | zero =>
    intro c h3 hc G
    have n1 := G.1.1.a1.2.1
    have e11 := G.1.2.1 11 (by omega) (by omega)
    refine z208_188 G.1.1.t (by omega) I2 I3 (by omega) (by omega) (by omega) ⟨A + 1, G.1.1.a1.2.2, G.1.1.a1.1, by omega, fun z => by omega, fun _ => kk h3 ⟨G.1, G.2.1, RK_skip G.2.2.1 (fun k h1 h2 => ?_) (by omega), G.2.2.2⟩⟩
    have := TK_no (d := d) (q := q) (s := s) (e := k - 96 * s) I hs (by omega) (fun z => by omega)
    rw [← this]; congr 1; omega
  | succ m ih =>
    intro c h3 hc G
    have n1 := G.1.1.a1.2.1
    have e11 := G.1.2.1 11 (by omega) (by omega)
    have lb := (I.c (n := (c : Int)) (by omega) (by omega)).2.2.2.1
    have lim := lim_b I hd
    have el := G.1.2.1 (12 + 4 * (c : Int) + 2) (by omega) (by omega)
    have nx : ∀ h4, LI T N A h0 h4 v d q (wsF v d q (s + 1)) (96 * s + 6 * c + 6) → WV T N 208 188 [some (vr (some A)), some (vi (J d)), some (vi (J x2)), some (vi (J x3)), some (vi (J (v 448 + 40))), some (vi (J (orgV v d + s))), some (vi (J ((c : Int) + 1))), none, none, none] [] h4 KV := fun h4 G4 => by
      have := ih (c + 1) h4 (by omega) (by rw [show 96 * (s : Int) + 6 * ((c + 1 : Nat) : Int) = 96 * s + 6 * c + 6 by omega]; exact G4)
      rw [show ((c + 1 : Nat) : Int) = (c : Int) + 1 by omega] at this; exact this
    refine z208_188 G.1.1.t (by omega) I2 I3 (by omega) (by omega) (by omega) ⟨A + 1, G.1.1.a1.2.2, G.1.1.a1.1, by omega, fun _ => r_len G.1.1 (by omega) ?_, fun z => absurd (by omega) z⟩
    rw [el]
    have eo : limV v d = v 448 + 40 - orgV v d := rfl
    refine ⟨by omega, fun z => nx h3 ⟨G.1, G.2.1, RK_skip G.2.2.1 (fun k h1 h2 => ?_) (by omega), G.2.2.2⟩, fun z => r_lkT I hd hs (by omega) (by omega) h2 h3' nx 6 0 h3 (by omega) (by rw [show 96 * (s : Int) + 6 * c + ((0 : Nat) : Int) = 96 * s + 6 * c by omega]; exact G)⟩
    have lne : lnV v (k - 96 * s) = v (12 + 4 * (c : Int) + 2) := by unfold lnV; rw [show (k - 96 * (s : Int)) / 6 = c by omega]
    have := TK_no (d := d) (q := q) (s := s) (e := k - 96 * s) I hs (by omega) (fun z => by rw [lne] at z; omega)
    rw [← this]; congr 1; omega
theorem ar1_sk (h : ¬ (lnV v e ≤ t ∧ 0 ≤ TK v d q (96 * (t - lnV v e) + e))) : ar1 v (TK v d q) t e W = W := if_neg h
/-- arrivals -/
theorem r_lkA (I : Iv v) (hd : 0 ≤ d ∧ d < v 117) (hs : s < 40) (I2 : In x2) (I3 : In x3) (hc : (c : Int) < v 11) (kk : ∀ h4, LI T N A h0 h4 v d q (arN v (TK v d q) s (6 * c + 6) (wsF v d q s)) (96 * s) → WV T N 208 82 [some (vr (some A)), some (vi (J d)), some (vi (J x2)), some (vi (J x3)), some (vi (J (v 448 + 40))), some (vi (J (orgV v d + s))), some (vi (J ((c : Int) + 1))), none, none, none] [] h4 KV) :
    ∀ (m r : Nat) (h3 : PH), r + m = 6 → LI T N A h0 h3 v d q (arN v (TK v d q) s (6 * c + r) (wsF v d q s)) (96 * s) → WV T N 208 113 [some (vr (some A)), some (vi (J d)), some (vi (J x2)), some (vi (J x3)), some (vi (J (v 448 + 40))), some (vi (J (orgV v d + s))), some (vi (J (c : Int))), some (vi (J ((s : Int) - v (12 + 4 * (c : Int) + 2)))), some (vi (J (r : Int))), none] [] h3 KV := by
  have b := I.b
  have ob := org_b I hd
  have lb := (I.c (n := (c : Int)) (by omega) (by omega)).2.2.2.1
  intro m
  induction m with
  | zero =>
    intro r h3 hr G
    refine z208_113 G.1.1.t (by omega) I2 I3 (by omega) (by omega) (by omega) (by omega) (by omega) ⟨fun z => by omega, fun _ => kk h3 ?_⟩
    rw [show 6 * c + 6 = 6 * c + r by omega]; exact G
  | succ m ih =>
    intro r h3 hr G
    have n9 := G.1.1.a9.2.1
    have lne : lnV v ((6 * c + r : Nat) : Int) = v (12 + 4 * (c : Int) + 2) := by unfold lnV; rw [show ((6 * c + r : Nat) : Int) / 6 = c by omega]
    have step : arN v (TK v d q) s (6 * c + (r + 1)) (wsF v d q s) = ar1 v (TK v d q) s ((6 * c + r : Nat) : Int) (arN v (TK v d q) s (6 * c + r) (wsF v d q s)) := rfl
    have nx : ∀ h4, LI T N A h0 h4 v d q (ar1 v (TK v d q) s ((6 * c + r : Nat) : Int) (arN v (TK v d q) s (6 * c + r) (wsF v d q s))) (96 * s) → WV T N 208 113 [some (vr (some A)), some (vi (J d)), some (vi (J x2)), some (vi (J x3)), some (vi (J (v 448 + 40))), some (vi (J (orgV v d + s))), some (vi (J (c : Int))), some (vi (J ((s : Int) - v (12 + 4 * (c : Int) + 2)))), some (vi (J ((r : Int) + 1))), none] [] h4 KV := fun h4 G4 => by
      have := ih (r + 1) h4 (by omega) (by rw [step]; exact G4)
      rw [show ((r + 1 : Nat) : Int) = (r : Int) + 1 by omega] at this; exact this
    refine z208_113 G.1.1.t (by omega) I2 I3 (by omega) (by omega) (by omega) (by omega) (by omega) ⟨fun _ => ⟨fun z => ?_, fun z => ⟨A + 9, G.1.1.a9.2.2, G.1.1.a9.1, by omega, ?_⟩⟩, fun z => absurd (by omega) z⟩
    · refine kk h3 ?_
      have sk : ∀ n : Nat, n ≤ 6 - r → arN v (TK v d q) s (6 * c + r + n) (wsF v d q s) = arN v (TK v d q) s (6 * c + r) (wsF v d q s) := by
        intro n
        induction n with
        | zero => intro _; rfl
        | succ n ihn =>
          intro hn
          show ar1 v (TK v d q) s ((6 * c + r + n : Nat) : Int) (arN v (TK v d q) s (6 * c + r + n) (wsF v d q s)) = _
          rw [ihn (by omega)]
          refine ar1_sk fun z2 => ?_
          have z3 := z2.1
          unfold lnV at z3
          rw [show ((6 * c + r + n : Nat) : Int) / 6 = c by omega] at z3
          omega
      have := sk (6 - r) (by omega)
      rw [show 6 * c + r + (6 - r) = 6 * c + 6 by omega] at this
      rw [this]; exact G
    · have ek : 96 * ((s : Int) - v (12 + 4 * (c : Int) + 2)) + 6 * c + r = 96 * (s - lnV v ((6 * c + r : Nat) : Int)) + ((6 * c + r : Nat) : Int) := by rw [lne]; omega
      rw [ek]
      have g9 := (G.2.2.1 (96 * (s - lnV v ((6 * c + r : Nat) : Int)) + ((6 * c + r : Nat) : Int)) (by omega) (by omega)).1
      rw [if_pos (by omega)] at g9
      rw [g9]
      obtain ⟨ee, hee⟩ : ∃ ee : Int, ee = ((6 * c + r : Nat) : Int) := ⟨_, rfl⟩
      rw [← hee] at lne nx g9 ⊢
      have k1 : (96 * (s - lnV v ee) + ee) % 96 = ee := by omega
      have k2 : (96 * (s - lnV v ee) + ee) / 96 = s - lnV v ee := by omega
      refine ⟨fun z2 => nx h3 ?_, fun z2 => ⟨by omega, ?_⟩⟩
      · rw [ar1_sk fun z3 => by have := z3.2; omega]; exact G
      · refine r_end G.1.1 (by omega) (by omega) ?_
        have GI := WI_arN (d := d) (q := q) (s := s) I (WIv_mo' I s) (by omega) (6 * c + r) (by omega)
        have e3 : ai h3 (A + 1) (12 + 4 * (c : Int) + (1 - (r : Int) / 3)) = tnV v ((96 * (s - lnV v ee) + ee) % 96) := by
          rw [k1, G.1.2.1 _ (by omega) (by omega)]
          unfold tnV
          congr 1; omega
        have e4 : (r : Int) % 3 = (96 * (s - lnV v ee) + ee) % 96 % 3 := by rw [k1]; omega
        rw [e3, e4]
        refine r_arrives (s := s) G.1 I hd G.2.1 GI (by omega) (by omega) (by unfold enK; rw [k1, k2]; omega) g9 fun h4 F4 a9 a10 W4 => nx h4 ⟨G.1.fr F4, ?_, fun k h1 h2 => ?_, G.2.2.2.tr F4⟩
        · unfold ar1
          rw [if_pos ⟨by omega, by omega⟩]
          rw [k1] at W4; exact W4
        · rw [a9, a10]; exact G.2.2.1 k h1 h2
end RLP
