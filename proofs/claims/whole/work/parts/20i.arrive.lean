/-! SEARCH: the class arrives -/
def ixK (k : Int) : Int := k % 96 % 3 * 16 + k % 96 / 6
def BA (v : Int → Int) (d q o n s m b : Int) : Prop := (b = -1 ∧ ∀ k, Cand v d q n k → enK v k = s → ¬ ixK k < m) ∨ (∃ k, b = k + 96 * o ∧ Cand v d q n k ∧ enK v k = s ∧ ixK k < m ∧ ∀ k2, Cand v d q n k2 → enK v k2 = s → ixK k2 < m → ¬ ltK v d q k2 k)
section ARV
variable {T N : Nat → Nat} {a w g : Nat} {h h0 h1 h2 h3 : PH} {v u : Int → Int} {d q e b i k k2 k3 l m n t x y o p0 j x1 x2 x3 x4 f z : Int} {W : (Int → Int) × (Int → Int)} {p : Int × Int} {K : Int → PH → Prop} {KV : PH → Prop} {P : Int → Prop} {c r s : Nat} {NX : Int → PH → Prop}
theorem q6 (k : Int) : 0 ≤ k % 96 / 6 ∧ k % 96 / 6 < 16 := by omega
theorem q3 (k : Int) : 0 ≤ k % 96 % 3 ∧ k % 96 % 3 < 3 := by omega
theorem ixK_b (k : Int) : 0 ≤ ixK k ∧ ixK k < 48 := by
  have a := q6 k
  have b := q3 k
  unfold ixK
  generalize k % 96 / 6 = a1 at *
  generalize k % 96 % 3 = a3 at *
  omega
theorem ix_eq (h : ixK k = ixK k2) : k % 96 % 3 = k2 % 96 % 3 ∧ k % 96 / 6 = k2 % 96 / 6 := by
  have h1 := q6 k
  have h2 := q6 k2
  unfold ixK at h
  generalize k % 96 / 6 = a1 at *
  generalize k2 % 96 / 6 = a2 at *
  generalize k % 96 % 3 = a3 at *
  generalize k2 % 96 % 3 = a4 at *
  omega
theorem ix_no (hk : 0 ≤ k) (hk2 : 0 ≤ k2) (g : ixK k2 < ixK k) (y : k % 96 % 3 < k2 % 96 % 3 ∨ (k % 96 % 3 = k2 % 96 % 3 ∧ k % 96 / 6 < k2 % 96 / 6)) : False := by
  have h1 := q6 k
  have h2 := q6 k2
  unfold ixK at g
  generalize k % 96 / 6 = a1 at *
  generalize k2 % 96 / 6 = a2 at *
  generalize k % 96 % 3 = a3 at *
  generalize k2 % 96 % 3 = a4 at *
  omega
theorem BA.mo (B : BA v d q o n s m b) (z : ∀ k, Cand v d q n k → enK v k = s → ixK k < t → ixK k < m) (hm : m ≤ t) : BA v d q o n s t b := by
  rcases B with ⟨g1, g2⟩ | ⟨k, g1, g2, g3, g4, g5⟩
  · exact Or.inl ⟨g1, fun k h1 h2 h3 => g2 k h1 h2 (z k h1 h2 h3)⟩
  · exact Or.inr ⟨k, g1, g2, g3, by omega, fun k2 h1 h2 h3 => g5 k2 h1 h2 (z k2 h1 h2 h3)⟩
theorem BA_at (I : Iv v) (hd : 0 ≤ d ∧ d < v 117) (h : Cand v d q n k) (g : Cand v d q n k2) (e1 : enK v k = enK v k2) (e2 : ixK k = ixK k2) : k = k2 := by
  exact Cand.un I hd h g e1 (ix_eq e2).1 (ix_eq e2).2
/-- the corridor l, c is looked at -/
theorem BA.new (B : BA v d q o n s m b) (I : Iv v) (hd : 0 ≤ d ∧ d < v 117) (hc : Cand v d q n k) (he : enK v k = s) (hi : ixK k = m) (z : b = -1 ∨ ∃ k2, b = k2 + 96 * o ∧ Cand v d q n k2 ∧ enK v k2 = s ∧ TK v d q k < TK v d q k2) (ho : 0 ≤ o) : BA v d q o n s (m + 1) (k + 96 * o) := by
  refine Or.inr ⟨k, rfl, hc, he, by omega, fun k2 h1 h2 h3 y => ?_⟩
  by_cases c : ixK k2 = m
  · rw [BA_at I hd h1 hc (h2.trans he.symm) (c.trans hi.symm)] at y
    exact lt4_ir y
  · rcases B with ⟨g1, g2⟩ | ⟨k3, g1, g2, g3, g4, g5⟩
    · exact g2 k2 h1 h2 (by omega)
    · rcases z with z | ⟨k4, z1, z2, z3, z4⟩
      · have := g2.1; omega
      · have e34 : k3 = k4 := by omega
        rw [← e34] at z4
        have n2 : ¬ TK v d q k2 < TK v d q k3 := fun w => g5 k2 h1 h2 (by omega) (Or.inr ⟨h2.trans g3.symm, Or.inl w⟩)
        rcases y with y | ⟨_, y | ⟨y, _⟩⟩
        · rw [h2, he] at y; exact Int.lt_irrefl _ y
        · exact n2 (Int.lt_trans y z4)
        · rw [y] at n2; exact n2 z4
theorem BA.old (B : BA v d q o n s m b) (I : Iv v) (hd : 0 ≤ d ∧ d < v 117) (z : ∀ k, Cand v d q n k → enK v k = s → ixK k = m → 0 ≤ b ∧ ∀ k2, b = k2 + 96 * o → ¬ TK v d q k < TK v d q k2) : BA v d q o n s (m + 1) b := by
  rcases B with ⟨g1, g2⟩ | ⟨k3, g1, g2, g3, g4, g5⟩
  · refine Or.inl ⟨g1, fun k h1 h2 h3 => ?_⟩
    by_cases c : ixK k = m
    · have := (z k h1 h2 c).1; omega
    · exact g2 k h1 h2 (by omega)
  · refine Or.inr ⟨k3, g1, g2, g3, by omega, fun k2 h1 h2 h3 y => ?_⟩
    by_cases c : ixK k2 = m
    · have n2 := (z k2 h1 h2 c).2 k3 g1
      unfold ixK at c g4
      have c1 := h1.1
      have c3 := g2.1
      unfold ltK lt4 at y
      omega
    · exact g5 k2 h1 h2 (by omega) y
theorem BA_in (B : BA v d q o n s m b) (I : Iv v) (hd : 0 ≤ d ∧ d < v 117) (ho : 0 ≤ o ∧ s + o ≤ 40) : -1 ≤ b ∧ b < 3840 := by
  rcases B with ⟨g1, g2⟩ | ⟨k3, g1, g2, g3, g4, g5⟩
  · omega
  · have P := TK_pos I hd g2.1 g2.2.1
    have lb := ln_b I P.2.1
    have := g2.1
    unfold enK at g3
    omega
theorem d_arrS (S : SE T N h g) (I : Iv v) (hd : 0 ≤ d ∧ d < v 117) (G : KT h g v d q o s) (e13 : ai h g 13 = o) (ho : o = orgV v d - v 448) (hs : (s : Int) ≤ limV v d) (hc : (c : Int) < v 11) (hr : 0 ≤ t ∧ t < 2) (hl : 0 ≤ l ∧ l < 3) (hn : n = v (12 + 4 * (c : Int) + (1 - t))) (B : BA v d q o n s (l * 16 + c) b) (kk : ∀ b2, BA v d q o n s (l * 16 + c + 1) b2 → NX b2 h) :
    ZI T N 8 [vi (J (c : Int)), vi (J t), vi (J l)] h (fun x_37 h_36 => ZI T N 65 [vr (some g), vi (J ((s : Int) + o)), vi (J (v (12 + 4 * (c : Int) + 2))), vi (J x_37)] h_36 (fun x_41 h_40 => (x_41 = (-1) → NX b h_40) ∧ (¬ (x_41 = (-1)) → (b = (-1) → NX x_41 h_40) ∧ (¬ (b = (-1)) → ZI T N 64 [vr (some g), vi (J x_41)] h_40 (fun x_47 h_46 => ZI T N 64 [vr (some g), vi (J b)] h_46 (fun x_51 h_50 => (x_47 < x_51 → NX x_41 h_50) ∧ (¬ (x_47 < x_51) → NX b h_50))))))) := by
  have bb := I.b
  have ob := org_b I hd
  have lm := lim_b I hd
  have eo : limV v d = v 448 + 40 - orgV v d := rfl
  have bi := BA_in B I hd (by omega)
  obtain ⟨e, ee⟩ : ∃ e : Int, e = 6 * c + 3 * t + l := ⟨_, rfl⟩
  have e6 : e / 6 = c := by omega
  have e3 : e / 3 % 2 = t := by omega
  have el : e % 3 = l := by omega
  have he : 0 ≤ e ∧ e < 6 * v 11 := by omega
  have lne : lnV v e = v (12 + 4 * (c : Int) + 2) := by unfold lnV; rw [e6]
  have tne : tnV v e = n := by unfold tnV; rw [e6, e3, hn]
  have lb := ln_b I he
  refine d_lane (by omega) (by omega) hl ?_
  rw [← lne, show ((c : Int) * 2 + t) * 3 + l = e by omega]
  have key : ∀ k, Cand v d q n k → enK v k = s → ixK k = l * 16 + c → lnV v e ≤ s ∧ k = 96 * (s - lnV v e) + e := fun k h1 h2 h3 => by
    have P := TK_pos I hd h1.1 h1.2.1
    have k0 := h1.1
    unfold ixK at h3
    have c1 : k % 96 / 6 = c := by omega
    have c2 : k % 96 % 3 = l := by omega
    have t1 := h1.2.2
    unfold tnV at t1
    rw [c1] at t1
    have O := I.c (n := (c : Int)) (by omega) (by omega)
    unfold corOK at O
    have w : k % 96 / 3 % 2 = t := by
      rw [hn] at t1
      rcases (show k % 96 / 3 % 2 = 0 ∨ k % 96 / 3 % 2 = 1 by omega) with z1 | z1 <;> rcases (show t = 0 ∨ t = 1 by omega) with z2 | z2
      · omega
      · rw [z1, z2] at t1; exact absurd t1.symm O.2.2.1
      · rw [z1, z2] at t1; exact absurd t1 O.2.2.1
      · omega
    have ke : k % 96 = e := by omega
    unfold enK at h2
    rw [ke] at h2
    have := (ln_b I he).1
    omega
  have km : ∀ z : Int, (96 * z + e) % 96 = e := fun z => by omega
  have kd : ∀ z : Int, (96 * z + e) / 96 = z := fun z => by omega
  refine d_legEnd S I hd G e13 ho ⟨by omega, hs⟩ he (fun z1 z2 => ⟨fun y => by omega, fun _ => ?_⟩) (fun z => ⟨fun _ => kk b (B.old I hd fun k h1 h2 h3 => ?_), (fun z => absurd rfl z)⟩)
  · have hC : Cand v d q n (96 * (s - lnV v e) + e) := ⟨by omega, z2, by rw [km]; exact tne⟩
    have hE : enK v (96 * (s - lnV v e) + e) = s := by unfold enK; rw [km, kd]; omega
    have hI : ixK (96 * (s - lnV v e) + e) = l * 16 + c := by unfold ixK; rw [km]; omega
    have P := TK_pos I hd hC.1 hC.2.1
    have Gk := (G (96 * (s - lnV v e) + e) (by omega) (by omega) (by rw [km]; omega) (by omega)).1
    refine ⟨fun y => kk _ (B.new I hd hC hE hI (Or.inl y) (by omega)), fun y => d_energy S (by omega) (d_energy S (by omega) ?_)⟩
    rw [Gk]
    rcases B with ⟨g1, g2⟩ | ⟨k3, g1, g2, g3, g4, g5⟩
    · exact absurd g1 y
    · have P3 := TK_pos I hd g2.1 g2.2.1
      have k30 := g2.1
      have lb3 := ln_b I P3.2.1
      have k3s : k3 < 96 * s := by unfold enK at g3; omega
      have Gk3 := (G k3 k30 k3s P3.2.1.2 P3.2.2.1).1
      rw [g1, Gk3]
      have BB : BA v d q o n s (l * 16 + c) b := Or.inr ⟨k3, g1, g2, g3, g4, g5⟩
      refine ⟨fun y2 => kk _ (BB.new I hd hC hE hI (Or.inr ⟨k3, g1, g2, g3, y2⟩) (by omega)), fun y2 => ?_⟩
      rw [← g1]
      refine kk b (BB.old I hd fun k h1 h2 h3 => ⟨by omega, fun k4 e4 => ?_⟩)
      have e5 : k4 = k3 := by omega
      rw [e5, (key k h1 h2 h3).2]
      exact y2
  · exfalso
    obtain ⟨y1, y2⟩ := key k h1 h2 h3
    have := h1.2.1
    rw [y2] at this
    exact z ⟨y1, this⟩
end ARV
