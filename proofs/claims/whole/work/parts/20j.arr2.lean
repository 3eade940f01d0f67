/-! SEARCH: the class arrives, loops -/
section AR2
variable {T N : Nat → Nat} {a w g : Nat} {h h0 h1 h2 h3 : PH} {v u : Int → Int} {d q e b i k k2 k3 l m n t x y o p0 j x1 x2 x3 x4 f z : Int} {W : (Int → Int) × (Int → Int)} {p : Int × Int} {K : Int → PH → Prop} {KV : PH → Prop} {P : Int → Prop} {c r s : Nat} {NX : Int → PH → Prop}
theorem d_ar15 (S : SE T N h g) (Wd : Wo T N h w v) (I : Iv v) (hd : 0 ≤ d ∧ d < v 117) (G : KT h g v d q o s) (e13 : ai h g 13 = o) (ho : o = orgV v d - v 448) (hs : (s : Int) ≤ limV v d) (hn : 0 ≤ n ∧ n < 10) (hl : 0 ≤ l ∧ l < 3) (kk : ∀ b2, BA v d q o n s (l * 16 + 16) b2 → WV T N 69 6 [some (vr (some g)), some (vr (some w)), some (vi (J ((s : Int) + o))), some (vi (J n)), some (vi (J (b2))), some (vi (J (l + 1))), none, none, none, none] [] h KV) :
    ∀ (m c : Nat) (b : Int), (c : Int) + m = v 11 → BA v d q o n s (l * 16 + c) b → WV T N 69 15 [some (vr (some g)), some (vr (some w)), some (vi (J ((s : Int) + o))), some (vi (J n)), some (vi (J (b))), some (vi (J (l))), some (vi (J ((c : Int)))), none, none, none] [] h KV := by
  have bb := I.b
  have ob := org_b I hd
  have lm := lim_b I hd
  have eo : limV v d = v 448 + 40 - orgV v d := rfl
  have eb := Wd.b
  intro m
  induction m with
  | zero =>
    intro c b hc B
    have bi := BA_in B I hd (by omega)
    refine z69_15 Wd.o.t S.1 (by omega) (by omega) (by omega) (by omega) (by omega) ⟨fun z => by omega, fun _ => kk b (B.mo (fun k h1 h2 h3 => ?_) (by omega))⟩
    have P := TK_pos I hd h1.1 h1.2.1
    have a1 := q6 k
    have k0 := h1.1
    have c6 : k % 96 / 6 < c := by have := P.2.1; omega
    clear P
    unfold ixK at h3 ⊢
    omega
  | succ m ih =>
    intro c b hc B
    have bi := BA_in B I hd (by omega)
    have w0 := Wd.c (c := (c : Int)) (k := 0) (by omega) (by omega) (by omega) (by omega)
    have w1 := Wd.c (c := (c : Int)) (k := 1) (by omega) (by omega) (by omega) (by omega)
    have w2 := Wd.c (c := (c : Int)) (k := 2) (by omega) (by omega) (by omega) (by omega)
    have tc := (Wd.o.c (c := (c : Int)) (by omega)).1
    have O := I.c (n := (c : Int)) (by omega) (by omega)
    unfold corOK at O
    have O3 := O.2.2.1
    have nx : ∀ b2 : Int, BA v d q o n s (l * 16 + c + 1) b2 → WV T N 69 15 [some (vr (some g)), some (vr (some w)), some (vi (J ((s : Int) + o))), some (vi (J n)), some (vi (J (b2))), some (vi (J (l))), some (vi (J ((c : Int) + 1))), none, none, none] [] h KV := fun b2 B2 => by
      have := ih (c + 1) b2 (by omega) (by rw [show l * 16 + ((c + 1 : Nat) : Int) = l * 16 + c + 1 by omega]; exact B2)
      rw [show ((c + 1 : Nat) : Int) = (c : Int) + 1 by omega] at this; exact this
    refine z69_15 Wd.o.t S.1 (by omega) (by omega) (by omega) (by omega) (by omega) ⟨fun _ => d_cor Wd.o (n := (c : Int)) (by omega) (by omega) (fun c1 => ⟨fun z => by (cases z), fun a' ea => ?_⟩) (fun c1 => absurd (by omega) c1), fun z => absurd (by omega) z⟩
    cases ea
    refine ⟨tc, ?_⟩
    rw [w0, w1, w2]
    refine ⟨fun c0 => ⟨fun c1 => absurd (c0.trans c1.symm) O3, fun c1 => ?_⟩, fun c0 => ⟨fun c1 => ⟨fun _ => ?_, fun z => absurd c1 z⟩, fun c1 => nx b (B.old I hd fun k h1 h2 h3 => ?_)⟩⟩
    · exact d_arrS (NX := fun b2 h2 => WV T N 69 15 [some (vr (some g)), some (vr (some w)), some (vi (J ((s : Int) + o))), some (vi (J n)), some (vi (J (b2))), some (vi (J (l))), some (vi (J ((c : Int) + 1))), none, none, none] [] h2 KV) (t := 1) S I hd G e13 ho hs (by omega) (by decide) hl (by rw [show 12 + 4 * (c : Int) + (1 - 1) = 12 + 4 * (c : Int) + 0 by omega]; exact c0.symm) B nx
    · exact d_arrS (NX := fun b2 h2 => WV T N 69 15 [some (vr (some g)), some (vr (some w)), some (vi (J ((s : Int) + o))), some (vi (J n)), some (vi (J (b2))), some (vi (J (l))), some (vi (J ((c : Int) + 1))), none, none, none] [] h2 KV) (t := 0) S I hd G e13 ho hs (by omega) (by decide) hl (by rw [show 12 + 4 * (c : Int) + (1 - 0) = 12 + 4 * (c : Int) + 1 by omega]; exact c1.symm) B nx
    · exfalso
      have a1 := q6 k
      have a3 := q3 k
      have c6 : k % 96 / 6 = c := by
        unfold ixK at h3
        generalize k % 96 / 6 = y1 at *
        generalize k % 96 % 3 = y2 at *
        omega
      have t1 := h1.2.2
      unfold tnV at t1
      rw [c6] at t1
      rcases (show k % 96 / 3 % 2 = 0 ∨ k % 96 / 3 % 2 = 1 by omega) with z | z
      · rw [z] at t1; exact c1 t1
      · rw [z] at t1; exact c0 t1
theorem d_arrive (S : SE T N h g) (Wd : Wo T N h w v) (I : Iv v) (hd : 0 ≤ d ∧ d < v 117) (G : KT h g v d q o s) (e13 : ai h g 13 = o) (ho : o = orgV v d - v 448) (hs : (s : Int) ≤ limV v d) (hn : 0 ≤ n ∧ n < 10) (ex : ∃ k, Cand v d q n k ∧ enK v k = s) (lo : ∀ k, Cand v d q n k → ¬ enK v k < s) (kk : ∀ k, Bst v d q n k → enK v k = s → ∀ h2, Fp (fun b => b = g) h h2 → gr h2 = gr h → ai h2 g 3 = k + 96 * o → ai h2 g 0 = orgV v d + s → ai h2 g 1 = TK v d q k → ai h2 g 2 = n → (∀ j, 4 ≤ j → ai h2 g j = ai h g j) → KV h2) : CV T N 69 [vr (some g), vr (some w), vi (J ((s : Int) + o)), vi (J n)] h KV := by
  have bb := I.b
  have ob := org_b I hd
  have lm := lim_b I hd
  have eo : limV v d = v 448 + 40 - orgV v d := rfl
  have eb := Wd.b
  have lay : ∀ (m l : Nat) (b : Int), l + m = 3 → BA v d q o n s ((l : Int) * 16) b → WV T N 69 6 [some (vr (some g)), some (vr (some w)), some (vi (J ((s : Int) + o))), some (vi (J n)), some (vi (J (b))), some (vi (J ((l : Int)))), none, none, none, none] [] h KV := by
    intro m
    induction m with
    | zero =>
      intro l b hl B
      have bi := BA_in B I hd (by omega)
      have B48 : BA v d q o n s 48 b := by rw [show (48 : Int) = (l : Int) * 16 by omega]; exact B
      refine z69_6 Wd.o.t S.1 (by omega) (by omega) (by omega) (by omega) ⟨fun z => by omega, fun _ => ?_⟩
      rcases B48 with ⟨g1, g2⟩ | ⟨k, g1, g2, g3, g4, g5⟩
      · obtain ⟨k, z1, z2⟩ := ex
        exact absurd (ixK_b k).2 (g2 k z1 z2)
      · have P := TK_pos I hd g2.1 g2.2.1
        have kb := g2.1
        have lb := (ln_b I P.2.1).1
        have g3' := g3
        unfold enK at g3'
        have Gk := (G k kb (by omega) P.2.1.2 P.2.2.1).1
        have tb := P.2.2.2.1
        have k4 : k < 3840 := P.1
        clear P
        rw [g1]
        refine d_energy S (by omega) ?_
        rw [Gk, eb.1, show v 448 + ((s : Int) + o) = orgV v d + s by omega]
        have I1 : In (k + 96 * o) := by omega
        have I2 : In (orgV v d + s) := by omega
        have I3 : In (TK v d q k) := by omega
        have I4 : In n := by omega
        refine z62 S.1 I1 I2 I3 I4 ?_
        intro h4 e4 h5 e5 h6 e6 h7 e7
        refine kk k ⟨g2, fun k2 c2 y => ?_⟩ g3 h7 ?_ ?_ ?_ ?_ ?_ ?_ fun j hj => ?_
        · rcases y with y | y
          · rw [g3] at y; exact lo k2 c2 y
          · exact g5 k2 c2 (y.1.trans g3) (ixK_b k2).2 (Or.inr y)
        · subst e7; subst e6; subst e5; subst e4
          exact (((Fp.pw (P := fun b => b = g) rfl).tr (Fp.pw (P := fun b => b = g) rfl)).tr (Fp.pw (P := fun b => b = g) rfl)).tr (Fp.pw (P := fun b => b = g) rfl)
        · subst e7; subst e6; subst e5; subst e4; rfl
        · subst e7; subst e6; subst e5; subst e4
          rw [rd_k (by decide) (by decide) (by decide), rd_k (by decide) (by decide) (by decide), rd_k (by decide) (by decide) (by decide), rd_eq rfl rfl I1]
        · subst e7; subst e6; subst e5
          rw [rd_k (by decide) (by decide) (by decide), rd_k (by decide) (by decide) (by decide), rd_eq rfl rfl I2]
        · subst e7; subst e6
          rw [rd_k (by decide) (by decide) (by decide), rd_eq rfl rfl I3]
        · subst e7
          exact rd_eq rfl rfl I4
        · subst e7; subst e6; subst e5; subst e4
          rw [rd_k (by omega) (by omega) (by omega), rd_k (by omega) (by omega) (by omega), rd_k (by omega) (by omega) (by omega), rd_k (by omega) (by omega) (by omega)]
    | succ m ih =>
      intro l b hl B
      have bi := BA_in B I hd (by omega)
      refine z69_6 Wd.o.t S.1 (by omega) (by omega) (by omega) (by omega) ⟨fun _ => ?_, fun z => absurd (by omega) z⟩
      refine d_ar15 S Wd I hd G e13 ho hs hn (by omega) (fun b2 B2 => ?_) (v 11).toNat 0 b (by omega) (by rw [show (l : Int) * 16 + ((0 : Nat) : Int) = (l : Int) * 16 by omega]; exact B)
      have := ih (l + 1) b2 (by omega) (by rw [show ((l + 1 : Nat) : Int) * 16 = (l : Int) * 16 + 16 by omega]; exact B2)
      rw [show ((l + 1 : Nat) : Int) = (l : Int) + 1 by omega] at this; exact this
  exact z69 (by omega) (by omega) (lay 3 0 (-1) (by omega) (Or.inl ⟨rfl, fun k _ _ z => by have := (ixK_b k).1; omega⟩))
theorem d_lowest (hx : In x) (ex : ∃ j : Nat, j < 10 ∧ mb x j = true) (kk : ∀ n, 0 ≤ n → n < 10 → mb x n.toNat = true → (∀ j : Nat, (j : Int) < n → mb x j = false) → K n h) : ZI T N 146 [vi (J x)] h K := by
  refine z146 hx ?_
  have go : ∀ (m i : Nat), i + m = 10 → (∀ j : Nat, j < i → mb x j = false) → ZW T N 146 2 [some (vi (J x)), some (vi (J (i : Int)))] [] h K := by
    intro m
    induction m with
    | zero =>
      intro i hi no
      obtain ⟨j, j1, j2⟩ := ex
      have := no j (by omega)
      rw [j2] at this; exact absurd this (by decide)
    | succ m ih =>
      intro i hi no
      refine z146_2 hx (by omega) ⟨fun _ => d_holds (S := mb x i = true) hx (by omega) (by rw [show ((i : Int)).toNat = i by omega]) (fun s1 => ⟨(fun z => absurd z (by decide)), fun _ => kk i (by omega) (by omega) (by rw [show ((i : Int)).toNat = i by omega]; exact s1) fun j hj => no j (by omega)⟩) (fun s1 => ⟨fun _ => ?_, (fun z => absurd rfl z)⟩), fun z => absurd (by omega) z⟩
      have := ih (i + 1) (by omega) fun j hj => by
        by_cases c : j = i
        · rw [c]; cases hb : mb x i
          · rfl
          · exact absurd hb s1
        · exact no j (by omega)
      rw [show ((i + 1 : Nat) : Int) = (i : Int) + 1 by omega] at this; exact this
  exact go 10 0 (by omega) fun j hj => by omega
end AR2
