/-! SEARCH: the class applies what it found, loops -/
section AP2
variable {T N : Nat → Nat} {a w g r : Nat} {h h0 h1 h2 h3 : PH} {v u : Int → Int} {d q e b i k k2 k3 l m n n2 t x y o p0 j last node x1 x2 x3 x4 f z : Int} {E e1 e2 : Int → Int} {K : Int → PH → Prop} {KV : PH → Prop} {P : Int → Prop} {c s : Nat}
theorem chcl (I : Iv v) (hd : 0 ≤ d ∧ d < v 117) (hT : 0 ≤ last → 0 ≤ TK v d q last) {i : Nat} (hi : i < goM v d q last) (hl : -1 ≤ last) : 0 ≤ last ∧ (0 ≤ chN (BF v d q) last i ∧ chN (BF v d q) last i < 96 * enK v last) ∧ chN (BF v d q) last i % 96 < 6 * v 11 ∧ enK v (chN (BF v d q) last i) ≤ limV v d ∧ 0 ≤ TK v d q (chN (BF v d q) last i) ∧ chN (BF v d q) last i + 96 * (orgV v d - v 448) < 3840 := by
  have ch := (chain I hd hT).1 i hi
  have dn := ch_dn I hd hT i hi
  have P := TK_pos I hd ch.1.1 ch.2
  have lb := (ln_b I P.2.1).1
  have l0 : 0 ≤ last := by have := ch.1.1; omega
  have PL := TK_pos I hd l0 (hT l0)
  have lbl := (ln_b I PL.2.1).1
  have eo : limV v d = v 448 + 40 - orgV v d := rfl
  have P3 := P.2.2.1
  have P3' := P3
  refine ⟨l0, ⟨ch.1.1, ?_⟩, P.2.1.2, P3, ch.2, ?_⟩
  · clear P PL P3 P3' eo lb
    unfold enK
    generalize chN (BF v d q) last i = b1 at *
    omega
  · clear PL lbl
    unfold enK at P3'
    generalize chN (BF v d q) last i = b1 at *
    omega
theorem d_58 (S : SE T N h g) (Wd : Wo T N h w v) (hy : w + 294 ≤ g) (I : Iv v) (hd : 0 ≤ d ∧ d < v 117) (hl : -1 ≤ last) (hT : 0 ≤ last → 0 ≤ TK v d q last) (ho : o = orgV v d - v 448) (hK : 0 ≤ last → KT h g v d q o (enK v last)) (kk : ∀ h2, Fp (Dg (dA w d)) h h2 → gr h2 = gr h → DrD v h2 (dA w d) (goS v d (BF v d q) last (goM v d q last) (goM v d q last)) → KV h2) :
    ∀ (m i : Nat) (h3 : PH), i + m = goM v d q last → Fp (Dg (dA w d)) h h3 → gr h3 = gr h → DrW v h3 (dA w d) (goS v d (BF v d q) last (goM v d q last) (i)) (aheadE (rc v d)) (aheadE (rc v d) + (goM v d q last - i)) → WV T N 75 58 [some (vr (some g)), some (vr (some w)), some (vr (some (dA w d))), none, some (vi (J (aheadE (rc v d)))), some (vi (J (shK o (chN (BF v d q) last i)))), some (vi (J (aheadE (rc v d) + (goM v d q last - i) - 1)))] [] h3 KV := by
  have bb := I.b
  have ob := org_b I hd
  have cb := chain_b I hd hT
  have ah := ahead_b (f := rc v d)
  have wa : w ≤ dA w d ∧ dA w d + 44 ≤ w + 294 ∧ w + 30 ≤ dA w d := by unfold dA; omega
  intro m
  induction m with
  | zero =>
    intro i h3 hi F ge D
    have Dt := (Wd.o.d (c := d) (by omega)).2.to ge
    have ei : (i : Int) = goM v d q last := by omega
    have sb : In (shK o (chN (BF v d q) last i)) := by
      have := ch_lo I hd hT (by omega) i (by omega)
      unfold shK; split <;> omega
    refine z75_58 Dt.t S.1 (by omega) sb (by omega) ⟨fun _ => kk h3 F ge ⟨?_, ?_, fun j j1 j2 b hb => ?_⟩, fun z => absurd (by omega) z⟩
    · rw [← ei]; rw [← ei] at D; exact D.1
    · rw [← ei]; rw [← ei] at D; exact D.2.1
    · rw [← ei] at j2 ⊢
      rw [← ei] at D
      exact D.2.2 j j1 j2 (by omega) b hb
  | succ m ih =>
    intro i h3 hi F ge D
    have Dt := (Wd.o.d (c := d) (by omega)).2.to ge
    have W3 := Wd.o.to ge
    have S3 := S.to ge
    obtain ⟨l0, c1, c2, c3, c4, c5⟩ := chcl I hd hT (i := i) (by omega) hl
    have es : shK o (chN (BF v d q) last i) = chN (BF v d q) last i + 96 * o := if_neg (by omega)
    have g8 : ai h3 (dA w d) 8 = aheadE (rc v d) + goM v d q last := D.1.2.2.2.2.2.2.2.trans goS_5
    have nn : Int := goM v d q last
    rw [es]
    refine z75_58 Dt.t S.1 (by omega) (by omega) (by omega) ⟨fun z => by omega, fun _ => d_legAt Dt (n := aheadE (rc v d) + (goM v d q last - i) - 1) (by omega) (by omega) (fun cx r er r1 r2 tr' => ?_) (fun cx => absurd (by omega) cx)⟩
    have sw := F.1 w (by unfold Dg; omega)
    refine d_writeLeg W3 I hd (by rw [sw.ai]; exact Wd.b.1) (by rw [sw.ai]; exact Wd.b.2.2.1) (fun c q1 q2 => by rw [(F.1 (cA w c) (by unfold Dg cA; omega)).ai]; exact Wd.c q1 q2 (by decide) (by decide)) tr' ⟨by omega, fun c q1 q2 => by unfold cA; omega⟩ ho ⟨by omega, by omega⟩ c2 (by omega) fun h4 F4 g4 L4 => ?_
    have F04 : Fp (Dg (dA w d)) h h4 := F.tr (F4.mo fun b z => by unfold Dg; omega)
    have ge4 := g4.trans ge
    refine d_before (S.to ge4) ((hK l0).fr F04 (by unfold Dg; omega) (by unfold Dg; omega)) c1 c2 c3 c4 (by omega) (by omega) ?_
    have st := goS_s (v := v) (d := d) (f := BF v d q) (last := last) (m := goM v d q last) (i := i) (by omega)
    have fe : ∀ j, j < 13 → (goS v d (BF v d q) last (goM v d q last) ((i : Int) + 1)) j = (goS v d (BF v d q) last (goM v d q last) (i)) j := fun j hj => by
      rw [← st]; exact up_ne (by omega)
    have sa := F4.1 (dA w d) (by omega)
    have sa1 := F4.1 (dA w d + 1) (by omega)
    have sa2 := F4.1 (dA w d + 2) (by omega)
    have nxt := ih (i + 1) h4 (by omega) F04 ge4 (by
      rw [show ((i + 1 : Nat) : Int) = (i : Int) + 1 by omega]
      refine ⟨?_, fun k q1 q2 => ?_, fun j j1 j2 j3 b hb => ?_⟩
      · rw [sa.ai, sa.ai, sa.ai, sa.ai, sa.ai, sa.ai, sa.ai, sa.ai, fe 0 (by decide), fe 1 (by decide), fe 2 (by decide), fe 3 (by decide), fe 4 (by decide), fe 5 (by decide), fe 6 (by decide), fe 12 (by decide)]
        exact D.1
      · rw [sa1.ai, fe _ (by omega)]; exact D.2.1 k q1 q2
      · rw [fe 5 (by decide)] at j2
        rw [sa2.gr] at hb
        by_cases cj : j = aheadE (rc v d) + (goM v d q last - i) - 1
        · rw [cj, er] at hb
          have eb := Option.some.inj hb
          rw [← eb, ← st, up_eq (by omega)]
          exact L4
        · have old := D.2.2 j j1 j2 (by omega) b hb
          rw [← st, up_ne (by omega)]
          have j5 : (goS v d (BF v d q) last (goM v d q last) (i)) 5 = aheadE (rc v d) + goM v d q last := goS_5
          obtain ⟨p, hp, inj⟩ := Dt.pe
          have p1 := (hp j.toNat (by omega)).1
          have p2 := (hp (aheadE (rc v d) + (goM v d q last - i) - 1).toNat (by omega)).1
          rw [p1] at hb
          rw [p2] at er
          have e1 := Option.some.inj hb
          have e2 := Option.some.inj er
          refine old.fr (F4.1 b fun z => ?_)
          have := inj _ _ (show j.toNat < 41 by omega) (show (aheadE (rc v d) + (goM v d q last - i) - 1).toNat < 41 by omega) (by rw [e1, e2]; exact z)
          omega)
    rw [show ((i + 1 : Nat) : Int) = (i : Int) + 1 by omega] at nxt
    rw [show aheadE (rc v d) + ((goM v d q last : Int) - ((i : Int) + 1)) - 1 = aheadE (rc v d) + (goM v d q last - i) - 1 + -1 by omega] at nxt
    exact nxt
theorem d_wl (S : SE T N h g) (Wd : Wo T N h w v) (hy : w + 294 ≤ g) (I : Iv v) (hd : 0 ≤ d ∧ d < v 117) (hl : -1 ≤ last) (hT : 0 ≤ last → 0 ≤ TK v d q last) (ho : o = orgV v d - v 448) (hK : 0 ≤ last → KT h g v d q o (enK v last)) (l3 : ai h g 3 = shK o last) (F : Fp (Dg (dA w d)) h h1) (ge : gr h1 = gr h) (D : DrD v h1 (dA w d) (up (rc v d) 5 (aheadE (rc v d)))) (kk : ∀ h2, Fp (Dg (dA w d)) h h2 → gr h2 = gr h → DrD v h2 (dA w d) (goS v d (BF v d q) last (goM v d q last) (goM v d q last)) → KV h2) : CV T N 75 [vr (some g), vr (some w), vr (some (dA w d))] h1 KV := by
  have bb := I.b
  have ob := org_b I hd
  have cb := chain_b I hd hT
  have ah := ahead_b (f := rc v d)
  have wa : w ≤ dA w d ∧ dA w d + 44 ≤ w + 294 ∧ w + 30 ≤ dA w d := by unfold dA; omega
  have Dt := (Wd.o.d (c := d) (by omega)).2.to ge
  have e3 : ai h1 g 3 = shK o last := by rw [(F.1 g (by unfold Dg; omega)).ai]; exact l3
  have g8 : ai h1 (dA w d) 8 = aheadE (rc v d) := D.1.2.2.2.2.2.2.2.trans (up_eq rfl)
  have clo := ch_lo I hd hT (by omega)
  have go : ∀ (m i : Nat), i + m = goM v d q last → WV T N 75 8 [some (vr (some g)), some (vr (some w)), some (vr (some (dA w d))), some (vi (J ((i : Int)))), some (vi (J (shK o (chN (BF v d q) last i)))), none, none] [] h1 KV := by
    intro m
    induction m with
    | zero =>
      intro i hi
      have ei : i = goM v d q last := by omega
      have cn : chN (BF v d q) last i < 0 := by rw [ei]; exact (chain I hd hT).2.1
      have cl := clo i (by omega)
      have es : shK o (chN (BF v d q) last i) = chN (BF v d q) last i := if_pos cn
      rw [es]
      have nl := Dt.le.2.1
      have tl := Dt.le.1
      refine z75_8 Dt.t S.1 (by omega) (by omega) ⟨fun _ => z23 Dt.t (by omega) ⟨fun z => by omega, fun _ => ⟨dA w d + 2, Dt.le.2.2, by omega, by omega, fun z => by omega, fun _ => ?_⟩⟩, fun z => absurd cn z⟩
      rw [g8]
      intro h2 e2
      have F2 : Fp (fun x => x = dA w d) h1 h2 := by subst e2; exact Fp.pw rfl
      have ge2 : gr h2 = gr h := by subst e2; exact ge
      have e32 : ai h2 g 3 = shK o last := by rw [(F2.1 g (by omega)).ai]; exact e3
      rw [e32]
      have D2 : DrW v h2 (dA w d) (goS v d (BF v d q) last (goM v d q last) (((0 : Nat) : Int))) (aheadE (rc v d)) (aheadE (rc v d) + ((goM v d q last : Int) - ((0 : Nat) : Int))) := by
        have e0 : (goS v d (BF v d q) last (goM v d q last) (((0 : Nat) : Int))) = up (rc v d) 5 (aheadE (rc v d) + goM v d q last) := goS_0
        rw [e0]
        have e8 : ai h2 (dA w d) 8 = aheadE (rc v d) + goM v d q last := by subst e2; rw [rd_eq rfl rfl (by omega)]; omega
        have f : ∀ j, 0 ≤ j → j ≠ 8 → ai h2 (dA w d) j = ai h1 (dA w d) j := fun j j1 j2 => by subst e2; exact rd_k j2 j1 (by decide)
        obtain ⟨⟨d0, d1, d2, d3, d4, d5, d6, d8⟩, ds, dl⟩ := D
        have u1 : ∀ j, j ≠ 5 → up (rc v d) 5 (aheadE (rc v d) + goM v d q last) j = up (rc v d) 5 (aheadE (rc v d)) j := fun j hj => by rw [up_ne hj, up_ne hj]
        refine ⟨⟨?_, ?_, ?_, ?_, ?_, ?_, ?_, ?_⟩, fun k q1 q2 => ?_, fun j j1 j2 j3 b hb => ?_⟩
        · rw [f 0 (by decide) (by decide), u1 0 (by decide)]; exact d0
        · rw [f 1 (by decide) (by decide), u1 1 (by decide)]; exact d1
        · rw [f 2 (by decide) (by decide), u1 2 (by decide)]; exact d2
        · rw [f 3 (by decide) (by decide), u1 3 (by decide)]; exact d3
        · rw [f 4 (by decide) (by decide), u1 4 (by decide)]; exact d4
        · rw [f 5 (by decide) (by decide), u1 6 (by decide)]; exact d5
        · rw [f 6 (by decide) (by decide), u1 12 (by decide)]; exact d6
        · rw [e8, up_eq rfl]
        · rw [(F2.1 (dA w d + 1) (by omega)).ai, u1 _ (by omega)]; exact ds k q1 q2
        · rw [up_eq rfl] at j2
          have gb : gr h2 (dA w d + 2) j.toNat = gr h1 (dA w d + 2) j.toNat := (F2.1 (dA w d + 2) (by omega)).gr _
          rw [gb] at hb
          obtain ⟨b2, q1, q2, q3, q4⟩ := Dt.at (i := j) (by omega)
          have qe : gr h1 (dA w d + 2) j.toNat = some b := hb
          rw [q1] at qe
          have eb := Option.some.inj qe
          have old := dl j j1 (by rw [up_eq rfl]; omega) b hb
          rw [u1 _ (by omega)]
          exact old.fr (F2.1 b (by omega))
      have := d_58 (KV := KV) S Wd hy I hd hl hT ho hK kk (goM v d q last) 0 h2 (by omega) (F.tr (F2.mo fun b z => by unfold Dg; omega)) ge2 D2
      rw [show aheadE (rc v d) + ((goM v d q last : Int) - ((0 : Nat) : Int)) - 1 = aheadE (rc v d) + (i : Int) - 1 by omega] at this
      exact this
    | succ m ih =>
      intro i hi
      obtain ⟨l0, c1, c2, c3, c4, c5⟩ := chcl I hd hT (i := i) (by omega) hl
      have es : shK o (chN (BF v d q) last i) = chN (BF v d q) last i + 96 * o := if_neg (by omega)
      rw [es]
      refine z75_8 Dt.t S.1 (by omega) (by omega) ⟨fun z => by omega, fun _ => ⟨fun _ => d_before (S.to ge) ((hK l0).fr F (by unfold Dg; omega) (by unfold Dg; omega)) c1 c2 c3 c4 (by omega) (by omega) ?_, fun z => absurd (by omega) z⟩⟩
      have := ih (i + 1) (by omega)
      rw [show ((i + 1 : Nat) : Int) = (i : Int) + 1 by omega] at this
      exact this
  refine z75 S.1 ?_
  rw [e3]
  exact go (goM v d q last) 0 (by omega)
end AP2
