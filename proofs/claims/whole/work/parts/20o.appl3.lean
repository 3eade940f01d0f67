/-! SEARCH: the class applies what it found, whole -/
section AP3
variable {T N : Nat → Nat} {a w g r : Nat} {h h0 h1 h2 h3 : PH} {v u : Int → Int} {d q e b i k k2 k3 l m n n2 t x y o p0 j last node x1 x2 x3 x4 f z : Int} {E e1 e2 : Int → Int} {K : Int → PH → Prop} {KV : PH → Prop} {P : Int → Prop} {c s : Nat}
theorem goM_neg (h : last < 0) : goM v d q last = 0 := if_pos h
theorem goM_pos (h : 0 ≤ last) : 1 ≤ goM v d q last := by
  have e : goM v d q last = chL (BF v d q) 39 (BF v d q last) + 1 := if_neg (by omega)
  omega
theorem goE_m2 : goE v d q (-2) node = goE v d q (-1) node := by
  have e1 : goM v d q (-2) = 0 := goM_neg (by decide)
  have e2 : goM v d q (-1) = 0 := goM_neg (by decide)
  have e3 : goF v d q (-2) node = goF v d q (-1) node := by
    unfold goF
    rw [e1, e2]
    congr 1
    funext j
    unfold goS
    by_cases c : j = 5
    · rw [if_pos c, if_pos c]
    · rw [if_neg c, if_neg c, if_neg (by omega), if_neg (by omega)]
  unfold goE
  rw [e3]
theorem goF_j (hj : j < 13 ∧ j ≠ 4 ∧ j ≠ 5) : goF v d q last node j = rc v d j := by
  unfold goF
  rw [up_ne hj.2.1, goS_f ⟨hj.1, hj.2.2⟩ (Int.le_refl _)]
theorem goF_4 : goF v d q last node 4 = node := up_eq rfl
theorem goF_5 : goF v d q last node 5 = aheadE (rc v d) + goM v d q last := by
  unfold goF
  rw [up_ne (by decide), goS_5]
theorem goF_lo (hi : 0 ≤ i ∧ i < aheadE (rc v d)) : goF v d q last node (13 + i) = rc v d (13 + i) := by
  unfold goF goS
  rw [up_ne (by omega), if_neg (by omega), if_neg (by omega)]
theorem goF_hi (hi : aheadE (rc v d) ≤ i ∧ i < aheadE (rc v d) + goM v d q last) : goF v d q last node (13 + i) = lgK v d (chN (BF v d q) last (aheadE (rc v d) + goM v d q last - 1 - i).toNat) := by
  have b := ahead_b (f := rc v d)
  unfold goF goS
  rw [up_ne (by omega), if_neg (by omega), if_pos (by omega)]
  congr 2; omega
theorem goF_OK (I : Iv v) (hd : 0 ≤ d ∧ d < v 117) (nl : rc v d 0 ≠ 3) (hn : 0 ≤ node ∧ node < v 0) (hT : 0 ≤ last → 0 ≤ TK v d q last) : drOK v (v 448) (goF v d q last node) := by
  have bb := I.b
  have cb := chain_b I hd hT
  have ob := org_b I hd
  have lm := lim_b I hd
  have eo : limV v d = v 448 + 40 - orgV v d := rfl
  have ch := (chain I hd hT).1
  obtain ⟨o0, o1, o2, o3, o4, o5, o6, o7, o8, o9, o10, o11, o12, os, oa, ob', oc, ol⟩ := id (I.d hd.1 hd.2)
  have f : ∀ j, j < 13 → j ≠ 4 → j ≠ 5 → goF v d q last node j = rc v d j := fun j a b c => goF_j ⟨a, b, c⟩
  have f5 := goF_5 (v := v) (d := d) (q := q) (last := last) (node := node)
  refine ⟨by rw [f 0 (by decide) (by decide) (by decide)]; exact o0, by rw [f 1 (by decide) (by decide) (by decide)]; exact o1, by rw [f 2 (by decide) (by decide) (by decide)]; exact o2, by rw [f 3 (by decide) (by decide) (by decide)]; exact o3, by rw [goF_4]; omega, by rw [f5]; omega, by rw [f 6 (by decide) (by decide) (by decide)]; exact o6, by rw [f 7 (by decide) (by decide) (by decide), f 11 (by decide) (by decide) (by decide)]; exact o7, by rw [f 8 (by decide) (by decide) (by decide)]; exact o8, by rw [f 9 (by decide) (by decide) (by decide)]; exact o9, by rw [f 10 (by decide) (by decide) (by decide)]; exact o10, by rw [f 11 (by decide) (by decide) (by decide)]; exact o11, by rw [f 12 (by decide) (by decide) (by decide)]; exact o12, ?_, by rw [f 0 (by decide) (by decide) (by decide), f 2 (by decide) (by decide) (by decide)]; exact oa, fun z => ?_, fun z => ?_, fun i h1 h2 => ?_⟩
  · rw [f 1 (by decide) (by decide) (by decide), f 7 (by decide) (by decide) (by decide), f 8 (by decide) (by decide) (by decide), f 9 (by decide) (by decide) (by decide), f 12 (by decide) (by decide) (by decide), f 6 (by decide) (by decide) (by decide), f 10 (by decide) (by decide) (by decide)]; exact os
  · rw [f 0 (by decide) (by decide) (by decide)] at z; exact absurd z nl
  · rw [f 0 (by decide) (by decide) (by decide)] at z
    have ea : aheadE (rc v d) = 1 := if_pos z
    have l0 : goF v d q last node 13 = rc v d 13 := goF_lo (i := 0) (by omega)
    rw [f5, l0]
    have := oc z
    exact ⟨by omega, this.2⟩
  · rw [f5] at h2
    by_cases c : i < aheadE (rc v d)
    · rw [goF_lo ⟨h1, c⟩]
      have a2 : rc v d 0 = 2 := by
        unfold aheadE at c
        split at c
        · assumption
        · omega
      have := oc a2
      exact ol i h1 (by have := cb.2.1; omega)
    · rw [goF_hi ⟨by omega, h2⟩]
      have ci := ch (aheadE (rc v d) + goM v d q last - 1 - i).toNat (by omega)
      have P := TK_pos I hd ci.1.1 ci.2
      have lb := (ln_b I P.2.1).1
      have P3 := P.2.2.1
      have P2 := P.2.1
      clear P
      unfold lgK
      refine lgA_ok I P2 ?_
      unfold enK at P3
      generalize chN (BF v d q) last (aheadE (rc v d) + goM v d q last - 1 - i).toNat = b1 at *
      omega
theorem land_OK {e : Int → Int} (O : drOK v t e) (h5 : e 5 = 0) : drOK v t (up (up e 0 0) 2 0) := by
  obtain ⟨o0, o1, o2, o3, o4, o5, o6, o7, o8, o9, o10, o11, o12, os, oa, ob', oc, ol⟩ := id O
  refine ⟨by first | (simp (disch := first | omega | exact ai_in _ _ _) only [rd_eq, rd_a, rd_k, up_eq, up_ne, ]; omega) | (intro _; simp (disch := first | omega | exact ai_in _ _ _) only [rd_eq, rd_a, rd_k, up_eq, up_ne, ]), by first | (simp (disch := first | omega | exact ai_in _ _ _) only [rd_eq, rd_a, rd_k, up_eq, up_ne, ]; omega) | (intro _; simp (disch := first | omega | exact ai_in _ _ _) only [rd_eq, rd_a, rd_k, up_eq, up_ne, ]), by first | (simp (disch := first | omega | exact ai_in _ _ _) only [rd_eq, rd_a, rd_k, up_eq, up_ne, ]; omega) | (intro _; simp (disch := first | omega | exact ai_in _ _ _) only [rd_eq, rd_a, rd_k, up_eq, up_ne, ]), by first | (simp (disch := first | omega | exact ai_in _ _ _) only [rd_eq, rd_a, rd_k, up_eq, up_ne, ]; omega) | (intro _; simp (disch := first | omega | exact ai_in _ _ _) only [rd_eq, rd_a, rd_k, up_eq, up_ne, ]), by first | (simp (disch := first | omega | exact ai_in _ _ _) only [rd_eq, rd_a, rd_k, up_eq, up_ne, ]; omega) | (intro _; simp (disch := first | omega | exact ai_in _ _ _) only [rd_eq, rd_a, rd_k, up_eq, up_ne, ]), by first | (simp (disch := first | omega | exact ai_in _ _ _) only [rd_eq, rd_a, rd_k, up_eq, up_ne, ]; omega) | (intro _; simp (disch := first | omega | exact ai_in _ _ _) only [rd_eq, rd_a, rd_k, up_eq, up_ne, ]), by first | (simp (disch := first | omega | exact ai_in _ _ _) only [rd_eq, rd_a, rd_k, up_eq, up_ne, ]; omega) | (intro _; simp (disch := first | omega | exact ai_in _ _ _) only [rd_eq, rd_a, rd_k, up_eq, up_ne, ]), by first | (simp (disch := first | omega | exact ai_in _ _ _) only [rd_eq, rd_a, rd_k, up_eq, up_ne, ]; omega) | (intro _; simp (disch := first | omega | exact ai_in _ _ _) only [rd_eq, rd_a, rd_k, up_eq, up_ne, ]), by first | (simp (disch := first | omega | exact ai_in _ _ _) only [rd_eq, rd_a, rd_k, up_eq, up_ne, ]; omega) | (intro _; simp (disch := first | omega | exact ai_in _ _ _) only [rd_eq, rd_a, rd_k, up_eq, up_ne, ]), by first | (simp (disch := first | omega | exact ai_in _ _ _) only [rd_eq, rd_a, rd_k, up_eq, up_ne, ]; omega) | (intro _; simp (disch := first | omega | exact ai_in _ _ _) only [rd_eq, rd_a, rd_k, up_eq, up_ne, ]), by first | (simp (disch := first | omega | exact ai_in _ _ _) only [rd_eq, rd_a, rd_k, up_eq, up_ne, ]; omega) | (intro _; simp (disch := first | omega | exact ai_in _ _ _) only [rd_eq, rd_a, rd_k, up_eq, up_ne, ]), by first | (simp (disch := first | omega | exact ai_in _ _ _) only [rd_eq, rd_a, rd_k, up_eq, up_ne, ]; omega) | (intro _; simp (disch := first | omega | exact ai_in _ _ _) only [rd_eq, rd_a, rd_k, up_eq, up_ne, ]), by first | (simp (disch := first | omega | exact ai_in _ _ _) only [rd_eq, rd_a, rd_k, up_eq, up_ne, ]; omega) | (intro _; simp (disch := first | omega | exact ai_in _ _ _) only [rd_eq, rd_a, rd_k, up_eq, up_ne, ]), by first | (simp (disch := first | omega | exact ai_in _ _ _) only [rd_eq, rd_a, rd_k, up_eq, up_ne, ]; omega) | (intro _; simp (disch := first | omega | exact ai_in _ _ _) only [rd_eq, rd_a, rd_k, up_eq, up_ne, ]), by first | (simp (disch := first | omega | exact ai_in _ _ _) only [rd_eq, rd_a, rd_k, up_eq, up_ne, ]; omega) | (intro _; simp (disch := first | omega | exact ai_in _ _ _) only [rd_eq, rd_a, rd_k, up_eq, up_ne, ]), ?_, ?_, fun i h1 h2 => ?_⟩
  · intro c; rw [up_ne (by omega), up_eq rfl] at c; omega
  · intro c; rw [up_ne (by omega), up_eq rfl] at c; omega
  · rw [up_ne (by omega), up_ne (by omega)] at h2; omega
theorem goE_OK (I : Iv v) (hd : 0 ≤ d ∧ d < v 117) (nl : rc v d 0 ≠ 3) (hn : 0 ≤ node ∧ node < v 0) (hT : 0 ≤ last → 0 ≤ TK v d q last) : drOK v (v 448) (goE v d q last node) := by
  have O := goF_OK I hd nl hn hT
  unfold goE
  split
  · rename_i c
    exact land_OK O c.1
  · exact O
theorem d_apply (S : SE T N h g) (Wd : Wo T N h w v) (hy : w + 294 ≤ g) (I : Iv v) (hd : 0 ≤ d ∧ d < v 117) (nl : rc v d 0 ≠ 3) (hn : 0 ≤ node ∧ node < v 0) (hl : -1 ≤ last) (hT : 0 ≤ last → 0 ≤ TK v d q last) (ho : o = orgV v d - v 448) (hK : 0 ≤ last → KT h g v d q o (enK v last)) (l3 : ai h g 3 = shK o last) (l2 : ai h g 2 = node) (kk : ∀ h2, Fp (Dg (dA w d)) h h2 → gr h2 = gr h → DrD v h2 (dA w d) (goE v d q last node) → KV h2) : CV T N 60 [vr (some g), vr (some w), vr (some (dA w d))] h KV := by
  have bb := I.b
  have ob := org_b I hd
  have cb := chain_b I hd hT
  have O0 := I.d hd.1 hd.2
  have OF := goF_OK (q := q) I hd nl hn hT
  have wa : w ≤ dA w d ∧ dA w d + 44 ≤ w + 294 ∧ w + 30 ≤ dA w d := by unfold dA; omega
  have Dt := (Wd.o.d (c := d) (by omega)).2
  have Gd := Wd.d hd.1 hd.2
  refine z60 Dt.t S.1 Wd.o.t (d_cutLegs Dt O0 Gd fun h2 F2 g2 D2 => ?_)
  have F2' : Fp (Dg (dA w d)) h h2 := F2.mo fun b z => by unfold Dg; omega
  refine d_wl S Wd hy I hd hl hT ho hK l3 F2' g2 D2 fun h3 F3 g3 D3 => ?_
  intro h4 e4
  rw [(F3.1 g (by unfold Dg; omega)).ai, l2] at e4
  have Dt3 := Dt.to g3
  have F4 : Fp (fun x => x = dA w d) h3 h4 := by subst e4; exact Fp.pw rfl
  have F04 : Fp (Dg (dA w d)) h h4 := F3.tr (F4.mo fun b z => by unfold Dg; omega)
  have g4 : gr h4 = gr h := by subst e4; exact g3
  have D4 : DrD v h4 (dA w d) (goF v d q last node) := by
    have e5 : goS v d (BF v d q) last (goM v d q last) (goM v d q last) 5 = aheadE (rc v d) + goM v d q last := goS_5
    have f : ∀ j, 0 ≤ j → j ≠ 4 → ai h4 (dA w d) j = ai h3 (dA w d) j := fun j j1 j2 => by subst e4; exact rd_k j2 j1 (by decide)
    have u1 : ∀ j, j ≠ 4 → goF v d q last node j = goS v d (BF v d q) last (goM v d q last) (goM v d q last) j := fun j hj => up_ne hj
    obtain ⟨d0, d1, d2, d3, d4, d5, d6, d8⟩ := D3.1
    refine DrD.fl Dt3 (by rw [e5]; omega) D3 F4 (by rw [u1 5 (by decide)]; exact Int.le_refl _) (fun i h1 h2 => u1 _ (by omega)) ⟨?_, ?_, ?_, ?_, ?_, ?_, ?_, ?_⟩ fun k h1 h2 => u1 _ (by omega)
    · rw [f 0 (by decide) (by decide), u1 0 (by decide)]; exact d0
    · rw [f 1 (by decide) (by decide), u1 1 (by decide)]; exact d1
    · rw [f 2 (by decide) (by decide), u1 2 (by decide)]; exact d2
    · rw [f 3 (by decide) (by decide), u1 3 (by decide)]; exact d3
    · rw [goF_4]; subst e4; exact rd_eq rfl rfl (by omega)
    · rw [f 5 (by decide) (by decide), u1 6 (by decide)]; exact d5
    · rw [f 6 (by decide) (by decide), u1 12 (by decide)]; exact d6
    · rw [f 8 (by decide) (by decide), u1 5 (by decide)]; exact d8
  have sg := F04.1 g (by unfold Dg; omega)
  have sw := F04.1 w (by unfold Dg; omega)
  have Dt4 := Dt.to g4
  have f0 : goF v d q last node 0 = rc v d 0 := goF_j ⟨by decide, by decide, by decide⟩
  have f5 := goF_5 (v := v) (d := d) (q := q) (last := last) (node := node)
  rw [sg.ai, l3, sg.ai, l2, sw.ai, D4.1.1, f0]
  unfold goE at kk
  have ah := ahead_b (f := rc v d)
  refine ⟨fun c => ⟨fun c1 => ?_, fun c1 => ?_⟩, fun c => ?_⟩
  · have ml : last < 0 := by
      unfold shK at c
      split at c <;> omega
    have M0 : goM v d q last = 0 := goM_neg ml
    have a0 : aheadE (rc v d) = 0 := if_neg (by omega)
    have F50 : goF v d q last node 5 = 0 := by rw [f5, M0, a0]; rfl
    refine d_holds (S := node < v 0 ∧ v (1 + node) = 1) (ai_in _ _ _) (by omega) (by
      have := Wd.p node.toNat (by omega)
      rw [show ((node.toNat : Nat) : Int) = node by omega] at this; exact this) (fun s1 => ⟨(fun z => absurd z (by decide)), fun _ => ?_⟩) (fun s1 => ⟨fun _ => ?_, (fun z => absurd rfl z)⟩)
    · rw [if_pos ⟨F50, f0.trans c1, s1.2⟩] at kk
      exact d_land Dt4 OF D4 fun h5 F5 g5 D5 => kk h5 (F04.tr (F5.mo fun b z => by unfold Dg; omega)) (g5.trans g4) D5
    · rw [if_neg fun z => s1 ⟨hn.2, z.2.2⟩] at kk
      exact kk h4 F04 g4 D4
  · rw [if_neg fun z => c1 (f0.symm.trans z.2.1)] at kk
    exact kk h4 F04 g4 D4
  · have pl : 0 ≤ last := by
      refine Classical.byContradiction fun z => c ?_
      unfold shK
      rw [if_pos (by omega)]; omega
    have M1 := goM_pos (v := v) (d := d) (q := q) pl
    rw [if_neg fun z => by have := z.1; omega] at kk
    exact kk h4 F04 g4 D4
end AP3
