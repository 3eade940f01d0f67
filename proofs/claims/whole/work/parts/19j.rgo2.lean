/-! SEARCH: the reference goes -/
section RG2
variable {T N : Nat → Nat} {A : Nat} {h h0 h1 h2 h3 : PH} {v u f : Int → Int} {d q e k l m n n2 t t2 x y a b o w j last node x1 x2 x3 x4 x9 : Int} {W : (Int → Int) × (Int → Int)} {p : Int × Int} {K : Int → PH → Prop} {KV : PH → Prop} {s c : Nat}
theorem ahead_b : 0 ≤ aheadE f ∧ aheadE f ≤ 1 := by unfold aheadE; split <;> omega
theorem goS_0 : goS v d f last m 0 = up (rc v d) 5 (aheadE (rc v d) + m) := by
  funext j
  unfold goS up
  by_cases c : j = 5
  · rw [if_pos c, if_pos c]
  · rw [if_neg c, if_neg c, if_neg (by omega)]
theorem goS_s {i : Nat} (hi : (i : Int) < m) : up (goS v d f last m i) (13 + aheadE (rc v d) + (m - i + -1)) (lgK v d (chN f last i)) = goS v d f last m ((i : Int) + 1) := by
  have b := ahead_b (f := rc v d)
  funext j
  unfold goS
  by_cases c : j = 13 + aheadE (rc v d) + (m - i + -1)
  · rw [up_eq c, if_neg (by omega), if_pos (by omega), c, show (13 + aheadE (rc v d) + m - 1 - (13 + aheadE (rc v d) + (m - i + -1))).toNat = i by omega]
  · rw [up_ne c]
    by_cases c5 : j = 5
    · rw [if_pos c5, if_pos c5]
    · rw [if_neg c5, if_neg c5]
      by_cases c6 : 13 + aheadE (rc v d) + (m - i) ≤ j ∧ j < 13 + aheadE (rc v d) + m
      · rw [if_pos c6, if_pos (by omega)]
      · rw [if_neg c6, if_neg (by omega)]
theorem chain (I : Iv v) (hd : 0 ≤ d ∧ d < v 117) (hT : 0 ≤ last → 0 ≤ TK v d q last) : (∀ i : Nat, i < goM v d q last → (0 ≤ chN (BF v d q) last i ∧ chN (BF v d q) last i < 3840) ∧ 0 ≤ TK v d q (chN (BF v d q) last i)) ∧ chN (BF v d q) last (goM v d q last) < 0 ∧ ((goM v d q last : Nat) : Int) ≤ (if last < 0 then 0 else last / 96 + 1) := by
  have hb : last / 96 < 40 := by
    by_cases c : 0 ≤ last
    · have := (TK_pos I hd c (hT c)).1; omega
    · omega
  have g := chL_spec I hd 40 last hb hT
  exact ⟨fun i hi => ⟨⟨(g.1 i hi).1, (TK_pos I hd (g.1 i hi).1 (g.1 i hi).2).1⟩, (g.1 i hi).2⟩, g.2⟩
theorem chain_b (I : Iv v) (hd : 0 ≤ d ∧ d < v 117) (hT : 0 ≤ last → 0 ≤ TK v d q last) : 0 ≤ aheadE (rc v d) ∧ aheadE (rc v d) ≤ 1 ∧ ((goM v d q last : Nat) : Int) + aheadE (rc v d) ≤ 40 := by
  have g := (chain I hd hT).2.2
  have lm := lim_b I hd
  by_cases c : last < 0
  · rw [if_pos c] at g
    have := ahead_b (f := rc v d)
    omega
  · rw [if_neg c] at g
    have P := TK_pos I hd (by omega) (hT (by omega))
    have lb := (ln_b I P.2.1).1
    have P3 := P.2.2.1
    unfold enK at P3
    unfold aheadE
    have l3 := lm.2.2
    have l2 := lm.2.1
    clear P lm
    split
    · rename_i c2
      have := l3 c2
      omega
    · omega
theorem ch_lo (I : Iv v) (hd : 0 ≤ d ∧ d < v 117) (hT : 0 ≤ last → 0 ≤ TK v d q last) (hl : -2 ≤ last) : ∀ i : Nat, i ≤ goM v d q last → -2 ≤ chN (BF v d q) last i ∧ chN (BF v d q) last i < 3840 := by
  intro i hi
  match i with
  | 0 =>
    refine ⟨hl, ?_⟩
    show last < 3840
    by_cases c : 0 ≤ last
    · exact (TK_pos I hd c (hT c)).1
    · omega
  | i + 1 =>
    have g := (chain I hd hT).1 i (by omega)
    have B := BF_pos I hd g.1.1 g.2
    show -2 ≤ BF v d q (chN (BF v d q) last i) ∧ BF v d q (chN (BF v d q) last i) < 3840
    rcases B with z | z
    · rw [z]; decide
    · have P := TK_pos I hd z.1.1 z.1.2
      exact ⟨Int.le_trans (by decide) z.1.1, P.1⟩
theorem lgK_b (I : Iv v) (hd : 0 ≤ d ∧ d < v 117) (hk : 0 ≤ k ∧ k < 3840) : In (lgK v d k) := by
  have b := I.b
  have ob := org_b I hd
  exact lgA_in2 (lgA_r (e := k % 96) (t := orgV v d + k / 96) (by omega) (by omega))
theorem r_go47 (R : RT T N A h) (I : Iv v) (S : SB A h v d) (G : RK A h v d q 3936) (hd : 0 ≤ d ∧ d < v 117) (hT : 0 ≤ last → 0 ≤ TK v d q last) (hl : -2 ≤ last) (hn : 0 ≤ node ∧ node < v 0) (k : ∀ h2, RT T N A h2 → FR (Vw A) h h2 → Rv A h2 (putD v d (goE v d q last node)) → KV h2) :
    ∀ (m i : Nat) (h3 : PH), i + m = goM v d q last → FR (Vw A) h h3 → Rv A h3 (putD v d (goS v d (BF v d q) last (goM v d q last) i)) → WV T N 213 47 [some (vr (some A)), some (vi (J d)), none, some (vi (J node)), some (vi (J ((goM v d q last : Int) - i))), some (vi (J (aheadE (rc v d)))), some (vi (J (chN (BF v d q) last i)))] [] h3 KV := by
  have b := I.b
  have ch := chain I hd hT
  have cb := chain_b I hd hT
  have cl := ch_lo I hd hT hl
  have ob := org_b I hd
  have d6 : 0 ≤ d ∧ d < 6 := by omega
  intro m
  induction m with
  | zero =>
    intro i h3 hi F V3
    have R3 := R.fr F
    have n1 := R.a1.2.1
    have ei : i = goM v d q last := by omega
    subst ei
    have c1 := cl (goM v d q last) (Nat.le_refl _)
    have c2 := ch.2.1
    have ix : In (chN (BF v d q) last (goM v d q last)) := by omega
    refine z213_47 R3.t (by omega) (by omega) (by omega) (by omega) ix ⟨fun _ => r_setD R3 V3 d6 (by decide) (by omega) fun h4 R4 F4 V4 => r_ofD R4 V4 d6 (by decide) ?_, fun z => absurd c2 z⟩
    have V4' : Rv A h4 (putD v d (goF v d q last node)) := V4
    have e5 : up (goS v d (BF v d q) last (goM v d q last) (goM v d q last)) 4 node 5 = goF v d q last node 5 := rfl
    rw [e5]
    have ks := k
    unfold goE at ks
    refine ⟨fun c5 => r_ofD R4 V4' d6 (by decide) ⟨fun c0 => ⟨A + 1, R4.a1.2.2, R4.a1.1, by omega, ?_⟩, fun c0 => ?_⟩, fun c5 => ?_⟩
    · rw [V4' _ (by omega) (by omega), putD_lo d6.1 (by omega)]
      refine ⟨fun cp => ?_, fun cp => ?_⟩
      · rw [if_pos ⟨c5, c0, cp⟩] at ks
        exact r_lands R4 V4' d6 fun h5 R5 F5 V5 => ks h5 R5 ((F.tr F4).tr F5) V5
      · rw [if_neg fun z => cp z.2.2] at ks
        exact ks h4 R4 (F.tr F4) V4'
    · rw [if_neg fun z => c0 z.2.1] at ks
      exact ks h4 R4 (F.tr F4) V4'
    · rw [if_neg fun z => c5 z.1] at ks
      exact ks h4 R4 (F.tr F4) V4'
  | succ m ih =>
    intro i h3 hi F V3
    have R3 := R.fr F
    have n10 := R.a10.2.1
    have ci := ch.1 i (by omega)
    have cli := cl i (by omega)
    have lb := lgK_b I hd ci.1
    have e18 : ai h3 A 18 = orgV v d := by rw [F.ai (by unfold Vw; omega)]; exact S.1
    have Gi := (G (chN (BF v d q) last i) ci.1.1 (by omega)).2 (by omega) ci.2
    have k1 : 0 ≤ chN (BF v d q) last i ∧ chN (BF v d q) last i < 3936 := by omega
    have ix : In (chN (BF v d q) last i) := by omega
    refine z213_47 R3.t (by omega) (by omega) (by omega) (by omega) ix ⟨fun z => absurd ci.1.1 (by omega), fun _ => r_legAt R3 e18 k1 (by omega) ?_⟩
    refine r_setD R3 V3 d6 (by omega) lb fun h4 R4 F4 V4 => ⟨A + 10, R4.a10.2.2, R4.a10.1, by omega, ?_⟩
    rw [F4.ai (by unfold Vw; omega), F.ai (by unfold Vw; omega), Gi]
    have V5 : Rv A h4 (putD v d (goS v d (BF v d q) last (goM v d q last) ((i : Int) + 1))) := by
      rw [← goS_s (by omega)]; exact V4
    have := ih (i + 1) h4 (by omega) (F.tr F4) V5
    rw [show (goM v d q last : Int) - ((i + 1 : Nat) : Int) = (goM v d q last : Int) - i + -1 by omega] at this
    exact this
theorem r_goes (R : RT T N A h) (V : Rv A h v) (I : Iv v) (S : SB A h v d) (G : RK A h v d q 3936) (hd : 0 ≤ d ∧ d < v 117) (hT : 0 ≤ last → 0 ≤ TK v d q last) (hl : -2 ≤ last) (hn : 0 ≤ node ∧ node < v 0) (k : ∀ h2, RT T N A h2 → FR (Vw A) h h2 → Rv A h2 (putD v d (goE v d q last node)) → KV h2) : CV T N 213 [vr (some A), vi (J d), vi (J last), vi (J node)] h KV := by
  have b := I.b
  have ch := chain I hd hT
  have cb := chain_b I hd hT
  have cl := ch_lo I hd hT hl
  have d6 : 0 ≤ d ∧ d < 6 := by omega
  have Il : In last := by have := cl 0 (by omega); have e : chN (BF v d q) last 0 = last := rfl; omega
  have go : ∀ (m i : Nat), i + m = goM v d q last → WV T N 213 6 [some (vr (some A)), some (vi (J d)), some (vi (J last)), some (vi (J node)), some (vi (J ((i : Int)))), some (vi (J (chN (BF v d q) last i))), none] [] h KV := by
    intro m
    induction m with
    | zero =>
      intro i hi
      have ei : i = goM v d q last := by omega
      subst ei
      have c1 := cl (goM v d q last) (Nat.le_refl _)
      have c2 := ch.2.1
      have ix : In (chN (BF v d q) last (goM v d q last)) := by omega
      refine z213_6 R.t (by omega) Il (by omega) (by omega) ix ⟨fun _ => r_ahead R d6 ?_, fun z => absurd c2 z⟩
      rw [V _ (by omega) (by omega)]
      have ea : (if v (118 + 55 * d + 0) = 2 then (1 : Int) else 0) = aheadE (rc v d) := rfl
      rw [ea]
      have V' : Rv A h (putD v d (rc v d)) := by rw [putD_rc]; exact V
      refine r_setD R V' d6 (by decide) (by omega) fun h4 R4 F4 V4 => ?_
      have S4 : SB A h4 v d := ⟨by rw [F4.ai (by unfold Vw; omega)]; exact S.1, by rw [F4.ai (by unfold Vw; omega)]; exact S.2.1, by rw [F4.ai (by unfold Vw; omega)]; exact S.2.2⟩
      have G4 : RK A h4 v d q 3936 := fun k a1 a2 => by rw [F4.ai (by unfold Vw; omega), F4.ai (by unfold Vw; omega)]; exact G k a1 a2
      rw [← goS_0 (f := BF v d q) (last := last)] at V4
      have := r_go47 R4 I S4 G4 hd hT hl hn (fun h5 R5 F5 V5 => k h5 R5 (F4.tr F5) V5) (goM v d q last) 0 h4 (by omega) FR.rf V4
      rw [show (goM v d q last : Int) - ((0 : Nat) : Int) = goM v d q last by omega] at this
      exact this
    | succ m ih =>
      intro i hi
      have n10 := R.a10.2.1
      have ci := ch.1 i (by omega)
      have Gi := (G (chN (BF v d q) last i) ci.1.1 (by omega)).2 (by omega) ci.2
      have ix : In (chN (BF v d q) last i) := by omega
      refine z213_6 R.t (by omega) Il (by omega) (by omega) ix ⟨fun z => absurd ci.1.1 (by omega), fun _ => ⟨A + 10, R.a10.2.2, R.a10.1, by omega, ?_⟩⟩
      rw [Gi]
      have := ih (i + 1) (by omega)
      rw [show ((i + 1 : Nat) : Int) = (i : Int) + 1 by omega] at this
      exact this
  exact z213 (by omega) Il (by omega) (go (goM v d q last) 0 (by omega))
end RG2
