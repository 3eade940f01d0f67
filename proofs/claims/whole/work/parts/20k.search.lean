/-! SEARCH: the class searches -/
/-- goals that a set holds -/
def Gls (x : Int) (P : Int → Prop) : Prop := In x ∧ ∀ j : Nat, j < 32 → (mb x j = true ↔ P j)
def LV (h0 h : PH) (g : Nat) (v : Int → Int) (d q o : Int) (P : Int → Prop) (s : Nat) : Prop := (Fp (Sg g) h0 h ∧ gr h = gr h0) ∧ SO h g v d o ∧ KT h g v d q o s ∧ KW h g o (wsF v d q s) ∧ CZ h (g + 4) (cls v d q) ∧ Ar h (g + 2) 10 (resV v) ∧ (In (ai h g 12) ∧ ∀ n k, Cand v d q n k → enK v k < s → mb (ai h g 12) n.toNat = true) ∧ ∀ n k, P n → Cand v d q n k → ¬ enK v k < s
/-- the earliest goal, the lowest of these -/
def Fst (v : Int → Int) (d q : Int) (P : Int → Prop) (n k : Int) : Prop := P n ∧ Bst v d q n k ∧ ∀ n2 k2, P n2 → Cand v d q n2 k2 → enK v k < enK v k2 ∨ (enK v k = enK v k2 ∧ n ≤ n2)
section SCH
variable {T N : Nat → Nat} {a w g : Nat} {h h0 h1 h2 h3 : PH} {v u : Int → Int} {d q e b i k k2 k3 l m n n2 t x y o p0 j x1 x2 x3 x4 f z : Int} {W : (Int → Int) × (Int → Int)} {p : Int × Int} {K : Int → PH → Prop} {KV : PH → Prop} {P : Int → Prop} {c r s : Nat} {NX : Int → PH → Prop}
theorem AR_iff (I : Iv v) (hd : 0 ≤ d ∧ d < v 117) : AR v d q s (6 * (v 11).toNat) n ↔ ∃ k, Cand v d q n k ∧ enK v k = s := by
  have b := I.b
  constructor
  · rintro ⟨e, z1, z2, z3, z4⟩
    have km : (96 * (s - lnV v e) + e) % 96 = e := by omega
    have kd : (96 * ((s : Int) - lnV v e) + e) / 96 = s - lnV v e := by omega
    exact ⟨96 * (s - lnV v e) + e, ⟨by omega, z3, by rw [km]; exact z4⟩, by unfold enK; rw [km, kd]; omega⟩
  · rintro ⟨k, z1, z2⟩
    have P := TK_pos I hd z1.1 z1.2.1
    have k0 := z1.1
    have lb := ln_b I P.2.1
    unfold enK at z2
    have ek : (((k % 96).toNat : Nat) : Int) = k % 96 := by omega
    have e2 : 96 * ((s : Int) - lnV v (k % 96)) + k % 96 = k := by omega
    refine ⟨(k % 96).toNat, by omega, ?_, ?_, ?_⟩
    · rw [ek]; omega
    · rw [ek, e2]; exact z1.2.1
    · rw [ek]; exact z1.2.2
theorem cand_n (I : Iv v) (hd : 0 ≤ d ∧ d < v 117) (z : Cand v d q n k) : 0 ≤ n ∧ n < 10 := by
  have b := I.b
  have P := TK_pos I hd z.1 z.2.1
  have := tn_b I P.2.1
  rw [z.2.2] at this
  omega
theorem enK_b (I : Iv v) (hd : 0 ≤ d ∧ d < v 117) (z : Cand v d q n k) : 1 ≤ enK v k ∧ enK v k ≤ limV v d := by
  have P := TK_pos I hd z.1 z.2.1
  have := (ln_b I P.2.1).1
  have z0 := z.1
  have e := P.2.2.1
  refine ⟨?_, e⟩
  unfold enK; omega
theorem d_fill7 (S : SE T N h g) (kk : ∀ h2, Fp (fun b => b = g + 7) h h2 → gr h2 = gr h → (∀ j, 0 ≤ j → j < 30 → ai h2 (g + 7) j = -1) → KV h2) : CV T N 254 [vr (gr h g 8), vi (J (-1))] h KV := by
  have n := S.ai8.2.1
  have t := S.ai8.1
  rw [S.ai8.2.2]
  refine z254 (by omega) (by decide) ?_
  have go : ∀ (m i : Nat) (h3 : PH), i + m = 30 → Fp (fun b => b = g + 7) h h3 → gr h3 = gr h → (∀ j, 0 ≤ j → j < (i : Int) → ai h3 (g + 7) j = -1) → WV T N 254 5 [some (vr (some (g + 7))), some (vi (J (-1))), some (vi (J (i : Int))), some (vi (J (N (g + 7) : Int)))] [] h3 KV := by
    intro m
    induction m with
    | zero =>
      intro i h3 hi F e z
      exact z254_5 t (by decide) (by omega) (by omega) ⟨fun z => by omega, fun _ => kk h3 F e fun j j1 j2 => z j j1 (by omega)⟩
    | succ m ih =>
      intro i h3 hi F e z
      refine z254_5 t (by decide) (by omega) (by omega) ⟨fun _ => ⟨by omega, ?_⟩, fun z => absurd (by omega) z⟩
      intro h4 e4
      have := ih (i + 1) h4 (by omega) (by subst e4; exact F.tr (Fp.pw rfl)) (by subst e4; exact e) (fun j j1 j2 => by
        subst e4
        by_cases c : j = i
        · rw [rd_eq rfl c (by decide)]
        · rw [rd_k c j1 (by omega)]; exact z j j1 (by omega))
      rw [show ((i + 1 : Nat) : Int) = (i : Int) + 1 by omega] at this; exact this
  exact go 30 0 h (by omega) Fp.rf rfl fun j j1 j2 => by omega
theorem SO.fr {Pn : Nat → Prop} (O : SO h g v d o) (F : Fp Pn h h2) (hg : ¬ Pn g) : SO h2 g v d o := by
  have s0 := F.1 g hg
  exact ⟨by rw [s0.ai]; exact O.1, by rw [s0.ai]; exact O.2.1, by rw [s0.ai]; exact O.2.2.1, by rw [s0.ai]; exact O.2.2.2.1, by rw [s0.ai]; exact O.2.2.2.2⟩
theorem SO.gg (O : SO h g v d o) (e : ∀ j, 13 ≤ j → ai h2 g j = ai h g j) : SO h2 g v d o :=
  ⟨by rw [e _ (by decide)]; exact O.1, by rw [e _ (by decide)]; exact O.2.1, by rw [e _ (by decide)]; exact O.2.2.1, by rw [e _ (by decide)]; exact O.2.2.2.1, by rw [e _ (by decide)]; exact O.2.2.2.2⟩
theorem KW.fr {Pn : Nat → Prop} (G : KW h g o W) (F : Fp Pn h h2) (n7 : ¬ Pn (g + 7)) (n8 : ¬ Pn (g + 8)) : KW h2 g o W := fun a h1 h2 => by
  rw [(F.1 _ n7).ai, (F.1 _ n8).ai]; exact G a h1 h2
theorem CZ.fr {Pn : Nat → Prop} {Q : Int → Int → Prop} (G : CZ h a Q) (F : Fp Pn h h2) (n7 : ¬ Pn a) : CZ h2 a Q := fun e o a1 a2 a3 a4 => by
  rw [(F.1 _ n7).2.2]; exact G e o a1 a2 a3 a4
theorem Ar.fr {Pn : Nat → Prop} {f : Int → Int} (G : Ar h a n f) (F : Fp Pn h h2) (n7 : ¬ Pn a) : Ar h2 a n f := fun j a1 a2 => by
  rw [(F.1 _ n7).ai]; exact G j a1 a2
theorem d_step (S : SE T N h0 g) (Wd : Wo T N h0 w v) (hy : w + 294 ≤ g) (I : Iv v) (hd : 0 ≤ d ∧ d < v 117) (ho : o = orgV v d - v 448) (hg : Gls x2 P) (k1 : ∀ n k, Fst v d q P n k → ∀ h4, Fp (Sg g) h0 h4 → gr h4 = gr h0 → SO h4 g v d o → KT h4 g v d q o (enK v k) → ai h4 g 3 = k + 96 * o → ai h4 g 0 = orgV v d + enK v k → ai h4 g 1 = TK v d q k → ai h4 g 2 = n → K 1 h4) (hs : (s : Int) ≤ limV v d) (L : LV h0 h3 g v d q o P s)
    (nx : (∀ n k, P n → Cand v d q n k → ¬ enK v k < s + 1) → ∀ h4, Fp (Sg g) h0 h4 → gr h4 = gr h0 → SO h4 g v d o → KT h4 g v d q o s → KW h4 g o (wsF v d q (s + 1)) → CZ h4 (g + 4) (cls v d q) → Ar h4 (g + 2) 10 (resV v) → (In (ai h4 g 12) ∧ ∀ n k, Cand v d q n k → enK v k < s + 1 → mb (ai h4 g 12) n.toNat = true) → ((s : Int) + o < 40 → CV T N 70 [vr (some g), vi (J (ai h4 w 1)), vi (J ((s : Int) + o))] h4 (fun h_15 => CV T N 72 [vr (some g), vr (some w), vi (J ((s : Int) + o))] h_15 (fun h_18 => ZW T N 63 22 [some (vr (some g)), some (vr (some w)), some (vi (J x2)), some (vi (J ((s : Int) + o + 1))), none] [] h_18 K))) ∧ (¬ (s : Int) + o < 40 → ZW T N 63 22 [some (vr (some g)), some (vr (some w)), some (vi (J x2)), some (vi (J ((s : Int) + o + 1))), none] [] h4 K)) : ZW T N 63 22 [some (vr (some g)), some (vr (some w)), some (vi (J x2)), some (vi (J ((s : Int) + o))), none] [] h3 K := by
  have bb := I.b
  have ob := org_b I hd
  have lm := lim_b I hd
  have eo : limV v d = v 448 + 40 - orgV v d := rfl
  obtain ⟨⟨F, ge⟩, O, G, GW, Z, R, ⟨Ie, re⟩, ng⟩ := L
  have S3 := S.to ge
  have W3 : Wo T N h3 w v := Wd.fr (fun b q1 q2 => F.1 b (by unfold Sg; omega)) I
  refine z63_22 S3.1 W3.o.t hg.1 (by omega) ⟨fun z => by omega, fun _ => d_endLegs S3 W3 hy I hd G GW O.1 ho hs fun h4 x4 F4 W4 M4 => ?_⟩
  have S4 := S3.to F4.2
  have F04 : Fp (Sg g) h0 h4 := F.tr (F4.1.mo fun b z => by unfold Sg; omega)
  have Wo4 : Wo T N h4 w v := Wd.fr (fun b q1 q2 => F04.1 b (by unfold Sg; omega)) I
  have O4 := O.fr F4.1 (by omega)
  have G4 := G.fr F4.1 (by omega) (by omega)
  have Z4 := Z.fr F4.1 (by omega)
  have R4 := R.fr F4.1 (by omega)
  have e12 : ai h4 g 12 = ai h3 g 12 := (F4.1.1 g (by omega)).ai 12
  have both : ∀ j : Nat, j < 32 → (mb (zand x4 x2) j = true ↔ AR v d q s (6 * (v 11).toNat) j ∧ P j) := fun j hj => by
    rw [mb_and, Bool.and_eq_true, M4.2 j hj, hg.2 j hj]
  refine ⟨fun c => ?_, fun c => ?_⟩
  · have none : ∀ n k, P n → Cand v d q n k → ¬ enK v k < s + 1 := fun n k hp hc y => by
      have nb := cand_n I hd hc
      by_cases y2 : enK v k < s
      · exact ng n k hp hc y2
      · have g := (both n.toNat (by omega)).mpr ⟨(AR_iff I hd).mpr ⟨k, by rw [show ((n.toNat : Nat) : Int) = n by omega]; exact hc, by omega⟩, by rw [show ((n.toNat : Nat) : Int) = n by omega]; exact hp⟩
        rw [c, mb_0] at g; exact absurd g (by decide)
    intro h10 e10
    rw [e12] at e10
    have Fw : Fp (fun b => b = g) h4 h10 := by subst e10; exact Fp.pw rfl
    have F10 : Fp (Sg g) h0 h10 := F04.tr (Fw.mo fun b z => by unfold Sg; omega)
    have g10 : gr h10 = gr h0 := by subst e10; exact F4.2.trans ge
    refine nx none h10 F10 g10 (O4.gg fun j hj => by subst e10; rw [rd_k (by omega) (by omega) (by omega)]) (G4.fr Fw (by omega) (by omega)) (W4.fr Fw (by omega) (by omega)) (Z4.fr Fw (by omega)) (R4.fr Fw (by omega)) ?_
    have e : ai h10 g 12 = zor (ai h3 g 12) x4 := by subst e10; exact rd_eq rfl rfl (zor_in _ _)
    rw [e]
    refine ⟨zor_in _ _, fun n k hc y => ?_⟩
    have nb := cand_n I hd hc
    rw [mb_or, Bool.or_eq_true]
    by_cases y2 : enK v k < s
    · exact Or.inl (re n k hc y2)
    · exact Or.inr ((M4.2 n.toNat (by omega)).mpr ((AR_iff I hd).mpr ⟨k, by rw [show ((n.toNat : Nat) : Int) = n by omega]; exact hc, by omega⟩))
  · have ex : ∃ j : Nat, j < 10 ∧ mb (zand x4 x2) j = true := by
      refine Classical.byContradiction fun ne => c (mb_ext (zand_in _ _) (by decide) fun i hi => ?_)
      rw [mb_0]
      cases hb : mb (zand x4 x2) i
      · rfl
      · exfalso
        obtain ⟨⟨k, hc, _⟩, _⟩ := (both i hi).mp hb |>.imp_left (AR_iff I hd).mp
        have nb := cand_n I hd hc
        exact ne ⟨i, by omega, hb⟩
    refine d_lowest (zand_in _ _) ex fun n n0 n1 hn lo => ?_
    obtain ⟨a1, a2⟩ := (both n.toNat (by omega)).mp hn
    rw [show ((n.toNat : Nat) : Int) = n by omega] at a1 a2
    obtain ⟨k5, c5, e5⟩ := (AR_iff I hd).mp a1
    refine d_arrive S4 Wo4 I hd G4 O4.1 ho hs ⟨n0, n1⟩ ⟨k5, c5, e5⟩ (fun k hc => ng n k a2 hc) fun k B ek h5 F5 g5 l3 l0 l1 l2 lr => ?_
    rw [← ek] at l0
    refine k1 n k ⟨a2, B, fun n2 k2 p2 c2 => ?_⟩ h5 (F04.tr (F5.mo fun b z => by unfold Sg; omega)) (g5.trans (F4.2.trans ge)) (O4.gg fun j hj => lr j (by omega)) (by rw [ek]; exact G4.fr F5 (by omega) (by omega)) l3 l0 l1 l2
    rw [ek]
    have nb := cand_n I hd c2
    have ng2 := ng n2 k2 p2 c2
    by_cases y : enK v k2 = s
    · right
      refine ⟨y.symm, ?_⟩
      by_cases y2 : n ≤ n2
      · exact y2
      · have l := lo n2.toNat (by omega)
        have g := (both n2.toNat (by omega)).mpr ⟨(AR_iff I hd).mpr ⟨k2, by rw [show ((n2.toNat : Nat) : Int) = n2 by omega]; exact c2, y⟩, by rw [show ((n2.toNat : Nat) : Int) = n2 by omega]; exact p2⟩
        rw [l] at g; exact absurd g (by decide)
    · left; omega
theorem d_search (S : SE T N h0 g) (Wd : Wo T N h0 w v) (hy : w + 294 ≤ g) (I : Iv v) (hd : 0 ≤ d ∧ d < v 117) (ho : o = orgV v d - v 448) (hg : Gls x2 P) (k1 : ∀ n k, Fst v d q P n k → ∀ h4, Fp (Sg g) h0 h4 → gr h4 = gr h0 → SO h4 g v d o → KT h4 g v d q o (enK v k) → ai h4 g 3 = k + 96 * o → ai h4 g 0 = orgV v d + enK v k → ai h4 g 1 = TK v d q k → ai h4 g 2 = n → K 1 h4) (k0 : (∀ n k, P n → ¬ Cand v d q n k) → ∀ h4, Fp (Sg g) h0 h4 → gr h4 = gr h0 → K 0 h4) :
    ∀ (m s : Nat) (h3 : PH), (s : Int) + m = limV v d → LV h0 h3 g v d q o P s → ZW T N 63 22 [some (vr (some g)), some (vr (some w)), some (vi (J x2)), some (vi (J ((s : Int) + o))), none] [] h3 K := by
  have bb := I.b
  have ob := org_b I hd
  have lm := lim_b I hd
  have eo : limV v d = v 448 + 40 - orgV v d := rfl
  intro m
  induction m with
  | zero =>
    intro s h3 hs L
    refine d_step S Wd hy I hd ho hg k1 (by omega) L fun nn h4 F4 g4 O4 G4 W4 Z4 R4 re4 => ⟨fun z => by omega, fun _ => ?_⟩
    refine z63_22 S.1 Wd.o.t hg.1 (by omega) ⟨fun _ => k0 (fun n k hp hc => ?_) h4 F4 g4, fun z => absurd (by omega) z⟩
    have eb := enK_b I hd hc
    exact nn n k hp hc (by omega)
  | succ m ih =>
    intro s h3 hs L
    refine d_step S Wd hy I hd ho hg k1 (by omega) L fun nn h4 F4 g4 O4 G4 W4 Z4 R4 re4 => ⟨fun _ => ?_, fun z => absurd (by omega) z⟩
    have Wo4 : Wo T N h4 w v := Wd.fr (fun b q1 q2 => F4.1 b (by unfold Sg; omega)) I
    rw [Wo4.b.2.1]
    have rch : Rch (wsF v d q (s + 1)) (ai h4 g 12) := ⟨re4.1, fun n j n0 n1 j0 j1 hw => by
      rcases WI_ws (d := d) (q := q) I (s + 1) (3 * n + j) with z | ⟨⟨z1, z2⟩, z3, z4, z5⟩
      · rw [z] at hw; exact absurd hw (by decide)
      · have l3 := q3 ((wsF v d q (s + 1)).1 (3 * n + j))
        exact re4.2 n _ ⟨z1, z2, by omega⟩ (by omega)⟩
    refine d_ready (S.to g4) I hd O4 W4 rch (by omega) (by omega) fun h5 F5 g5 K5 => ?_
    have F05 : Fp (Sg g) h0 h5 := F4.tr (F5.mo fun b z => by unfold Sg; omega)
    have Wo5 : Wo T N h5 w v := Wd.fr (fun b q1 q2 => F05.1 b (by unfold Sg; omega)) I
    have SL : SLb T N h5 g w v d q o s := ⟨(S.to g4).to g5, Wo5, O4.fr F5 (by omega), K5, Z4.fr F5 (by omega), R4.fr F5 (by omega)⟩
    refine d_startLegs SL hy I hd ho (by omega) (G4.fr F5 (by omega) (by omega)) fun h6 F6 G6 => ?_
    have F56 := F6.1
    have := ih (s + 1) h6 (by omega) ⟨⟨F05.tr (F56.mo fun b z => by unfold Sg; omega), F6.2.trans (g5.trans g4)⟩, SL.2.2.1.fr F56 (by omega), by rw [show ((s + 1 : Nat) : Int) = (s : Int) + 1 by omega]; exact G6, (W4.fr F5 (by omega) (by omega)).fr F56 (by omega) (by omega), SL.2.2.2.2.1.fr F56 (by omega), SL.2.2.2.2.2.fr F56 (by omega), by
      have e : ai h6 g 12 = ai h4 g 12 := by rw [(F56.1 g (by omega)).ai, (F5.1 g (by omega)).ai]
      rw [e]
      exact ⟨re4.1, fun n k hc y => re4.2 n k hc (by omega)⟩, fun n k hp hc y => nn n k hp hc (by omega)⟩
    rw [show ((s + 1 : Nat) : Int) + o = (s : Int) + o + 1 by omega] at this; exact this
theorem d_searchFor (S : SE T N h g) (Wd : Wo T N h w v) (hy : w + 294 ≤ g) (I : Iv v) (hd : 0 ≤ d ∧ d < v 117) (ho : o = orgV v d - v 448) (hg : Gls x2 P) (O : SO h g v d o) (Z : CZ h (g + 4) (cls v d q)) (R : Ar h (g + 2) 10 (resV v)) (k1 : ∀ n k, Fst v d q P n k → ∀ h4, Fp (Sg g) h h4 → gr h4 = gr h → SO h4 g v d o → KT h4 g v d q o (enK v k) → ai h4 g 3 = k + 96 * o → ai h4 g 0 = orgV v d + enK v k → ai h4 g 1 = TK v d q k → ai h4 g 2 = n → K 1 h4) (k0 : (∀ n k, P n → ¬ Cand v d q n k) → ∀ h4, Fp (Sg g) h h4 → gr h4 = gr h → K 0 h4) : ZI T N 63 [vr (some g), vr (some w), vi (J x2)] h K := by
  have ob := org_b I hd
  have lm := lim_b I hd
  refine z63 S.1 hg.1 (d_fill7 S fun h4 F4 g4 e7 => ?_)
  intro h6 e6
  have F6 : Fp (fun b => b = g + 7 ∨ b = g) h h6 := by subst e6; exact (F4.mo fun b z => Or.inl z).tr (Fp.pw (Or.inr rfl))
  have g6 : gr h6 = gr h := by subst e6; exact g4
  have O6 : SO h6 g v d o := (O.fr F4 (by omega)).gg fun j hj => by subst e6; rw [rd_k (by omega) (by omega) (by omega)]
  have e13 : (if ai h6 g 13 < 0 then 0 else ai h6 g 13) = ((0 : Nat) : Int) + o := by rw [O6.1, if_neg (by omega)]; omega
  rw [e13]
  refine d_search S Wd hy I hd ho hg k1 k0 (limV v d).toNat 0 h6 (by omega) ⟨⟨F6.mo fun b z => by unfold Sg; omega, g6⟩, O6, fun k a1 a2 => by omega, fun a a1 a2 => ⟨?_, fun z => absurd (show (0 : Int) ≤ -1 from z) (by decide)⟩, Z.fr F6 (by omega), R.fr F6 (by omega), ⟨ai_in _ _ _, fun n k hc y => ?_⟩, fun n k _ hc y => ?_⟩
  · rw [show ai h6 (g + 7) a = ai h4 (g + 7) a by subst e6; exact rd_a (by omega)]
    exact e7 a a1 a2
  · have := enK_b I hd hc; omega
  · have := enK_b I hd hc; omega
end SCH
