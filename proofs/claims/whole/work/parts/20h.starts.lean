/-! SEARCH: the class starts the legs of a tick -/
section STS
variable {T N : Nat → Nat} {a b w g : Nat} {h h0 h1 h2 h3 : PH} {v u : Int → Int} {d q e i k l m t x y o p0 j x1 x2 x3 x4 f z : Int} {W : (Int → Int) × (Int → Int)} {p : Int × Int} {K : Int → PH → Prop} {KV : PH → Prop} {P : Int → Prop} {c r s n : Nat}
theorem KTm.step (G : KTm h g v d q o m) (hm : 0 ≤ m) (e3 : ∀ j, 0 ≤ j → j ≠ m + 96 * o → ai h2 (g + 5) j = ai h (g + 5) j ∧ ai h2 (g + 6) j = ai h (g + 6) j) (ho : 0 ≤ o) (e1 : enK v m ≤ limV v d → ai h2 (g + 5) (m + 96 * o) = TK v d q m ∧ (0 ≤ TK v d q m → ai h2 (g + 6) (m + 96 * o) = shK o (BF v d q m))) : KTm h2 g v d q o (m + 1) := by
  intro k a1 a2 a3 a4
  by_cases c : k = m
  · rw [c]; rw [c] at a4; exact e1 a4
  · obtain ⟨f1, f2⟩ := e3 (k + 96 * o) (by omega) (by omega)
    rw [f1, f2]
    exact G k a1 (by omega) a3 a4
theorem d_s63 (B : SLb T N h0 g w v d q o s) (hy : w + 294 ≤ g) (I : Iv v) (hd : 0 ≤ d ∧ d < v 117) (ho : o = orgV v d - v 448) (hs : (s : Int) + o < 40) (hc : (c : Int) < v 11) (hr : r < 2) (kk : ∀ h4, FG g h0 h4 → KTm h4 g v d q o (96 * s + (6 * c + 3 * r + 3)) → WV T N 72 20 [some (vr (some g)), some (vr (some w)), some (vi (J ((s : Int) + o))), some (vi (J (c : Int))), some (vr (some (cA w c))), some (vi (J ((r : Int) + 1))), none, none, none, none, none] [] h4 KV) :
    ∀ (m l : Nat) (h3 : PH), l + m = 3 → FG g h0 h3 → KTm h3 g v d q o (96 * s + (6 * c + 3 * r + l)) → WV T N 72 63 [some (vr (some g)), some (vr (some w)), some (vi (J ((s : Int) + o))), some (vi (J (c : Int))), some (vr (some (cA w c))), some (vi (J (r : Int))), some (vi (J (rc v d 1 - resV v (v (12 + 4 * (c : Int) + (1 - (r : Int)))) - costV v c r))), some (vi (J ((l : Int)))), none, none, none] [] h3 KV := by
  have b := I.b
  have ob := org_b I hd
  have tc := (B.2.1.o.c (c := (c : Int)) (by omega)).1
  have Fc := I.c (n := (c : Int)) (by omega) (by omega)
  unfold corOK at Fc
  have O1 := (I.d hd.1 hd.2).2.1
  obtain ⟨g1, g2, g3, g4⟩ := cor_e (c := (c : Int)) (d := (r : Int)) I (by omega) (by omega)
  have rb := resV_b I (v (12 + 4 * (c : Int) + (1 - (r : Int))))
  intro m
  induction m with
  | zero =>
    intro l h3 hl F G
    refine z72_63 tc B.1.1 (by omega) (by omega) (by omega) (by omega) (by omega) ⟨fun z => by omega, fun _ => kk h3 F ?_⟩
    rw [show (96 * (s : Int) + (6 * c + 3 * r + 3)) = 96 * s + (6 * c + 3 * r + l) by omega]; exact G
  | succ m ih =>
    intro l h3 hl F G
    have B3 := B.fr hy I F
    obtain ⟨S3, W3, O3, R3, Z3, A3⟩ := B3
    obtain ⟨e, ee⟩ : ∃ e : Int, e = 6 * c + 3 * r + l := ⟨_, rfl⟩
    have e6 : e / 6 = c := by omega
    have e3 : e / 3 % 2 = r := by omega
    have el : e % 3 = l := by omega
    have he : 0 ≤ e ∧ e < 6 * v 11 := by omega
    have fne : fnV v e = v (12 + 4 * (c : Int) + r) := by unfold fnV; rw [e6, e3]
    have tne : tnV v e = v (12 + 4 * (c : Int) + (1 - (r : Int))) := by unfold tnV; rw [e6, e3]
    have cse : csV v e = costV v c r := by unfold csV; rw [e6, e3]
    rw [← ee] at G
    have nx : ∀ h4, FG g h0 h4 → KTm h4 g v d q o (96 * s + e + 1) → WV T N 72 63 [some (vr (some g)), some (vr (some w)), some (vi (J ((s : Int) + o))), some (vi (J (c : Int))), some (vr (some (cA w c))), some (vi (J (r : Int))), some (vi (J (rc v d 1 - resV v (v (12 + 4 * (c : Int) + (1 - (r : Int)))) - costV v c r))), some (vi (J ((l : Int) + 1))), none, none, none] [] h4 KV := fun h4 F4 G4 => by
      have := ih (l + 1) h4 (by omega) F4 (by rw [show 96 * (s : Int) + (6 * c + 3 * r + ((l + 1 : Nat) : Int)) = 96 * s + e + 1 by omega]; exact G4)
      rw [show ((l + 1 : Nat) : Int) = (l : Int) + 1 by omega] at this; exact this
    have w0 := W3.c (c := (c : Int)) (k := 0) (by omega) (by omega) (by omega) (by omega)
    have w1 := W3.c (c := (c : Int)) (k := 1) (by omega) (by omega) (by omega) (by omega)
    have w2 := W3.c (c := (c : Int)) (k := 2) (by omega) (by omega) (by omega) (by omega)
    have w3 := W3.c (c := (c : Int)) (k := 3) (by omega) (by omega) (by omega) (by omega)
    have fnb := fn_b I he
    have csb := cs_b I he
    have tv := tk_val (d := d) (q := q) (s := s) I (by omega) he
    have ready := R3 (fnV v e) (e % 3) fnb.1 (by omega) (by omega) (by omega)
    have GI := WI_ws (d := d) (q := q) I (s + 1)
    rw [show ((s + 1 : Nat) : Int) = (s : Int) + 1 by omega] at GI
    have Bi := BI_V (n := fnV v e) (l := e % 3) I hd GI (by omega) (by omega)
    have eb : (if (r : Int) = 0 then ai h3 (cA w c) 0 else ai h3 (cA w c) 1) = fnV v e := by
      rw [fne]
      rcases (show r = 0 ∨ r = 1 by omega) with z | z <;> subst z
      · rw [if_pos (by decide), w0]; congr 1
      · rw [if_neg (by decide), w1]; congr 1
    have ec : (if (r : Int) = 0 then 2 * ai h3 (cA w c) 2 - ai h3 (cA w c) 3 else 2 * ai h3 (cA w c) 2 + ai h3 (cA w c) 3) = csV v e := by
      rw [cse]
      unfold costV; rw [w2, w3]
      rcases (show r = 0 ∨ r = 1 by omega) with z | z <;> subst z
      · rw [if_pos (by decide), if_pos (by decide)]
      · rw [if_neg (by decide), if_neg (by decide)]; omega
    have km : (96 * (s : Int) + e) % 96 = e := by omega
    have kd : (96 * (s : Int) + e) / 96 = s := by omega
    have enk : enK v (96 * s + e) = s + lnV v e := by unfold enK; rw [km, kd]
    have org : orgV v d + (s : Int) = v 448 + (s + o) := by omega
    refine z72_63 tc S3.1 (by omega) (by omega) (by omega) (by omega) (by omega) ⟨fun _ => d_lane (by omega) (by omega) (by omega) (d_beginOf tc (by omega) ?_), fun z => absurd (by omega) z⟩
    rw [eb, show ((c : Int) * 2 + r) * 3 + l = e by omega]
    refine ⟨g + 3, S3.2.2.1.2, S3.2.2.1.1.1, ?_⟩
    have ex : ((s : Int) + o) * 96 + e = 96 * s + e + 96 * o := by omega
    rw [ex]
    have ey : fnV v e * 3 + (l : Int) = fnV v e * 3 + e % 3 := by omega
    rw [ey, ← tne, ← cse]
    rw [← tne, ← cse] at nx
    rw [← tne] at rb
    refine d_isClosed S3.2.2.1.1 Z3 (by omega) (by omega) (fun c1 => ⟨(fun z => absurd z (by decide)), fun _ => d_energyOf tc (by omega) (by omega) ?_⟩) (fun c1 => ⟨fun _ => d_energyOf tc (by omega) (by omega) ?_, (fun z => absurd rfl z)⟩)
    · rw [ec]
      refine d_sLeg S3 I hd Bi (by omega) (by omega) (by omega) csb (by decide) ready.1 ready.2 fun h4 F4 e5 e6 e7 => nx h4 ⟨F.1.tr F4.1, F4.2.trans F.2⟩ (G.step (by omega) e7 (by omega) fun y => ?_)
      rw [enk] at y
      have t2 := (tv y O1.2).2.1 (by rw [org]; exact cls_iff.mp c1)
      rw [if_neg (by omega)] at e5
      rw [t2]
      exact ⟨e5, fun z => absurd z (by decide)⟩
    · rw [ec]
      refine d_sLeg S3 I hd Bi (by omega) (by omega) (by omega) csb (by omega) ready.1 ready.2 fun h4 F4 e5 e6 e7 => nx h4 ⟨F.1.tr F4.1, F4.2.trans F.2⟩ (G.step (by omega) e7 (by omega) fun y => ?_)
      rw [enk] at y
      have t1 := (tv y O1.2).1 (by rw [org]; exact fun z => c1 (cls_iff.mpr z))
      rw [t1, (tv y O1.2).2.2]
      refine ⟨e5, fun z => e6 ?_⟩
      refine Classical.byContradiction fun nz => ?_
      rw [if_neg nz] at z
      exact absurd z (by decide)
theorem d_s20 (B : SLb T N h0 g w v d q o s) (hy : w + 294 ≤ g) (I : Iv v) (hd : 0 ≤ d ∧ d < v 117) (ho : o = orgV v d - v 448) (hs : (s : Int) + o < 40) (hc : (c : Int) < v 11) (kk : ∀ h4, FG g h0 h4 → KTm h4 g v d q o (96 * s + (6 * c + 6)) → WV T N 72 2 [some (vr (some g)), some (vr (some w)), some (vi (J ((s : Int) + o))), some (vi (J ((c : Int) + 1))), none, none, none, none, none, none, none] [] h4 KV) :
    ∀ (m r : Nat) (h3 : PH), r + m = 2 → FG g h0 h3 → KTm h3 g v d q o (96 * s + (6 * c + 3 * r)) → WV T N 72 20 [some (vr (some g)), some (vr (some w)), some (vi (J ((s : Int) + o))), some (vi (J (c : Int))), some (vr (some (cA w c))), some (vi (J ((r : Int)))), none, none, none, none, none] [] h3 KV := by
  have b := I.b
  have ob := org_b I hd
  have tc := (B.2.1.o.c (c := (c : Int)) (by omega)).1
  have Fc := I.c (n := (c : Int)) (by omega) (by omega)
  unfold corOK at Fc
  intro m
  induction m with
  | zero =>
    intro r h3 hr F G
    refine z72_20 B.1.1 tc (by omega) (by omega) (by omega) ⟨fun z => by omega, fun _ => kk h3 F ?_⟩
    rw [show (96 * (s : Int) + (6 * c + 6)) = 96 * s + (6 * c + 3 * r) by omega]; exact G
  | succ m ih =>
    intro r h3 hr F G
    obtain ⟨S3, W3, O3, R3, Z3, A3⟩ := B.fr hy I F
    obtain ⟨g1, g2, g3, g4⟩ := cor_e (c := (c : Int)) (d := (r : Int)) I (by omega) (by omega)
    have w0 := W3.c (c := (c : Int)) (k := 0) (by omega) (by omega) (by omega) (by omega)
    have w1 := W3.c (c := (c : Int)) (k := 1) (by omega) (by omega) (by omega) (by omega)
    have w2 := W3.c (c := (c : Int)) (k := 2) (by omega) (by omega) (by omega) (by omega)
    have w3 := W3.c (c := (c : Int)) (k := 3) (by omega) (by omega) (by omega) (by omega)
    have er : (if (r : Int) = 0 then ai h3 (cA w c) 1 else ai h3 (cA w c) 0) = v (12 + 4 * (c : Int) + (1 - (r : Int))) := by
      rcases (show r = 0 ∨ r = 1 by omega) with z | z <;> subst z
      · rw [if_pos (by decide), w1]; congr 1
      · rw [if_neg (by decide), w0]; congr 1
    have ec : (if (r : Int) = 0 then 2 * ai h3 (cA w c) 2 - ai h3 (cA w c) 3 else 2 * ai h3 (cA w c) 2 + ai h3 (cA w c) 3) = costV v c r := by
      unfold costV; rw [w2, w3]
      rcases (show r = 0 ∨ r = 1 by omega) with z | z <;> subst z
      · rw [if_pos (by decide), if_pos (by decide)]
      · rw [if_neg (by decide), if_neg (by decide)]; omega
    refine z72_20 S3.1 tc (by omega) (by omega) (by omega) ⟨fun _ => d_endOf tc (by omega) ?_, fun z => absurd (by omega) z⟩
    rw [er]
    refine ⟨g + 1, S3.2.1.2, S3.2.1.1.1, d_least S3.2.1.1 A3 (by omega) (d_energyOf tc (by omega) (by omega) ?_)⟩
    rw [ec, O3.2.2.2.1]
    refine d_s63 B hy I hd ho hs hc (by omega) (fun h4 F4 G4 => ?_) 3 0 h3 (by omega) F (by rw [show 96 * (s : Int) + (6 * c + 3 * r + ((0 : Nat) : Int)) = 96 * s + (6 * c + 3 * r) by omega]; exact G)
    have := ih (r + 1) h4 (by omega) F4 (by rw [show 96 * (s : Int) + (6 * c + 3 * ((r + 1 : Nat) : Int)) = 96 * s + (6 * c + 3 * r + 3) by omega]; exact G4)
    rw [show ((r + 1 : Nat) : Int) = (r : Int) + 1 by omega] at this; exact this
theorem d_s2 (B : SLb T N h0 g w v d q o s) (hy : w + 294 ≤ g) (I : Iv v) (hd : 0 ≤ d ∧ d < v 117) (ho : o = orgV v d - v 448) (hs : (s : Int) + o < 40) (kk : ∀ h4, FG g h0 h4 → KTm h4 g v d q o (96 * s + 96) → KV h4) :
    ∀ (m c : Nat) (h3 : PH), (c : Int) + m = v 11 → FG g h0 h3 → KTm h3 g v d q o (96 * s + 6 * c) → WV T N 72 2 [some (vr (some g)), some (vr (some w)), some (vi (J ((s : Int) + o))), some (vi (J ((c : Int)))), none, none, none, none, none, none, none] [] h3 KV := by
  have b := I.b
  have ob := org_b I hd
  intro m
  induction m with
  | zero =>
    intro c h3 hc F G
    obtain ⟨S3, W3, O3, R3, Z3, A3⟩ := B.fr hy I F
    have eb := W3.b
    refine z72_2 W3.o.t (by omega) (by omega) ⟨fun z => by omega, fun _ => kk h3 F fun k a1 a2 a3 a4 => G k a1 (by omega) a3 a4⟩
  | succ m ih =>
    intro c h3 hc F G
    obtain ⟨S3, W3, O3, R3, Z3, A3⟩ := B.fr hy I F
    have eb := W3.b
    refine z72_2 W3.o.t (by omega) (by omega) ⟨fun _ => d_cor W3.o (n := (c : Int)) (by omega) (by omega) (fun c1 => ⟨_, rfl, ?_⟩) (fun c1 => absurd (by omega) c1), fun z => absurd (by omega) z⟩
    refine d_s20 B hy I hd ho hs (by omega) (fun h4 F4 G4 => ?_) 2 0 h3 (by omega) F (by rw [show 96 * (s : Int) + (6 * c + 3 * ((0 : Nat) : Int)) = 96 * s + 6 * c by omega]; exact G)
    have := ih (c + 1) h4 (by omega) F4 (by rw [show 96 * (s : Int) + 6 * ((c + 1 : Nat) : Int) = 96 * s + (6 * c + 6) by omega]; exact G4)
    rw [show ((c + 1 : Nat) : Int) = (c : Int) + 1 by omega] at this; exact this
theorem d_startLegs (B : SLb T N h g w v d q o s) (hy : w + 294 ≤ g) (I : Iv v) (hd : 0 ≤ d ∧ d < v 117) (ho : o = orgV v d - v 448) (hs : (s : Int) + o < 40) (G : KT h g v d q o s) (kk : ∀ h4, FG g h h4 → KT h4 g v d q o ((s : Int) + 1) → KV h4) : CV T N 72 [vr (some g), vr (some w), vi (J ((s : Int) + o))] h KV := by
  have b := I.b
  have ob := org_b I hd
  refine z72 (by omega) (d_s2 B hy I hd ho hs (fun h4 F4 G4 => kk h4 F4 ?_) (v 11).toNat 0 h (by omega) ⟨Fp.rf, rfl⟩ (by rw [show 96 * (s : Int) + 6 * ((0 : Nat) : Int) = 96 * s by omega]; exact G))
  intro k a1 a2 a3 a4
  exact G4 k a1 (by omega) a3 a4
end STS
