/-! SEARCH: the reference tries -/
section RTY
variable {T N : Nat → Nat} {A : Nat} {h h1 h2 h3 : PH} {v u : Int → Int} {d q e k l m n t x y a b o c w j x1 x2 x3 x4 x9 : Int} {W : (Int → Int) × (Int → Int)} {p : Int × Int} {K : Int → PH → Prop} {KV : PH → Prop} {s : Nat}
theorem r_fin (L : LB T N A h v d) (I : Iv v) (hd : 0 ≤ d ∧ d < v 117) (he : 0 ≤ e ∧ e < 6 * v 11) (hx : 0 ≤ x ∧ x < 3936) (hy : 0 ≤ y ∧ y < 2147483648) (yw : y / 16 % 2 = e / 3 % 2) (ly : legOK v y) (h2r : q < 2 ∨ 2 ≤ q) (h4 : x4 = if 2 ≤ q then 1 else 0) (ha : In a) (hb : In b)
    (yes : (2 ≤ q → sepV v d y) → ∀ h14, h14 = wi h (A + 9) x (a + csV v e) → ∀ h22, h22 = wi h14 (A + 10) x b → KV h22) (no : 2 ≤ q → ¬ sepV v d y → KV h) :
    WV T N 209 258 [some (vr (some A)), some (vi (J d)), some (vi (J x)), none, some (vi (J x4)), some (vi (J y)), some (vi (J (e / 6))), none, none, none, some (vi (J a)), some (vi (J b)), none, none] [] h KV := by
  obtain ⟨R, V, S, Ra⟩ := L
  have bb := I.b
  have n9 := R.a9.2.1
  have n10 := R.a10.2.1
  have go : (2 ≤ q → sepV v d y) → ZI T N 188 [vi (J y)] h (fun x_5 h_4 => (ZI T N 167 [vr (some A), vi (J (e / 6)), vi (J x_5)] h_4 (fun x_9 h_8 => (∃ a_12, (gr h A 14) = some a_12 ∧ T a_12 = 22 ∧ (0 ≤ x ∧ x < (N a_12 : Int) ∧ x < 2147483648) ∧ ∀ h_14, h_14 = wi h_8 a_12 x (a + x_9) → ∃ a_20, (gr h_14 A 15) = some a_20 ∧ T a_20 = 22 ∧ (0 ≤ x ∧ x < (N a_20 : Int) ∧ x < 2147483648) ∧ ∀ h_22, h_22 = wi h_14 a_20 x b → KV h_22)))) := by
    intro z
    refine r_wOf hy ?_
    rw [yw]
    refine r_costV0 R V I (by omega) (by omega) ⟨A + 9, R.a9.2.2, R.a9.1, (by omega), ?_⟩
    intro h14 e14
    have R14 : RT T N A h14 := by subst e14; exact R.to rfl
    exact ⟨A + 10, R14.a10.2.2, R14.a10.1, by omega, yes z h14 e14⟩
  refine z209_258 R.t (by omega) (by omega) (by rw [h4]; split <;> decide) (by omega) (by omega) ha hb ⟨fun z => go fun z2 => ?_, fun z => ?_⟩
  · rw [h4, if_pos z2] at z; omega
  · have z2 : 2 ≤ q := by
      rcases h2r with z3 | z3
      · rw [h4, if_neg (by omega)] at z; exact absurd rfl z
      · exact z3
    exact r_isSep R V I (by omega) ly (fun c => ⟨fun _ => no z2 c, (fun z => absurd rfl z)⟩) (fun c => ⟨(fun z => absurd z (by decide)), fun _ => go fun _ => c⟩)
theorem r_try2 (L : LB T N A h v d) (I : Iv v) (hd : 0 ≤ d ∧ d < v 117) (G : RW A h (orgV v d) (wsF v d q (s + 1))) (hs : s < 40) (he : 0 ≤ e ∧ e < 6 * v 11) (hl : s + lnV v e ≤ limV v d) (hx : 0 ≤ x ∧ x < 3936) (hr : resV v (tnV v e) < 1000000) (h3 : x3 = if 1 ≤ q then 1 else 0) (h4 : x4 = if 2 ≤ q then 1 else 0)
    (yes : tryC v d q s e (bsV v d (wsF v d q (s + 1)) (fnV v e) (e % 3) s).1 → ∀ h14, h14 = wi h (A + 9) x ((bsV v d (wsF v d q (s + 1)) (fnV v e) (e % 3) s).1 + csV v e) → ∀ h22, h22 = wi h14 (A + 10) x (bsV v d (wsF v d q (s + 1)) (fnV v e) (e % 3) s).2 → KV h22)
    (no : ¬ tryC v d q s e (bsV v d (wsF v d q (s + 1)) (fnV v e) (e % 3) s).1 → KV h) :
    WV T N 209 113 [some (vr (some A)), some (vi (J d)), some (vi (J x)), some (vi (J x3)), some (vi (J x4)), some (vi (J (lgA e (orgV v d + s)))), some (vi (J (e / 6))), some (vi (J (e % 3))), some (vi (J (fnV v e))), some (vi (J (tnV v e))), some (vi (J (b0 v d (fnV v e) (e % 3) s))), some (vi (J (-1))), none, none] [] h KV := by
  have bb := I.b
  have fb := fn_b I he
  have tb := tn_b I he
  have cb := cs_b I he
  have rb := resV_b I (tnV v e)
  have ob := org_b I hd
  have lm := lim_b I hd
  have lb := ln_b I he
  have O1 := (I.d hd.1 hd.2).2.1
  have n7 := L.1.a7.2.1
  have GI := WI_ws (d := d) (q := q) I (s + 1)
  rw [show ((s + 1 : Nat) : Int) = (s : Int) + 1 by omega] at GI
  have hs2 : 0 ≤ (s : Int) ∧ (s : Int) ≤ 40 := by omega
  have hl2 : 0 ≤ e % 3 ∧ e % 3 ≤ 2 := by omega
  have h96 : 0 ≤ e ∧ e < 96 := by omega
  have ht : 0 ≤ orgV v d + s ∧ orgV v d + s ≤ 10200 := by omega
  have yb := lgA_b h96 ht
  have ys := lgA_s h96 ht.1
  have yw := lgA_w h96 ht.1
  have ly := lgA_ok I he (t := orgV v d + s) (by omega)
  have B0 := BI_b0 (n := fnV v e) (q := q) I hd hs2 hl2
  have B1 := BI_1 (x := 0) I hd GI B0 hs2 hl2 (by decide)
  have B2 := BI_1 (x := 1) I hd GI B1 hs2 hl2 (by decide)
  have B3 := BI_1 (x := 2) I hd GI B2 hs2 hl2 (by decide)
  have I3 : In x3 := by rw [h3]; split <;> decide
  have I4 : In x4 := by rw [h4]; split <;> decide
  have Ix : In x := by omega
  have Ic : In (e / 6) := by omega
  have It : In (tnV v e) := by omega
  have b3 := BI_in I hd B3
  have b00 := BI_in I hd B0
  have Iy := lgA_in2 (lgA_r h96 ht)
  have Id : In d := by omega
  have Il : In (e % 3) := by omega
  have If : In (fnV v e) := by omega
  have fb2 : 0 ≤ fnV v e ∧ fnV v e < 10 := by omega
  refine z209_113 Id Ix I3 I4 Iy Ic Il If It (by omega) (by decide) ?_
  refine r_bs1 (p := (b0 v d (fnV v e) (e % 3) s, -1)) (j := 0) L I hd G GI B0 fb2 hl2 (by decide) hs2 Ix I3 I4 ⟨yb, ys⟩ Ic It ?_
  refine r_bs1 (j := 1) L I hd G GI B1 fb2 hl2 (by decide) hs2 Ix I3 I4 ⟨yb, ys⟩ Ic It ?_
  refine r_bs1 (j := 2) L I hd G GI B2 fb2 hl2 (by decide) hs2 Ix I3 I4 ⟨yb, ys⟩ Ic It ?_
  have ep : bs1 (wsF v d q (s + 1)) (fnV v e) (e % 3) s 2 (bs1 (wsF v d q (s + 1)) (fnV v e) (e % 3) s 1 (bs1 (wsF v d q (s + 1)) (fnV v e) (e % 3) s 0 (b0 v d (fnV v e) (e % 3) s, -1))) = bsV v d (wsF v d q (s + 1)) (fnV v e) (e % 3) s := rfl
  rw [ep] at b3 ⊢
  generalize bsV v d (wsF v d q (s + 1)) (fnV v e) (e % 3) s = p at *
  obtain ⟨R, V, S, Ra⟩ := L
  refine z209_116 R.t Id Ix I3 I4 Iy Ic Il If It (by omega) (by omega) (by decide) ⟨fun z => absurd z (by decide), fun _ => ⟨fun c => z209_244 (no fun z => ?_), fun c => ?_⟩⟩
  · have := z.2.1; omega
  refine r_of R (by omega) (by omega) (r_wOf (lgA_r h96 ht) ?_)
  rw [yw, V _ (by omega) (by omega)]
  refine r_costV0 R V I (by omega) (by omega) ⟨A + 7, R.a7.2.2, R.a7.1, (by omega), ?_⟩
  have e1 : v (118 + 55 * d + 1) = rc v d 1 := rfl
  have e2 : costV v (e / 6) (e / 3 % 2) = csV v e := rfl
  rw [e1, e2, Ra _ tb.1 tb.2]
  refine ⟨by omega, fun c2 => z209_244 (no fun z => ?_), fun c2 => ?_⟩
  · have := z.2.2.1; omega
  have fin : (1 ≤ q → ¬ legS v (lgA e (orgV v d + s))) → WV T N 209 258 [some (vr (some A)), some (vi (J d)), some (vi (J x)), none, some (vi (J x4)), some (vi (J (lgA e (orgV v d + s)))), some (vi (J (e / 6))), none, none, none, some (vi (J p.1)), some (vi (J p.2)), none, none] [] h KV := by
    intro nf
    refine r_fin ⟨R, V, S, Ra⟩ I hd he hx (lgA_r h96 ht) yw ly (by omega) h4 (by omega) (by omega) (fun c3 => yes ⟨hr, by omega, by omega, fun z => ?_⟩) (fun c3 c4 => no fun z => ?_)
    · rcases z with z | z
      · exact nf z.1 z.2
      · exact z.2 (c3 z.1)
    · exact z.2.2.2 (Or.inr ⟨c3, c4⟩)
  refine ⟨fun c3 => fin fun z => ?_, fun c3 => ?_⟩
  · rw [h3, if_pos z] at c3; omega
  · have q1 : 1 ≤ q := by
      by_cases z : 1 ≤ q
      · exact z
      · rw [h3, if_neg z] at c3; exact absurd rfl c3
    exact r_isStruck R V I ly (fun c4 => ⟨(fun z => absurd z (by decide)), fun _ => no fun z => z.2.2.2 (Or.inl ⟨q1, c4⟩)⟩) (fun c4 => ⟨fun _ => fin fun _ => c4, (fun z => absurd rfl z)⟩)
theorem r_tries (L : LB T N A h v d) (I : Iv v) (hd : 0 ≤ d ∧ d < v 117) (G : RW A h (orgV v d) (wsF v d q (s + 1))) (hs : s < 40) (he : 0 ≤ e ∧ e < 6 * v 11) (hl : s + lnV v e ≤ limV v d) (h3 : x3 = if 1 ≤ q then 1 else 0) (h4 : x4 = if 2 ≤ q then 1 else 0) (hT : ai h (A + 9) (96 * s + e) = -1)
    (kk : ∀ h2, FR (fun b _ => b = A + 9 ∨ b = A + 10) h h2 → (∀ j, 0 ≤ j → ai h2 (A + 9) j = if j = 96 * s + e then TK v d q (96 * s + e) else ai h (A + 9) j) → (∀ j, 0 ≤ j → j ≠ 96 * s + e → ai h2 (A + 10) j = ai h (A + 10) j) → (0 ≤ TK v d q (96 * s + e) → ai h2 (A + 10) (96 * s + e) = BF v d q (96 * s + e)) → KV h2) : CV T N 209 [vr (some A), vi (J d), vi (J (96 * s + e)), vi (J x3), vi (J x4)] h KV := by
  have bb := I.b
  have n7 := L.1.a7.2.1
  have tkA := TK_at (d := d) (q := q) I hs (e := e) (by omega)
  rw [if_pos ⟨he.2, hl⟩] at tkA
  have bfA := BF_at (d := d) (q := q) I hs (e := e) (by omega) ⟨he.2, hl⟩
  have no : ¬ tryC v d q s e (bsV v d (wsF v d q (s + 1)) (fnV v e) (e % 3) s).1 → KV h := fun z => by
    rw [tv_neg z] at tkA
    refine kk h FR.rf (fun j hj => ?_) (fun _ _ _ => rfl) (fun z2 => ?_)
    · by_cases c : j = 96 * s + e
      · rw [if_pos c, tkA, c]; exact hT
      · rw [if_neg c]
    · rw [tkA] at z2; exact absurd z2 (by decide)
  have yes : tryC v d q s e (bsV v d (wsF v d q (s + 1)) (fnV v e) (e % 3) s).1 → ∀ h14, h14 = wi h (A + 9) (96 * s + e) ((bsV v d (wsF v d q (s + 1)) (fnV v e) (e % 3) s).1 + csV v e) → ∀ h22, h22 = wi h14 (A + 10) (96 * s + e) (bsV v d (wsF v d q (s + 1)) (fnV v e) (e % 3) s).2 → KV h22 := fun z h14 e14 h22 e22 => by
    rw [tv_yes z] at tkA
    rw [← tkA] at e14
    rw [← bfA] at e22
    have pos : 0 ≤ TK v d q (96 * s + e) := by
      have := z.2.1
      have := (cs_b I he).1
      omega
    have P := TK_pos I hd (by omega) pos
    have B := BF_pos I hd (by omega) pos
    have bin : In (BF v d q (96 * s + e)) := by
      rcases B with b1 | b1
      · rw [b1]; decide
      · have P2 := TK_pos I hd b1.1.1 b1.1.2
        exact ⟨Int.le_trans (by decide) b1.1.1, Int.lt_trans P2.1 (by decide)⟩
    have tin : In (TK v d q (96 * s + e)) := ⟨Int.le_trans (by decide) P.2.2.2.1.1, Int.lt_of_le_of_lt P.2.2.2.1.2 (by decide)⟩
    clear P B
    refine kk h22 (by subst e22; subst e14; exact (FR.pw (Or.inl rfl)).tr (FR.pw (Or.inr rfl))) (fun j hj => ?_) (fun j hj hne => ?_) (fun _ => ?_)
    · subst e22; subst e14
      rw [rd_a (by omega)]
      by_cases c : j = 96 * s + e
      · rw [if_pos c, rd_eq rfl c tin]
      · rw [if_neg c, rd_k c hj (by omega)]
    · subst e22; subst e14
      rw [rd_k hne hj (by omega), rd_a (by omega)]
    · subst e22
      exact rd_eq rfl rfl bin
  clear kk tkA bfA hT
  have lm := lim_b I hd
  have ob := org_b I hd
  have lb := ln_b I he
  have tb := tn_b I he
  have h96 : 0 ≤ e ∧ e < 96 := by omega
  have hx : 0 ≤ 96 * (s : Int) + e ∧ 96 * (s : Int) + e < 3936 := by omega
  have ht : 0 ≤ orgV v d + s ∧ orgV v d + s ≤ 10200 := by omega
  have hc : 0 ≤ e / 6 ∧ e / 6 < 16 := by omega
  have hw : 0 ≤ e / 3 % 2 ∧ e / 3 % 2 < 2 := by omega
  have hw2 : 0 ≤ 1 - e / 3 % 2 ∧ 1 - e / 3 % 2 < 4 := by omega
  have hlb : 0 ≤ e % 3 ∧ e % 3 ≤ 2 := by omega
  have i1 : 0 ≤ 12 + 4 * (e / 6) + e / 3 % 2 ∧ 12 + 4 * (e / 6) + e / 3 % 2 < 449 := by omega
  have i2 : 0 ≤ 12 + 4 * (e / 6) + (1 - e / 3 % 2) ∧ 12 + 4 * (e / 6) + (1 - e / 3 % 2) < 449 := by omega
  have k1 : (96 * (s : Int) + e) % 96 = e := by omega
  have k2 : (96 * (s : Int) + e) / 96 = s := by omega
  have i3 : 0 ≤ orgV v d ∧ orgV v d ≤ 10100 := by omega
  have two := fun hr => r_try2 (x := 96 * (s : Int) + e) L I hd G hs he hl hx hr h3 h4 yes no
  have O2 := (I.d hd.1 hd.2).2.2.1
  have lr := lgA_r h96 ht
  have ec := lgA_c h96 ht.1
  have el := lgA_l h96 ht.1
  have ew := lgA_w h96 ht.1
  have es := lgA_s h96 ht.1
  obtain ⟨R, V, S, Ra⟩ := L
  have I3 : In x3 := by rw [h3]; split <;> decide
  have I4 : In x4 := by rw [h4]; split <;> decide
  refine z209 R.t (by omega) (by omega) I3 I4 (r_legAt R S.1 hx i3 ?_)
  rw [k1, k2]
  refine r_cOf lr (r_lOf lr (r_wOf lr ?_))
  rw [ec, el, ew]
  refine r_end R hc ⟨hw.1, by omega⟩ (r_wOf lr ?_)
  rw [ew]
  have e0 : ai h (A + 1) (12 + 4 * (e / 6) + (1 - e / 3 % 2)) = tnV v e := V _ i2.1 i2.2
  have e1 : ai h (A + 1) (12 + 4 * (e / 6) + e / 3 % 2) = fnV v e := V _ i1.1 i1.2
  refine r_end R hc hw2 ?_
  rw [e0, e1]
  refine ⟨A + 7, R.a7.2.2, R.a7.1, (by omega), ?_⟩
  rw [S.2.2, Ra _ tb.1 tb.2]
  refine ⟨fun hr => ?_, fun hr => no fun z => hr z.1⟩
  have two := two hr
  unfold b0 at two
  refine ⟨fun c1 => r_of R (by omega) (by omega) ?_, fun c1 => ?_⟩
  · rw [V _ (by omega) (by omega), S.2.1]
    rw [if_pos c1] at two
    have e3 : v (118 + 55 * d + 0) = rc v d 0 := rfl
    rw [e3]
    refine ⟨fun c2 => ?_, fun c2 => ?_⟩
    · rw [if_pos c2] at two
      exact r_abs (by omega) two
    · rw [if_neg c2] at two
      refine r_sOf lr ?_
      rw [S.2.1]
      refine r_abs (by omega) ?_
      rw [es, S.1, show orgV v d + (s : Int) - orgV v d = s by omega]
      exact two
  · rw [if_neg c1] at two; exact two
end RTY
