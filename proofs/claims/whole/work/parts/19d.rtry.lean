/-! SEARCH: the reference looks -/
def P9 (A b _k : Nat) : Prop := A + 9 ≤ b ∧ b ≤ A + 12
/-- what does not change while the reference looks -/
def LB (T N : Nat → Nat) (A : Nat) (h : PH) (v : Int → Int) (d : Int) : Prop := RT T N A h ∧ Rv A h v ∧ SB A h v d ∧ Ar h (A + 7) (v 0) (resV v)
section RTR
variable {T N : Nat → Nat} {A : Nat} {h h1 h2 h3 : PH} {v u : Int → Int} {d q e k l m n s t x y a b o c w j x1 x2 x3 x4 x9 : Int} {W : (Int → Int) × (Int → Int)} {p : Int × Int} {K : Int → PH → Prop} {KV : PH → Prop}
theorem SB.fr (S : SB A h v d) (F : FR (P9 A) h h2) : SB A h2 v d := ⟨by rw [F.ai (by unfold P9; omega)]; exact S.1, by rw [F.ai (by unfold P9; omega)]; exact S.2.1, by rw [F.ai (by unfold P9; omega)]; exact S.2.2⟩
theorem LB.fr (L : LB T N A h v d) (F : FR (P9 A) h h2) : LB T N A h2 v d :=
  ⟨L.1.fr F, fun j a1 a2 => by rw [F.ai (by unfold P9; omega)]; exact L.2.1 j a1 a2, L.2.2.1.fr F, fun j a1 a2 => by rw [F.ai (by unfold P9; omega)]; exact L.2.2.2 j a1 a2⟩
theorem RW.wr (G : RW A h o W) (ha : 0 ≤ a ∧ a < 30) (hx : In x) (hk : In k) : RW A (wi (wi h (A + 11) a x) (A + 12) a k) o (up W.1 a k, up W.2 a (x + o)) := by
  intro b h1 h2
  dsimp only
  by_cases c : b = a
  · rw [up_eq c, up_eq c, rd_eq rfl c hk, rd_a (by omega), rd_eq rfl c hx]
    exact ⟨rfl, fun _ => by omega⟩
  · rw [up_ne c, up_ne c, rd_k c h1 ha.1, rd_a (by omega), rd_a (by omega), rd_k c h1 ha.1]
    exact G b h1 h2
theorem i_lt {o a b : Int} (h : o + a < o + b) : a < b := by omega
theorem i_tl {o a b : Int} (h : a < b) : o + a < o + b := by omega
theorem i_se {x y o : Int} (h : x - o = y - o) : x = y := by omega
theorem i_sl {x y o : Int} (h : x - o < y - o) : x < y := by omega
theorem i_ls {x y o : Int} (h : x < y) : x - o < y - o := by omega
theorem lgA_in2 {x : Int} (h : 0 ≤ x ∧ x < 2147483648) : In x := by omega
theorem lgA_r {e t : Int} (he : 0 ≤ e ∧ e < 96) (ht : 0 ≤ t ∧ t ≤ 10200) : 0 ≤ lgA e t ∧ lgA e t < 2147483648 := by have := lgA_b he ht; omega
theorem r_arrives (L : LB T N A h v d) (I : Iv v) (hd : 0 ≤ d ∧ d < v 117) (G : RW A h (orgV v d) W) (GI : WIv v d q (s + 1) W) (hk : 0 ≤ k) (ht : 0 ≤ TK v d q k) (he : enK v k = s) (hT : ai h (A + 9) k = TK v d q k) (kk : ∀ h2, FR (P9 A) h h2 → (∀ j, ai h2 (A + 9) j = ai h (A + 9) j) → (∀ j, ai h2 (A + 10) j = ai h (A + 10) j) → RW A h2 (orgV v d) (ar2 (3 * tnV v (k % 96) + k % 96 % 3) k (TK v d q k - s) W) → KV h2) : CV T N 207 [vr (some A), vi (J k), vi (J (tnV v (k % 96))), vi (J (k % 96 % 3))] h KV := by
  obtain ⟨R, V, S, Ra⟩ := L
  have b := I.b
  have P := TK_pos I hd hk ht
  have ob := org_b I hd
  have n9 := R.a9.2.1
  have n11 := R.a11.2.1
  have n12 := R.a12.2.1
  have tb := tn_b I P.2.1
  have lb := ln_b I P.2.1
  have he' := he
  unfold enK at he'
  have lm := lim_b I hd
  have Lk := lgA_ok (t := orgV v d + k / 96) I P.2.1 (by omega)
  have Lb := lgA_b (e := k % 96) (t := orgV v d + k / 96) (by omega) (by omega)
  have ec := lgA_c (e := k % 96) (t := orgV v d + k / 96) (by omega) (by omega)
  have es := lgA_s (e := k % 96) (t := orgV v d + k / 96) (by omega) (by omega)
  have ee := lgA_e (v := v) (e := k % 96) (t := orgV v d + k / 96) (by omega) (by omega)
  obtain ⟨a, ea⟩ : ∃ a, a = 3 * tnV v (k % 96) + k % 96 % 3 := ⟨_, rfl⟩
  have ga := G a (by omega) (by omega)
  have gi := GI a
  rw [← ea] at kk
  refine z207 R.t (by omega) (by omega) (by omega) (r_legAt R S.1 (by omega) (by omega) ⟨A + 9, R.a9.2.2, R.a9.1, (by omega), s_eOf R I V Lk ⟨A + 12, R.a12.2.2, R.a12.1, (by omega), ?_⟩⟩)
  rw [← ea, hT, ee, ga.1]
  have ew : TK v d q k - (orgV v d + k / 96 + lnV v (k % 96)) = TK v d q k - s - orgV v d := by omega
  rw [ew]
  have In1 : In (TK v d q k - s - orgV v d) := by omega
  have hw : (W.1 a < 0 ∨ TK v d q k - s < W.2 a ∨ (TK v d q k - s = W.2 a ∧ btr k (W.1 a))) → WV T N 207 164 [some (vr (some A)), some (vi (J k)), none, none, none, some (vi (J a)), some (vi (J (TK v d q k - s - orgV v d))), none, none, none] [] h KV := by
    intro c
    refine z207_164 R.t (by omega) (by omega) In1 ⟨A + 11, R.a11.2.2, R.a11.1, (by omega), ?_⟩
    intro h5 e5
    have R5 : RT T N A h5 := by subst e5; exact R.to rfl
    refine ⟨A + 12, R5.a12.2.2, R5.a12.1, by omega, ?_⟩
    intro h6 e6
    have F : FR (P9 A) h h6 := by subst e6; subst e5; exact (FR.pw (by unfold P9; omega)).tr (FR.pw (by unfold P9; omega))
    refine kk h6 F (fun j => by subst e6; subst e5; rw [rd_a (by omega), rd_a (by omega)]) (fun j => by subst e6; subst e5; rw [rd_a (by omega), rd_a (by omega)]) ?_
    unfold ar2
    rw [if_pos c]
    subst e6; subst e5
    have g := G.wr (a := a) (k := k) (x := TK v d q k - s - orgV v d) (by omega) In1 (by omega)
    rw [show TK v d q k - s - orgV v d + orgV v d = TK v d q k - s by omega] at g
    exact g
  have hn : ¬ (W.1 a < 0 ∨ TK v d q k - s < W.2 a ∨ (TK v d q k - s = W.2 a ∧ btr k (W.1 a))) → KV h := by
    intro c
    refine kk h FR.rf (fun _ => rfl) (fun _ => rfl) ?_
    unfold ar2
    rw [if_neg c]; exact G
  have h133 : (¬ W.1 a < 0 → ¬ (TK v d q k - s = W.2 a ∧ btr k (W.1 a))) → WV T N 207 133 [some (vr (some A)), some (vi (J k)), none, none, none, some (vi (J a)), some (vi (J (TK v d q k - s - orgV v d))), none, none, none] [] h KV := by
    intro nb
    refine z207_133 R.t (by omega) (by omega) In1 ⟨A + 12, R.a12.2.2, R.a12.1, (by omega), ?_⟩
    rw [ga.1]
    refine ⟨fun c => hw (Or.inl c), fun c => ⟨A + 11, R.a11.2.2, R.a11.1, (by omega), ?_⟩⟩
    rw [ga.2 (by omega)]
    refine ⟨fun c2 => hw (Or.inr (Or.inl (by omega))), fun c2 => hn fun z => ?_⟩
    rcases z with z | z | z
    · exact c z
    · omega
    · exact nb c z
  have h129 : ¬ W.1 a < 0 → (TK v d q k - s = W.2 a ∧ btr k (W.1 a)) → WV T N 207 129 [some (vr (some A)), some (vi (J k)), none, none, none, some (vi (J a)), some (vi (J (TK v d q k - s - orgV v d))), none, none, none] [] h KV := by
    intro c0 yb
    refine z207_129 R.t (by omega) (by omega) In1 ⟨A + 12, R.a12.2.2, R.a12.1, (by omega), ?_⟩
    exact ⟨fun c => hw (Or.inr (Or.inr yb)), fun c => ⟨A + 11, R.a11.2.2, R.a11.1, (by omega), fun _ => hw (Or.inr (Or.inr yb)), fun _ => hw (Or.inr (Or.inr yb))⟩⟩
  refine ⟨fun c => ⟨A + 12, R.a12.2.2, R.a12.1, (by omega), ?_⟩, fun c => ⟨A + 12, R.a12.2.2, R.a12.1, (by omega), ?_⟩⟩
  · rw [ga.1]
    exact ⟨fun _ => z207_82 (by omega) (by omega) (by omega) In1 (by decide) (h133 fun z => absurd c z), fun z => absurd c z⟩
  · rw [ga.1]
    rcases gi with z | ⟨⟨g1, g2⟩, g3, -, -⟩
    · exact absurd (by rw [z]; decide) c
    have P2 := TK_pos I hd g1 g2
    have lb2 := ln_b I P2.2.1
    unfold enK at g3
    have q1 : 0 ≤ W.1 a % 96 ∧ W.1 a % 96 < 96 := by omega
    have q2 : 0 ≤ orgV v d + W.1 a / 96 ∧ orgV v d + W.1 a / 96 ≤ 10200 := by omega
    have q3 : 0 ≤ W.1 a ∧ W.1 a < 3936 := ⟨g1, Int.lt_trans P2.1 (by decide)⟩
    have q4 : 0 ≤ orgV v d ∧ orgV v d ≤ 10100 := by omega
    have q5 : 0 ≤ W.1 a := g1
    have q6 : In (W.1 a) := ⟨Int.le_trans (by decide) g1, Int.lt_trans P2.1 (by decide)⟩
    have q7 : In k := by omega
    have q10 : 0 ≤ a ∧ a < 30 := by omega
    have q8 : In a := by omega
    have q9 : 0 ≤ lgA (k % 96) (orgV v d + k / 96) ∧ lgA (k % 96) (orgV v d + k / 96) < 2147483648 := by omega
    clear P2 lb2 g3 P lb tb lm ob he' Lb es ec ee hw hn b
    have ec := lgA_c (e := k % 96) (t := orgV v d + k / 96) (by omega) (by omega)
    have es := lgA_s (e := k % 96) (t := orgV v d + k / 96) (by omega) (by omega)
    have r2 := lgA_r q1 q2
    have ec2 := lgA_c q1 q2.1
    have es2 := lgA_s q1 q2.1
    refine r_legAt R S.1 q3 q4 ⟨A + 12, R.a12.2.2, R.a12.1, (by omega), ?_⟩
    rw [ga.1]
    refine ⟨fun z => absurd z c, fun _ => ⟨A + 11, R.a11.2.2, R.a11.1, (by omega), In1, ?_⟩⟩
    rw [ga.2 q5]
    refine ⟨fun c1 => r_cOf q9 (r_cOf r2 ?_), fun c1 => z207_82 q7 (lgA_in2 q9) q8 In1 (lgA_in2 r2) (h133 fun _ z => c1 (by rw [z.1]))⟩
    rw [ec, ec2]
    refine ⟨fun c2 => h129 c ⟨i_se c1, Or.inl c2⟩, fun c2 => r_cOf q9 (r_cOf r2 ?_)⟩
    rw [ec, ec2]
    refine ⟨fun c3 => r_sOf q9 (r_sOf r2 ?_), fun c3 => h133 fun _ z => ?_⟩
    · rw [es, es2]
      refine ⟨fun c4 => h129 c ⟨i_se c1, Or.inr ⟨c3, i_lt c4⟩⟩, fun c4 => h133 fun _ z => ?_⟩
      rcases z.2 with z | z
      · exact c2 z
      · exact c4 (i_tl z.2)
    · rcases z.2 with z | z
      · exact c2 z
      · exact c3 z.1
theorem BI_in (I : Iv v) (hd : 0 ≤ d ∧ d < v 117) (B : BI v d q n s p) : (-1 ≤ p.1 ∧ p.1 ≤ 300) ∧ -1 ≤ p.2 ∧ p.2 ≤ 3840 := by
  rcases B with z | ⟨z1, z2⟩
  · omega
  · rcases z2 with z | z
    · omega
    · have P := TK_pos I hd z.1.1 z.1.2
      omega
set_option maxHeartbeats 200000 in
theorem r_bs1 (L : LB T N A h v d) (I : Iv v) (hd : 0 ≤ d ∧ d < v 117) (G : RW A h (orgV v d) W) (GI : WIv v d q (s + 1) W) (B : BI v d q n s p) (hn : 0 ≤ n ∧ n < 10) (hl : 0 ≤ l ∧ l ≤ 2) (hj : 0 ≤ j ∧ j ≤ 2) (hs : 0 ≤ s ∧ s ≤ 40) (hx : In x) (h3 : In x3) (h4 : In x4) (hy : (0 ≤ y ∧ y ≤ 1400000) ∧ y / 128 = orgV v d + s) (hc : In c) (h9 : In x9) (k : WV T N 209 116 [some (vr (some A)), some (vi (J d)), some (vi (J x)), some (vi (J x3)), some (vi (J x4)), some (vi (J y)), some (vi (J c)), some (vi (J l)), some (vi (J n)), some (vi (J x9)), some (vi (J ((bs1 W n l s j p).1))), some (vi (J ((bs1 W n l s j p).2))), some (vi (J (j + 1))), none] [] h KV) : WV T N 209 116 [some (vr (some A)), some (vi (J d)), some (vi (J x)), some (vi (J x3)), some (vi (J x4)), some (vi (J y)), some (vi (J c)), some (vi (J l)), some (vi (J n)), some (vi (J x9)), some (vi (J (p.1))), some (vi (J (p.2))), some (vi (J (j))), none] [] h KV := by
  obtain ⟨R, V, S, Ra⟩ := L
  have b := I.b
  have ob := org_b I hd
  have n11 := R.a11.2.1
  have n12 := R.a12.2.1
  have Bp := BI_in I hd B
  have ga := G (3 * n + j) (by omega) (by omega)
  have gi := GI (3 * n + j)
  unfold bs1 at k
  have Ij : In (W.1 (3 * n + j)) := by rw [← ga.1]; exact ai_in _ _ _
  refine z209_116 R.t (by omega) hx h3 h4 (by omega) hc (by omega) (by omega) h9 (by omega) (by omega) (by omega) ⟨fun _ => ⟨A + 12, R.a12.2.2, R.a12.1, (by omega), ?_⟩, fun z => absurd (by omega) z⟩
  rw [ga.1]
  refine ⟨fun c1 => ?_, fun c1 => ⟨A + 11, R.a11.2.2, R.a11.1, (by omega), ?_⟩⟩
  · rw [if_pos c1] at k
    exact z209_202 (by omega) hx h3 h4 (by omega) hc (by omega) (by omega) h9 (by omega) (by omega) (by omega) k
  rw [if_neg c1] at k
  rcases gi with z | ⟨⟨g1, g2⟩, g3, g4, g5⟩
  · omega
  have P := TK_pos I hd g1 g2
  have en : 1 ≤ enK v (W.1 (3 * n + j)) := by
    have := ln_b I P.2.1
    unfold enK; omega
  have av := ab_b (x := l - j) (by omega)
  rw [ga.2 (by omega)]
  refine r_sOf (by omega) (r_abs (by omega) ?_)
  rw [hy.2]
  have e1 : W.2 (3 * n + j) - orgV v d + (orgV v d + s) + (if l - j < 0 then -(l - j) else l - j) = W.2 (3 * n + j) + s + ab (l - j) := by
    show W.2 (3 * n + j) - orgV v d + (orgV v d + s) + ab (l - j) = _
    omega
  rw [e1]
  have up2 : ¬ (0 ≤ p.1 ∧ p.1 ≤ W.2 (3 * n + j) + s + ab (l - j)) → WV T N 209 184 [some (vr (some A)), some (vi (J d)), some (vi (J x)), some (vi (J x3)), some (vi (J x4)), some (vi (J y)), some (vi (J c)), some (vi (J l)), some (vi (J n)), some (vi (J x9)), none, none, some (vi (J j)), some (vi (J (W.2 (3 * n + j) + s + ab (l - j))))] [] h KV := fun z => by
    rw [if_neg z] at k
    refine z209_184 R.t (by omega) hx h3 h4 (by omega) hc (by omega) (by omega) h9 (by omega) (by omega) ⟨A + 12, R.a12.2.2, R.a12.1, (by omega), ?_⟩
    rw [ga.1]
    exact z209_202 (by omega) hx h3 h4 (by omega) hc (by omega) (by omega) h9 (by omega) Ij (by omega) k
  refine ⟨fun c2 => up2 fun z => by omega, fun c2 => ⟨by omega, fun c3 => up2 fun z => by omega, fun c3 => ?_⟩⟩
  rw [if_pos (by omega)] at k
  exact z209_202 (by omega) hx h3 h4 (by omega) hc (by omega) (by omega) h9 (by omega) (by omega) (by omega) k
end RTR
