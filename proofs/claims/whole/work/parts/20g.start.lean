/-! SEARCH: the class starts legs -/
def KTm (h : PH) (g : Nat) (v : Int → Int) (d q o m : Int) : Prop := ∀ k, 0 ≤ k → k < m → k % 96 < 6 * v 11 → enK v k ≤ limV v d → ai h (g + 5) (k + 96 * o) = TK v d q k ∧ (0 ≤ TK v d q k → ai h (g + 6) (k + 96 * o) = shK o (BF v d q k))
/-- what the starts of legs rest on -/
def SLb (T N : Nat → Nat) (h : PH) (g w : Nat) (v : Int → Int) (d q o : Int) (s : Nat) : Prop := SE T N h g ∧ Wo T N h w v ∧ SO h g v d o ∧ KRd h g o v d (wsF v d q (s + 1)) s (3 * v 0) ∧ CZ h (g + 4) (cls v d q) ∧ Ar h (g + 2) 10 (resV v)
def FG (g : Nat) (h0 h : PH) : Prop := Fp (fun b => b = g + 5 ∨ b = g + 6) h0 h ∧ gr h = gr h0
section STL
variable {T N : Nat → Nat} {a b w g : Nat} {h h0 h1 h2 h3 : PH} {v u : Int → Int} {d q e i k l m t x y o p0 j x1 x2 x3 x4 f z : Int} {W : (Int → Int) × (Int → Int)} {p : Int × Int} {K : Int → PH → Prop} {KV : PH → Prop} {P : Int → Prop} {c r s n : Nat}
theorem KRd.step (G : KRd h g o v d W s m) (hm : m = n * 3 + l) (hl : 0 ≤ l ∧ l < 3) (e1 : ai h2 (g + 9) ((n : Int) * 3 + l) = cL o (bsV v d W n l s)) (e2 : ai h2 (g + 10) ((n : Int) * 3 + l) = cE (bsV v d W n l s)) (e3 : ∀ j, 0 ≤ j → j ≠ (n : Int) * 3 + l → ai h2 (g + 9) j = ai h (g + 9) j ∧ ai h2 (g + 10) j = ai h (g + 10) j) : KRd h2 g o v d W s (m + 1) := by
  intro n2 l2 h1 h2' h3 h4
  by_cases c : n2 * 3 + l2 = (n : Int) * 3 + l
  · have a1 : n2 = n := by omega
    have a2 : l2 = l := by omega
    rw [a1, a2]; exact ⟨e1, e2⟩
  · obtain ⟨f1, f2⟩ := e3 (n2 * 3 + l2) (by omega) c
    rw [f1, f2]
    exact G n2 l2 h1 h2' h3 (by omega)
theorem d_ready (S : SE T N h g) (I : Iv v) (hd : 0 ≤ d ∧ d < v 117) (O : SO h g v d o) (G : KW h g o (wsF v d q (s + 1))) (hr : Rch (wsF v d q (s + 1)) (ai h g 12)) (ho : 0 ≤ o ∧ o ≤ 40) (hs : s ≤ 40) (kk : ∀ h2, Fp (fun b => b = g + 9 ∨ b = g + 10) h h2 → gr h2 = gr h → KRd h2 g o v d (wsF v d q (s + 1)) s (3 * v 0) → KV h2) : CV T N 70 [vr (some g), vi (J (v 0)), vi (J ((s : Int) + o))] h KV := by
  have b := I.b
  have fr : ∀ h3, Fp (fun b => b = g + 9 ∨ b = g + 10) h h3 → SO h3 g v d o ∧ KW h3 g o (wsF v d q (s + 1)) ∧ Rch (wsF v d q (s + 1)) (ai h3 g 12) := fun h3 F => by
    have s0 := F.1 g (by omega)
    refine ⟨⟨by rw [s0.ai]; exact O.1, by rw [s0.ai]; exact O.2.1, by rw [s0.ai]; exact O.2.2.1, by rw [s0.ai]; exact O.2.2.2.1, by rw [s0.ai]; exact O.2.2.2.2⟩, fun a h1 h2 => ?_, by rw [s0.ai]; exact hr⟩
    rw [(F.1 (g + 7) (by omega)).ai, (F.1 (g + 8) (by omega)).ai]; exact G a h1 h2
  have inner : ∀ (n : Nat), (n : Int) < v 0 → (∀ h4, Fp (fun b => b = g + 9 ∨ b = g + 10) h h4 → gr h4 = gr h → KRd h4 g o v d (wsF v d q (s + 1)) s (n * 3 + 3) → WV T N 70 2 [some (vr (some g)), some (vi (J (v 0))), some (vi (J ((s : Int) + o))), some (vi (J ((n : Int) + 1))), none] [] h4 KV) → ∀ (m l : Nat) (h3 : PH), l + m = 3 → Fp (fun b => b = g + 9 ∨ b = g + 10) h h3 → gr h3 = gr h → KRd h3 g o v d (wsF v d q (s + 1)) s (n * 3 + l) → WV T N 70 16 [some (vr (some g)), some (vi (J (v 0))), some (vi (J ((s : Int) + o))), some (vi (J (n : Int))), some (vi (J ((l : Int))))] [] h3 KV := by
    intro n hn k m
    induction m with
    | zero =>
      intro l h3 hl F e G3
      refine z70_16 S.1 (by omega) (by omega) (by omega) (by omega) ⟨fun z => by omega, fun _ => k h3 F e ?_⟩
      rw [show (n : Int) * 3 + 3 = n * 3 + l by omega]; exact G3
    | succ m ih =>
      intro l h3 hl F e G3
      obtain ⟨O3, W3, R3⟩ := fr h3 F
      refine z70_16 S.1 (by omega) (by omega) (by omega) (by omega) ⟨fun _ => d_readyAt (S.to e) I hd O3 W3 R3 ho hs (by omega) (by omega) fun h4 F4 g4 e1 e2 e3 => ?_, fun z => absurd (by omega) z⟩
      have := ih (l + 1) h4 (by omega) (F.tr F4) (g4.trans e) (by
        have st := G3.step (h2 := h4) (n := n) (l := (l : Int)) rfl (by omega) e1 e2 e3
        rw [show (n : Int) * 3 + ((l + 1 : Nat) : Int) = n * 3 + l + 1 by omega]; exact st)
      rw [show ((l + 1 : Nat) : Int) = (l : Int) + 1 by omega] at this; exact this
  have outer : ∀ (m n : Nat) (h3 : PH), (n : Int) + m = v 0 → Fp (fun b => b = g + 9 ∨ b = g + 10) h h3 → gr h3 = gr h → KRd h3 g o v d (wsF v d q (s + 1)) s (n * 3) → WV T N 70 2 [some (vr (some g)), some (vi (J (v 0))), some (vi (J ((s : Int) + o))), some (vi (J ((n : Int)))), none] [] h3 KV := by
    intro m
    induction m with
    | zero =>
      intro n h3 hn F e G3
      refine z70_2 (by omega) (by omega) (by omega) ⟨fun z => by omega, fun _ => kk h3 F e ?_⟩
      rw [show 3 * v 0 = (n : Int) * 3 by omega]; exact G3
    | succ m ih =>
      intro n h3 hn F e G3
      refine z70_2 (by omega) (by omega) (by omega) ⟨fun _ => ⟨fun _ => inner n (by omega) (fun h4 F4 e4 G4 => ?_) 3 0 h3 (by omega) F e (by rw [show (n : Int) * 3 + ((0 : Nat) : Int) = n * 3 by omega]; exact G3), fun z => absurd (by omega) z⟩, fun z => absurd (by omega) z⟩
      have := ih (n + 1) h4 (by omega) F4 e4 (by rw [show ((n + 1 : Nat) : Int) * 3 = n * 3 + 3 by omega]; exact G4)
      rw [show ((n + 1 : Nat) : Int) = (n : Int) + 1 by omega] at this; exact this
  exact z70 (by omega) (by omega) (outer (v 0).toNat 0 h (by omega) Fp.rf rfl fun n l h1 h2 h3 h4 => by omega)
theorem d_sLeg (S : SE T N h g) (I : Iv v) (hd : 0 ≤ d ∧ d < v 117) (B : BI v d q t i p) (ho : 0 ≤ o ∧ o ≤ 40) (hx : 0 ≤ x ∧ x < 3840) (hy : 0 ≤ y ∧ y < 30) (hf : 1 ≤ f ∧ f ≤ 27) (hz : In z) (e9 : ai h (g + 9) y = cL o p) (e10 : ai h (g + 10) y = cE p) (kk : ∀ h2, FG g h h2 → ai h2 (g + 5) x = (if 0 ≤ p.1 ∧ p.1 ≤ z then p.1 + f else -1) → (0 ≤ p.1 ∧ p.1 ≤ z → ai h2 (g + 6) x = shK o p.2) → (∀ j, 0 ≤ j → j ≠ x → ai h2 (g + 5) j = ai h (g + 5) j ∧ ai h2 (g + 6) j = ai h (g + 6) j) → KV h2) : CV T N 73 [vr (some g), vi (J x), vi (J y), vi (J f), vi (J z)] h KV := by
  have bb := BI_in I hd B
  have n5 := S.ai6.2.1
  have t5 := S.ai6.1
  have n6 := S.ai7.2.1
  have t6 := S.ai7.1
  have n9 := S.ai10.2.1
  have t9 := S.ai10.1
  have n10 := S.ai11.2.1
  have t10 := S.ai11.1
  have no : ¬ (0 ≤ p.1 ∧ p.1 ≤ z) → ∃ a_29, (gr h g 6) = some a_29 ∧ T a_29 = 22 ∧ (0 ≤ x ∧ x < (N a_29 : Int) ∧ x < 2147483648) ∧ ∀ h_31, h_31 = wi h a_29 x (-1) → KV h_31 := fun ny => by
    refine ⟨g + 5, S.ai6.2.2, t5, by omega, fun h4 e4 => kk h4 ?_ ?_ (fun z => absurd z ny) fun j hj hne => ?_⟩
    · subst e4; exact ⟨Fp.pw (Or.inl rfl), rfl⟩
    · rw [if_neg ny]; subst e4; exact rd_eq rfl rfl (by decide)
    · subst e4; rw [rd_k hne hj hx.1, rd_a (by omega)]; exact ⟨rfl, rfl⟩
  refine z73 S.1 (by omega) (by omega) (by omega) hz ⟨fun z => by omega, fun _ => ⟨g + 5, S.ai6.2.2, by omega, by omega, fun _ => ⟨fun z => by omega, fun _ => ⟨g + 9, S.ai10.2.2, by omega, by omega, fun _ => ⟨g + 9, S.ai10.2.2, t9, by omega, ?_⟩, fun z => absurd (by omega) z⟩⟩, fun z => absurd (by omega) z⟩⟩
  rw [e9]
  refine ⟨fun c => no fun y => ?_, fun c => ⟨g + 10, S.ai11.2.2, t10, by omega, ?_⟩⟩
  · unfold cL shK at c
    rw [if_neg (by omega)] at c
    split at c <;> omega
  · rw [e10]
    refine ⟨fun c2 => no fun y => ?_, fun c2 => ⟨g + 10, S.ai11.2.2, t10, by omega, g + 5, S.ai6.2.2, t5, by omega, ?_⟩⟩
    · unfold cE at c2
      rw [if_neg (by omega)] at c2
      omega
    · have c0 : ¬ p.1 < 0 := fun y => c (if_pos y)
      have ec : cE p = p.1 := if_neg c0
      have el : cL o p = shK o p.2 := if_neg c0
      rw [ec] at c2
      have yy : 0 ≤ p.1 ∧ p.1 ≤ z := by omega
      rw [e10, ec]
      intro h4 e4
      have S4 : SE T N h4 g := by subst e4; exact S.to rfl
      have e94 : ai h4 (g + 9) y = shK o p.2 := by subst e4; rw [rd_a (by omega), e9, el]
      refine ⟨g + 9, S4.ai10.2.2, t9, by omega, g + 6, S4.ai7.2.2, t6, by omega, ?_⟩
      rw [e94]
      intro h5 e5
      have Is : In (shK o p.2) := by unfold shK; split <;> omega
      refine kk h5 ?_ ?_ (fun _ => ?_) fun j hj hne => ?_
      · subst e5; subst e4; exact ⟨(Fp.pw (Or.inl rfl)).tr (Fp.pw (Or.inr rfl)), rfl⟩
      · rw [if_pos yy]; subst e5; subst e4
        rw [rd_a (by omega), rd_eq rfl rfl (by omega)]
      · subst e5; exact rd_eq rfl rfl Is
      · subst e5; subst e4
        rw [rd_a (by omega), rd_k hne hj hx.1, rd_k hne hj hx.1, rd_a (by omega)]; exact ⟨rfl, rfl⟩
theorem SLb.fr (B : SLb T N h g w v d q o s) (hy : w + 294 ≤ g) (I : Iv v) (F : FG g h h2) : SLb T N h2 g w v d q o s := by
  obtain ⟨S, Wd, O, G, Z, R⟩ := B
  have s0 := F.1.1 g (by omega)
  refine ⟨S.to F.2, Wd.fr (fun b q1 q2 => F.1.1 b (by omega)) I, ⟨by rw [s0.ai]; exact O.1, by rw [s0.ai]; exact O.2.1, by rw [s0.ai]; exact O.2.2.1, by rw [s0.ai]; exact O.2.2.2.1, by rw [s0.ai]; exact O.2.2.2.2⟩, fun n l a1 a2 a3 a4 => ?_, fun e o a1 a2 a3 a4 => ?_, fun j a1 a2 => ?_⟩
  · rw [(F.1.1 (g + 9) (by omega)).ai, (F.1.1 (g + 10) (by omega)).ai]; exact G n l a1 a2 a3 a4
  · rw [(F.1.1 (g + 4) (by omega)).2.2]; exact Z e o a1 a2 a3 a4
  · rw [(F.1.1 (g + 2) (by omega)).ai]; exact R j a1 a2
theorem tk_val (I : Iv v) (hs : s < 40) (he : 0 ≤ e ∧ e < 6 * v 11) (hl : s + lnV v e ≤ limV v d) (hE : rc v d 1 ≤ 200) : (¬ clP v d q (lgA e (orgV v d + s)) → TK v d q (96 * s + e) = if 0 ≤ (bsV v d (wsF v d q (s + 1)) (fnV v e) (e % 3) s).1 ∧ (bsV v d (wsF v d q (s + 1)) (fnV v e) (e % 3) s).1 ≤ rc v d 1 - resV v (tnV v e) - csV v e then (bsV v d (wsF v d q (s + 1)) (fnV v e) (e % 3) s).1 + csV v e else -1) ∧ (clP v d q (lgA e (orgV v d + s)) → TK v d q (96 * s + e) = -1) ∧ BF v d q (96 * s + e) = (bsV v d (wsF v d q (s + 1)) (fnV v e) (e % 3) s).2 := by
  have b := I.b
  have cb := cs_b I he
  refine ⟨fun z => ?_, fun z => ?_, BF_at I hs (by omega) ⟨he.2, hl⟩⟩
  · rw [TK_at I hs (by omega), if_pos ⟨he.2, hl⟩]
    by_cases c : 0 ≤ (bsV v d (wsF v d q (s + 1)) (fnV v e) (e % 3) s).1 ∧ (bsV v d (wsF v d q (s + 1)) (fnV v e) (e % 3) s).1 ≤ rc v d 1 - resV v (tnV v e) - csV v e
    · rw [if_pos c]; exact tv_yes ⟨by omega, c.1, by omega, z⟩
    · rw [if_neg c]; exact tv_neg fun y => c ⟨y.2.1, by have := y.2.2.1; omega⟩
  · rw [TK_at I hs (by omega), if_pos ⟨he.2, hl⟩]
    exact tv_neg fun y => y.2.2.2 z
end STL
