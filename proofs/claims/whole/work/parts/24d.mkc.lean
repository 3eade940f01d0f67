/-! THE START: the class, the reference -/
def STP (bs a q k s : Nat) (h h2 : PH) : Prop := nx h2 = nx h + (1 + k) ∧ ce h2 = ce h + (1 + k) ∧ sl h2 = sl h + s ∧ gi h2 = gi h ∧ (∀ b j, b < a → b ≠ bs → gr h2 b j = gr h b j) ∧ gr h2 bs q = some a ∧ ∀ j, j ≠ q → gr h2 bs j = gr h bs j
/-- tags of the class's part -/
def TC (T N : Nat → Nat) (bs : Nat) : Prop := T bs = 11 ∧ TW T N (bs + 1) ∧ TW T N (bs + 295) ∧ (T (bs + 589) = 5 ∧ T (bs + 590) = 40 ∧ N (bs + 590) = 9 ∧ ∀ j : Nat, j < 9 → TW T N (bs + 591 + 294 * j)) ∧ TS T N (bs + 3237) ∧ (T (bs + 3248) = 9 ∧ T (bs + 3249) = 22 ∧ N (bs + 3249) = 10) ∧ (T (bs + 3250) = 6 ∧ T (bs + 3251) = 23 ∧ N (bs + 3251) = 60) ∧ TD T N (bs + 3252)
/-- what lies there -/
def GC (T N : Nat → Nat) (bs : Nat) (h : PH) : Prop := (gr h bs 0 = some (bs + 1) ∧ gr h bs 1 = some (bs + 295) ∧ gr h bs 2 = some (bs + 589) ∧ gr h bs 3 = some (bs + 3237) ∧ gr h bs 4 = some (bs + 3248) ∧ gr h bs 5 = some (bs + 3250) ∧ gr h bs 6 = some (bs + 3252)) ∧ WO T N h (bs + 1) ∧ WO T N h (bs + 295) ∧ (gr h (bs + 589) 2 = some (bs + 590) ∧ ∀ j, j < 9 → gr h (bs + 590) j = some (bs + 591 + 294 * j) ∧ WO T N h (bs + 591 + 294 * j)) ∧ GS h (bs + 3237) ∧ gr h (bs + 3248) 0 = some (bs + 3249) ∧ gr h (bs + 3250) 1 = some (bs + 3251) ∧ DT T N h (bs + 3252)
section MKC
variable {T N : Nat → Nat} {bs a b w g lo hi k s n q j : Nat} {h h0 h2 h3 h4 h9 h12 : PH} {x : Option Nat} {KV : PH → Prop}
theorem STP.of (e4 : h4 = grow h n) (M : MK a hi h4 h9 k s) (e : h12 = sr h9 bs q (some a)) (hb : bs < a) : STP bs a q k (n + s) h h12 := by
  subst e4
  obtain ⟨m1, m2, m3, m4, m5⟩ := M
  rw [nx_g] at m1; rw [ce_g] at m2; rw [sl_g] at m3
  subst e
  refine ⟨by rw [nx_s]; omega, by rw [ce_s]; omega, by rw [sl_s]; omega, m4, fun b j b1 b2 => ?_, ?_, fun j hj => ?_⟩
  · rw [gr_s, if_neg (by omega), m5 b (by omega), gr_g]
  · rw [gr_s, if_pos ⟨rfl, rfl⟩]
  · rw [gr_s, if_neg (by omega), m5 bs (by omega), gr_g]
theorem GS.mk (G : GS h g) (e : ∀ b, g ≤ b → b < g + 11 → ∀ j, gr h2 b j = gr h b j) : GS h2 g := by
  obtain ⟨g1, g2, g3, g4, g5, g6, g7, g8, g9, g10⟩ := G
  have e0 := e g (by omega) (by omega)
  exact ⟨by rw [e0]; exact g1, by rw [e0]; exact g2, by rw [e0]; exact g3, by rw [e0]; exact g4, by rw [e0]; exact g5, by rw [e0]; exact g6, by rw [e0]; exact g7, by rw [e0]; exact g8, by rw [e _ (by omega) (by omega)]; exact g9, by rw [e _ (by omega) (by omega)]; exact g10⟩
theorem k_class (D : TC T N bs) (hn : nx h = bs + 1) (k : ∀ h2, nx h2 = bs + 3296 → ce h2 = ce h + 3295 → sl h2 ≤ sl h + 40000 → (∀ b, b ≠ bs → ∀ j, ai h2 b j = ai h b j) → ai h2 bs 7 = 0 → ai h2 bs 8 = -1 → ai h2 bs 9 = -1 → GC T N bs h2 → KV h2) : CV T N 104 [vr (some bs)] h KV := by
  obtain ⟨d1, d2, d3, ⟨d4, d5, d6, d7⟩, d8, ⟨d9, d10, d11⟩, ⟨d12, d13, d14⟩, d15⟩ := D
  refine z104 d1 (k_obj d2.1 hn fun h4 e4 => k_world d2 (by rw [e4, nx_g]; omega) fun h9 M9 W9 h12 e12 => ?_)
  have P1 := STP.of e4 M9 e12 (by omega)
  have n12 : nx h12 = bs + 295 := by have := P1.1; omega
  have W1 : WO T N h12 (bs + 1) := W9.mk fun b b1 b2 j => by rw [e12, gr_s, if_neg (by omega)]
  clear W9 M9 e12 e4
  refine k_obj d3.1 n12 fun h16 e16 => k_world d3 (by rw [e16, nx_g]; omega) fun h21 M21 W21 h24 e24 => ?_
  have P2 := STP.of e16 M21 e24 (by omega)
  have n24 : nx h24 = bs + 589 := by have := P2.1; omega
  have W2 : WO T N h24 (bs + 295) := W21.mk fun b b1 b2 j => by rw [e24, gr_s, if_neg (by omega)]
  clear W21 M21 e24 e16
  refine k_obj d4 n24 fun h28 e28 => k_hist d4 d5 d6 d7 (by rw [e28, nx_g]; omega) fun h33 M33 G33 W33 h36 e36 => ?_
  have P3 := STP.of e28 M33 e36 (by omega)
  have n36 : nx h36 = bs + 3237 := by have := P3.1; omega
  have W3 : gr h36 (bs + 589) 2 = some (bs + 590) ∧ ∀ j, j < 9 → gr h36 (bs + 590) j = some (bs + 591 + 294 * j) ∧ WO T N h36 (bs + 591 + 294 * j) := ⟨by rw [e36, gr_s, if_neg (by omega)]; exact G33, fun j hj => ⟨by rw [e36, gr_s, if_neg (by omega)]; exact (W33 j hj).1, (W33 j hj).2.mk fun b b1 b2 j => by rw [e36, gr_s, if_neg (by omega)]⟩⟩
  clear W33 G33 M33 e36 e28
  refine k_obj d8.1 n36 fun h40 e40 => k_search d8 (by rw [e40, nx_g]; omega) fun h45 M45 G45 h48 e48 => ?_
  have P4 := STP.of e40 M45 e48 (by omega)
  have n48 : nx h48 = bs + 3248 := by have := P4.1; omega
  have W4 : GS h48 (bs + 3237) := G45.mk fun b b1 b2 j => by rw [e48, gr_s, if_neg (by omega)]
  clear G45 M45 e48 e40
  refine k_obj d9 n48 fun h52 e52 => k_ways d9 d10 d11 (by rw [e52, nx_g]; omega) fun h57 M57 G57 h60 e60 => ?_
  have P5 := STP.of e52 M57 e60 (by omega)
  have n60 : nx h60 = bs + 3250 := by have := P5.1; omega
  have W5 : gr h60 (bs + 3248) 0 = some (bs + 3249) := by rw [e60, gr_s, if_neg (by omega)]; exact G57
  clear G57 M57 e60 e52
  refine k_obj d12 n60 fun h64 e64 => k_input d12 d13 d14 (by rw [e64, nx_g]; omega) fun h69 M69 G69 h72 e72 => ?_
  have P6 := STP.of e64 M69 e72 (by omega)
  have n72 : nx h72 = bs + 3252 := by have := P6.1; omega
  have W6 : gr h72 (bs + 3250) 1 = some (bs + 3251) := by rw [e72, gr_s, if_neg (by omega)]; exact G69
  clear G69 M69 e72 e64
  refine k_obj d15.1 n72 fun h76 e76 => k_drone d15 (by rw [e76, nx_g]; omega) fun h81 M81 D81 h84 e84 => ?_
  have P7 := STP.of e76 M81 e84 (by omega)
  have n84 : nx h84 = bs + 3296 := by have := P7.1; omega
  have W7 : DT T N h84 (bs + 3252) := D81.mk fun b b1 b2 j => by rw [e84, gr_s, if_neg (by omega)]
  clear D81 M81 e84 e76
  intro h87 e87 h90 e90 h93 e93
  obtain ⟨p11, p12, p13, p14, p15, p16, p17⟩ := P1
  obtain ⟨p21, p22, p23, p24, p25, p26, p27⟩ := P2
  obtain ⟨p31, p32, p33, p34, p35, p36, p37⟩ := P3
  obtain ⟨p41, p42, p43, p44, p45, p46, p47⟩ := P4
  obtain ⟨p51, p52, p53, p54, p55, p56, p57⟩ := P5
  obtain ⟨p61, p62, p63, p64, p65, p66, p67⟩ := P6
  obtain ⟨p71, p72, p73, p74, p75, p76, p77⟩ := P7
  have gF : gr h93 = gr h84 := by rw [e93, e90, e87]; rfl
  have E6 : ∀ b j, b < bs + 3252 → b ≠ bs → gr h93 b j = gr h72 b j := fun b j h1 h2 => by rw [gF]; exact p75 b j h1 h2
  have E5 : ∀ b j, b < bs + 3250 → b ≠ bs → gr h93 b j = gr h60 b j := fun b j h1 h2 => (E6 b j (by omega) h2).trans (p65 b j h1 h2)
  have E4 : ∀ b j, b < bs + 3248 → b ≠ bs → gr h93 b j = gr h48 b j := fun b j h1 h2 => (E5 b j (by omega) h2).trans (p55 b j h1 h2)
  have E3 : ∀ b j, b < bs + 3237 → b ≠ bs → gr h93 b j = gr h36 b j := fun b j h1 h2 => (E4 b j (by omega) h2).trans (p45 b j h1 h2)
  have E2 : ∀ b j, b < bs + 589 → b ≠ bs → gr h93 b j = gr h24 b j := fun b j h1 h2 => (E3 b j (by omega) h2).trans (p35 b j h1 h2)
  have E1 : ∀ b j, b < bs + 295 → b ≠ bs → gr h93 b j = gr h12 b j := fun b j h1 h2 => (E2 b j (by omega) h2).trans (p25 b j h1 h2)
  have gi0 : gi h84 = gi h := p74.trans (p64.trans (p54.trans (p44.trans (p34.trans (p24.trans p14)))))
  refine k h93 ?_ ?_ ?_ (fun b hb j => ?_) ?_ ?_ ?_ ⟨⟨?_, ?_, ?_, ?_, ?_, ?_, ?_⟩, W1.mk fun b b1 b2 j => E1 b j (by omega) (by omega), W2.mk fun b b1 b2 j => E2 b j (by omega) (by omega), ⟨(E3 _ _ (by omega) (by omega)).trans W3.1, fun j hj => ⟨(E3 _ _ (by omega) (by omega)).trans (W3.2 j hj).1, (W3.2 j hj).2.mk fun b b1 b2 j => E3 b j (by omega) (by omega)⟩⟩, W4.mk fun b b1 b2 j => E4 b j (by omega) (by omega), (E5 _ _ (by omega) (by omega)).trans W5, (E6 _ _ (by omega) (by omega)).trans W6, W7.mk fun b b1 b2 j => by rw [gF]⟩
  · rw [e93, e90, e87]; exact n84
  · rw [e93, e90, e87]; show ce h84 = _; omega
  · rw [e93, e90, e87]; show sl h84 ≤ _; omega
  · rw [e93, rd_a hb, e90, rd_a hb, e87, rd_a hb]; show (gi h84 b j.toNat).toInt = (gi h b j.toNat).toInt; rw [gi0]
  · rw [e93, rd_k (by decide) (by decide) (by decide), e90, rd_k (by decide) (by decide) (by decide), e87]; exact rd_eq rfl rfl (by decide)
  · rw [e93, rd_k (by decide) (by decide) (by decide), e90]; exact rd_eq rfl rfl (by decide)
  · rw [e93]; exact rd_eq rfl rfl (by decide)
  · rw [gF, p77 0 (by decide), p67 0 (by decide), p57 0 (by decide), p47 0 (by decide), p37 0 (by decide), p27 0 (by decide)]; exact p16
  · rw [gF, p77 1 (by decide), p67 1 (by decide), p57 1 (by decide), p47 1 (by decide), p37 1 (by decide)]; exact p26
  · rw [gF, p77 2 (by decide), p67 2 (by decide), p57 2 (by decide), p47 2 (by decide)]; exact p36
  · rw [gF, p77 3 (by decide), p67 3 (by decide), p57 3 (by decide)]; exact p46
  · rw [gF, p77 4 (by decide), p67 4 (by decide)]; exact p56
  · rw [gF, p77 5 (by decide)]; exact p66
  · rw [gF]; exact p76
end MKC
