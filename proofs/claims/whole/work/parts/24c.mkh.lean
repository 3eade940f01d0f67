/-! THE START: the history, the search, the small ones -/
section MKH
variable {T N : Nat → Nat} {a b w g lo hi k s n q j : Nat} {h h0 h2 h3 : PH} {x : Option Nat} {KV : PH → Prop} {P : Nat → PH → Prop} {c : Int}
theorem gr_g : gr (grow h n) b k = gr h b k := rfl
theorem nx_s : nx (sr h a q x) = nx h := rfl
theorem nx_g : nx (grow h n) = nx h + 1 := rfl
theorem ce_s : ce (sr h a q x) = ce h := rfl
theorem ce_g : ce (grow h n) = ce h + 1 := rfl
theorem sl_s : sl (sr h a q x) = sl h := rfl
theorem sl_g : sl (grow h n) = sl h + n := rfl
theorem k_arr (tt : T a = q) (nn : N a = n) (hn : nx h = a) (hc : c = (n : Int)) (h6 : n ≤ 65536) (kk : ∀ h4, h4 = grow h n → P a h4) : (T (nx h) = q ∧ c = (N (nx h) : Int) ∧ N (nx h) ≤ 65536) ∧ ∀ a3 h4, a3 = nx h → h4 = grow h (N (nx h)) → P a3 h4 := by
  subst hn; subst nn
  exact ⟨⟨tt, hc, h6⟩, fun a3 h4 e1 e2 => by subst e1; exact kk h4 e2⟩
theorem k_obj (tt : T a = q) (hn : nx h = a) (kk : ∀ h4, h4 = grow h n → P a h4) : T (nx h) = q ∧ ∀ a3 h4, a3 = nx h → h4 = grow h n → P a3 h4 := by
  subst hn
  exact ⟨tt, fun a3 h4 e1 e2 => by subst e1; exact kk h4 e2⟩
theorem k_ways (t1 : T a = 9) (t2 : T (a + 1) = 22) (n2 : N (a + 1) = 10) (hn : nx h = a + 1) (k : ∀ h2, MK a (a + 2) h h2 1 10 → gr h2 a 0 = some (a + 1) → KV h2) : CV T N 77 [vr (some a)] h KV := by
  refine z77 t1 (k_arr t2 n2 hn rfl (by decide) fun h4 e4 h9 e9 => ?_)
  exact k h9 (((MK.gw e4).tr (MK.sr e9 (by omega))).as rfl rfl) (by rw [e9, gr_s, if_pos ⟨rfl, rfl⟩])
theorem k_seen (t1 : T a = 1) (t2 : T (a + 1) = 24) (n2 : N (a + 1) = 96) (hn : nx h = a + 1) (k : ∀ h2, MK a (a + 2) h h2 1 96 → gr h2 a 0 = some (a + 1) → KV h2) : CV T N 0 [vr (some a)] h KV := by
  refine z0 t1 (k_arr t2 n2 hn rfl (by decide) fun h4 e4 h9 e9 => ?_)
  exact k h9 (((MK.gw e4).tr (MK.sr e9 (by omega))).as rfl rfl) (by rw [e9, gr_s, if_pos ⟨rfl, rfl⟩])
theorem k_input (t1 : T a = 6) (t2 : T (a + 1) = 23) (n2 : N (a + 1) = 60) (hn : nx h = a + 1) (k : ∀ h2, MK a (a + 2) h h2 1 60 → gr h2 a 1 = some (a + 1) → KV h2) : CV T N 47 [vr (some a)] h KV := by
  refine z47 t1 (k_arr t2 n2 hn rfl (by decide) fun h4 e4 h9 e9 => ?_)
  exact k h9 (((MK.gw e4).tr (MK.sr e9 (by omega))).as rfl rfl) (by rw [e9, gr_s, if_pos ⟨rfl, rfl⟩])
def TS (T N : Nat → Nat) (g : Nat) : Prop := T g = 8 ∧ (T (g + 1) = 9 ∧ T (g + 2) = 22 ∧ N (g + 2) = 10) ∧ (T (g + 3) = 1 ∧ T (g + 4) = 24 ∧ N (g + 4) = 96) ∧ (T (g + 5) = 22 ∧ N (g + 5) = 3840 ∧ T (g + 6) = 22 ∧ N (g + 6) = 3840 ∧ T (g + 7) = 22 ∧ N (g + 7) = 30 ∧ T (g + 8) = 22 ∧ N (g + 8) = 30 ∧ T (g + 9) = 22 ∧ N (g + 9) = 30 ∧ T (g + 10) = 22 ∧ N (g + 10) = 30)
def GS (h : PH) (g : Nat) : Prop := gr h g 4 = some (g + 1) ∧ gr h g 5 = some (g + 3) ∧ gr h g 6 = some (g + 5) ∧ gr h g 7 = some (g + 6) ∧ gr h g 8 = some (g + 7) ∧ gr h g 9 = some (g + 8) ∧ gr h g 10 = some (g + 9) ∧ gr h g 11 = some (g + 10) ∧ gr h (g + 1) 0 = some (g + 2) ∧ gr h (g + 3) 0 = some (g + 4)
theorem k_search (D : TS T N g) (hn : nx h = g + 1) (k : ∀ h2, MK g (g + 11) h h2 10 7908 → GS h2 g → KV h2) : CV T N 58 [vr (some g)] h KV := by
  obtain ⟨d1, ⟨d2, d3, d4⟩, ⟨d5, d6, d7⟩, f1, f2, f3, f4, f5, f6, f7, f8, f9, f10, f11, f12⟩ := D
  refine z58 d1 (k_obj d2 hn fun h4 e4 => k_ways d2 d3 d4 (by rw [e4, nx_g]; omega) fun h9 M9 G9 h12 e12 => ?_)
  have n12 : nx h12 = g + 3 := by have := M9.1; rw [e12, nx_s]; rw [e4, nx_g] at this; omega
  refine k_obj d5 n12 fun h16 e16 => k_seen d5 d6 d7 (by rw [e16, nx_g]; omega) fun h21 M21 G21 h24 e24 => ?_
  have M24 : MK g (g + 11) h h24 4 (1 + 10 + 1 + 96) := ((((((MK.gw e4).tr (M9.mo (lo2 := g) (hi2 := g + 11) (by omega) (by omega))).tr (MK.sr e12 (by omega))).tr (MK.gw e16)).tr (M21.mo (by omega) (by omega))).tr (MK.sr e24 (by omega))).as rfl rfl
  have n24 : nx h24 = g + 5 := by have := M24.1; omega
  have p4 : gr h24 g 4 = some (g + 1) := by rw [e24, gr_s, if_neg (by omega), M21.2.2.2.2 _ (by omega), e16, gr_g, e12, gr_s, if_pos ⟨rfl, rfl⟩]
  have p5 : gr h24 g 5 = some (g + 3) := by rw [e24, gr_s, if_pos ⟨rfl, rfl⟩]
  have p1 : gr h24 (g + 1) 0 = some (g + 2) := by rw [e24, gr_s, if_neg (by omega), M21.2.2.2.2 _ (by omega), e16, gr_g, e12, gr_s, if_neg (by omega)]; exact G9
  have p3 : gr h24 (g + 3) 0 = some (g + 4) := by rw [e24, gr_s, if_neg (by omega)]; exact G21
  clear e24 e16 e12 M21 M9 G21 G9 e4
  refine k_arr f1 f2 n24 rfl (by decide) fun h28 e28 h33 e33 => ?_
  refine k_arr f3 f4 (by rw [e33, nx_s, e28, nx_g]; omega) rfl (by decide) fun h37 e37 h42 e42 => ?_
  refine k_arr f5 f6 (by rw [e42, nx_s, e37, nx_g, e33, nx_s, e28, nx_g]; omega) rfl (by decide) fun h46 e46 h51 e51 => ?_
  refine k_arr f7 f8 (by rw [e51, nx_s, e46, nx_g, e42, nx_s, e37, nx_g, e33, nx_s, e28, nx_g]; omega) rfl (by decide) fun h55 e55 h60 e60 => ?_
  refine k_arr f9 f10 (by rw [e60, nx_s, e55, nx_g, e51, nx_s, e46, nx_g, e42, nx_s, e37, nx_g, e33, nx_s, e28, nx_g]; omega) rfl (by decide) fun h64 e64 h69 e69 => ?_
  refine k_arr f11 f12 (by rw [e69, nx_s, e64, nx_g, e60, nx_s, e55, nx_g, e51, nx_s, e46, nx_g, e42, nx_s, e37, nx_g, e33, nx_s, e28, nx_g]; omega) rfl (by decide) fun h73 e73 h78 e78 => ?_
  refine k h78 (((((((((((((M24.tr (MK.gw e28)).tr (MK.sr e33 (by omega))).tr (MK.gw e37)).tr (MK.sr e42 (by omega))).tr (MK.gw e46)).tr (MK.sr e51 (by omega))).tr (MK.gw e55)).tr (MK.sr e60 (by omega))).tr (MK.gw e64)).tr (MK.sr e69 (by omega))).tr (MK.gw e73)).tr (MK.sr e78 (by omega))).as rfl rfl) ?_
  subst e78; subst e73; subst e69; subst e64; subst e60; subst e55; subst e51; subst e46; subst e42; subst e37; subst e33; subst e28
  refine ⟨?_, ?_, ?_, ?_, ?_, ?_, ?_, ?_, ?_, ?_⟩
  · (repeat (first | rfl | rw [gr_g] | (rw [gr_s, if_pos ⟨rfl, rfl⟩]) | (rw [gr_s, if_neg (by omega)]))); exact p4
  · (repeat (first | rfl | rw [gr_g] | (rw [gr_s, if_pos ⟨rfl, rfl⟩]) | (rw [gr_s, if_neg (by omega)]))); exact p5
  · (repeat (first | rfl | rw [gr_g] | (rw [gr_s, if_pos ⟨rfl, rfl⟩]) | (rw [gr_s, if_neg (by omega)])))
  · (repeat (first | rfl | rw [gr_g] | (rw [gr_s, if_pos ⟨rfl, rfl⟩]) | (rw [gr_s, if_neg (by omega)])))
  · (repeat (first | rfl | rw [gr_g] | (rw [gr_s, if_pos ⟨rfl, rfl⟩]) | (rw [gr_s, if_neg (by omega)])))
  · (repeat (first | rfl | rw [gr_g] | (rw [gr_s, if_pos ⟨rfl, rfl⟩]) | (rw [gr_s, if_neg (by omega)])))
  · (repeat (first | rfl | rw [gr_g] | (rw [gr_s, if_pos ⟨rfl, rfl⟩]) | (rw [gr_s, if_neg (by omega)])))
  · (repeat (first | rfl | rw [gr_g] | (rw [gr_s, if_pos ⟨rfl, rfl⟩]) | (rw [gr_s, if_neg (by omega)])))
  · (repeat (first | rfl | rw [gr_g] | (rw [gr_s, if_pos ⟨rfl, rfl⟩]) | (rw [gr_s, if_neg (by omega)]))); exact p1
  · (repeat (first | rfl | rw [gr_g] | (rw [gr_s, if_pos ⟨rfl, rfl⟩]) | (rw [gr_s, if_neg (by omega)]))); exact p3
theorem k_hist (t1 : T w = 5) (t2 : T (w + 1) = 40) (n2 : N (w + 1) = 9) (tw : ∀ j : Nat, j < 9 → TW T N (w + 2 + 294 * j)) (hn : nx h = w + 1) (k : ∀ h2, MK w (w + 2648) h h2 2647 15408 → gr h2 w 2 = some (w + 1) → (∀ j, j < 9 → gr h2 (w + 1) j = some (w + 2 + 294 * j) ∧ WO T N h2 (w + 2 + 294 * j)) → KV h2) : CV T N 39 [vr (some w)] h KV := by
  have loop : ∀ (q c : Nat) (h3 : PH), c + q = 9 → MK w (w + 2648) h h3 (1 + 294 * c) (9 + 1711 * c) → gr h3 w 2 = some (w + 1) → (∀ j, j < c → gr h3 (w + 1) j = some (w + 2 + 294 * j) ∧ WO T N h3 (w + 2 + 294 * j)) → WV T N 39 15 [some (vr (some w)), some (vi (J (c : Int)))] [] h3 KV := by
    intro q
    induction q with
    | zero =>
      intro c h3 hc M g2 G
      have c9 : c = 9 := by omega
      subst c9
      exact z39_15 t1 (by omega) ⟨w + 1, g2, by omega, by omega, fun y => by omega, fun _ => k h3 M g2 G⟩
    | succ q ih =>
      intro c h3 hc M g2 G
      have n3 : nx h3 = w + 2 + 294 * c := by have := M.1; omega
      have td := tw c (by omega)
      refine z39_15 t1 (by omega) ⟨w + 1, g2, by omega, by omega, fun _ => k_obj td.1 n3 fun h12 e12 => k_world td (by rw [e12, nx_g]; omega) fun h17 M17 W17 => ⟨w + 1, g2, by have := td.1; omega, by omega, fun h22 e22 => ?_⟩, fun y => by omega⟩
      have g12 : gr h12 = gr h3 := by subst e12; rfl
      have e : ∀ b, b < w + 2 + 294 * c → ¬ b = w + 1 → ∀ j, gr h22 b j = gr h3 b j := fun b hb h3' j => by
        rw [e22, gr_s, if_neg (by omega), M17.2.2.2.2 b (by omega) j, g12]
      have M2 := ((M.tr (MK.gw e12)).tr (M17.mo (lo2 := w) (hi2 := w + 2648) (by omega) (by omega))).tr (MK.sr e22 (by omega))
      have := ih (c + 1) h22 (by omega) (M2.as (by omega) (by omega)) ((e w (by omega) (by omega) 2).trans g2) fun j hj => by
        by_cases cj : j = c
        · subst cj
          exact ⟨by rw [e22, gr_s, if_pos ⟨rfl, by omega⟩], W17.mk fun b b1 b2 i => by rw [e22, gr_s, if_neg (by omega)]⟩
        · obtain ⟨q1, q2⟩ := G j (by omega)
          exact ⟨by rw [e22, gr_s, if_neg (by omega), M17.2.2.2.2 _ (by omega), g12]; exact q1, q2.mk fun b b1 b2 i => e b (by omega) (by omega) i⟩
      rw [show ((c + 1 : Nat) : Int) = (c : Int) + 1 by omega] at this
      exact this
  refine z39 t1 (k_arr t2 n2 hn rfl (by decide) fun h4 e4 h9 e9 => ?_)
  exact loop 9 0 h9 (by omega) (((MK.gw e4).tr (MK.sr e9 (by omega))).as rfl rfl) (by rw [e9, gr_s, if_pos ⟨rfl, rfl⟩]) fun j hj => absurd hj (Nat.not_lt_zero _)
end MKH
