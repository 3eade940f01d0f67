/-! THE START: the reference, and the whole run -/
def TR (T N : Nat → Nat) (A : Nat) : Prop := T A = 12 ∧ (T (A + 1) = 22 ∧ N (A + 1) = 449) ∧ (T (A + 2) = 22 ∧ N (A + 2) = 449) ∧ (T (A + 3) = 22 ∧ N (A + 3) = 449) ∧ (T (A + 4) = 22 ∧ N (A + 4) = 449) ∧ (T (A + 5) = 22 ∧ N (A + 5) = 3592) ∧ (T (A + 6) = 23 ∧ N (A + 6) = 60) ∧ (T (A + 7) = 22 ∧ N (A + 7) = 10) ∧ (T (A + 8) = 22 ∧ N (A + 8) = 10) ∧ (T (A + 9) = 22 ∧ N (A + 9) = 3936) ∧ (T (A + 10) = 22 ∧ N (A + 10) = 3936) ∧ (T (A + 11) = 22 ∧ N (A + 11) = 30) ∧ (T (A + 12) = 22 ∧ N (A + 12) = 30)
section MKE
variable {T N : Nat → Nat} {bs a b w g lo hi k s n q A a0 : Nat} {h h0 h2 h3 h4 h9 h12 : PH} {x : Option Nat} {KV : PH → Prop} {j y : Int}
theorem gr_w {p : Nat} : gr (wi h a j y) b p = gr h b p := rfl
theorem nx_w : nx (wi h a j y) = nx h := rfl
theorem ce_w : ce (wi h a j y) = ce h := rfl
theorem sl_w : sl (wi h a j y) = sl h := rfl
theorem ai_s {p : Int} : ai (sr h a q x) b p = ai h b p := rfl
theorem ai_g {p : Int} : ai (grow h n) b p = ai h b p := rfl
theorem k_ref (D : TR T N A) (hn : nx h = A + 1) (k : ∀ h2, nx h2 = A + 13 → ce h2 = ce h + 12 → sl h2 ≤ sl h + 13400 → (∀ b, b ≠ A → ∀ p, gr h2 b p = gr h b p) → (∀ b, b ≠ A → ∀ p, ai h2 b p = ai h b p) → (∀ p, 0 ≤ p → p ≠ 8 → ai h2 A p = ai h A p) → ai h2 A 8 = -1 → RT T N A h2 → KV h2) : CV T N 155 [vr (some A)] h KV := by
  obtain ⟨d0, ⟨d1, n1⟩, ⟨d2, n2⟩, ⟨d3, n3⟩, ⟨d4, n4⟩, ⟨d5, n5⟩, ⟨d6, n6⟩, ⟨d7, n7⟩, ⟨d8, n8⟩, ⟨d9, n9⟩, ⟨d10, n10⟩, ⟨d11, n11⟩, ⟨d12, n12⟩⟩ := D
  refine z155 d0 ?_
  refine k_arr d1 n1 (by first | omega | (simp only [nx_s, nx_g, nx_w]; omega)) rfl (by decide) fun h4 e4 h9 e9 => ?_; subst e9; subst e4
  refine k_arr d2 n2 (by first | omega | (simp only [nx_s, nx_g, nx_w]; omega)) rfl (by decide) fun h4 e4 h9 e9 => ?_; subst e9; subst e4
  refine k_arr d3 n3 (by first | omega | (simp only [nx_s, nx_g, nx_w]; omega)) rfl (by decide) fun h4 e4 h9 e9 => ?_; subst e9; subst e4
  refine k_arr d4 n4 (by first | omega | (simp only [nx_s, nx_g, nx_w]; omega)) rfl (by decide) fun h4 e4 h9 e9 => ?_; subst e9; subst e4
  refine k_arr d5 n5 (by first | omega | (simp only [nx_s, nx_g, nx_w]; omega)) rfl (by decide) fun h4 e4 h9 e9 h10 e10 => ?_
  subst e10; subst e9; subst e4
  refine k_arr d6 n6 (by first | omega | (simp only [nx_s, nx_g, nx_w]; omega)) rfl (by decide) fun h4 e4 h9 e9 => ?_; subst e9; subst e4
  refine k_arr d7 n7 (by first | omega | (simp only [nx_s, nx_g, nx_w]; omega)) rfl (by decide) fun h4 e4 h9 e9 => ?_; subst e9; subst e4
  refine k_arr d8 n8 (by first | omega | (simp only [nx_s, nx_g, nx_w]; omega)) rfl (by decide) fun h4 e4 h9 e9 => ?_; subst e9; subst e4
  refine k_arr d9 n9 (by first | omega | (simp only [nx_s, nx_g, nx_w]; omega)) rfl (by decide) fun h4 e4 h9 e9 => ?_; subst e9; subst e4
  refine k_arr d10 n10 (by first | omega | (simp only [nx_s, nx_g, nx_w]; omega)) rfl (by decide) fun h4 e4 h9 e9 => ?_; subst e9; subst e4
  refine k_arr d11 n11 (by first | omega | (simp only [nx_s, nx_g, nx_w]; omega)) rfl (by decide) fun h4 e4 h9 e9 => ?_; subst e9; subst e4
  refine k_arr d12 n12 (by first | omega | (simp only [nx_s, nx_g, nx_w]; omega)) rfl (by decide) fun h4 e4 h9 e9 => ?_; subst e9; subst e4
  refine k _ (by first | omega | (simp only [nx_s, nx_g, nx_w]; omega)) (by simp only [ce_s, ce_g, ce_w]) (by simp only [sl_s, sl_g, sl_w]; omega) (fun b hb p => ?_) (fun b hb p => ?_) (fun p h1 h2 => ?_) ?_ ⟨d0, ⟨d1, n1, ?_⟩, ⟨d2, n2, ?_⟩, ⟨d3, n3, ?_⟩, ⟨d4, n4, ?_⟩, ⟨d5, n5, ?_⟩, ⟨d6, n6, ?_⟩, ⟨d7, n7, ?_⟩, ⟨d8, n8, ?_⟩, ⟨d9, n9, ?_⟩, ⟨d10, n10, ?_⟩, ⟨d11, n11, ?_⟩, ⟨d12, n12, ?_⟩⟩
  · (repeat (first | rfl | rw [gr_g] | rw [gr_w] | (rw [gr_s, if_pos ⟨rfl, rfl⟩]) | (rw [gr_s, if_neg (by omega)])))
  · simp only [ai_s, ai_g]; rw [rd_a hb]; simp only [ai_s, ai_g]
  · simp only [ai_s, ai_g]; rw [rd_k h2 h1 (by decide)]; simp only [ai_s, ai_g]
  · simp only [ai_s, ai_g]; exact rd_eq rfl rfl (by decide)
  all_goals (repeat (first | rfl | rw [gr_g] | rw [gr_w] | (rw [gr_s, if_pos ⟨rfl, rfl⟩]) | (rw [gr_s, if_neg (by omega)])))
theorem Wo0 (W : WO T N h w) (z : ∀ p, ai h w p = 0) : Wo T N h w (fun _ => 0) := by
  refine ⟨W, ⟨z _, z _, z _, z _, z _⟩, ?_, fun c a1 a2 => absurd (show c < 0 from a2) (by omega), fun c a1 a2 => absurd (show c < 0 from a2) (by omega), fun c a1 a2 => absurd (show c < 0 from a2) (by omega)⟩
  rw [z 2]
  intro n hn
  rw [mb_0]
  constructor
  · intro z; cases z
  · intro z; exact absurd (show (n : Int) < 0 from z.1) (by omega)
/-- the table of tags and lengths -/
def TB (T N : Nat → Nat) (bs a0 : Nat) : Prop := (T a0 = 21 ∧ a0 < bs ∧ N a0 ≤ 2560) ∧ TC T N bs ∧ TR T N (bs + 3296) ∧ (T (bs + 3309) = 24 ∧ N (bs + 3309) = 1 ∧ T (bs + 3310) = 25 ∧ N (bs + 3310) = 1) ∧ ∀ a, bs + 3311 ≤ a → T a = 0
theorem law_all (D : TB T N bs a0) (hn : nx h = bs) (hc : ce h = 0) (hs : sl h = 0) (hz : ∀ b, bs ≤ b → ∀ p, ai h b p = 0) : ZI T N 288 [vr (some a0)] h (fun x h2 => x = 1 ∧ ce h2 ≤ 603072 ∧ sl h2 ≤ 7194730) := by
  obtain ⟨⟨t1, ha0, hN⟩, DC, DR, ⟨t9, n9, t10, n10⟩, tz⟩ := D
  refine z288 (k_obj DC.1 hn fun h3 e3 => k_class DC (by rw [e3, nx_g]; omega) fun h8 nx8 ce8 sl8 ai8 a7 a8 a9 G8 => k_obj DR.1 nx8 fun h12 e12 => k_ref DR (by rw [e12, nx_g]; omega) fun h17 nx17 ce17 sl17 gr17 ai17 aA17 aA8 R17 => k_arr t9 n9 (by omega) rfl (by decide) fun h21 e21' => k_arr t10 n10 (by rw [e21', nx_g]; omega) rfl (by decide) fun h27 e27 => ?_)
  have gF : gr h27 = gr h17 := by rw [e27, e21']; rfl
  have aF : ∀ b p, ai h27 b p = ai h17 b p := fun b p => by rw [e27, e21']; rfl
  have g12 : gr h12 = gr h8 := by rw [e12]; rfl
  have gE : ∀ b, b ≠ bs + 3296 → ∀ p, gr h27 b p = gr h8 b p := fun b hb p => by rw [gF, gr17 b hb p, g12]
  have aE : ∀ b, b ≠ bs + 3296 → ∀ p, ai h27 b p = ai h8 b p := fun b hb p => by rw [aF, ai17 b hb p, e12, ai_g]
  have z3 : ∀ b, bs ≤ b → ∀ p, ai h3 b p = 0 := fun b hb p => by rw [e3, ai_g]; exact hz b hb p
  have zE : ∀ b, bs < b → b ≠ bs + 3296 → ∀ p, ai h27 b p = 0 := fun b h1 h2 p => by rw [aE b h2 p, ai8 b (by omega) p]; exact z3 b (by omega) p
  have zA : ∀ p, 0 ≤ p → p ≠ 8 → ai h27 (bs + 3296) p = 0 := fun p h1 h2 => by rw [aF, aA17 p h1 h2, e12, ai_g, ai8 _ (by omega) p]; exact z3 _ (by omega) p
  have nxF : nx h27 = bs + 3311 := by rw [e27, nx_g, e21', nx_g]; omega
  have ceF : ce h27 ≤ 3311 := by
    rw [e27, ce_g, e21', ce_g]; rw [e12, ce_g] at ce17; rw [e3, ce_g] at ce8; omega
  have slF : sl h27 ≤ 100000 := by
    rw [e27, sl_g, e21', sl_g]; rw [e12, sl_g] at sl17; rw [e3, sl_g] at sl8; omega
  have RF : RT T N (bs + 3296) h27 := R17.to gF
  obtain ⟨⟨g0, g1, g2, g3, g4, g5, g6⟩, W1, W2, ⟨g7, W3⟩, GG, g8, g9, DD⟩ := G8
  have GG2 : GS h27 (bs + 3237) := GG.mk fun b b1 b2 p => gE b (by omega) p
  obtain ⟨s1, s2, s3, s4, s5, s6, s7, s8, s9, s10⟩ := GG2
  obtain ⟨d1, d2, d3, ⟨d4, d5, d6, d7⟩, ⟨c1, ⟨c2, c3, c4⟩, ⟨c5, c6, c7⟩, c8⟩, ⟨d9, d10, d11⟩, ⟨d12, d13, d14⟩, d15⟩ := DC
  have e0 : ∀ p, gr h27 bs p = gr h8 bs p := gE bs (by omega)
  have WW1 : WO T N h27 (bs + 1) := W1.mk fun b b1 b2 p => gE b (by omega) p
  have S1F : S1 T N bs h27 := ⟨⟨d1, (e0 _).trans g0, (e0 _).trans g1, (e0 _).trans g2, (e0 _).trans g3, (e0 _).trans g4, (e0 _).trans g5, (e0 _).trans g6⟩, ⟨d4, (gE _ (by omega) _).trans g7, d5, d6, fun j hj => (gE _ (by omega) _).trans (W3 j hj).1⟩, ⟨c1, s1, s2, s3, s4, s5, s6, s7, s8⟩, ⟨c2, s9, c3, c4⟩, ⟨c5, s10, c6, c7⟩, c8, ⟨d9, (gE _ (by omega) _).trans g8, d10, d11⟩, ⟨d12, (gE _ (by omega) _).trans g9, d13, d14⟩, RF, ⟨t9, n9, t10, n10⟩, tz⟩
  have S2F : S2 T N bs h27 := ⟨WW1, W2.mk fun b b1 b2 p => gE b (by omega) p, fun j hj => (W3 j hj).2.mk fun b b1 b2 p => gE b (by omega) p, DD.mk fun b b1 b2 p => gE b (by omega) p⟩
  have CF : Com T N bs h27 0 := ⟨S1F, S2F, nxF, by omega, by omega⟩
  have IF : IvS (fun _ => 0) 0 (fun _ => 0) 0 (fun _ _ => 0) 0 (fun _ => 0) 0 (-1) := ⟨Iv0, Or.inl rfl, fun z => absurd z (by decide), by decide, fun i a b => absurd b (by omega), by decide, fun i a b => absurd b (by omega), by decide, by decide⟩
  have DF : SD T N bs h27 (fun _ => 0) 0 (fun _ => 0) 0 (fun _ _ => 0) 0 (fun _ => 0) 0 (-1) := ⟨Wo0 WW1 fun p => zE _ (by omega) (by omega) p, ⟨by rw [aE _ (by omega)]; exact a7, fun z => absurd z (by decide)⟩, ⟨zE _ (by omega) (by omega) _, by decide, by rw [zE _ (by omega) (by omega)]; decide, fun i a b => absurd b (by omega)⟩, ⟨zE _ (by omega) (by omega) _, fun i a b => absurd b (by omega)⟩, by rw [if_pos rfl, aE _ (by omega)]; exact a8, by rw [aE _ (by omega)]; exact a9⟩
  have RR : SR (bs + 3296) h27 (fun _ => 0) 0 (fun _ => 0) 0 (fun _ _ => 0) 0 (fun _ => 0) 0 (-1) := ⟨fun p h1 h2 => zE _ (by omega) (by omega) p, ⟨zA 9 (by decide) (by decide), fun z => absurd z (by decide)⟩, ⟨zA 6 (by decide) (by decide), fun i a b => absurd b (by omega)⟩, ⟨zA 11 (by decide) (by decide), fun i a b => absurd b (by omega)⟩, zA 7 (by decide) (by decide), by rw [aF]; exact aA8⟩
  exact law_run t1 ha0 (by omega) 513 0 h27 (by omega) ⟨_, _, _, _, _, _, _, _, _, CF, IF, DF, RR⟩
end MKE
