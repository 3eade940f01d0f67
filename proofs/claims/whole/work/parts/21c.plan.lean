/-! PLAN: why not, and what is applied, on both sides -/
def LST (v : Int → Int) (d q n last : Int) : Prop := (n = rc v d 3 ∧ last = -1) ∨ (n ≠ rc v d 3 ∧ Bst v d q n last)
def tmV (v : Int → Int) (last : Int) : Int := if last < 0 then 0 else enK v last
def NCa (v : Int → Int) (d q n : Int) : Prop := ∀ k, ¬ Cand v d q n k
def WHY (v : Int → Int) (d t y : Int) : Prop := (rc v d 0 = 3 ∧ y = 1) ∨ (rc v d 0 ≠ 3 ∧ t ≠ rc v d 3 ∧ ((¬ resV v t < 1000000 ∧ y = 2) ∨ (resV v t < 1000000 ∧ NCa v d 2 t ∧ ((NCa v d 0 t ∧ y = 3) ∨ (¬ NCa v d 0 t ∧ ((NCa v d 1 t ∧ y = 4) ∨ (¬ NCa v d 1 t ∧ y = 5)))))))
/-- the reference's own cells -/
def RAll (A b _k : Nat) : Prop := A ≤ b ∧ b < A + 13
section PLA
variable {T N : Nat → Nat} {bs A w : Nat} {h h1 h2 h3 h7 h10 : PH} {v u sv tx : Int → Int} {hs hs2 : Int → Int → Int} {iss n tn re er d a t q b l m x y c e tm en t2 e2 k y2 last last2 n2 : Int} {i : Nat} {K : Int → PH → Prop} {KV : PH → Prop} {KP : PR → PH → Prop} {Q : Int → Int → Int → PH → Prop} {P : Int → Prop}
theorem WHY.un (h : WHY v d t y) (g : WHY v d t y2) : y = y2 := by
  rcases h with ⟨h1, h2⟩ | ⟨h1, h2, ⟨h3, h4⟩ | ⟨h3, h4, ⟨h5, h6⟩ | ⟨h5, ⟨h6, h7⟩ | ⟨h6, h7⟩⟩⟩⟩ <;> rcases g with ⟨g1, g2⟩ | ⟨g1, g2, ⟨g3, g4⟩ | ⟨g3, g4, ⟨g5, g6⟩ | ⟨g5, ⟨g6, g7⟩ | ⟨g6, g7⟩⟩⟩⟩ <;> first | omega | (exfalso; first | exact h1 g1 | exact g1 h1 | exact h3 g3 | exact g3 h3 | exact h5 g5 | exact g5 h5 | exact h6 g6 | exact g6 h6)
theorem WHY.bd (h : WHY v d t y) : 1 ≤ y ∧ y ≤ 5 := by
  rcases h with ⟨h1, h2⟩ | ⟨h1, h2, ⟨h3, h4⟩ | ⟨h3, h4, ⟨h5, h6⟩ | ⟨h5, ⟨h6, h7⟩ | ⟨h6, h7⟩⟩⟩⟩ <;> omega
theorem cand_res (I : Iv v) (hd : 0 ≤ d ∧ d < v 117) (z : Cand v d q n k) : resV v n < 1000000 := by
  have P := TK_pos I hd z.1 z.2.1
  have r := P.2.2.2.2.1.1
  rw [z.2.2] at r; exact r
theorem WHY.no (I : Iv v) (hd : 0 ≤ d ∧ d < v 117) (h : WHY v d t y) (nl : rc v d 0 ≠ 3) (L : LST v d 2 t last) : False := by
  rcases h with ⟨h1, _⟩ | ⟨h1, h2, h3⟩
  · exact nl h1
  · rcases L with ⟨l1, _⟩ | ⟨l1, l2⟩
    · exact h2 l1
    · rcases h3 with ⟨h3, _⟩ | ⟨h3, h4, _⟩
      · exact h3 (cand_res I hd l2.1)
      · exact h4 _ l2.1
theorem LST.un (I : Iv v) (hd : 0 ≤ d ∧ d < v 117) (h : LST v d q n last) (g : LST v d q n last2) : last = last2 := by
  rcases h with ⟨h1, h2⟩ | ⟨h1, h2⟩ <;> rcases g with ⟨g1, g2⟩ | ⟨g1, g2⟩
  · exact h2.trans g2.symm
  · exact absurd h1 g1
  · exact absurd g1 h1
  · exact Bst.un I hd h2 g2
theorem LST.lo (h : LST v d q n last) : -1 ≤ last := by
  rcases h with ⟨_, h2⟩ | ⟨_, h2⟩
  · omega
  · have := h2.1.1; omega
theorem LST.tk (h : LST v d q n last) : 0 ≤ last → 0 ≤ TK v d q last := fun z => by
  rcases h with ⟨_, h2⟩ | ⟨_, h2⟩
  · omega
  · exact h2.1.2.1
theorem LST.nd (I : Iv v) (hd : 0 ≤ d ∧ d < v 117) (h : LST v d q n last) : 0 ≤ n ∧ n < v 0 := by
  rcases h with ⟨h1, _⟩ | ⟨_, h2⟩
  · rw [h1]; exact (I.d hd.1 hd.2).2.2.2.1
  · have P := TK_pos I hd h2.1.1 h2.1.2.1
    have := tn_b I P.2.1
    rw [h2.1.2.2] at this; exact this
theorem tmV_b (I : Iv v) (hd : 0 ≤ d ∧ d < v 117) (h : LST v d q n last) : 0 ≤ tmV v last ∧ tmV v last ≤ 40 := by
  have lm := lim_b I hd
  unfold tmV
  rcases h with ⟨_, h2⟩ | ⟨_, h2⟩
  · rw [if_pos (by omega)]; decide
  · have := enK_b I hd h2.1
    have := h2.1.1
    rw [if_neg (by omega)]; omega
/-- the class's reason -/
theorem dv_rs (C : Com T N bs h i) (I : IvS v iss sv n hs tn tx re er) (D : SD T N bs h v iss sv n hs tn tx re er) (hy : 1 ≤ y ∧ y ≤ 5) (e : h2 = wi h bs 8 y) : Com T N bs h2 i ∧ SD T N bs h2 v iss sv n hs tn tx y er ∧ IvS v iss sv n hs tn tx y er ∧ Fcl bs h h2 := by
  have F : Fp (fun b => b = bs) h h2 := by subst e; exact Fp.pw rfl
  have g : gr h2 = gr h := by subst e; rfl
  obtain ⟨s1, ⟨s2, s3⟩, s4, ⟨s5, s6⟩, s7, s8⟩ := D
  have e1 := F.1 (bs + 3250) (by omega)
  have e2 := F.1 (bs + 3251) (by omega)
  refine ⟨C.to F g, ⟨s1.fr (fun b q1 q2 => F.1 b (by omega)) I.1, ⟨by subst e; rw [rd_k (by decide) (by decide) (by decide)]; exact s2, fun z => (s3 z).fr (fun b q1 q2 => F.1 b (by omega)) (I.2.2.1 z)⟩, s4.fr I.2.2.2.2.1 (fun b q1 q2 => F.1 b (by omega)), ⟨by rw [e1.ai]; exact s5, fun i h1 h2 => by rw [e2.ai]; exact s6 i h1 h2⟩, ?_, by subst e; rw [rd_k (by decide) (by decide) (by decide)]; exact s8⟩, ⟨I.1, I.2.1, I.2.2.1, I.2.2.2.1, I.2.2.2.2.1, I.2.2.2.2.2.1, I.2.2.2.2.2.2.1, ⟨by omega, hy.2⟩, I.2.2.2.2.2.2.2.2⟩, Fcl.fp F fun x z => by omega⟩
  rw [if_neg (by omega)]; subst e; exact rd_eq rfl rfl (by omega)
/-- the reference's reason -/
theorem SR.rs (S : SR A h v iss sv n hs tn tx re er) (hy : In y) (e : h2 = wi h A 7 y) : SR A h2 v iss sv n hs tn tx y er := by
  have f : ∀ j, 0 ≤ j → j ≠ 7 → ai h2 A j = ai h A j := fun j j1 j2 => by subst e; exact rd_k j2 j1 (by decide)
  have g : ∀ b j, b ≠ A → ai h2 b j = ai h b j := fun b j hb => by subst e; exact rd_a hb
  obtain ⟨s1, ⟨s2, s3⟩, ⟨s4, s4'⟩, ⟨s5, s6⟩, s7, s8⟩ := S
  exact ⟨fun j a b => by rw [g _ _ (by omega)]; exact s1 j a b, ⟨by rw [f 9 (by decide) (by decide)]; exact s2, fun z j a b => by rw [g _ _ (by omega)]; exact s3 z j a b⟩, ⟨by rw [f 6 (by decide) (by decide)]; exact s4, fun i a b j c d => by rw [g _ _ (by omega)]; exact s4' i a b j c d⟩, ⟨by rw [f 11 (by decide) (by decide)]; exact s5, fun i a b => by rw [g _ _ (by omega)]; exact s6 i a b⟩, by subst e; exact rd_eq rfl rfl hy, by rw [f 8 (by decide) (by decide)]; exact s8⟩
theorem RAll_in : ∀ b k, RAll (bs + 3296) b k → bs + 3296 ≤ b ∧ b < bs + 3309 := fun b k z => by unfold RAll at z; omega
theorem FR.al (F : FR (RKw A) h h2) : FR (RAll A) h h2 := F.mo fun b k z => by unfold RKw RVw Scr Kw at z; unfold RAll; omega
theorem fin2 (k : Cont T N bs i h Q) (C7 : Com T N bs h7 (i + 1)) (I : IvS v iss sv n hs tn tx re er) (D7 : SD T N bs h7 v iss sv n hs tn tx re er) (F7 : Fcl bs h h7) (FF : FR (RAll (bs + 3296)) h7 h10) (R10 : SR (bs + 3296) h10 v iss sv n hs tn tx re er) {c b : Int} (e0 : ai h10 (bs + 3296) 0 = c) (hb : In b) (G7 : c = 0 → gl h7 (bs + 3309) 0 = (J b).toInt64) : ZI T N 156 [vr (some (bs + 3296))] h10 (fun t h3 => Q c b t h3) := by
  refine r_thrown (C7.rt.fr FF) ?_
  rw [e0]
  obtain ⟨S10, s10, g10⟩ := Sim.mk' C7 I D7 FF RAll_in R10
  exact k c b h10 S10 ((Scp.cl F7).tr s10) (by rw [← e0]; exact ai_in _ _ _) hb fun z => by rw [g10]; exact G7 z
/-- what was found is applied -/
theorem c_apply (C : Com T N bs h i) (I : IvS v iss sv n hs tn tx re er) (D : SD T N bs h v iss sv n hs tn tx re er) (hd : 0 ≤ d ∧ d < v 117) (nl : rc v d 0 ≠ 3) (L : LST v d 2 n2 last) (hK : 0 ≤ last → KT h (bs + 3237) v d 2 (orgV v d - v 448) (enK v last)) (f : FDh h (bs + 3237) v d (shK (orgV v d - v 448) last) n2 t e) (kk : ∀ h2, Com T N bs h2 i → SD T N bs h2 (putD v d (goE v d 2 last n2)) iss sv n hs tn tx re er → IvS (putD v d (goE v d 2 last n2)) iss sv n hs tn tx re er → Fcl bs h h2 → gr h2 = gr h → ai h2 (bs + 3237) 0 = orgV v d + t → KV h2) : CV T N 60 [vr (some (bs + 3237)), vr (some (bs + 1)), vr (some (dA (bs + 1) d))] h KV := by
  have b := I.1.b
  have hn := L.nd I.1 hd
  have wa : bs + 1 ≤ dA (bs + 1) d ∧ dA (bs + 1) d + 44 ≤ bs + 1 + 294 := by unfold dA; omega
  refine d_apply C.se D.1 (by omega) I.1 hd nl hn L.lo L.tk rfl hK f.1 f.2.2.2 fun h3 F3 g3 D3 => ?_
  have F3' : Fp (fun x => dA (bs + 1) d ≤ x ∧ x < dA (bs + 1) d + 44) h h3 := F3
  obtain ⟨C4, D4, I4, L4⟩ := dv_put C I D hd F3' ((D.1.o.d (c := d) (by omega)).2.to g3) D3 (goE_OK I.1 hd nl hn L.tk)
  exact kk h3 C4 D4 I4 L4 g3 (by rw [(F3.1 (bs + 3237) (by unfold Dg; omega)).ai]; exact f.2.1)
theorem goE_OKs (I : Iv v) (hd : 0 ≤ d ∧ d < v 117) (nl : rc v d 0 ≠ 3) (L : LST v d 2 n2 last) : drOK v (v 448) (goE v d 2 last n2) := goE_OK I hd nl (L.nd I hd) L.tk
theorem r_goB (R : RT T N A h) (V : Rv A h v) (I : Iv v) (S : SB A h v d) (G : RK A h v d 2 3936) (hd : 0 ≤ d ∧ d < v 117) (L : LST v d 2 n2 last) (kk : ∀ h2, RT T N A h2 → FR (fun b k => PB A b k ∨ Vw A b k) h h2 → Rv A h2 (putD v d (goE v d 2 last n2)) → ai h2 A 21 = orgV v d + tmV v last → KV h2) : ZI T N 210 [vr (some A), vi (J n2)] h (fun x h5 => CV T N 213 [vr (some A), vi (J d), vi (J x), vi (J n2)] h5 KV) := by
  have b := I.b
  have hn := L.nd I hd
  have go : ∀ x h5, FR (PB A) h h5 → (0 ≤ x → 0 ≤ TK v d 2 x) → -2 ≤ x → goE v d 2 x n2 = goE v d 2 last n2 → ai h5 A 21 = orgV v d + tmV v last → CV T N 213 [vr (some A), vi (J d), vi (J x), vi (J n2)] h5 KV := fun x h5 F5 ht hx he e21 => by
    have F5' := PB_pm F5
    refine r_goes (R.fr F5) (V.pm F5') I (S.pm F5') (G.pb F5) hd ht hx hn fun h6 R6 F6 V6 => ?_
    rw [he] at V6
    exact kk h6 R6 ((F5.mo fun _ _ z => Or.inl z).tr (F6.mo fun _ _ z => Or.inr z)) V6 (by rw [frA F6]; exact e21)
  refine r_best R V I S G hd (by omega) (fun z h5 F5 e1 e2 => ?_) (fun z1 z2 h5 F5 => ?_) (fun z1 k B h5 F5 e1 e2 => ?_)
  · have l1 : last = -1 := by
      rcases L with ⟨_, l2⟩ | ⟨l1, _⟩
      · exact l2
      · exact absurd z l1
    subst l1
    exact go (-2) h5 F5 (fun z => absurd z (by decide)) (by decide) goE_m2 (by rw [e1]; unfold tmV; rw [if_pos (by decide)]; omega)
  · exfalso
    rcases L with ⟨l1, _⟩ | ⟨_, l2⟩
    · exact z1 l1
    · exact z2 _ l2.1
  · have l1 : last = k := LST.un I hd L (Or.inr ⟨z1, B⟩)
    subst l1
    have := B.1.1
    exact go last h5 F5 (fun _ => B.1.2.1) (by omega) rfl (by rw [e1]; unfold tmV; rw [if_neg (by omega)])
end PLA
