/-! SEARCH: the class finds -/
section FND
variable {T N : Nat → Nat} {a w g : Nat} {h h0 h1 h2 h3 : PH} {v u : Int → Int} {d q e b i k k2 k3 l m n n2 t x y o p0 j x1 x2 x3 x4 f z : Int} {W : (Int → Int) × (Int → Int)} {p : Int × Int} {K : Int → PH → Prop} {KV : PH → Prop} {P : Int → Prop} {c r s : Nat} {NX : Int → PH → Prop}
theorem d_setOut (S : SE T N h g) (Wd : Wo T N h w v) (hy : w + 294 ≤ g) (I : Iv v) (hd : 0 ≤ d ∧ d < v 117) (kk : ∀ h2, Fp (fun b => b = g) h h2 → gr h2 = gr h → SO h2 g v d (orgV v d - v 448) → KV h2) : CV T N 61 [vr (some g), vr (some (dA w d)), vi (J (v 448))] h KV := by
  have bb := I.b
  have ob := org_b I hd
  have Dt := (Wd.o.d (c := d) (by omega)).2
  have Gd := Wd.d hd.1 hd.2
  have O := I.d hd.1 hd.2
  have gf := O.2.2.2.2.2.2.2.2.2.2.2.2.2.2.2.2.1
  obtain ⟨c0, c1, c2, c3, c4, c6, c12, c5⟩ := Gd.1
  have n1 : ¬ dA w d = g := by unfold dA; omega
  have o1 := O.1
  have o2 := O.2.1
  have o3 := O.2.2.1
  have o4 := O.2.2.2.1
  have o5 := O.2.2.2.2.2.1
  have tail : ∀ x, x = orgV v d - v 448 → ∀ h63, h63 = wi h g 13 x → ∀ h67, h67 = wi h63 g 14 (ai h63 (dA w d) 3) → ∀ h71, h71 = wi h67 g 15 (ai h67 (dA w d) 2) → ∀ h75, h75 = wi h71 g 16 (ai h71 (dA w d) 1) → (((ai h75 (dA w d) 0) = 0 → (∀ h_84, h_84 = wi h75 g 17 1 → KV h_84)) ∧ (¬ ((ai h75 (dA w d) 0) = 0) → (∀ h_80, h_80 = wi h75 g 17 0 → KV h_80))) := by
    intro x ex h63 e63 h67 e67 h71 e71 h75 e75
    have f63 : ∀ j, ai h63 (dA w d) j = ai h (dA w d) j := fun j => by subst e63; exact rd_a n1
    rw [f63, c3] at e67
    have f67 : ∀ j, ai h67 (dA w d) j = ai h (dA w d) j := fun j => by subst e67; rw [rd_a n1]; exact f63 j
    rw [f67, c2] at e71
    have f71 : ∀ j, ai h71 (dA w d) j = ai h (dA w d) j := fun j => by subst e71; rw [rd_a n1]; exact f67 j
    rw [f71, c1] at e75
    have f75 : ∀ j, ai h75 (dA w d) j = ai h (dA w d) j := fun j => by subst e75; rw [rd_a n1]; exact f71 j
    rw [f75, c0]
    have F75 : Fp (fun b => b = g) h h75 := by
      subst e75; subst e71; subst e67; subst e63
      exact (((Fp.pw (P := fun b => b = g) rfl).tr (Fp.pw (P := fun b => b = g) rfl)).tr (Fp.pw (P := fun b => b = g) rfl)).tr (Fp.pw (P := fun b => b = g) rfl)
    have g75 : gr h75 = gr h := by subst e75; subst e71; subst e67; subst e63; rfl
    have s13 : ai h75 g 13 = orgV v d - v 448 := by
      subst e75; subst e71; subst e67; subst e63
      rw [rd_k (by decide) (by decide) (by decide), rd_k (by decide) (by decide) (by decide), rd_k (by decide) (by decide) (by decide), rd_eq rfl rfl (by omega)]; exact ex
    have s14 : ai h75 g 14 = rc v d 3 := by
      subst e75; subst e71; subst e67
      rw [rd_k (by decide) (by decide) (by decide), rd_k (by decide) (by decide) (by decide), rd_eq rfl rfl (by omega)]
    have s15 : ai h75 g 15 = rc v d 2 := by
      subst e75; subst e71
      rw [rd_k (by decide) (by decide) (by decide), rd_eq rfl rfl (by omega)]
    have s16 : ai h75 g 16 = rc v d 1 := by
      subst e75
      rw [rd_eq rfl rfl (by omega)]
    have fin : ∀ y, In y → y = (if rc v d 0 = 0 then 1 else 0) → ∀ h9, h9 = wi h75 g 17 y → KV h9 := fun y iy ey h9 e9 => by
      refine kk h9 (by subst e9; exact F75.tr (Fp.pw (P := fun b => b = g) rfl)) (by subst e9; exact g75) ⟨?_, ?_, ?_, ?_, ?_⟩
      · subst e9; rw [rd_k (by decide) (by decide) (by decide)]; exact s13
      · subst e9; rw [rd_k (by decide) (by decide) (by decide)]; exact s14
      · subst e9; rw [rd_k (by decide) (by decide) (by decide)]; exact s15
      · subst e9; rw [rd_k (by decide) (by decide) (by decide)]; exact s16
      · subst e9; rw [rd_eq rfl rfl iy]; exact ey
    exact ⟨fun z => fin 1 (by decide) (by rw [if_pos z]), fun z => fin 0 (by decide) (by rw [if_neg z])⟩
  refine z61 Dt.t S.1 (by omega) ?_
  rw [c0]
  refine ⟨fun z => ?_, fun z => tail 0 (by unfold orgV; rw [if_neg z]; omega)⟩
  have g1 := gf z
  refine d_legAt Dt (n := 0) (by decide) (by omega) (fun c1 r er r1 r2 tr' => ⟨fun z => by (cases z), fun a' ea => ?_⟩) (fun c1 => absurd (by omega) c1)
  cases ea
  have Lr := Gd.2.2 0 (by decide) (by omega) r er
  refine ⟨tr', ?_⟩
  rw [Lr.2.2.2.2]
  exact tail _ (by unfold orgV; rw [if_pos z]; rfl)
/-- the class has found: its last leg, its goal, when, with what energy -/
def FDh (h : PH) (g : Nat) (v : Int → Int) (d last n t e : Int) : Prop := ai h g 3 = last ∧ ai h g 0 = orgV v d + t ∧ ai h g 1 = e ∧ ai h g 2 = n
theorem d_find (S : SE T N h g) (Wd : Wo T N h w v) (hy : w + 294 ≤ g) (I : Iv v) (hd : 0 ≤ d ∧ d < v 117) (hq : 0 ≤ q ∧ q ≤ 2) (hg : Gls x P) (k3 : rc v d 0 = 3 → K 0 h) (ks : rc v d 0 ≠ 3 → P (rc v d 3) → ∀ h4, Fp (Sg g) h h4 → gr h4 = gr h → SO h4 g v d (orgV v d - v 448) → FDh h4 g v d (-1) (rc v d 3) 0 0 → K 1 h4) (k1 : rc v d 0 ≠ 3 → ¬ P (rc v d 3) → ∀ n k, Fst v d q P n k → ∀ h4, Fp (Sg g) h h4 → gr h4 = gr h → SO h4 g v d (orgV v d - v 448) → KT h4 g v d q (orgV v d - v 448) (enK v k) → FDh h4 g v d (k + 96 * (orgV v d - v 448)) n (enK v k) (TK v d q k) → K 1 h4) (k0 : rc v d 0 ≠ 3 → ¬ P (rc v d 3) → (∀ n k, P n → ¬ Cand v d q n k) → ∀ h4, Fp (Sg g) h h4 → gr h4 = gr h → K 0 h4) : ZI T N 59 [vr (some g), vr (some w), vi (J d), vi (J x), vi (J q)] h K := by
  have bb := I.b
  have ob := org_b I hd
  have Dt := (Wd.o.d (c := d) (by omega)).2
  have c0 := (Wd.d hd.1 hd.2).1.1
  have eb := Wd.b
  have o4 := (I.d hd.1 hd.2).2.2.2.1
  refine z59 Wd.o.t S.1 (by omega) hg.1 (by omega) (d_dro Wd.o (by omega) (by omega) (fun c1 => ⟨fun z => by (cases z), fun a' ea => ?_⟩) (fun c1 => absurd (by omega) c1))
  cases ea
  refine ⟨Dt.t, ?_⟩
  rw [c0, eb.1]
  refine ⟨k3, fun n3 => d_setOut S Wd hy I hd fun h5 F5 g5 O5 => ?_⟩
  have S5 := S.to g5
  have F5' : Fp (Sg g) h h5 := F5.mo fun b z => by unfold Sg; omega
  have W5 : Wo T N h5 w v := Wd.fr (fun b q1 q2 => F5.1 b (by omega)) I
  rw [O5.2.1]
  refine d_holds (S := P (rc v d 3)) hg.1 (by omega) (by
    have := hg.2 (rc v d 3).toNat (by omega)
    rw [show (((rc v d 3).toNat : Nat) : Int) = rc v d 3 by omega] at this; exact this) (fun hp => ⟨(fun z => absurd z (by decide)), fun _ => ?_⟩) (fun hp => ⟨fun _ => ⟨g + 1, S5.2.1.2, S5.2.1.1.1, ?_⟩, (fun z => absurd rfl z)⟩)
  · rw [W5.b.1, O5.1, O5.2.1, show v 448 + (orgV v d - v 448) = orgV v d by omega]
    have Io : In (orgV v d) := by omega
    have I3 : In (rc v d 3) := by omega
    refine z62 S5.1 (by decide) Io (by decide) I3 ?_
    intro h6 e6 h7 e7 h8 e8 h9 e9
    refine ks n3 hp h9 (F5'.tr ?_) ?_ (O5.gg fun j hj => ?_) ⟨?_, ?_, ?_, ?_⟩
    · subst e9; subst e8; subst e7; subst e6
      have pw : ∀ (h : PH) (k x : Int), Fp (Sg g) h (wi h g k x) := fun h k x => Fp.pw (by unfold Sg; omega)
      exact (((pw _ _ _).tr (pw _ _ _)).tr (pw _ _ _)).tr (pw _ _ _)
    · subst e9; subst e8; subst e7; subst e6; exact g5
    · subst e9; subst e8; subst e7; subst e6
      rw [rd_k (by omega) (by omega) (by omega), rd_k (by omega) (by omega) (by omega), rd_k (by omega) (by omega) (by omega), rd_k (by omega) (by omega) (by omega)]
    · subst e9; subst e8; subst e7; subst e6
      rw [rd_k (by decide) (by decide) (by decide), rd_k (by decide) (by decide) (by decide), rd_k (by decide) (by decide) (by decide), rd_eq rfl rfl (by decide)]
    · subst e9; subst e8; subst e7
      rw [rd_k (by decide) (by decide) (by decide), rd_k (by decide) (by decide) (by decide), rd_eq rfl rfl Io]; omega
    · subst e9; subst e8
      rw [rd_k (by decide) (by decide) (by decide), rd_eq rfl rfl (by decide)]
    · subst e9
      exact rd_eq rfl rfl I3
  · refine d_measure W5 I S5.2.1.1 (Or.inr (by omega)) (f := resF v) resF_b (ai_in _ _ _) (resF_m I W5.p) (by decide) fun h6 F6 g6 R6 => ?_
    have S6 := S5.to g6
    have F6' : Fp (Sg g) h h6 := F5'.tr (F6.mo fun b z => by unfold Sg; omega)
    have O6 := O5.fr F6 (by omega)
    have R6 : Ar h6 (g + 2) 10 (resV v) := R6
    refine ⟨g + 3, S6.2.2.1.2, S6.2.2.1.1.1, d_open S6.2.2.1.1 fun h7 Q7 => ?_⟩
    have fin : ∀ h8 (Q : Int → Int → Prop), QF (g + 3) h6 h8 Q → (∀ e o, Q e o ↔ cls v d q e o) → ZI T N 63 [vr (some g), vr (some w), vi (J x)] h8 (fun x_40 h_39 => ((x_40 = 0 ∨ x_40 = 1) ∧ K x_40 h_39)) := by
      intro h8 Q Q8 eQ
      have g8 : gr h8 = gr h6 := Q8.2.1
      have S8 := S6.to g8
      have F68 : Fp (fun b => b = g + 3 + 1) h6 h8 := Q8.1
      have F8 : Fp (Sg g) h h8 := F6'.tr (F68.mo fun b z => by unfold Sg; omega)
      have W8 : Wo T N h8 w v := Wd.fr (fun b q1 q2 => F8.1 b (by unfold Sg; omega)) I
      have gg : gr h8 = gr h := g8.trans (g6.trans g5)
      exact d_searchFor S8 W8 hy I hd rfl hg (O6.fr F68 (by omega)) (Q8.2.2.cg fun e o _ _ _ _ => eQ e o) (R6.fr F68 (by omega)) (fun n k fk h9 F9 g9 O9 G9 l3 l0 l1 l2 => ⟨Or.inr rfl, k1 n3 hp n k fk h9 (F8.tr F9) (g9.trans gg) O9 G9 ⟨l3, l0, l1, l2⟩⟩) (fun nn h9 F9 g9 => ⟨Or.inl rfl, k0 n3 hp nn h9 (F8.tr F9) (g9.trans gg)⟩)
    have W7 : Wo T N h7 w v := Wd.fr (fun b q1 q2 => (F6'.tr (Q7.1.mo (Q := Sg g) fun b z => by unfold Sg; omega)).1 b (by unfold Sg; omega)) I
    have W6 : Wo T N h6 w v := Wd.fr (fun b q1 q2 => F6'.1 b (by unfold Sg; omega)) I
    have S7 := S6.to Q7.2.1
    refine ⟨fun q1 => ⟨fun _ => fin h7 _ Q7 fun e o => ?_, fun z => absurd (by omega) z⟩, fun q1 => ⟨g + 3, S7.2.2.1.2, S7.2.2.1.1.1, ?_⟩⟩
    · unfold cls
      exact ⟨fun z => z.elim, fun z => by rcases z with z | z <;> omega⟩
    · refine z3 (d_cf (P0 := fun _ _ => False) W6 I S6.2.2.1.1 (Or.inr (by omega)) (fun h8 Q8 => ?_) (v 76).toNat 0 h7 (by omega) (Q7.cg fun e o _ _ _ _ => ⟨fun z => z.elim, fun z => by rcases z with z | ⟨f, z1, z2, _⟩; exact z; omega⟩))
      have S8 := S6.to Q8.2.1
      refine ⟨fun q2 => fin h8 _ Q8 fun e o => ?_, fun q2 => ⟨g + 3, S8.2.2.1.2, S8.2.2.1.1.1, ?_⟩⟩
      · unfold cls
        exact ⟨fun z => by rcases z with z | z; exact z.elim; exact Or.inl ⟨by omega, z⟩, fun z => by rcases z with z | z; exact Or.inr z.2; omega⟩
      · refine z4 (by omega) (d_co (P0 := fun e o => False ∨ FSn v (v 76) e o) W6 I S6.2.2.1.1 (by omega) (by omega) (fun h9 Q9 => fin h9 _ Q9 fun e o => ?_) (v 117).toNat 0 h8 (by omega) (Q8.cg fun e o _ _ _ _ => ⟨Or.inl, fun z => by rcases z with z | ⟨f, z1, z2, _⟩; exact z; omega⟩))
        unfold cls
        exact ⟨fun z => by rcases z with (z | z) | z; exact z.elim; exact Or.inl ⟨by omega, z⟩; exact Or.inr ⟨by omega, z⟩, fun z => by rcases z with z | z; exact Or.inl (Or.inr z.2); exact Or.inr z.2⟩
end FND
