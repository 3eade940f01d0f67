/-! SEARCH: the reference's first pad, its way -/
def Pad (v : Int → Int) (n : Int) : Prop := 0 ≤ n ∧ n < v 0 ∧ v (1 + n) = 1
def Reach (v : Int → Int) (d q n t : Int) : Prop := (n = rc v d 3 ∧ t = 0) ∨ (n ≠ rc v d 3 ∧ ∃ k, Bst v d q n k ∧ t = enK v k)
def FPad (v : Int → Int) (d q n : Int) : Prop := Pad v n ∧ ∃ t, Reach v d q n t ∧ ∀ n2, Pad v n2 → ∀ t2, Reach v d q n2 t2 → t < t2 ∨ (t = t2 ∧ n ≤ n2)
def NPad (v : Int → Int) (d q : Int) : Prop := ∀ n t, Pad v n → ¬ Reach v d q n t
def PM (A b k : Nat) : Prop := PLk A b k ∨ PB A b k
def lgK (v : Int → Int) (d k : Int) : Int := lgA (k % 96) (orgV v d + k / 96)
/-- a drone whose legs are replaced from behind, the i last ones -/
def goS (v : Int → Int) (d : Int) (f : Int → Int) (last m i : Int) : Int → Int := fun j => if j = 5 then aheadE (rc v d) + m else if 13 + aheadE (rc v d) + (m - i) ≤ j ∧ j < 13 + aheadE (rc v d) + m then lgK v d (chN f last (13 + aheadE (rc v d) + m - 1 - j).toNat) else rc v d j
noncomputable def goM (v : Int → Int) (d q last : Int) : Nat := chL (BF v d q) 40 last
noncomputable def goF (v : Int → Int) (d q last node : Int) : Int → Int := up (goS v d (BF v d q) last (goM v d q last) (goM v d q last)) 4 node
noncomputable def goE (v : Int → Int) (d q last node : Int) : Int → Int := if goF v d q last node 5 = 0 ∧ goF v d q last node 0 = 1 ∧ v (1 + node) = 1 then up (up (goF v d q last node) 0 0) 2 0 else goF v d q last node
section RGO
variable {T N : Nat → Nat} {A : Nat} {h h0 h1 h2 h3 : PH} {v u : Int → Int} {d q e k l m n n2 t t2 x y a b o w j last x1 x2 x3 x4 x9 : Int} {W : (Int → Int) × (Int → Int)} {p : Int × Int} {K : Int → PH → Prop} {KV : PH → Prop} {s c : Nat}
theorem Bst.ex (h : Bst v d q n k) : Cand v d q n k := h.1
theorem Reach.un (I : Iv v) (hd : 0 ≤ d ∧ d < v 117) (h : Reach v d q n t) (g : Reach v d q n t2) : t = t2 := by
  rcases h with ⟨h1, h2⟩ | ⟨h1, k, h2, h3⟩ <;> rcases g with ⟨g1, g2⟩ | ⟨g1, k2, g2, g3⟩
  · rw [h2, g2]
  · exact absurd h1 g1
  · exact absurd g1 h1
  · rw [h3, g3, Bst.un I hd h2 g2]
theorem FPad.un (h : FPad v d q n) (g : FPad v d q n2) : n = n2 := by
  obtain ⟨h1, t, h2, h3⟩ := h
  obtain ⟨g1, t2, g2, g3⟩ := g
  have a := h3 n2 g1 t2 g2
  have b := g3 n h1 t h2
  omega
theorem PM_scr : ∀ b k, PM A b k → Scr A b k := fun b k z => by unfold PM PLk P9 PB at z; unfold Scr; omega
theorem PB_pm (F : FR (PB A) h h2) : FR (PM A) h h2 := F.mo fun _ _ z => Or.inr z
theorem PL_pm (F : FR (PLk A) h h2) : FR (PM A) h h2 := F.mo fun _ _ z => Or.inl z
theorem Rv.pm (V : Rv A h v) (F : FR (PM A) h h2) : Rv A h2 v := V.fr (F.mo PM_scr)
theorem SB.pm (S : SB A h v d) (F : FR (PM A) h h2) : SB A h2 v d := ⟨by rw [F.ai (by unfold PM PLk P9 PB; omega)]; exact S.1, by rw [F.ai (by unfold PM PLk P9 PB; omega)]; exact S.2.1, by rw [F.ai (by unfold PM PLk P9 PB; omega)]; exact S.2.2⟩
theorem RK.pb (G : RK A h v d q m) (F : FR (PB A) h h2) : RK A h2 v d q m := fun k a1 a2 => by
  rw [F.ai (by unfold PB; omega), F.ai (by unfold PB; omega)]; exact G k a1 a2
theorem r_mayGo (R : RT T N A h) (V : Rv A h v) (I : Iv v) (S : SB A h v d) (hd : 0 ≤ d ∧ d < v 117) (hn : In n) (h3 : x3 = if 1 ≤ q then 1 else 0) (h4 : x4 = if 2 ≤ q then 1 else 0) (k2 : n = rc v d 3 → ∀ h2, FR (PM A) h h2 → RK A h2 v d q 3936 → ai h2 A 21 = orgV v d → ai h2 A 22 = 0 → K 1 h2) (k1 : n ≠ rc v d 3 → (∀ k, ¬ Cand v d q n k) → ∀ h2, FR (PM A) h h2 → K 0 h2) (k0 : n ≠ rc v d 3 → ∀ k, Bst v d q n k → ∀ h2, FR (PM A) h h2 → RK A h2 v d q 3936 → ai h2 A 21 = orgV v d + enK v k → ai h2 A 22 = TK v d q k → K 1 h2) : ZI T N 212 [vr (some A), vi (J d), vi (J n), vi (J x3), vi (J x4)] h K := by
  have b := I.b
  have I3 : In x3 := by rw [h3]; split <;> decide
  have I4 : In x4 := by rw [h4]; split <;> decide
  refine z212 R.t (by omega) hn I3 I4 (r_looks R V I S hd h3 h4 fun h5 R5 F5 V5 S5 K5 => r_best R5 V5 I S5 K5 hd hn (fun z h6 F6 e1 e2 => ⟨(fun z => absurd z (by decide)), fun _ => k2 z h6 ((PL_pm F5).tr (PB_pm F6)) (K5.pb F6) e1 e2⟩) (fun z1 z2 h6 F6 => ⟨fun _ => k1 z1 z2 h6 ((PL_pm F5).tr (PB_pm F6)), (fun z => absurd rfl z)⟩) (fun z1 k B h6 F6 e1 e2 => ⟨fun z => ?_, fun _ => k0 z1 k B h6 ((PL_pm F5).tr (PB_pm F6)) (K5.pb F6) e1 e2⟩))
  have := B.1.1
  omega
/-- first pad -/
def FInv (A : Nat) (h : PH) (v : Int → Int) (d q i x w : Int) : Prop := (x = -1 ∧ ∀ n t, n < i → Pad v n → ¬ Reach v d q n t) ∨ (Pad v x ∧ x < i ∧ ∃ t, w = orgV v d + t ∧ Reach v d q x t ∧ ∀ n2, n2 < i → Pad v n2 → ∀ t2, Reach v d q n2 t2 → t < t2 ∨ (t = t2 ∧ x ≤ n2))
theorem FInv.no (G : FInv A h v d q m x w) (z : ∀ t, Pad v m → Reach v d q m t → 0 ≤ x ∧ w ≤ orgV v d + t) : FInv A h v d q (m + 1) x w := by
  rcases G with ⟨g1, g2⟩ | ⟨g1, g2, t, g3, g4, g5⟩
  · refine Or.inl ⟨g1, fun n t h1 h2 h3 => ?_⟩
    by_cases c : n = m
    · rw [c] at h2 h3
      have := z t h2 h3
      omega
    · exact g2 n t (by omega) h2 h3
  · refine Or.inr ⟨g1, by omega, t, g3, g4, fun n2 h1 h2 t2 h3 => ?_⟩
    by_cases c : n2 = m
    · rw [c] at h2 h3
      have := z t2 h2 h3
      omega
    · exact g5 n2 (by omega) h2 t2 h3
theorem FInv.up (G : FInv A h v d q m x w) (I : Iv v) (hd : 0 ≤ d ∧ d < v 117) (hp : Pad v m) (hr : Reach v d q m t) (z : x < 0 ∨ orgV v d + t < w) : FInv A h v d q (m + 1) m (orgV v d + t) := by
  refine Or.inr ⟨hp, by omega, t, rfl, hr, fun n2 h1 h2 t2 h3 => ?_⟩
  by_cases c : n2 = m
  · rw [c] at h3
    rw [Reach.un I hd hr h3]
    exact Or.inr ⟨rfl, by omega⟩
  · rcases G with ⟨g1, g2⟩ | ⟨g1, g2, t3, g3, g4, g5⟩
    · exact absurd h3 (g2 n2 t2 (by omega) h2)
    · rcases z with z | z
      · have := g1.1; omega
      · have := g5 n2 (by omega) h2 t2 h3
        omega
theorem Cand_none (I : Iv v) (hd : 0 ≤ d ∧ d < v 117) (z : ∀ k, ¬ Cand v d q n k) (hn : n ≠ rc v d 3) (t : Int) : ¬ Reach v d q n t := by
  rintro (⟨h, _⟩ | ⟨_, k, h, _⟩)
  · exact hn h
  · exact z k h.1
theorem r_firstL (R : RT T N A h) (V : Rv A h v) (I : Iv v) (S : SB A h v d) (G : RK A h v d q 3936) (hd : 0 ≤ d ∧ d < v 117) (k1 : NPad v d q → ∀ h2, FR (PB A) h h2 → K (-1) h2) (k0 : ∀ n, FPad v d q n → ∀ h2, FR (PB A) h h2 → K n h2) :
    ∀ (m i : Nat) (x w : Int) (h3 : PH), (i : Int) + m = v 0 → FR (PB A) h h3 → FInv A h3 v d q i x w → In w → ZW T N 222 6 [some (vr (some A)), some (vi (J x)), some (vi (J w)), some (vi (J (i : Int)))] [] h3 K := by
  have b := I.b
  have ob := org_b I hd
  have lm := lim_b I hd
  intro m
  induction m with
  | zero =>
    intro i x w h3 hi F B Iw
    have n1 := R.a1.2.1
    have R3 := R.fr F
    have e0 : ai h3 (A + 1) 0 = v 0 := by rw [F.ai (by unfold PB; omega)]; exact V 0 (by omega) (by omega)
    have xb : -1 ≤ x ∧ x < 10 := by
      rcases B with ⟨g1, g2⟩ | ⟨g1, g2, g3⟩
      · omega
      · have := g1.1; omega
    refine z222_6 R3.t (by omega) Iw (by omega) ⟨A + 1, R3.a1.2.2, R3.a1.1, by omega, fun z => by omega, fun _ => ?_⟩
    rcases B with ⟨g1, g2⟩ | ⟨g1, g2, t, g3, g4, g5⟩
    · rw [g1]
      exact k1 (fun n t hp => g2 n t (by have := hp.2.1; omega) hp) h3 F
    · exact k0 x ⟨g1, t, g4, fun n2 hp t2 hr => g5 n2 (by have := hp.2.1; omega) hp t2 hr⟩ h3 F
  | succ m ih =>
    intro i x w h3 hi F B Iw
    have n1 := R.a1.2.1
    have R3 := R.fr F
    have F' := PB_pm F
    have V3 := V.pm F'
    have S3 := S.pm F'
    have K3 := G.pb F
    have e0 : ai h3 (A + 1) 0 = v 0 := V3 0 (by omega) (by omega)
    have xb : -1 ≤ x ∧ x < 10 := by
      rcases B with ⟨g1, g2⟩ | ⟨g1, g2, g3⟩
      · omega
      · have := g1.1; omega
    have nxt : ∀ x w h4, FR (PB A) h h4 → FInv A h4 v d q ((i : Int) + 1) x w → In w → ZW T N 222 6 [some (vr (some A)), some (vi (J x)), some (vi (J w)), some (vi (J ((i : Int) + 1)))] [] h4 K := fun x w h4 F4 B4 Iw4 => by
      have := ih (i + 1) x w h4 (by omega) F4 (by rw [show ((i + 1 : Nat) : Int) = (i : Int) + 1 by omega]; exact B4) Iw4
      rw [show ((i + 1 : Nat) : Int) = (i : Int) + 1 by omega] at this; exact this
    have pb := I.p (n := (i : Int)) (by omega) (by omega)
    refine z222_6 R3.t (by omega) Iw (by omega) ⟨A + 1, R3.a1.2.2, R3.a1.1, by omega, fun _ => ⟨A + 1, R3.a1.2.2, R3.a1.1, by omega, ?_⟩, fun z => absurd (by omega) z⟩
    rw [V3 _ (by omega) (by omega)]
    refine ⟨fun c => nxt x w h3 F (B.no fun t hp => by have := hp.2.2; omega) Iw, fun c => ?_⟩
    have hp : Pad v i := ⟨by omega, by omega, by omega⟩
    have go : ∀ t h4, FR (PB A) h h4 → ai h4 A 21 = orgV v d + t → (0 ≤ t ∧ t ≤ 40) → Reach v d q i t → ((x < 0 → ZW T N 222 6 [some (vr (some A)), some (vi (J (i : Int))), some (vi (J (ai h4 A 21))), some (vi (J ((i : Int) + 1)))] [] h4 K) ∧ (¬ x < 0 → ((ai h4 A 21 < w → ZW T N 222 6 [some (vr (some A)), some (vi (J (i : Int))), some (vi (J (ai h4 A 21))), some (vi (J ((i : Int) + 1)))] [] h4 K) ∧ (¬ ai h4 A 21 < w → ZW T N 222 6 [some (vr (some A)), some (vi (J x)), some (vi (J w)), some (vi (J ((i : Int) + 1)))] [] h4 K)))) := by
      intro t h4 F4 e21 tb hr
      rw [e21]
      have B4 : FInv A h4 v d q i x w := B
      refine ⟨fun z => nxt _ _ h4 F4 (B4.up I hd hp hr (Or.inl z)) (by omega), fun z => ⟨fun z2 => nxt _ _ h4 F4 (B4.up I hd hp hr (Or.inr z2)) (by omega), fun z2 => nxt x w h4 F4 (B4.no fun t2 _ hr2 => ?_) Iw⟩⟩
      rw [← Reach.un I hd hr hr2]
      omega
    refine r_best R3 V3 I S3 K3 hd (by omega) (fun z h4 F4 e1 e2 => ⟨(fun z => absurd z (by decide)), fun _ => go 0 h4 (F.tr F4) (by rw [e1, Int.add_zero]) (by decide) (Or.inl ⟨z, rfl⟩)⟩) (fun z1 z2 h4 F4 => ⟨fun _ => nxt x w h4 (F.tr F4) (B.no fun t _ hr => absurd hr (Cand_none I hd z2 z1 t)) Iw, (fun z => absurd rfl z)⟩) (fun z1 k Bk h4 F4 e1 e2 => ⟨fun z => ?_, fun _ => go (enK v k) h4 (F.tr F4) e1 ?_ (Or.inr ⟨z1, k, Bk, rfl⟩)⟩)
    · have := Bk.1.1; omega
    · have P := TK_pos I hd Bk.1.1 Bk.1.2.1
      have := ln_b I P.2.1
      have P3 := P.2.2.1
      have k0 := Bk.1.1
      unfold enK at P3 ⊢
      omega
theorem r_firstPad (R : RT T N A h) (V : Rv A h v) (I : Iv v) (S : SB A h v d) (G : RK A h v d q 3936) (hd : 0 ≤ d ∧ d < v 117) (k1 : NPad v d q → ∀ h2, FR (PB A) h h2 → K (-1) h2) (k0 : ∀ n, FPad v d q n → ∀ h2, FR (PB A) h h2 → K n h2) : ZI T N 222 [vr (some A)] h K := by
  have b := I.b
  exact z222 (r_firstL R V I S G hd k1 k0 (v 0).toNat 0 (-1) 0 h (by omega) FR.rf (Or.inl ⟨rfl, fun n t h1 h2 => by have := h2.1; omega⟩) (by decide))
end RGO
