/-! SEARCH: the reference's legs, its sums, its tries -/
def SB (A : Nat) (h : PH) (v : Int → Int) (d : Int) : Prop := ai h A 18 = orgV v d ∧ ai h A 19 = rc v d 2 ∧ ai h A 20 = rc v d 3
def RW (A : Nat) (h : PH) (o : Int) (W : (Int → Int) × (Int → Int)) : Prop := ∀ a, 0 ≤ a → a < 30 → ai h (A + 12) a = W.1 a ∧ (0 ≤ W.1 a → ai h (A + 11) a = W.2 a - o)
def RK (A : Nat) (h : PH) (v : Int → Int) (d q m : Int) : Prop := ∀ k, 0 ≤ k → k < 3936 → ai h (A + 9) k = (if k < m then TK v d q k else -1) ∧ (k < m → 0 ≤ TK v d q k → ai h (A + 10) k = BF v d q k)
section RLG
variable {T N : Nat → Nat} {A : Nat} {h h1 h2 h3 : PH} {v u : Int → Int} {d q e k l m n s t x y a b o c w j x1 x2 x3 x4 : Int} {W : (Int → Int) × (Int → Int)} {p : Int × Int} {K : Int → PH → Prop} {KV : PH → Prop}
theorem lgA_c (he : 0 ≤ e ∧ e < 96) (ht : 0 ≤ t) : lgA e t % 16 = e / 6 := by
  unfold lgA
  have h1 : 0 ≤ e / 6 ∧ e / 6 < 16 := by omega
  have h2 : 0 ≤ e / 3 % 2 ∧ e / 3 % 2 < 2 := by omega
  have h3 : 0 ≤ e % 3 ∧ e % 3 < 3 := by omega
  generalize e / 6 = a at *
  generalize e / 3 % 2 = b at *
  generalize e % 3 = c at *
  omega
theorem lgA_w (he : 0 ≤ e ∧ e < 96) (ht : 0 ≤ t) : lgA e t / 16 % 2 = e / 3 % 2 := by
  unfold lgA
  have h1 : 0 ≤ e / 6 ∧ e / 6 < 16 := by omega
  have h2 : 0 ≤ e / 3 % 2 ∧ e / 3 % 2 < 2 := by omega
  have h3 : 0 ≤ e % 3 ∧ e % 3 < 3 := by omega
  generalize e / 6 = a at *
  generalize e / 3 % 2 = b at *
  generalize e % 3 = c at *
  omega
theorem lgA_l (he : 0 ≤ e ∧ e < 96) (ht : 0 ≤ t) : lgA e t / 32 % 4 = e % 3 := by
  unfold lgA
  have h1 : 0 ≤ e / 6 ∧ e / 6 < 16 := by omega
  have h2 : 0 ≤ e / 3 % 2 ∧ e / 3 % 2 < 2 := by omega
  have h3 : 0 ≤ e % 3 ∧ e % 3 < 3 := by omega
  generalize e / 6 = a at *
  generalize e / 3 % 2 = b at *
  generalize e % 3 = c at *
  omega
theorem lgA_s (he : 0 ≤ e ∧ e < 96) (ht : 0 ≤ t) : lgA e t / 128 = t := by
  unfold lgA
  have h1 : 0 ≤ e / 6 ∧ e / 6 < 16 := by omega
  have h2 : 0 ≤ e / 3 % 2 ∧ e / 3 % 2 < 2 := by omega
  have h3 : 0 ≤ e % 3 ∧ e % 3 < 3 := by omega
  generalize e / 6 = a at *
  generalize e / 3 % 2 = b at *
  generalize e % 3 = c at *
  omega
theorem lgA_ok (I : Iv v) (he : 0 ≤ e ∧ e < 6 * v 11) (ht : 0 ≤ t ∧ t ≤ 10100) : legOK v (lgA e t) := by
  have b := I.b
  unfold legOK
  rw [lgA_c (by omega) ht.1, lgA_l (by omega) ht.1, lgA_s (by omega) ht.1]
  exact ⟨by unfold lgA; omega, by omega, by omega, ht.2⟩
theorem lgA_e (he : 0 ≤ e ∧ e < 96) (ht : 0 ≤ t) : endV v (lgA e t) = t + lnV v e := by
  unfold endV lnV; rw [lgA_c he ht, lgA_s he ht]
theorem lgA_b (he : 0 ≤ e ∧ e < 96) (ht : 0 ≤ t ∧ t ≤ 10200) : 0 ≤ lgA e t ∧ lgA e t ≤ 1400000 := by unfold lgA; omega
theorem r_legAt (R : RT T N A h) (hO : ai h A 18 = o) (hk : 0 ≤ x ∧ x < 3936) (ho : 0 ≤ o ∧ o ≤ 10100) (k : K (lgA (x % 96) (o + x / 96)) h) : ZI T N 205 [vr (some A), vi (J x)] h K := by
  refine z205 R.t (by omega) ⟨by omega, by omega, by omega, ?_⟩
  rw [hO]
  exact r_asLeg (by omega) (by omega) (by omega) (by omega) (by omega) k
theorem r_sepI (R : RT T N A h) (V : Rv A h v) (I : Iv v) (hd : In d) (Ly : legOK v y) (ho : 0 ≤ o ∧ o < v 117) (hne : o ≠ d) (k0 : ¬ sepV v d y → K 0 h) (kn : (∀ i, 0 ≤ i → i < rc v o 5 → (y % 16 = rc v o (13 + i) % 16 ∧ y / 32 % 4 = rc v o (13 + i) / 32 % 4) → apV v y (rc v o (13 + i)) = 1) → ZW T N 204 2 [some (vr (some A)), some (vi (J d)), some (vi (J y)), some (vi (J (o + 1))), none] [] h K) : ∀ (m i : Nat), (i : Int) + m = rc v o 5 → (∀ i2, 0 ≤ i2 → i2 < (i : Int) → (y % 16 = rc v o (13 + i2) % 16 ∧ y / 32 % 4 = rc v o (13 + i2) / 32 % 4) → apV v y (rc v o (13 + i2)) = 1) → ZW T N 204 16 [some (vr (some A)), some (vi (J d)), some (vi (J y)), some (vi (J o)), some (vi (J (i : Int)))] [] h K := by
  have b := I.b
  have h5 := rc_5 I ho
  have ly := Ly
  unfold legOK at ly
  intro m
  induction m with
  | zero =>
    intro i hi g
    refine z204_16 R.t hd (by omega) (by omega) (by omega) ⟨fun z => absurd z hne, fun _ => r_of R (by omega) (by omega) ?_⟩
    rw [V _ (by omega) (by omega)]
    exact ⟨fun z => absurd (show (i : Int) < rc v o 5 from z) (by omega), fun _ => kn fun i2 a1 a2 => g i2 a1 (by omega)⟩
  | succ m ih =>
    intro i hi g
    have Lx := rc_leg I ho (j := (i : Int)) (by omega)
    have lx := Lx
    unfold legOK at lx
    have nx : ((y % 16 = rc v o (13 + i) % 16 ∧ y / 32 % 4 = rc v o (13 + i) / 32 % 4) → apV v y (rc v o (13 + i)) = 1) → ZW T N 204 16 [some (vr (some A)), some (vi (J d)), some (vi (J y)), some (vi (J o)), some (vi (J ((i : Int) + 1)))] [] h K := fun z => by
      have := ih (i + 1) (by omega) fun i2 a1 a2 => by
        by_cases c : i2 = i
        · rw [c]; exact z
        · exact g i2 a1 (by omega)
      rw [show ((i + 1 : Nat) : Int) = (i : Int) + 1 by omega] at this; exact this
    refine z204_16 R.t hd (by omega) (by omega) (by omega) ⟨fun z => absurd z hne, fun _ => r_of R (by omega) (by omega) ?_⟩
    rw [V _ (by omega) (by omega)]
    refine ⟨fun _ => r_leg R (by omega) (by omega) ?_, fun z => absurd (show (i : Int) < rc v o 5 by omega) z⟩
    have ev : ai h (A + 1) (118 + 55 * o + (13 + (i : Int))) = rc v o (13 + i) := V _ (by omega) (by omega)
    rw [ev]
    refine z202 (by omega) (by omega) (r_cOf (by omega) (r_cOf (by omega) ⟨fun c1 => r_lOf (by omega) (r_lOf (by omega) ⟨fun c2 => ⟨(fun z => absurd z (by decide)), fun _ => r_leg R (by omega) (by omega) ?_⟩, fun c2 => ⟨fun _ => nx fun z => absurd z.2 c2, (fun z => absurd rfl z)⟩⟩), fun c1 => ⟨fun _ => nx fun z => absurd z.1 c1, (fun z => absurd rfl z)⟩⟩))
    rw [ev]
    refine r_apart R V I Ly Lx ⟨fun c3 => k0 fun S => ?_, fun c3 => nx fun _ => ?_⟩
    · have := S o ho.1 ho.2 hne i (by omega) (by omega) ⟨c1, c2⟩
      omega
    · unfold apV at c3 ⊢
      split <;> split at c3 <;> first | omega | (split <;> first | rfl | (exfalso; omega)) | skip
theorem r_sepO (R : RT T N A h) (V : Rv A h v) (I : Iv v) (hd : In d) (Ly : legOK v y) (k0 : ¬ sepV v d y → K 0 h) (k1 : sepV v d y → K 1 h) : ∀ (m o : Nat), (o : Int) + m = v 117 → (∀ o2, 0 ≤ o2 → o2 < (o : Int) → o2 ≠ d → ∀ i, 0 ≤ i → i < rc v o2 5 → (y % 16 = rc v o2 (13 + i) % 16 ∧ y / 32 % 4 = rc v o2 (13 + i) / 32 % 4) → apV v y (rc v o2 (13 + i)) = 1) → ZW T N 204 2 [some (vr (some A)), some (vi (J d)), some (vi (J y)), some (vi (J (o : Int))), none] [] h K := by
  have b := I.b
  have n1 := R.a1.2.1
  have ly := Ly
  unfold legOK at ly
  have e117 := V 117 (by omega) (by omega)
  intro m
  induction m with
  | zero =>
    intro o ho g
    refine z204_2 R.t hd (by omega) (by omega) ⟨A + 1, R.a1.2.2, R.a1.1, by omega, fun z => by omega, fun _ => k1 fun o2 a1 a2 => g o2 a1 (by omega)⟩
  | succ m ih =>
    intro o ho g
    have h5 := rc_5 I (f := (o : Int)) (by omega)
    have nx : ((o : Int) ≠ d → ∀ i, 0 ≤ i → i < rc v o 5 → (y % 16 = rc v o (13 + i) % 16 ∧ y / 32 % 4 = rc v o (13 + i) / 32 % 4) → apV v y (rc v o (13 + i)) = 1) → ZW T N 204 2 [some (vr (some A)), some (vi (J d)), some (vi (J y)), some (vi (J ((o : Int) + 1))), none] [] h K := fun z => by
      have := ih (o + 1) (by omega) fun o2 a1 a2 a3 => by
        by_cases c : o2 = o
        · rw [c]; rw [c] at a3; exact z a3
        · exact g o2 a1 (by omega) a3
      rw [show ((o + 1 : Nat) : Int) = (o : Int) + 1 by omega] at this; exact this
    refine z204_2 R.t hd (by omega) (by omega) ⟨A + 1, R.a1.2.2, R.a1.1, by omega, fun _ => ?_, fun z => absurd (by omega) z⟩
    by_cases c : (o : Int) = d
    · refine z204_16 R.t hd (by omega) (by omega) (by omega) ⟨fun _ => nx fun z => absurd c z, fun z => absurd c z⟩
    · exact r_sepI (o := (o : Int)) R V I hd Ly (by omega) c k0 (fun z => nx fun _ => z) (rc v o 5).toNat 0 (by omega) fun i2 a1 a2 => by omega
theorem r_isSep (R : RT T N A h) (V : Rv A h v) (I : Iv v) (hd : In d) (Ly : legOK v y) (k0 : ¬ sepV v d y → K 0 h) (k1 : sepV v d y → K 1 h) : ZI T N 204 [vr (some A), vi (J d), vi (J y)] h K := by
  have b := I.b
  have ly := Ly
  unfold legOK at ly
  exact z204 hd (by omega) (r_sepO R V I hd Ly k0 k1 (v 117).toNat 0 (by omega) fun o2 a1 a2 => by omega)
/-- begins -/
theorem r_begins (R : RT T N A h) (V : Rv A h v) (I : Iv v) (hd : 0 ≤ d ∧ d < v 117) (k : ∀ h2, RT T N A h2 → FR (fun b k => b = A ∧ (k = 18 ∨ k = 19 ∨ k = 20)) h h2 → SB A h2 v d → (rc v d 0 = 3 → K 0 h2) ∧ (¬ rc v d 0 = 3 → K 1 h2)) : ZI T N 206 [vr (some A), vi (J d)] h K := by
  have b := I.b
  have O := I.d hd.1 hd.2
  have n1 := R.a1.2.1
  have h5 := O.2.2.2.2.2.1
  have g0 := O.2.2.2.2.2.2.2.2.2.2.2.2.2.2.1
  have g2 := O.2.2.2.2.2.2.2.2.2.2.2.2.2.2.2.2.1
  have gl := O.2.2.2.2.2.2.2.2.2.2.2.2.2.2.2.2.2
  have v0 : ai h (A + 1) (118 + 55 * d + 0) = rc v d 0 := V _ (by omega) (by omega)
  have v2 : ai h (A + 1) (118 + 55 * d + 2) = rc v d 2 := V _ (by omega) (by omega)
  have v3 : ai h (A + 1) (118 + 55 * d + 3) = rc v d 3 := V _ (by omega) (by omega)
  have v13 : ai h (A + 1) (118 + 55 * d + (13 + 0)) = rc v d 13 := V _ (by omega) (by omega)
  have v448 : ai h (A + 1) 448 = v 448 := V _ (by omega) (by omega)
  have ob := org_b I hd
  have o2 := O.2.2.1
  have o3 := O.2.2.2.1
  have fin : ∀ (x y : Int), x = rc v d 2 → y = orgV v d → ∀ h3, h3 = wi (wi (wi h A 20 (rc v d 3)) A 19 x) A 18 y → RT T N A h3 ∧ FR (fun b k => b = A ∧ (k = 18 ∨ k = 19 ∨ k = 20)) h h3 ∧ SB A h3 v d := by
    intro x y ex ey h3 e3
    have F : FR (fun b k => b = A ∧ (k = 18 ∨ k = 19 ∨ k = 20)) h h3 := by
      subst e3
      exact ((FR.pw ⟨rfl, by decide⟩).tr (FR.pw ⟨rfl, by decide⟩)).tr (FR.pw ⟨rfl, by decide⟩)
    refine ⟨R.fr F, F, ?_⟩
    subst e3
    refine ⟨?_, ?_, ?_⟩
    · rw [rd_eq rfl rfl (by omega)]; exact ey
    · rw [rd_k (by decide) (by decide) (by decide), rd_eq rfl rfl (by omega)]; exact ex
    · rw [rd_k (by decide) (by decide) (by decide), rd_k (by decide) (by decide) (by decide), rd_eq rfl rfl (by omega)]
  have end' : ∀ (x y : Int), x = rc v d 2 → y = orgV v d → ∀ h3, h3 = wi (wi (wi h A 20 (rc v d 3)) A 19 x) A 18 y → ZI T N 168 [vr (some A), vi (J d), vi (J 0)] h3 (fun z h4 => (z = 3 → K 0 h4) ∧ (¬ z = 3 → K 1 h4)) := by
    intro x y ex ey h3 e3
    obtain ⟨R3, F3, S3⟩ := fin x y ex ey h3 e3
    refine r_of R3 (by omega) (by omega) ?_
    rw [F3.ai (by omega), v0]
    exact k h3 R3 F3 S3
  refine z206 R.t (by omega) (r_of R (by omega) (by omega) ?_)
  rw [v3]
  intro h6 e6
  have R6 : RT T N A h6 := by subst e6; exact R.to rfl
  have a6 : ∀ j, ai h6 (A + 1) j = ai h (A + 1) j := fun j => by subst e6; exact rd_a (by omega)
  refine r_of R6 (by omega) (by omega) ?_
  rw [a6, v0]
  refine ⟨fun c => ?_, fun c => ?_⟩
  · intro h7 e7
    have R7 : RT T N A h7 := by subst e7; exact R6.to rfl
    have a7 : ∀ j, ai h7 (A + 1) j = ai h (A + 1) j := fun j => by subst e7; rw [rd_a (by omega)]; exact a6 j
    refine r_of R7 (by omega) (by omega) ?_
    rw [a7, v0]
    refine ⟨fun z => by omega, fun z => ⟨A + 1, R7.a1.2.2, R7.a1.1, by omega, fun h8 e8 => ?_⟩⟩
    rw [a7, v448] at e8
    exact end' 0 (v 448) (g0 c).symm (by unfold orgV; rw [if_neg z]) h8 (by rw [e8, e7, e6])
  · refine r_of R6 (by omega) (by omega) ?_
    rw [a6, v2]
    intro h7 e7
    have R7 : RT T N A h7 := by subst e7; exact R6.to rfl
    have a7 : ∀ j, ai h7 (A + 1) j = ai h (A + 1) j := fun j => by subst e7; rw [rd_a (by omega)]; exact a6 j
    have V7 : Rv A h7 v := fun j a1 a2 => by rw [a7]; exact V j a1 a2
    refine r_of R7 (by omega) (by omega) ?_
    rw [a7, v0]
    refine ⟨fun z => r_leg R7 (by omega) (by omega) ?_, fun z => ⟨A + 1, R7.a1.2.2, R7.a1.1, by omega, fun h8 e8 => ?_⟩⟩
    · rw [a7, v13]
      refine s_eOf R7 I V7 (rc_leg I hd (j := 0) (by have := g2 z; omega)) ?_
      intro h8 e8
      exact end' _ _ rfl (by unfold orgV; rw [if_pos z]) h8 (by rw [e8, e7, e6])
    · rw [a7, v448] at e8
      exact end' _ _ rfl (by unfold orgV; rw [if_neg z]) h8 (by rw [e8, e7, e6])
end RLG
