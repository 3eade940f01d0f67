/-! THE LAW'S LOOP: one step -/
def ContB (T N : Nat → Nat) (bs i : Nat) (h : PH) (Q : Int → Int → Int → PH → Prop) : Prop := ∀ (c b : Int) h3, Sim T N bs h3 (i + 1) → Scp bs h h3 → (b = 0 ∨ b = 1) → (c = 0 → gl h3 (bs + 3309) 0 = (J b).toInt64) → Q c b c h3
section LAW
variable {T N : Nat → Nat} {bs A a b w a0 : Nat} {h h1 h2 h3 h7 h10 : PH} {v u sv tx e : Int → Int} {hs hs2 : Int → Int → Int} {iss n tn re er d t n0 x5 : Int} {i M : Nat} {K : Int → PH → Prop} {K0 W : PH → Prop} {KP : PR → PH → Prop} {Q : Int → Int → Int → PH → Prop} {as : List PV}
theorem zlc_rf (x : Int64) : zlc x x = 0 := by
  unfold zlc lg_cmp
  simp
theorem Sim.up (S : Sim T N bs h i) : Sim T N bs h (i + 1) := by
  obtain ⟨v, iss, sv, n, hs, tn, tx, re, er, C, I, D, R⟩ := S
  exact ⟨v, iss, sv, n, hs, tn, tx, re, er, C.up, I, D, R⟩
theorem ZI_22 {K1 K2 : Int → PH → Prop} (hM : M < 289) (w : ZI T N M as h K1) (f : ∀ x h2, (∀ b, T b = 21 → ∀ j, ai h2 b j = ai h b j) → K1 x h2 → K2 x h2) : ZI T N M as h K2 := CI.imp (ZI_21 hM w) fun x h2 q => f _ h2 q.1 q.2
theorem law_k (n9 : N (bs + 3309) = 1) (k : ∀ h3, Sim T N bs h3 (i + 1) → Scp bs h h3 → W h3) : Cont T N bs i h (fun c b t h3 => (t = c → ((c = 0 → ((0 ≤ (0 : Int) ∧ (0 : Int) < (N (bs + 3309) : Int) ∧ (0 : Int) < 2147483648) ∧ ((zlc (gl h3 (bs + 3309) (Int.toNat 0)) ((J b).toInt64)) = 0 → W h3) ∧ (¬ ((zlc (gl h3 (bs + 3309) (Int.toNat 0)) ((J b).toInt64)) = 0) → K0 h3))) ∧ (¬ (c = 0) → W h3))) ∧ (¬ (t = c) → K0 h3)) := by
  intro c b h3 S s ic ib e
  refine ⟨fun _ => ⟨fun c0 => ⟨by omega, fun _ => k h3 S s, fun y => absurd ?_ y⟩, fun _ => k h3 S s⟩, fun y => absurd rfl y⟩
  have g : gl h3 (bs + 3309) (Int.toNat 0) = (J b).toInt64 := e c0
  rw [g]; exact zlc_rf _
theorem law_k8 (n9 : N (bs + 3309) = 1) (k : ∀ h3, Sim T N bs h3 (i + 1) → Scp bs h h3 → W h3) : ContB T N bs i h (fun c b t h3 => (t = c → ((c = 0 → ((0 ≤ (0 : Int) ∧ (0 : Int) < (N (bs + 3309) : Int) ∧ (0 : Int) < 2147483648) ∧ (b = 0 → (((zlc (gl h3 (bs + 3309) (Int.toNat 0)) 0) = 0 → W h3) ∧ (¬ ((zlc (gl h3 (bs + 3309) (Int.toNat 0)) 0) = 0) → K0 h3))) ∧ (¬ (b = 0) → (((zlc (gl h3 (bs + 3309) (Int.toNat 0)) 1) = 0 → W h3) ∧ (¬ ((zlc (gl h3 (bs + 3309) (Int.toNat 0)) 1) = 0) → K0 h3))))) ∧ (¬ (c = 0) → W h3))) ∧ (¬ (t = c) → K0 h3)) := by
  intro c b h3 S s ib e
  refine ⟨fun _ => ⟨fun c0 => ⟨by omega, fun b0 => ⟨fun _ => k h3 S s, fun y => absurd ?_ y⟩, fun b0 => ⟨fun _ => k h3 S s, fun y => absurd ?_ y⟩⟩, fun _ => k h3 S s⟩, fun y => absurd rfl y⟩
  · have g : gl h3 (bs + 3309) (Int.toNat 0) = (J b).toInt64 := e c0
    rw [g, b0]; exact zlc_rf _
  · have g : gl h3 (bs + 3309) (Int.toNat 0) = (J b).toInt64 := e c0
    rw [g, show b = 1 by omega]; exact zlc_rf _
theorem law_kd (n9 : N (bs + 3310) = 1) (k : ∀ h3, Sim T N bs h3 (i + 1) → Scp bs h h3 → W h3) : ContD T N bs i h (fun c x t h3 => (t = c → ((c = 0 → ((0 ≤ (0 : Int) ∧ (0 : Int) < (N (bs + 3310) : Int) ∧ (0 : Int) < 2147483648) ∧ ((Int32.toInt (Op.cmpValue (FP.dcmp (gd h3 (bs + 3310) (Int.toNat 0)) x) .l)) = 0 → W h3) ∧ (¬ ((Int32.toInt (Op.cmpValue (FP.dcmp (gd h3 (bs + 3310) (Int.toNat 0)) x) .l)) = 0) → (((Int32.toInt (Op.cmpValue (FP.dcmp (gd h3 (bs + 3310) (Int.toNat 0)) (gd h3 (bs + 3310) (Int.toNat 0))) .l)) = 0 → K0 h3) ∧ (¬ ((Int32.toInt (Op.cmpValue (FP.dcmp (gd h3 (bs + 3310) (Int.toNat 0)) (gd h3 (bs + 3310) (Int.toNat 0))) .l)) = 0) → (((Int32.toInt (Op.cmpValue (FP.dcmp x x) .l)) = 0 → K0 h3) ∧ (¬ ((Int32.toInt (Op.cmpValue (FP.dcmp x x) .l)) = 0) → W h3))))))) ∧ (¬ (c = 0) → W h3))) ∧ (¬ (t = c) → K0 h3)) := by
  intro c x h3 S s ic e
  refine ⟨fun _ => ⟨fun c0 => ?_, fun _ => k h3 S s⟩, fun y => absurd rfl y⟩
  have g : gd h3 (bs + 3310) (Int.toNat 0) = x := e c0
  rw [g]
  exact ⟨by omega, fun _ => k h3 S s, fun y => ⟨fun z => absurd z y, fun _ => ⟨fun z => absurd z y, fun _ => k h3 S s⟩⟩⟩
theorem P_isPad2 (S : Sim T N bs h i) (hf : In n0) (k : ContB T N bs i h Q) : ZI T N 262 [vr (some bs), vi (J n0), vr (some (bs + 3309))] h (fun z1 h1 => ZI T N 181 [vr (some (bs + 3296)), vi (J n0)] h1 (fun z2 h2 => ZI T N 156 [vr (some (bs + 3296))] h2 (fun z3 h3 => Q z1 z2 z3 h3))) := by
  obtain ⟨v, iss, sv, n, hs, tn, tx, re, er, C, I, D, R⟩ := S; have b := I.1.b; have o := C.o; have out := C.out
  have k2 : Cont T N bs i h (fun c b t h3 => (b = 0 ∨ b = 1) → Q c b t h3) := fun c b h3 S s _ _ e hb => k c b h3 S s hb e
  have eb := D.1.b
  refine z262 o.1 out.1 hf (z113 o.1 hf ⟨bs + 1, o.2.1, C.2.1.1.t, d_hasNode C.2.1.1 hf (fun c1 => ⟨(fun z => absurd z (by decide)), fun _ => ⟨bs + 1, o.2.1, C.2.1.1.t, ?_⟩⟩) (fun c1 => ⟨fun _ => ⟨C.t0, Or.inr ⟨rfl, ?_⟩⟩, (fun z => absurd rfl z)⟩)⟩)
  · have pp := I.1.p (n := n0) (by omega) (by omega)
    refine d_holds (S := n0 < v 0 ∧ v (1 + n0) = 1) (ai_in _ _ _) (by omega) ?_ (fun s => ⟨Or.inr rfl, Or.inl ⟨1, rfl, by decide, (fun z => absurd z (by decide)), fun _ => ⟨by omega, ?_⟩⟩⟩) (fun s => ⟨Or.inl rfl, Or.inl ⟨0, rfl, by decide, fun _ => ⟨by omega, ?_⟩, (fun z => absurd rfl z)⟩⟩)
    · rw [D.1.p n0.toNat (by omega), show ((n0.toNat : Nat) : Int) = n0 by omega]
    · intro h7 z7; subst z7; obtain ⟨C7, D7, F7, G7⟩ := tail0 (h := h) C D I Fcl.rf (x := 1); generalize sL h (bs + 3309) (Int.toNat 0) 1 = h7 at *; have R7 := R.fd F7
      refine q_isPad C7.rt I R7 hf (fun _ h8 F8 R8 e8 => ?_) (fun z => absurd (by omega) z)
      rw [if_pos s.2]
      exact CI.imp (fin (b := 1) k2 C7 I D7 F7 F8.sk R8 e8 (by decide) fun _ => G7) fun _ _ z => z (Or.inr rfl)
    · intro h7 z7; subst z7; obtain ⟨C7, D7, F7, G7⟩ := tail0 (h := h) C D I Fcl.rf (x := 0); generalize sL h (bs + 3309) (Int.toNat 0) 0 = h7 at *; have R7 := R.fd F7
      refine q_isPad C7.rt I R7 hf (fun _ h8 F8 R8 e8 => ?_) (fun z => absurd (by omega) z)
      rw [if_neg fun z => s ⟨by omega, z⟩]
      exact CI.imp (fin (b := 0) k2 C7 I D7 F7 F8.sk R8 e8 (by decide) fun _ => G7) fun _ _ z => z (Or.inl rfl)
  · have C7 := C.bm; have D7 := D.bm I; have F7 : Fcl bs h (bump h) := Fcl.bm; generalize bump h = h7 at *; have R7 := R.fd F7
    exact q_isPad C7.rt I R7 hf (fun z => absurd z (by omega)) fun _ h8 F8 R8 e8 => CI.imp (fin (b := 0) k2 C7 I D7 F7 F8.sk R8 e8 (by decide) fun z => by omega) fun _ _ z => z (Or.inl rfl)

theorem law_step (S : Sim T N bs h i) (t1 : T a0 = 21) (ha0 : a0 < bs) (hN : (N a0 : Int) ≤ 2560) (hx : 0 ≤ x5 ∧ x5 ≤ 3000) (k1 : (N a0 : Int) - 5 < x5 → K 1 h) (k2 : x5 ≤ (N a0 : Int) - 5 → ∀ h3, Sim T N bs h3 (i + 1) → Scp bs h h3 → ZW T N 288 28 [some (vr (some a0)), some (vr (some bs)), some (vr (some (bs + 3296))), some (vr (some (bs + 3309))), some (vr (some (bs + 3310))), some (vi (J (x5 + 5))), none, none, none] [] h3 K) : ZW T N 288 28 [some (vr (some a0)), some (vr (some bs)), some (vr (some (bs + 3296))), some (vr (some (bs + 3309))), some (vr (some (bs + 3310))), some (vi (J (x5))), none, none, none] [] h K := by
  obtain ⟨n9, n10, t2, t3, t4, t5⟩ : N (bs + 3309) = 1 ∧ N (bs + 3310) = 1 ∧ T bs = 11 ∧ T (bs + 3296) = 12 ∧ T (bs + 3309) = 24 ∧ T (bs + 3310) = 25 := by
    obtain ⟨v, iss, sv, n, hs, tn, tx, re, er, C, -, -, -⟩ := S
    have z := C.1.2.2.2.2.2.2.2.2.2.1
    exact ⟨z.2.1, z.2.2.2, C.o.1, C.rt.t, z.1, z.2.2.1⟩
  refine z288_28 (by omega) t1 t2 t3 t4 t5 (by omega) ⟨by omega, k1, fun c5 => ⟨by omega, ?_⟩⟩
  have kk := k2 (by omega)
  have b1 : 0 ≤ x5 + 1 ∧ x5 + 1 < (N a0 : Int) ∧ x5 + 1 < 2147483648 := by omega
  have b2 : 0 ≤ x5 + 2 ∧ x5 + 2 < (N a0 : Int) ∧ x5 + 2 < 2147483648 := by omega
  have b3 : 0 ≤ x5 + 3 ∧ x5 + 3 < (N a0 : Int) ∧ x5 + 3 < 2147483648 := by omega
  have b4 : 0 ≤ x5 + 4 ∧ x5 + 4 < (N a0 : Int) ∧ x5 + 4 < 2147483648 := by omega
  clear k1 k2 hN hx c5
  refine ⟨fun _ => ?_, fun _ => ?_⟩
  · exact P_clear S (fun x h3 S3 s3 => ⟨fun _ => kk h3 S3 s3, fun y => absurd rfl y⟩)
  refine ⟨fun _ => ?_, fun _ => ?_⟩
  · exact ⟨b1, fun c1 => P_addNode S (Or.inl rfl) (fun c h1 s w => ⟨fun _ => w, fun y => absurd (((s a0 ha0).ai _).trans c1) y⟩) (law_k (K0 := K 0) n9 kk), fun c1 => P_addNode S (Or.inr rfl) (fun c h1 s w => ⟨fun y => absurd (((s a0 ha0).ai _).symm.trans y) c1, fun _ => w⟩) (law_k (K0 := K 0) n9 kk)⟩
  refine ⟨fun _ => ?_, fun _ => ?_⟩
  · refine ⟨b1, b2, b3, b4, ZI_22 (by decide) (P_addCorridor S (ai_in _ _ _) (ai_in _ _ _) (ai_in _ _ _) (ai_in _ _ _) (law_k (K0 := K 0) n9 kk)) fun x h2 e q => ?_⟩
    rw [e a0 t1 (x5 + 1), e a0 t1 (x5 + 2), e a0 t1 (x5 + 3), e a0 t1 (x5 + 4)]; exact q
  refine ⟨fun _ => ?_, fun _ => ?_⟩
  · refine ⟨b1, b2, ZI_22 (by decide) (P_setWind S (ai_in _ _ _) (ai_in _ _ _) (law_k (K0 := K 0) n9 kk)) fun x h2 e q => ?_⟩
    rw [e a0 t1 (x5 + 1), e a0 t1 (x5 + 2)]; exact q
  refine ⟨fun _ => ?_, fun _ => ?_⟩
  · refine ⟨b1, b2, b3, b4, ZI_22 (by decide) (P_addFence S (ai_in _ _ _) (ai_in _ _ _) (ai_in _ _ _) (ai_in _ _ _) (law_k (K0 := K 0) n9 kk)) fun x h2 e q => ?_⟩
    rw [e a0 t1 (x5 + 1), e a0 t1 (x5 + 2), e a0 t1 (x5 + 3), e a0 t1 (x5 + 4)]; exact q
  refine ⟨fun _ => ?_, fun _ => ?_⟩
  · refine ⟨b1, ZI_22 (by decide) (P_removeFence S (ai_in _ _ _) (law_k (K0 := K 0) n9 kk)) fun x h2 e q => ?_⟩
    rw [e a0 t1 (x5 + 1)]; exact q
  refine ⟨fun _ => ?_, fun _ => ?_⟩
  · refine ⟨b1, b2, ZI_22 (by decide) (P_fence S (ai_in _ _ _) (ai_in _ _ _) (law_k (K0 := K 0) n9 kk)) fun x h2 e q => ?_⟩
    rw [e a0 t1 (x5 + 1), e a0 t1 (x5 + 2)]; exact q
  refine ⟨fun _ => ?_, fun _ => ?_⟩
  · refine ⟨b1, b2, ZI_22 (by decide) (P_corridor S (ai_in _ _ _) (ai_in _ _ _) (law_k (K0 := K 0) n9 kk)) fun x h2 e q => ?_⟩
    rw [e a0 t1 (x5 + 1), e a0 t1 (x5 + 2)]; exact q
  refine ⟨fun _ => ?_, fun _ => ?_⟩
  · refine ⟨b1, ZI_22 (by decide) (P_isPad2 S (ai_in _ _ _) (law_k8 (K0 := K 0) n9 kk)) fun x h2 e q => ?_⟩
    rw [e a0 t1 (x5 + 1)]; exact q
  refine ⟨fun _ => ?_, fun _ => ?_⟩
  · refine ⟨b1, ZI_22 (by decide) (P_reserve S (ai_in _ _ _) (law_k (K0 := K 0) n9 kk)) fun x h2 e q => ?_⟩
    rw [e a0 t1 (x5 + 1)]; exact q
  refine ⟨fun _ => ?_, fun _ => ?_⟩
  · refine ⟨b1, b2, ZI_22 (by decide) (P_ticksBetween S (ai_in _ _ _) (ai_in _ _ _) (law_k (K0 := K 0) n9 kk)) fun x h2 e q => ?_⟩
    rw [e a0 t1 (x5 + 1), e a0 t1 (x5 + 2)]; exact q
  refine ⟨fun _ => ?_, fun _ => ?_⟩
  · refine ⟨b1, ZI_22 (by decide) (P_count S (ai_in _ _ _) (law_k (K0 := K 0) n9 kk)) fun x h2 e q => ?_⟩
    rw [e a0 t1 (x5 + 1)]; exact q
  refine ⟨fun _ => ?_, fun _ => ?_⟩
  · refine ⟨b1, b2, ZI_22 (by decide) (P_addDrone S (ai_in _ _ _) (ai_in _ _ _) (law_k (K0 := K 0) n9 kk)) fun x h2 e q => ?_⟩
    rw [e a0 t1 (x5 + 1), e a0 t1 (x5 + 2)]; exact q
  refine ⟨fun _ => ?_, fun _ => ?_⟩
  · refine ⟨b1, b2, ZI_22 (by decide) (P_drone S (ai_in _ _ _) (ai_in _ _ _) (law_k (K0 := K 0) n9 kk)) fun x h2 e q => ?_⟩
    rw [e a0 t1 (x5 + 1), e a0 t1 (x5 + 2)]; exact q
  refine ⟨fun _ => ?_, fun _ => ?_⟩
  · refine ⟨b1, b2, ZI_22 (by decide) (P_plan S (ai_in _ _ _) (ai_in _ _ _) (law_k (K0 := K 0) n9 kk)) fun x h2 e q => ?_⟩
    rw [e a0 t1 (x5 + 1), e a0 t1 (x5 + 2)]; exact q
  refine ⟨fun _ => ?_, fun _ => ?_⟩
  · refine ⟨b1, b2, ZI_22 (by decide) (P_arrival S (ai_in _ _ _) (ai_in _ _ _) (law_k (K0 := K 0) n9 kk)) fun x h2 e q => ?_⟩
    rw [e a0 t1 (x5 + 1), e a0 t1 (x5 + 2)]; exact q
  refine ⟨fun _ => ?_, fun _ => ?_⟩
  · refine ⟨b1, b2, ZI_22 (by decide) (P_planEnergy S (ai_in _ _ _) (ai_in _ _ _) (law_k (K0 := K 0) n9 kk)) fun x h2 e q => ?_⟩
    rw [e a0 t1 (x5 + 1), e a0 t1 (x5 + 2)]; exact q
  refine ⟨fun _ => ?_, fun _ => ?_⟩
  · refine ⟨b1, b2, b3, ZI_22 (by decide) (P_leg S (ai_in _ _ _) (ai_in _ _ _) (ai_in _ _ _) (law_k (K0 := K 0) n9 kk)) fun x h2 e q => ?_⟩
    rw [e a0 t1 (x5 + 1), e a0 t1 (x5 + 2), e a0 t1 (x5 + 3)]; exact q
  refine ⟨fun _ => ?_, fun _ => ?_⟩
  · refine ⟨b1, ZI_22 (by decide) (P_cancel S (ai_in _ _ _) (law_k (K0 := K 0) n9 kk)) fun x h2 e q => ?_⟩
    rw [e a0 t1 (x5 + 1)]; exact q
  refine ⟨fun _ => ?_, fun _ => ?_⟩
  · refine ⟨b1, b2, ZI_22 (by decide) (P_drain S (ai_in _ _ _) (ai_in _ _ _) (law_k (K0 := K 0) n9 kk)) fun x h2 e q => ?_⟩
    rw [e a0 t1 (x5 + 1), e a0 t1 (x5 + 2)]; exact q
  refine ⟨fun _ => ?_, fun _ => ?_⟩
  · exact P_struck S (fun x h3 S3 s3 => ⟨fun _ => kk h3 S3 s3, fun y => absurd rfl y⟩)
  refine ⟨fun _ => ?_, fun _ => ?_⟩
  · exact P_reroute S (fun x h3 S3 s3 => ⟨fun _ => kk h3 S3 s3, fun y => absurd rfl y⟩)
  refine ⟨fun _ => ?_, fun _ => ?_⟩
  · refine ⟨b1, ZI_22 (by decide) (P_nearestPad S (ai_in _ _ _) (law_k (K0 := K 0) n9 kk)) fun x h2 e q => ?_⟩
    rw [e a0 t1 (x5 + 1)]; exact q
  refine ⟨fun _ => ?_, fun _ => ?_⟩
  · exact P_low S (fun x h3 S3 s3 => ⟨fun _ => kk h3 S3 s3, fun y => absurd rfl y⟩)
  refine ⟨fun _ => ?_, fun _ => ?_⟩
  · exact P_reason S (law_k (K0 := K 0) n9 kk)
  refine ⟨fun _ => ?_, fun _ => ?_⟩
  · refine ⟨b1, ZI_22 (by decide) (P_advance S (ai_in _ _ _) (law_k (K0 := K 0) n9 kk)) fun x h2 e q => ?_⟩
    rw [e a0 t1 (x5 + 1)]; exact q
  refine ⟨fun _ => ?_, fun _ => ?_⟩
  · refine ⟨b1, b2, ZI_22 (by decide) (P_placeAfter S (ai_in _ _ _) (ai_in _ _ _) (law_k (K0 := K 0) n9 kk)) fun x h2 e q => ?_⟩
    rw [e a0 t1 (x5 + 1), e a0 t1 (x5 + 2)]; exact q
  refine ⟨fun _ => ?_, fun _ => ?_⟩
  · exact ⟨b1, fun c1 => P_pairs S (by decide) (fun c h1 s w => ⟨fun _ => w, fun y => absurd (((s a0 ha0).ai _).trans c1) y⟩) (fun x h3 S3 s3 => ⟨fun _ => kk h3 S3 s3, fun y => absurd rfl y⟩), fun c1 => P_pairs S (by decide) (fun c h1 s w => ⟨fun y => absurd (((s a0 ha0).ai _).symm.trans y) c1, fun _ => w⟩) (fun x h3 S3 s3 => ⟨fun _ => kk h3 S3 s3, fun y => absurd rfl y⟩)⟩
  refine ⟨fun _ => ?_, fun _ => ?_⟩
  · refine ⟨b1, b2, ZI_22 (by decide) (P_uses S (ai_in _ _ _) (ai_in _ _ _) (law_k (K0 := K 0) n9 kk)) fun x h2 e q => ?_⟩
    rw [e a0 t1 (x5 + 1), e a0 t1 (x5 + 2)]; exact q
  refine ⟨fun _ => ?_, fun _ => ?_⟩
  · refine ⟨b1, b2, ZI_22 (by decide) (P_account S (ai_in _ _ _) (ai_in _ _ _) (law_k (K0 := K 0) n9 kk)) fun x h2 e q => ?_⟩
    rw [e a0 t1 (x5 + 1), e a0 t1 (x5 + 2)]; exact q
  refine ⟨fun _ => ?_, fun _ => ?_⟩
  · exact P_audit S (fun h3 S3 s3 => ⟨fun _ => kk h3 S3 s3, fun y => absurd rfl y⟩)
  refine ⟨fun _ => ?_, fun _ => ?_⟩
  · exact P_flyingShare S (law_kd (K0 := K 0) n10 kk)
  refine ⟨fun _ => ?_, fun _ => ?_⟩
  · exact P_busiest S (law_k (K0 := K 0) n9 kk)
  refine ⟨fun _ => ?_, fun _ => ?_⟩
  · refine ⟨b1, ZI_22 (by decide) (P_append S (zchr_in _) (law_k (K0 := K 0) n9 kk)) fun x h2 e q => ?_⟩
    rw [e a0 t1 (x5 + 1)]; exact q
  refine ⟨fun _ => ?_, fun _ => ?_⟩
  · exact P_read S (law_k (K0 := K 0) n9 kk)
  refine ⟨fun _ => ?_, fun _ => ?_⟩
  · exact P_errorPosition S (law_k (K0 := K 0) n9 kk)
  refine ⟨fun _ => ?_, fun _ => ?_⟩
  · refine ⟨b1, b2, ZI_22 (by decide) (P_describe S (ai_in _ _ _) (ai_in _ _ _) (law_k (K0 := K 0) n9 kk)) fun x h2 e q => ?_⟩
    rw [e a0 t1 (x5 + 1), e a0 t1 (x5 + 2)]; exact q
  refine ⟨fun _ => ?_, fun _ => ?_⟩
  · exact P_undo S (law_k (K0 := K 0) n9 kk)
  refine ⟨fun _ => ?_, fun _ => ?_⟩
  · exact P_save S (fun x h3 S3 s3 => ⟨fun _ => kk h3 S3 s3, fun y => absurd rfl y⟩)
  refine ⟨fun _ => ?_, fun _ => ?_⟩
  · exact P_restore S (law_k (K0 := K 0) n9 kk)
  exact kk h S.up fun _ _ => sm.rf
end LAW
