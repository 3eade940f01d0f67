/-! CALLS THAT CHANGE ONE DRONE -/
def droV (v : Int → Int) (n en : Int) : Int → Int := up (putD v (v 117) (newE (v (1 + n)) n en)) 117 (v 117 + 1)
def refD (v : Int → Int) (n en : Int) : Int := if ¬ (0 ≤ n ∧ n < v 0) then 1 else if ¬ (1 ≤ en ∧ en ≤ 200) then 2 else if v 117 = 6 then 3 else 0
section MUD
variable {T N : Nat → Nat} {bs A w : Nat} {h h1 h2 h3 h7 h10 : PH} {v u sv tx e e2 : Int → Int} {hs hs2 : Int → Int → Int} {iss n tn re er d t a b l : Int} {i : Nat} {K : Int → PH → Prop} {KV : PH → Prop} {KP : PR → PH → Prop} {Q : Int → Int → Int → PH → Prop} {f g : Int → Int}
theorem rc_put {k : Int} (hk : 0 ≤ k ∧ k < 55) : rc (putD v d e) d k = e k := putD_at hk
theorem rc_put_ne {d2 k : Int} (hd : d2 ≠ d) (hk : 0 ≤ k ∧ k < 55) : rc (putD v d e) d2 k = rc v d2 k := by
  unfold rc putD; rw [if_neg (by omega)]
theorem Wo.put (W : Wo T N h w v) (I : Iv v) (hd : 0 ≤ d ∧ d < v 117) (F : Fp (fun x => dA w d ≤ x ∧ x < dA w d + 44) h h2) (Dt : DT T N h2 (dA w d)) (Dd : DrD v h2 (dA w d) e) (O : drOK v (v 448) e) : Wo T N h2 w (putD v d e) ∧ Iv (putD v d e) ∧ Fp (fun x => w ≤ x ∧ x < w + 294) h h2 := by
  have b := I.b
  have lo : ∀ j, j < 118 → v j = putD v d e j := fun j hj => (putD_lo hd.1 hj).symm
  have h448 : putD v d e 448 = v 448 := putD_hi (by omega) (by omega)
  have l0 := lo 0 (by omega); have l11 := lo 11 (by omega); have l76 := lo 76 (by omega); have l117 := lo 117 (by omega)
  have s0 := F.1 w (by unfold dA; omega)
  refine ⟨⟨W.o.dro (fun b h1 h2 => (F.1 b (by unfold dA; omega)).gr) fun d2 h1 => ?_, ?_, ?_, W.cs I (fun b e1 e2 => F.1 b (by unfold dA; omega)) fun j a1 a2 => lo j (by omega), W.fs I (fun b e1 e2 => F.1 b (by unfold dA; omega)) fun j a1 a2 => lo j (by omega), fun d2 h1 h3 => ?_⟩, ⟨?_, fun n h1 h2 => ?_, I.cs (by omega) fun j a1 a2 => lo j (by omega), I.fs (by omega) fun j a1 a2 => lo j (by omega), fun d2 h1 h3 => ?_⟩, F.mo fun x z => by unfold dA at z; omega⟩
  · by_cases c : (d2 : Int) = d
    · have : dA w d = w + 30 + 44 * d2 := by unfold dA; omega
      rw [← this]; exact Dt
    · exact (W.o.2.2.2.2.2.2 d2 h1).2.fr fun b q1 q2 => F.1 b (by unfold dA; omega)
  · rw [s0.ai, s0.ai, s0.ai, s0.ai, s0.ai, h448, ← l0, ← l11, ← l76, ← l117]; exact W.b
  · rw [s0.ai]; exact padsR_cg l0 (fun n a1 a2 => lo _ (by omega)) W.p
  · by_cases c : d2 = d
    · subst c
      exact DrD_cl O (fun j a1 a2 a3 => lo j (by omega)) (fun j a1 a2 => (rc_put ⟨a1, a2⟩).symm) Dd
    · have O2 := I.d h1 (by omega)
      have Dn := (W.d h1 (by omega)).fr (T := T) (N := N) (h2 := h2) (fun b q1 q2 => F.1 b (by unfold dA at *; omega)) (W.o.d (by omega)).2 O2.2.2.2.2.2.1.2
      exact DrD_cl O2 (fun j a1 a2 a3 => lo j (by omega)) (fun j a1 a2 => (rc_put_ne c ⟨a1, a2⟩).symm) Dn
  · omega
  · rw [← lo _ (by omega)]; exact I.p h1 (by omega)
  · rw [h448]
    by_cases c : d2 = d
    · subst c
      exact drOK_cg (by omega) (by omega) (fun j a1 a2 a3 => lo j (by omega)) (fun j a1 a2 => (rc_put ⟨a1, a2⟩).symm) O
    · exact drOK_cg (by omega) (by omega) (fun j a1 a2 a3 => lo j (by omega)) (fun j a1 a2 => (rc_put_ne c ⟨a1, a2⟩).symm) (I.d h1 (by omega))
/-! cancel -/
def canE (e : Int → Int) : Int → Int := cutE e (if e 0 = 2 then e 3 else -1)
theorem cutE_OK {g0 : Int} (O : drOK v t e) (hg : -1 ≤ g0 ∧ g0 < v 0) : drOK v t (cutE e g0) := by
  obtain ⟨o0, o1, o2, o3, o4, o5, o6, o7, o8, o9, o10, o11, o12, os, oa, ob, oc, ol⟩ := id O
  have ha : (e 0 = 2 → aheadE e = 1) ∧ (e 0 ≠ 2 → aheadE e = 0) := ⟨fun z => if_pos z, fun z => if_neg z⟩
  have hb : 0 ≤ aheadE e ∧ aheadE e ≤ 1 ∧ aheadE e ≤ e 5 := by
    by_cases c : e 0 = 2
    · have := ha.1 c; have := oc c; omega
    · have := ha.2 c; omega
  unfold cutE
  refine ⟨by first | (simp (disch := first | omega | exact ai_in _ _ _) only [rd_eq, rd_a, rd_k, up_eq, up_ne, ]; omega) | (intro _; simp (disch := first | omega | exact ai_in _ _ _) only [rd_eq, rd_a, rd_k, up_eq, up_ne, ]), by first | (simp (disch := first | omega | exact ai_in _ _ _) only [rd_eq, rd_a, rd_k, up_eq, up_ne, ]; omega) | (intro _; simp (disch := first | omega | exact ai_in _ _ _) only [rd_eq, rd_a, rd_k, up_eq, up_ne, ]), by first | (simp (disch := first | omega | exact ai_in _ _ _) only [rd_eq, rd_a, rd_k, up_eq, up_ne, ]; omega) | (intro _; simp (disch := first | omega | exact ai_in _ _ _) only [rd_eq, rd_a, rd_k, up_eq, up_ne, ]), by first | (simp (disch := first | omega | exact ai_in _ _ _) only [rd_eq, rd_a, rd_k, up_eq, up_ne, ]; omega) | (intro _; simp (disch := first | omega | exact ai_in _ _ _) only [rd_eq, rd_a, rd_k, up_eq, up_ne, ]), by first | (simp (disch := first | omega | exact ai_in _ _ _) only [rd_eq, rd_a, rd_k, up_eq, up_ne, ]; omega) | (intro _; simp (disch := first | omega | exact ai_in _ _ _) only [rd_eq, rd_a, rd_k, up_eq, up_ne, ]), by first | (simp (disch := first | omega | exact ai_in _ _ _) only [rd_eq, rd_a, rd_k, up_eq, up_ne, ]; omega) | (intro _; simp (disch := first | omega | exact ai_in _ _ _) only [rd_eq, rd_a, rd_k, up_eq, up_ne, ]), by first | (simp (disch := first | omega | exact ai_in _ _ _) only [rd_eq, rd_a, rd_k, up_eq, up_ne, ]; omega) | (intro _; simp (disch := first | omega | exact ai_in _ _ _) only [rd_eq, rd_a, rd_k, up_eq, up_ne, ]), by first | (simp (disch := first | omega | exact ai_in _ _ _) only [rd_eq, rd_a, rd_k, up_eq, up_ne, ]; omega) | (intro _; simp (disch := first | omega | exact ai_in _ _ _) only [rd_eq, rd_a, rd_k, up_eq, up_ne, ]), by first | (simp (disch := first | omega | exact ai_in _ _ _) only [rd_eq, rd_a, rd_k, up_eq, up_ne, ]; omega) | (intro _; simp (disch := first | omega | exact ai_in _ _ _) only [rd_eq, rd_a, rd_k, up_eq, up_ne, ]), by first | (simp (disch := first | omega | exact ai_in _ _ _) only [rd_eq, rd_a, rd_k, up_eq, up_ne, ]; omega) | (intro _; simp (disch := first | omega | exact ai_in _ _ _) only [rd_eq, rd_a, rd_k, up_eq, up_ne, ]), by first | (simp (disch := first | omega | exact ai_in _ _ _) only [rd_eq, rd_a, rd_k, up_eq, up_ne, ]; omega) | (intro _; simp (disch := first | omega | exact ai_in _ _ _) only [rd_eq, rd_a, rd_k, up_eq, up_ne, ]), by first | (simp (disch := first | omega | exact ai_in _ _ _) only [rd_eq, rd_a, rd_k, up_eq, up_ne, ]; omega) | (intro _; simp (disch := first | omega | exact ai_in _ _ _) only [rd_eq, rd_a, rd_k, up_eq, up_ne, ]), by first | (simp (disch := first | omega | exact ai_in _ _ _) only [rd_eq, rd_a, rd_k, up_eq, up_ne, ]; omega) | (intro _; simp (disch := first | omega | exact ai_in _ _ _) only [rd_eq, rd_a, rd_k, up_eq, up_ne, ]), by first | (simp (disch := first | omega | exact ai_in _ _ _) only [rd_eq, rd_a, rd_k, up_eq, up_ne, ]; omega) | (intro _; simp (disch := first | omega | exact ai_in _ _ _) only [rd_eq, rd_a, rd_k, up_eq, up_ne, ]), by first | (simp (disch := first | omega | exact ai_in _ _ _) only [rd_eq, rd_a, rd_k, up_eq, up_ne, ]; omega) | (intro _; simp (disch := first | omega | exact ai_in _ _ _) only [rd_eq, rd_a, rd_k, up_eq, up_ne, ]), ?_, ?_, fun i h1 h2 => ?_⟩
  · intro c; rw [up_ne (by omega), up_ne (by omega)] at c; rw [up_ne (by omega), up_eq rfl]; exact ha.2 (by omega)
  · intro c; rw [up_ne (by omega), up_ne (by omega)] at c
    have := oc c; have := ha.1 c
    rw [up_ne (by omega), up_eq rfl, up_ne (by omega), up_ne (by omega)]; omega
  · rw [up_ne (by omega), up_eq rfl] at h2
    rw [up_ne (by omega), up_ne (by omega)]; exact ol i h1 (by omega)
theorem canE_OK (O : drOK v t e) : drOK v t (canE e) := by
  obtain ⟨o0, o1, o2, o3, -⟩ := id O
  unfold canE
  refine cutE_OK O ?_
  split <;> omega
/-- a drone was changed in the heap: the state -/
theorem dv_put (C : Com T N bs h i) (I : IvS v iss sv n hs tn tx re er) (D : SD T N bs h v iss sv n hs tn tx re er) (hd : 0 ≤ d ∧ d < v 117) (F : Fp (fun x => dA (bs + 1) d ≤ x ∧ x < dA (bs + 1) d + 44) h h2) (Dt : DT T N h2 (dA (bs + 1) d)) (Dd : DrD v h2 (dA (bs + 1) d) e) (O : drOK v (v 448) e) : Com T N bs h2 i ∧ SD T N bs h2 (putD v d e) iss sv n hs tn tx re er ∧ IvS (putD v d e) iss sv n hs tn tx re er ∧ Fcl bs h h2 := by
  obtain ⟨W2, J2, F2⟩ := D.1.put I.1 hd F Dt Dd O
  exact dv_wo C I D F2 W2 J2
theorem c_cancel (C : Com T N bs h i) (I : IvS v iss sv n hs tn tx re er) (D : SD T N bs h v iss sv n hs tn tx re er) (ha : In a) (k0 : 0 ≤ a ∧ a < v 117 → ∀ h4, Com T N bs h4 i → SD T N bs h4 (putD v a (canE (rc v a))) iss sv (pushN n) (pushH n hs v) tn tx re er → IvS (putD v a (canE (rc v a))) iss sv (pushN n) (pushH n hs v) tn tx re er → Fcl bs h h4 → KP (.inl (some (vi (J (rc v a 5 - aheadE (rc v a)))))) h4) (k1 : ¬ (0 ≤ a ∧ a < v 117) → KP (.inr 2) (bump h)) : CALL T N 123 [vr (some bs), vi (J a)] h KP := by
  have bb := I.1.b
  have o := C.o
  have eb := D.1.b
  refine z123 o.1 ha ⟨bs + 1, o.2.1, C.2.1.1.t, d_dro C.2.1.1 ha (by omega) (fun c1 => ⟨fun z => by (cases z), fun a' ea => ?_⟩) (fun c1 => ⟨fun _ => ⟨C.t0, k1 (by omega)⟩, fun a' ea => by (cases ea)⟩)⟩
  cases ea
  have ca : 0 ≤ a ∧ a < v 117 := by omega
  have Dt := (C.2.1.1.d (c := a) (by omega)).2
  have O := I.1.d ca.1 ca.2
  obtain ⟨o0, o1, o2, o3, o4, o5, o6, -⟩ := id O
  refine ⟨bs + 589, o.2.2.2.1, C.1.his.1, ?_⟩
  rw [o.2.1]
  refine dv_rem C I D fun h2 C2 D2 I2 F2 g2 => ⟨Dt.t, d_cutLegs (Dt.to g2) O (D2.1.d ca.1 ca.2) fun h3 F3 g3 G3 => ?_⟩
  have go : ∀ h4, h4 = wi h3 (dA (bs + 1) a) 4 (if rc v a 0 = 2 then rc v a 3 else -1) → KP (.inl (some (vi (J (rc v a 5 - aheadE (rc v a)))))) h4 := by
    intro h4 z4
    have hg : In (if rc v a 0 = 2 then rc v a 3 else -1) := by split <;> omega
    have F4 : Fp (fun x => dA (bs + 1) a ≤ x ∧ x < dA (bs + 1) a + 44) h2 h4 := by subst z4; exact (F3.mo fun x e => by omega).tr (Fp.pw (by omega))
    have Dt4 : DT T N h4 (dA (bs + 1) a) := Dt.to (by subst z4; exact g3.trans g2)
    have hc := O.2.2.2.2.2.1
    have q5 : up (rc v a) 5 (aheadE (rc v a)) 5 ≤ 41 := by rw [up_eq rfl]; unfold aheadE; split <;> decide
    have D4 : DrD v h4 (dA (bs + 1) a) (canE (rc v a)) := by
      obtain ⟨⟨f0, f1, f2, f3, f4, f5, f6, f8⟩, fs, fl⟩ := id G3
      unfold canE cutE
      refine DrD.fl (Dt.to (g3.trans g2)) q5 G3 (by subst z4; exact Fp.pw rfl) (by rw [up_ne (by omega)]; exact Int.le_refl _) (fun i h1 h2 => by rw [up_ne (by omega)]) ?_ fun j h1 h2 => by rw [up_ne (by omega)]
      subst z4
      rw [rd_k (by omega) (by omega) (by omega), rd_k (by omega) (by omega) (by omega), rd_k (by omega) (by omega) (by omega), rd_k (by omega) (by omega) (by omega), rd_eq rfl rfl hg, rd_k (by omega) (by omega) (by omega), rd_k (by omega) (by omega) (by omega), rd_k (by omega) (by omega) (by omega)]
      refine ⟨?_, ?_, ?_, ?_, ?_, ?_, ?_, ?_⟩
      · rw [f0]; exact (up_ne (by omega)).symm
      · rw [f1]; exact (up_ne (by omega)).symm
      · rw [f2]; exact (up_ne (by omega)).symm
      · rw [f3]; exact (up_ne (by omega)).symm
      · exact (up_eq rfl).symm
      · rw [f5]; exact (up_ne (by omega)).symm
      · rw [f6]; exact (up_ne (by omega)).symm
      · rw [f8]; exact (up_ne (by omega)).symm
    obtain ⟨C5, D5, I5, F5⟩ := dv_put C2 I2 D2 ca F4 Dt4 D4 (canE_OK O)
    exact k0 ca h4 C5 D5 I5 (F2.tr F5)
  have e0 : ai h3 (dA (bs + 1) a) 0 = rc v a 0 := by rw [G3.1.1, up_ne (by omega)]
  have e3 : ai h3 (dA (bs + 1) a) 3 = rc v a 3 := by rw [G3.1.2.2.2.1, up_ne (by omega)]
  rw [e0, e3]
  refine ⟨fun c => ?_, fun c => ?_⟩
  · rw [if_pos c] at go; exact go
  · rw [if_neg c] at go; exact go
theorem r_aheadD (R : RT T N A h) (V : Rv A h (putD u d e)) (hd : 0 ≤ d ∧ d < 6) (k : K (aheadE e) h) : ZI T N 193 [vr (some A), vi (J d)] h K := by
  unfold aheadE at k
  refine z193 R.t (by omega) (r_ofD R V hd (by omega) ⟨fun c => ?_, fun c => ?_⟩)
  · rw [if_pos c] at k; exact k
  · rw [if_neg c] at k; exact k
theorem P_cancel (S : Sim T N bs h i) (ha : In a) (k : Cont T N bs i h Q) : ZI T N 272 [vr (some bs), vi (J a), vr (some (bs + 3309))] h (fun c h1 => ZI T N 219 [vr (some (bs + 3296)), vi (J a)] h1 (fun b h2 => ZI T N 156 [vr (some (bs + 3296))] h2 (fun t h3 => Q c b t h3))) := by
  obtain ⟨v, iss, sv, n, hs, tn, tx, re, er, C, I, D, R⟩ := S
  have bb := I.1.b
  have o := C.o
  have out := C.out
  refine z272 o.1 out.1 ha (c_cancel C I D ha (fun ca h4 C4 D4 I4 F4 => Or.inl ⟨_, rfl, ?_, by omega, ?_⟩) (fun c => Or.inr ⟨rfl, ?_⟩))
  · have := rc_5 I.1 ca; unfold aheadE; split <;> omega
  · have r5 := rc_5 I.1 ca
    have O := I.1.d ca.1 ca.2
    obtain ⟨o0, o1, o2, o3, -⟩ := id O
    have hA : 0 ≤ aheadE (rc v a) ∧ aheadE (rc v a) ≤ 1 := by unfold aheadE; split <;> decide
    intro h7 z7; subst z7
    obtain ⟨C7, D7, F7, G7⟩ := tail0 (h := h) C4 D4 I4 F4 (x := (J (rc v a 5 - aheadE (rc v a))).toInt64)
    generalize sL h4 (bs + 3309) (Int.toNat 0) (J (rc v a 5 - aheadE (rc v a))).toInt64 = h7 at *
    have R7 := R.fd F7
    have e0 := R7.1 117 (by omega) (by omega)
    refine z219 C7.rt.t ha (r_isDrone C7.rt ha (by omega) (fun c1 => ⟨(fun z => absurd z (by decide)), fun _ => ?_⟩) (fun c1 => absurd (by omega) c1))
    intro h8 z8
    obtain ⟨R8, F8⟩ := R7.th (x := 0)
    rw [← z8] at R8 F8
    have e8 : ai h8 (bs + 3296) 0 = 0 := by subst z8; exact rd_eq rfl rfl (by decide)
    rw [e8]
    refine ⟨(fun z => absurd z (by decide)), fun _ => rs_keeps (C7.rt.fr F8) R8 I.2.2.2.1 fun h9 T9 F9 R9 => ?_⟩
    have hd : 0 ≤ a ∧ a < 6 := by omega
    have V9 : Rv (bs + 3296) h9 (putD v a (rc v a)) := by rw [putD_rc]; exact R9.1
    refine r_ofD T9 V9 hd (by omega) (r_aheadD T9 V9 hd (r_aheadD T9 V9 hd (r_setD T9 V9 hd (by omega) (by omega) fun h10 T10 F10 V10 => r_ofD T10 V10 hd (by omega) ?_)))
    rw [up_ne (by omega)]
    have fn : ∀ h11, FR (Vw (bs + 3296)) h10 h11 → Rv (bs + 3296) h11 (putD v a (canE (rc v a))) → ZI T N 156 [vr (some (bs + 3296))] h11 (fun t h3 => Q 0 (rc v a 5 - aheadE (rc v a)) t h3) := fun h11 F11 V11 => by
      have FF : FR (RKw (bs + 3296)) h7 h11 := ((F8.sk.tr F9.rk2).tr F10.vw.rk1).tr F11.vw.rk1
      refine fin k C7 I4 D7 F7 FF (R9.vv (F10.tr F11).vw V11) ?_ (by omega) fun _ => G7
      rw [frA F11, frA F10, F9.ai (by unfold Kw; omega)]; exact e8
    unfold canE cutE at fn
    refine ⟨fun c => r_ofD T10 V10 hd (by omega) ?_, fun c => ?_⟩
    · rw [up_ne (by omega)]
      rw [if_pos c] at fn
      exact r_setD T10 V10 hd (by omega) (by omega) fun h11 T11 F11 V11 => ⟨by omega, fn h11 F11 V11⟩
    · rw [if_neg c] at fn
      exact r_setD T10 V10 hd (by omega) (by omega) fun h11 T11 F11 V11 => ⟨by omega, fn h11 F11 V11⟩
  · have C7 := C.bm; have D7 := D.bm I; have F7 : Fcl bs h (bump h) := Fcl.bm; generalize bump h = h7 at *; have R7 := R.fd F7
    have e0 := R7.1 117 (by omega) (by omega)
    refine z219 C7.rt.t ha (r_isDrone C7.rt ha (by omega) (fun c1 => absurd (by omega) c) (fun c1 => ⟨fun _ => ?_, (fun z => absurd rfl z)⟩))
    intro h8 z8
    obtain ⟨R8, F8⟩ := R7.th (x := 1)
    rw [← z8] at R8 F8
    have e8 : ai h8 (bs + 3296) 0 = 1 := by subst z8; exact rd_eq rfl rfl (by decide)
    exact ⟨fun _ => fin k C7 I D7 F7 F8.sk R8 e8 (by decide) fun z => by omega, fun z => absurd e8 z⟩
end MUD
