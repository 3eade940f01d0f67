/-! DRAIN, SETWIND -/
section DRA
variable {T N : Nat → Nat} {bs A w : Nat} {h h1 h2 h3 h7 h10 : PH} {v u sv tx e e2 : Int → Int} {hs hs2 : Int → Int → Int} {iss n tn re er d t a b l m : Int} {i : Nat} {K : Int → PH → Prop} {KV : PH → Prop} {KP : PR → PH → Prop} {Q : Int → Int → Int → PH → Prop} {f g : Int → Int}
def leftE (e : Int → Int) (m : Int) : Int := if e 1 - m < (if e 0 = 2 ∧ 0 < e 1 then 1 else 0) then (if e 0 = 2 ∧ 0 < e 1 then 1 else 0) else e 1 - m
theorem leftE_b (O : drOK v t e) (hm : 1 ≤ m) : 0 ≤ leftE e m ∧ leftE e m ≤ e 1 := by
  obtain ⟨o0, o1, -⟩ := O
  unfold leftE
  by_cases c : e 0 = 2 ∧ 0 < e 1
  · rw [if_pos c]; split <;> omega
  · rw [if_neg c]; split <;> omega
theorem drainE_eq : drainE e m = if e 0 = 1 ∧ leftE e m = 0 then loseE (up (up e 1 (leftE e m)) 12 (e 12 + e 1 - leftE e m)) else up (up e 1 (leftE e m)) 12 (e 12 + e 1 - leftE e m) := rfl
theorem drainE_OK (O : drOK v t e) (hm : 1 ≤ m) : drOK v t (drainE e m) := by
  have hb := leftE_b O hm
  obtain ⟨o0, o1, o2, o3, o4, o5, o6, o7, o8, o9, o10, o11, o12, os, oa, ob, oc, ol⟩ := id O
  rw [drainE_eq]
  generalize leftE e m = L at *
  by_cases c : e 0 = 1 ∧ L = 0
  · rw [if_pos c]
    unfold loseE
    refine ⟨by first | (simp (disch := first | omega | exact ai_in _ _ _) only [rd_eq, rd_a, rd_k, up_eq, up_ne, ]; omega) | (intro _; simp (disch := first | omega | exact ai_in _ _ _) only [rd_eq, rd_a, rd_k, up_eq, up_ne, ]), by first | (simp (disch := first | omega | exact ai_in _ _ _) only [rd_eq, rd_a, rd_k, up_eq, up_ne, ]; omega) | (intro _; simp (disch := first | omega | exact ai_in _ _ _) only [rd_eq, rd_a, rd_k, up_eq, up_ne, ]), by first | (simp (disch := first | omega | exact ai_in _ _ _) only [rd_eq, rd_a, rd_k, up_eq, up_ne, ]; omega) | (intro _; simp (disch := first | omega | exact ai_in _ _ _) only [rd_eq, rd_a, rd_k, up_eq, up_ne, ]), by first | (simp (disch := first | omega | exact ai_in _ _ _) only [rd_eq, rd_a, rd_k, up_eq, up_ne, ]; omega) | (intro _; simp (disch := first | omega | exact ai_in _ _ _) only [rd_eq, rd_a, rd_k, up_eq, up_ne, ]), by first | (simp (disch := first | omega | exact ai_in _ _ _) only [rd_eq, rd_a, rd_k, up_eq, up_ne, ]; omega) | (intro _; simp (disch := first | omega | exact ai_in _ _ _) only [rd_eq, rd_a, rd_k, up_eq, up_ne, ]), by first | (simp (disch := first | omega | exact ai_in _ _ _) only [rd_eq, rd_a, rd_k, up_eq, up_ne, ]; omega) | (intro _; simp (disch := first | omega | exact ai_in _ _ _) only [rd_eq, rd_a, rd_k, up_eq, up_ne, ]), by first | (simp (disch := first | omega | exact ai_in _ _ _) only [rd_eq, rd_a, rd_k, up_eq, up_ne, ]; omega) | (intro _; simp (disch := first | omega | exact ai_in _ _ _) only [rd_eq, rd_a, rd_k, up_eq, up_ne, ]), by first | (simp (disch := first | omega | exact ai_in _ _ _) only [rd_eq, rd_a, rd_k, up_eq, up_ne, ]; omega) | (intro _; simp (disch := first | omega | exact ai_in _ _ _) only [rd_eq, rd_a, rd_k, up_eq, up_ne, ]), by first | (simp (disch := first | omega | exact ai_in _ _ _) only [rd_eq, rd_a, rd_k, up_eq, up_ne, ]; omega) | (intro _; simp (disch := first | omega | exact ai_in _ _ _) only [rd_eq, rd_a, rd_k, up_eq, up_ne, ]), by first | (simp (disch := first | omega | exact ai_in _ _ _) only [rd_eq, rd_a, rd_k, up_eq, up_ne, ]; omega) | (intro _; simp (disch := first | omega | exact ai_in _ _ _) only [rd_eq, rd_a, rd_k, up_eq, up_ne, ]), by first | (simp (disch := first | omega | exact ai_in _ _ _) only [rd_eq, rd_a, rd_k, up_eq, up_ne, ]; omega) | (intro _; simp (disch := first | omega | exact ai_in _ _ _) only [rd_eq, rd_a, rd_k, up_eq, up_ne, ]), by first | (simp (disch := first | omega | exact ai_in _ _ _) only [rd_eq, rd_a, rd_k, up_eq, up_ne, ]; omega) | (intro _; simp (disch := first | omega | exact ai_in _ _ _) only [rd_eq, rd_a, rd_k, up_eq, up_ne, ]), by first | (simp (disch := first | omega | exact ai_in _ _ _) only [rd_eq, rd_a, rd_k, up_eq, up_ne, ]; omega) | (intro _; simp (disch := first | omega | exact ai_in _ _ _) only [rd_eq, rd_a, rd_k, up_eq, up_ne, ]), by first | (simp (disch := first | omega | exact ai_in _ _ _) only [rd_eq, rd_a, rd_k, up_eq, up_ne, ]; omega) | (intro _; simp (disch := first | omega | exact ai_in _ _ _) only [rd_eq, rd_a, rd_k, up_eq, up_ne, ]), by first | (simp (disch := first | omega | exact ai_in _ _ _) only [rd_eq, rd_a, rd_k, up_eq, up_ne, ]; omega) | (intro _; simp (disch := first | omega | exact ai_in _ _ _) only [rd_eq, rd_a, rd_k, up_eq, up_ne, ]), by first | (simp (disch := first | omega | exact ai_in _ _ _) only [rd_eq, rd_a, rd_k, up_eq, up_ne, ]; omega) | (intro _; simp (disch := first | omega | exact ai_in _ _ _) only [rd_eq, rd_a, rd_k, up_eq, up_ne, ]), by first | (simp (disch := first | omega | exact ai_in _ _ _) only [rd_eq, rd_a, rd_k, up_eq, up_ne, ]; omega) | (intro _; simp (disch := first | omega | exact ai_in _ _ _) only [rd_eq, rd_a, rd_k, up_eq, up_ne, ]), fun i h1 h2 => ?_⟩
    rw [up_eq rfl] at h2; omega
  · rw [if_neg c]
    refine ⟨by first | (simp (disch := first | omega | exact ai_in _ _ _) only [rd_eq, rd_a, rd_k, up_eq, up_ne, ]; omega) | (intro _; simp (disch := first | omega | exact ai_in _ _ _) only [rd_eq, rd_a, rd_k, up_eq, up_ne, ]), by first | (simp (disch := first | omega | exact ai_in _ _ _) only [rd_eq, rd_a, rd_k, up_eq, up_ne, ]; omega) | (intro _; simp (disch := first | omega | exact ai_in _ _ _) only [rd_eq, rd_a, rd_k, up_eq, up_ne, ]), by first | (simp (disch := first | omega | exact ai_in _ _ _) only [rd_eq, rd_a, rd_k, up_eq, up_ne, ]; omega) | (intro _; simp (disch := first | omega | exact ai_in _ _ _) only [rd_eq, rd_a, rd_k, up_eq, up_ne, ]), by first | (simp (disch := first | omega | exact ai_in _ _ _) only [rd_eq, rd_a, rd_k, up_eq, up_ne, ]; omega) | (intro _; simp (disch := first | omega | exact ai_in _ _ _) only [rd_eq, rd_a, rd_k, up_eq, up_ne, ]), by first | (simp (disch := first | omega | exact ai_in _ _ _) only [rd_eq, rd_a, rd_k, up_eq, up_ne, ]; omega) | (intro _; simp (disch := first | omega | exact ai_in _ _ _) only [rd_eq, rd_a, rd_k, up_eq, up_ne, ]), by first | (simp (disch := first | omega | exact ai_in _ _ _) only [rd_eq, rd_a, rd_k, up_eq, up_ne, ]; omega) | (intro _; simp (disch := first | omega | exact ai_in _ _ _) only [rd_eq, rd_a, rd_k, up_eq, up_ne, ]), by first | (simp (disch := first | omega | exact ai_in _ _ _) only [rd_eq, rd_a, rd_k, up_eq, up_ne, ]; omega) | (intro _; simp (disch := first | omega | exact ai_in _ _ _) only [rd_eq, rd_a, rd_k, up_eq, up_ne, ]), by first | (simp (disch := first | omega | exact ai_in _ _ _) only [rd_eq, rd_a, rd_k, up_eq, up_ne, ]; omega) | (intro _; simp (disch := first | omega | exact ai_in _ _ _) only [rd_eq, rd_a, rd_k, up_eq, up_ne, ]), by first | (simp (disch := first | omega | exact ai_in _ _ _) only [rd_eq, rd_a, rd_k, up_eq, up_ne, ]; omega) | (intro _; simp (disch := first | omega | exact ai_in _ _ _) only [rd_eq, rd_a, rd_k, up_eq, up_ne, ]), by first | (simp (disch := first | omega | exact ai_in _ _ _) only [rd_eq, rd_a, rd_k, up_eq, up_ne, ]; omega) | (intro _; simp (disch := first | omega | exact ai_in _ _ _) only [rd_eq, rd_a, rd_k, up_eq, up_ne, ]), by first | (simp (disch := first | omega | exact ai_in _ _ _) only [rd_eq, rd_a, rd_k, up_eq, up_ne, ]; omega) | (intro _; simp (disch := first | omega | exact ai_in _ _ _) only [rd_eq, rd_a, rd_k, up_eq, up_ne, ]), by first | (simp (disch := first | omega | exact ai_in _ _ _) only [rd_eq, rd_a, rd_k, up_eq, up_ne, ]; omega) | (intro _; simp (disch := first | omega | exact ai_in _ _ _) only [rd_eq, rd_a, rd_k, up_eq, up_ne, ]), by first | (simp (disch := first | omega | exact ai_in _ _ _) only [rd_eq, rd_a, rd_k, up_eq, up_ne, ]; omega) | (intro _; simp (disch := first | omega | exact ai_in _ _ _) only [rd_eq, rd_a, rd_k, up_eq, up_ne, ]), by first | (simp (disch := first | omega | exact ai_in _ _ _) only [rd_eq, rd_a, rd_k, up_eq, up_ne, ]; omega) | (intro _; simp (disch := first | omega | exact ai_in _ _ _) only [rd_eq, rd_a, rd_k, up_eq, up_ne, ]), by first | (simp (disch := first | omega | exact ai_in _ _ _) only [rd_eq, rd_a, rd_k, up_eq, up_ne, ]; omega) | (intro _; simp (disch := first | omega | exact ai_in _ _ _) only [rd_eq, rd_a, rd_k, up_eq, up_ne, ]), by first | (simp (disch := first | omega | exact ai_in _ _ _) only [rd_eq, rd_a, rd_k, up_eq, up_ne, ]; omega) | (intro _; simp (disch := first | omega | exact ai_in _ _ _) only [rd_eq, rd_a, rd_k, up_eq, up_ne, ]), by first | (simp (disch := first | omega | exact ai_in _ _ _) only [rd_eq, rd_a, rd_k, up_eq, up_ne, ]; omega) | (intro _; simp (disch := first | omega | exact ai_in _ _ _) only [rd_eq, rd_a, rd_k, up_eq, up_ne, ]), fun i h1 h2 => ?_⟩
    rw [up_ne (by omega), up_ne (by omega)] at h2 ⊢; exact ol i h1 h2
theorem drainE_1 : drainE e m 1 = leftE e m := by
  rw [drainE_eq]
  split
  · unfold loseE; simp (disch := first | omega | exact ai_in _ _ _) only [rd_eq, rd_a, rd_k, up_eq, up_ne, ]
  · simp (disch := first | omega | exact ai_in _ _ _) only [rd_eq, rd_a, rd_k, up_eq, up_ne, ]
def refR (v : Int → Int) (a m : Int) : Int := if ¬ (0 ≤ a ∧ a < v 117) then 1 else if ¬ (1 ≤ m ∧ m ≤ 200) then 2 else if rc v a 0 = 3 then 3 else 0
theorem c_drain (C : Com T N bs h i) (I : IvS v iss sv n hs tn tx re er) (D : SD T N bs h v iss sv n hs tn tx re er) (ha : In a) (hm : In m) (k0 : refR v a m = 0 → ∀ h4, Com T N bs h4 i → SD T N bs h4 (putD v a (drainE (rc v a) m)) iss sv (pushN n) (pushH n hs v) tn tx re er → IvS (putD v a (drainE (rc v a) m)) iss sv (pushN n) (pushH n hs v) tn tx re er → Fcl bs h h4 → KP (.inl (some (vi (J (leftE (rc v a) m))))) h4) (k1 : refR v a m = 1 → KP (.inr 2) (bump h)) (k2 : refR v a m = 2 → KP (.inr 1) (bump h)) (k3 : refR v a m = 3 → KP (.inr 0) (bump h)) : CALL T N 124 [vr (some bs), vi (J a), vi (J m)] h KP := by
  have bb := I.1.b
  have o := C.o
  have eb := D.1.b
  unfold refR at k0 k1 k2 k3
  refine z124 o.1 ha hm ⟨bs + 1, o.2.1, C.2.1.1.t, d_dro C.2.1.1 ha (by omega) (fun c1 => ⟨fun z => by (cases z), fun a' ea => ?_⟩) (fun c1 => ⟨fun _ => ⟨C.t0, k1 (if_pos (by omega))⟩, fun a' ea => by (cases ea)⟩)⟩
  cases ea
  have ca : 0 ≤ a ∧ a < v 117 := by omega
  rw [if_neg (by omega)] at k0 k2 k3
  refine ⟨fun c2 => ⟨C.t0, k2 (if_pos (by omega))⟩, fun c2 => ⟨fun c3 => ⟨C.t0, k2 (if_pos (by omega))⟩, fun c3 => ?_⟩⟩
  rw [if_neg (by omega)] at k0 k3
  have Dt := (C.2.1.1.d (c := a) (by omega)).2
  have O := I.1.d ca.1 ca.2
  have Dd := D.1.d ca.1 ca.2
  rw [Dd.1.1]
  refine ⟨Dt.t, fun c4 => ⟨C.t0, k3 (if_pos c4)⟩, fun c4 => ⟨bs + 589, o.2.2.2.1, C.1.his.1, ?_⟩⟩
  rw [if_neg c4] at k0
  rw [o.2.1]
  refine dv_rem C I D fun h2 C2 D2 I2 F2 g2 => d_loseTo (Dt.to g2) O (by omega) (D2.1.d ca.1 ca.2) (by omega) fun h3 F3 g3 G3 => ?_
  have Ok := drainE_OK O (m := m) (by omega)
  obtain ⟨C5, D5, I5, F5⟩ := dv_put C2 I2 D2 ca F3 (Dt.to (g3.trans g2)) G3 Ok
  rw [G3.1.2.1, drainE_1]
  exact k0 rfl h3 C5 D5 I5 (F2.tr F5)
theorem refR_b : refR v a m = 0 ∨ refR v a m = 1 ∨ refR v a m = 2 ∨ refR v a m = 3 := by
  unfold refR
  repeat' split
  all_goals omega
theorem refR_0 (hc : refR v a m = 0) : (0 ≤ a ∧ a < v 117) ∧ (1 ≤ m ∧ m ≤ 200) ∧ rc v a 0 ≠ 3 := by
  unfold refR at hc
  split at hc
  · omega
  split at hc
  · omega
  split at hc
  · omega
  rename_i c1 c2 c3
  exact ⟨Classical.not_not.mp c1, Classical.not_not.mp c2, c3⟩
theorem r_drain1 (R : RT T N A h) (S : SR A h v iss sv n hs tn tx re er) (ca : 0 ≤ a ∧ a < 6) (O : drOK v t (rc v a)) (ht : t ≤ 10100) {L : Int} (hL : 0 ≤ L ∧ L ≤ 200) (k : ∀ h2, RT T N A h2 → FR (Vw A) h h2 → Rv A h2 (putD v a (up (up (rc v a) 1 L) 12 (rc v a 12 + rc v a 1 - L))) → K (rc v a 0) h2) : CV T N 169 [vr (some A), vi (J a), vi (J 1), vi (J L)] h (fun h_4 => (ZI T N 168 [vr (some A), vi (J a), vi (J 12)] h_4 (fun x_8 h_7 => (CV T N 169 [vr (some A), vi (J a), vi (J 12), vi (J ((x_8 + rc v a 1) - L))] h_7 (fun h_11 => (ZI T N 168 [vr (some A), vi (J a), vi (J 0)] h_11 K)))))) := by
  obtain ⟨o0, o1, o2, o3, o4, o5, o6, o7, o8, o9, o10, o11, o12, os, oa, ob, oc, ol⟩ := id O
  have V : Rv A h (putD v a (rc v a)) := by rw [putD_rc]; exact S.1
  have e12 : rc v a 12 ≤ 100000 := by omega
  refine r_setD R V ca (by omega) (by omega) fun h3 R3 F3 V3 => r_ofD R3 V3 ca (by omega) ?_
  rw [up_ne (by omega)]
  refine r_setD R3 V3 ca (by omega) (by omega) fun h4 R4 F4 V4 => r_ofD R4 V4 ca (by omega) ?_
  rw [up_ne (by omega), up_ne (by omega)]
  exact k h4 R4 (F3.tr F4) V4
theorem q_drain (T7 : RT T N A h7) (I : IvS v iss sv n hs tn tx re er) (R7 : SR A h7 v iss sv n hs tn tx re er) (ha : In a) (hm : In m) (k0 : refR v a m = 0 → ∀ h8, FR (RKw A) h7 h8 → SR A h8 (putD v a (drainE (rc v a) m)) iss sv (pushN n) (pushH n hs v) tn tx re er → ai h8 A 0 = 0 → K (leftE (rc v a) m) h8) (k1 : refR v a m ≠ 0 → ∀ h8, FR (Scr A) h7 h8 → SR A h8 v iss sv n hs tn tx re er → ai h8 A 0 = refR v a m → K 0 h8) : ZI T N 221 [vr (some A), vi (J a), vi (J m)] h7 K := by
  have bb := I.1.b
  have e0 := R7.1 117 (by omega) (by omega)
  unfold refR at k0 k1
  refine z221 T7.t ha hm (r_isDrone T7 ha (by omega) (fun c1 => ⟨(fun z => absurd z (by decide)), fun _ => ?_⟩) (fun c1 => ⟨fun _ => ?_, (fun z => absurd rfl z)⟩))
  rotate_left
  · rw [if_pos (by omega)] at k1
    intro h8 z8; obtain ⟨R8, F8⟩ := R7.th (x := 1); rw [← z8] at R8 F8; have e8 : ai h8 A 0 = 1 := (by subst z8; exact rd_eq rfl rfl (by decide)); have T8 := T7.fr F8; rw [e8]; clear z8
    exact ⟨fun _ => k1 (by decide) h8 F8 R8 e8, fun z => absurd (by decide) z⟩
  rw [if_neg (by omega)] at k0 k1
  have ca : 0 ≤ a ∧ a < v 117 := by omega
  have hd : 0 ≤ a ∧ a < 6 := by omega
  refine r_in hm (by decide) (by decide) (fun c2 => ⟨(fun z => absurd z (by decide)), fun _ => ?_⟩) (fun c2 => ⟨fun _ => ?_, (fun z => absurd rfl z)⟩)
  rotate_left
  · rw [if_pos (by omega)] at k1
    intro h8 z8; obtain ⟨R8, F8⟩ := R7.th (x := 2); rw [← z8] at R8 F8; have e8 : ai h8 A 0 = 2 := (by subst z8; exact rd_eq rfl rfl (by decide)); have T8 := T7.fr F8; rw [e8]; clear z8
    exact ⟨fun _ => k1 (by decide) h8 F8 R8 e8, fun z => absurd (by decide) z⟩
  rw [if_neg (by omega)] at k0 k1
  have V7 : Rv A h7 (putD v a (rc v a)) := by rw [putD_rc]; exact R7.1
  refine r_ofD T7 V7 hd (by omega) ⟨fun c3 => ?_, fun c3 => ?_⟩
  · rw [if_pos c3] at k1
    intro h8 z8; obtain ⟨R8, F8⟩ := R7.th (x := 3); rw [← z8] at R8 F8; have e8 : ai h8 A 0 = 3 := (by subst z8; exact rd_eq rfl rfl (by decide)); have T8 := T7.fr F8; rw [e8]; clear z8
    exact ⟨fun _ => k1 (by decide) h8 F8 R8 e8, fun z => absurd (by decide) z⟩
  rw [if_neg c3] at k0
  intro h8 z8; obtain ⟨R8, F8⟩ := R7.th (x := 0); rw [← z8] at R8 F8; have e8 : ai h8 A 0 = 0 := (by subst z8; exact rd_eq rfl rfl (by decide)); have T8 := T7.fr F8; rw [e8]; clear z8
  refine ⟨(fun z => absurd z (by decide)), fun _ => rs_keeps T8 R8 I.2.2.2.1 fun h9 T9 F9 R9 => ?_⟩
  have V9 : Rv A h9 (putD v a (rc v a)) := by rw [putD_rc]; exact R9.1
  have O := I.1.d ca.1 ca.2
  have OO := O
  obtain ⟨o0, o1, o2, o3, o4, o5, o6, o7, o8, o9, o10, o11, o12, os, oa, ob, oc, ol⟩ := OO
  have fn : ∀ h10, FR (Vw A) h9 h10 → Rv A h10 (putD v a (drainE (rc v a) m)) → ZW T N 221 152 [none, none, none, none, none, some (vi (J (leftE (rc v a) m)))] [] h10 K := fun h10 F10 V10 => by
    have := leftE_b O c2.1
    refine z221_152 (by omega) (k0 rfl h10 ((F8.sk.tr F9.rk2).tr F10.vw.rk1) (R9.vv F10.vw V10) ?_)
    rw [frA F10, F9.ai (by unfold Kw; omega)]; exact e8
  rw [drainE_eq] at fn
  have lose : ∀ {g3 : PH} {L : Int}, leftE (rc v a) m = L → RT T N A g3 → FR (Vw A) h9 g3 → Rv A g3 (putD v a (up (up (rc v a) 1 L) 12 (rc v a 12 + rc v a 1 - L))) → rc v a 0 = 1 → L = 0 → CV T N 220 [vr (some A), vi (J a)] g3 (fun h_20 => (ZW T N 221 152 [none, none, none, none, none, some (vi (J L))] [] h_20 K)) := fun hL R4 F4 V4 c c2 => by
    rw [hL, if_pos ⟨c, c2⟩] at fn
    exact r_loses R4 V4 hd fun h5 R5 F5 V5 => fn h5 (F4.tr F5) V5
  have keep : ∀ {g3 : PH} {L : Int}, leftE (rc v a) m = L → FR (Vw A) h9 g3 → Rv A g3 (putD v a (up (up (rc v a) 1 L) 12 (rc v a 12 + rc v a 1 - L))) → ¬ (rc v a 0 = 1 ∧ L = 0) → ZW T N 221 152 [none, none, none, none, none, some (vi (J L))] [] g3 K := fun hL F4 V4 c => by
    rw [hL, if_neg c] at fn
    exact fn _ F4 V4
  have p84 : ¬ (rc v a 0 = 2 ∧ 0 < rc v a 1) → ZW T N 221 84 [some (vr (some A)), some (vi (J a)), some (vi (J m)), some (vi (J (rc v a 1))), none, none] [] h9 K := fun cc => by
    have eL : leftE (rc v a) m = if rc v a 1 - m < 0 then 0 else rc v a 1 - m := by unfold leftE; rw [if_neg cc]
    refine z221_84 T9.t ha hm (by omega) ⟨by omega, fun c4 => ?_, fun c4 => ?_⟩
    · rw [if_pos c4] at eL
      exact r_drain1 T9 R9 hd O (by omega) (by omega) fun h10 T10 F10 V10 => ⟨fun c5 => lose eL T10 F10 V10 c5 rfl, fun c5 => keep eL F10 V10 fun z => c5 z.1⟩
    · rw [if_neg c4] at eL
      exact r_drain1 T9 R9 hd O (by omega) (by omega) fun h10 T10 F10 V10 => ⟨fun c5 => ⟨fun c6 => lose eL T10 F10 V10 c5 c6, fun c6 => keep eL F10 V10 fun z => c6 z.2⟩, fun c5 => keep eL F10 V10 fun z => c5 z.1⟩
  refine r_ofD T9 V9 hd (by omega) (r_ofD T9 V9 hd (by omega) ⟨fun c4 => ⟨fun c5 => ⟨by omega, fun c6 => ?_, fun c6 => ?_⟩, fun c5 => p84 fun z => c5 z.2⟩, fun c4 => p84 fun z => c4 z.1⟩)
  · have eL : leftE (rc v a) m = 1 := by unfold leftE; rw [if_pos (show rc v a 0 = 2 ∧ 0 < rc v a 1 from ⟨c4, c5⟩), if_pos c6]
    exact r_drain1 T9 R9 hd O (by omega) (by omega) fun h10 T10 F10 V10 => ⟨fun c7 => keep eL F10 V10 (by omega), fun c7 => keep eL F10 V10 (by omega)⟩
  · have eL : leftE (rc v a) m = rc v a 1 - m := by unfold leftE; rw [if_pos (show rc v a 0 = 2 ∧ 0 < rc v a 1 from ⟨c4, c5⟩), if_neg c6]
    exact r_drain1 T9 R9 hd O (by omega) (by omega) fun h10 T10 F10 V10 => ⟨fun c7 => ⟨fun c8 => lose eL T10 F10 V10 c7 c8, fun c8 => keep eL F10 V10 fun z => c8 z.2⟩, fun c7 => keep eL F10 V10 fun z => c7 z.1⟩
theorem P_drain (S : Sim T N bs h i) (ha : In a) (hm : In m) (k : Cont T N bs i h Q) : ZI T N 273 [vr (some bs), vi (J a), vi (J m), vr (some (bs + 3309))] h (fun c h1 => ZI T N 221 [vr (some (bs + 3296)), vi (J a), vi (J m)] h1 (fun b h2 => ZI T N 156 [vr (some (bs + 3296))] h2 (fun t h3 => Q c b t h3))) := by
  obtain ⟨v, iss, sv, n, hs, tn, tx, re, er, C, I, D, R⟩ := S
  have bb := I.1.b
  have o := C.o
  have out := C.out
  have bad : ∀ {h7 : PH} {c : Int}, Com T N bs h7 (i + 1) → SD T N bs h7 v iss sv n hs tn tx re er → Fcl bs h h7 → refR v a m = c → c ≠ 0 → ZI T N 221 [vr (some (bs + 3296)), vi (J a), vi (J m)] h7 (fun b h2 => ZI T N 156 [vr (some (bs + 3296))] h2 (fun t h3 => Q c b t h3)) := fun C7 D7 F7 hc h0 =>
    q_drain C7.rt I (R.fd F7) ha hm (fun z => absurd (hc.symm.trans z) h0) (fun _ h8 F8 R8 e8 => fin k C7 I D7 F7 F8.sk R8 (e8.trans hc) (by decide) fun z => absurd z h0)
  refine z273 o.1 out.1 ha hm (c_drain C I D ha hm (fun c0 h4 C4 D4 I4 F4 => Or.inl ⟨_, rfl, ?_, by omega, ?_⟩) (fun c => Or.inr (Or.inl ⟨rfl, bad C.bm (D.bm I) Fcl.bm c (by decide)⟩)) (fun c => Or.inr (Or.inr (Or.inl ⟨rfl, bad C.bm (D.bm I) Fcl.bm c (by decide)⟩))) (fun c => Or.inr (Or.inr (Or.inr ⟨rfl, bad C.bm (D.bm I) Fcl.bm c (by decide)⟩))))
  · obtain ⟨q1, q2, q3⟩ := refR_0 c0
    have O := I.1.d q1.1 q1.2
    have := leftE_b O q2.1
    have := O.2.1
    omega
  · obtain ⟨q1, q2, q3⟩ := refR_0 c0
    have O := I.1.d q1.1 q1.2
    have lb := leftE_b O q2.1
    have lc := O.2.1
    intro h7 z7; subst z7
    obtain ⟨C7, D7, F7, G7⟩ := tail0 (h := h) C4 D4 I4 F4 (x := (J (leftE (rc v a) m)).toInt64)
    generalize sL h4 (bs + 3309) (Int.toNat 0) (J (leftE (rc v a) m)).toInt64 = h7 at *
    exact q_drain C7.rt I (R.fd F7) ha hm (fun _ h8 F8 R8 e8 => fin k C7 I4 D7 F7 F8 R8 e8 (by omega) fun _ => G7) (fun z => absurd c0 z)
end DRA
