/-! ADDFENCE, REMOVEFENCE -/
def refF (v : Int → Int) (c l a b : Int) : Int := if ¬ (0 ≤ c ∧ c < v 11) then 1 else if ¬ ((1 ≤ l ∧ l ≤ 7) ∧ 0 ≤ a ∧ a < b ∧ b ≤ 10000) then 2 else if v 76 = 10 then 3 else 0
section FEN
variable {T N : Nat → Nat} {bs A p q w x : Nat} {h h1 h2 h3 h7 h10 : PH} {v u sv tx e e2 : Int → Int} {hs hs2 : Int → Int → Int} {iss n tn re er d t a b l m c y : Int} {i : Nat} {K : Int → PH → Prop} {KV : PH → Prop} {KP : PR → PH → Prop} {Q : Int → Int → Int → PH → Prop} {f g : Int → Int}
theorem refF_b : refF v c l a b = 0 ∨ refF v c l a b = 1 ∨ refF v c l a b = 2 ∨ refF v c l a b = 3 := by
  unfold refF
  repeat' split
  all_goals omega
theorem refF_0 (I : Iv v) (hc : refF v c l a b = 0) : (0 ≤ c ∧ c < v 11) ∧ (1 ≤ l ∧ l ≤ 7) ∧ (0 ≤ a ∧ a < b ∧ b ≤ 10000) ∧ v 76 < 10 := by
  have bb := I.b
  unfold refF at hc
  split at hc
  · omega
  split at hc
  · omega
  split at hc
  · omega
  omega
theorem c_addFence (C : Com T N bs h i) (I : IvS v iss sv n hs tn tx re er) (D : SD T N bs h v iss sv n hs tn tx re er) (hc : In c) (hl : In l) (ha : In a) (hb : In b) (k0 : refF v c l a b = 0 → ∀ h4 m, SM (fenV v c l a b) m → Com T N bs h4 i → SD T N bs h4 (fenV v c l a b) iss sv (pushN n) (pushH n hs v) tn tx re er → IvS (fenV v c l a b) iss sv (pushN n) (pushH n hs v) tn tx re er → Fcl bs h h4 → KP (.inl (some (vi (J m)))) h4) (k1 : refF v c l a b = 1 → KP (.inr 2) (bump h)) (k2 : refF v c l a b = 2 → KP (.inr 1) (bump h)) (k3 : refF v c l a b = 3 → KP (.inr 0) (bump h)) : CALL T N 109 [vr (some bs), vi (J c), vi (J l), vi (J a), vi (J b)] h KP := by
  have bb := I.1.b
  have o := C.o
  have eb := D.1.b
  unfold refF at k0 k1 k2 k3
  refine z109 o.1 hc hl ha hb ⟨bs + 1, o.2.1, C.2.1.1.t, d_cor C.2.1.1 hc (by omega) (fun c1 => ⟨fun z => by (cases z), fun a' ea => ?_⟩) (fun c1 => ⟨fun _ => ⟨C.t0, k1 (if_pos (by omega))⟩, fun a' ea => by (cases ea)⟩)⟩
  have cc : 0 ≤ c ∧ c < v 11 := by omega
  rw [if_neg (by omega)] at k0 k2 k3
  have two : ¬ ((1 ≤ l ∧ l ≤ 7) ∧ 0 ≤ a ∧ a < b ∧ b ≤ 10000) → (∀ x, nx h ≤ x → T x = 0) ∧ KP (.inr 1) (bump h) := fun z => ⟨C.t0, k2 (if_pos z)⟩
  refine ⟨fun c2 => two (by omega), fun c2 => ⟨fun c3 => two (by omega), fun c3 => ⟨fun c4 => two (by omega), fun c4 => ⟨fun c5 => ⟨fun c6 => two (by omega), fun c6 => ⟨bs + 1, o.2.1, C.2.1.1.t, fun c7 => ⟨bs + 589, o.2.2.2.1, C.1.his.1, ?_⟩, fun c7 => ⟨C.t0, k3 ?_⟩⟩⟩, fun c5 => two (by omega)⟩⟩⟩⟩
  · rw [if_neg (by omega), if_neg (by omega)] at k0
    rw [o.2.1]
    have J := fenV_Iv I.1 (by omega) cc (show 1 ≤ l ∧ l ≤ 7 by omega) (show 0 ≤ a ∧ a < b ∧ b ≤ 10000 by omega)
    refine dv_rem C I D fun h2 C2 D2 I2 F2 g2 => ⟨bs + 1, by rw [g2]; exact o.2.1, C.2.1.1.t, d_newFen D2.1 I.1 (by omega) hc hl ha hb fun h3 F3 W3 => ?_⟩
    obtain ⟨C5, D5, I5, F5⟩ := dv_wo C2 I2 D2 F3 W3 J
    exact ⟨bs + 1, C5.o.2.1, C.2.1.1.t, d_struck W3 J fun m Sm => k0 rfl h3 m Sm C5 D5 I5 (F2.tr F5)⟩
  · rw [if_neg (by omega), if_pos (by omega)]
theorem q_addFence (T7 : RT T N A h7) (I : IvS v iss sv n hs tn tx re er) (R7 : SR A h7 v iss sv n hs tn tx re er) (hc : In c) (hl : In l) (ha : In a) (hb : In b) (k0 : refF v c l a b = 0 → ∀ h8 m, SM (fenV v c l a b) m → FR (RKw A) h7 h8 → SR A h8 (fenV v c l a b) iss sv (pushN n) (pushH n hs v) tn tx re er → ai h8 A 0 = 0 → K m h8) (k1 : refF v c l a b ≠ 0 → ∀ h8, FR (Scr A) h7 h8 → SR A h8 v iss sv n hs tn tx re er → ai h8 A 0 = refF v c l a b → K 0 h8) : ZI T N 177 [vr (some A), vi (J c), vi (J l), vi (J a), vi (J b)] h7 K := by
  have bb := I.1.b
  have n1 := T7.a1.2.1
  have e11 := R7.1 11 (by omega) (by omega)
  have e76 := R7.1 76 (by omega) (by omega)
  unfold refF at k0 k1
  refine z177 T7.t hc hl ha hb (r_isCor T7 hc (by omega) (fun c1 => ⟨(fun z => absurd z (by decide)), fun _ => ?_⟩) (fun c1 => ⟨fun _ => ?_, (fun z => absurd rfl z)⟩))
  rotate_left
  · rw [if_pos (by omega)] at k1
    intro h8 z8; obtain ⟨R8, F8⟩ := R7.th (x := 1); rw [← z8] at R8 F8; have e8 : ai h8 A 0 = 1 := (by subst z8; exact rd_eq rfl rfl (by decide)); have T8 := T7.fr F8; rw [e8]; clear z8
    exact ⟨fun _ => k1 (by decide) h8 F8 R8 e8, fun z => absurd (by decide) z⟩
  rw [if_neg (by omega)] at k0 k1
  have two : ¬ ((1 ≤ l ∧ l ≤ 7) ∧ 0 ≤ a ∧ a < b ∧ b ≤ 10000) → ∀ h8, FR (Scr A) h7 h8 → SR A h8 v iss sv n hs tn tx re er → ai h8 A 0 = 2 → K 0 h8 := fun z h8 F8 R8 e8 => by rw [if_pos z] at k1; exact k1 (by decide) h8 F8 R8 e8
  refine r_in hl (by decide) (by decide) (fun c2 => ⟨(fun z => absurd z (by decide)), fun _ => ⟨fun c3 => ?_, fun c3 => ⟨fun c4 => ⟨fun c5 => ?_, fun c5 => ⟨A + 1, T7.a1.2.2, T7.a1.1, by omega, ?_⟩⟩, fun c4 => ?_⟩⟩⟩) (fun c2 => ⟨fun _ => ?_, (fun z => absurd rfl z)⟩)
  · intro h8 z8; obtain ⟨R8, F8⟩ := R7.th (x := 2); rw [← z8] at R8 F8; have e8 : ai h8 A 0 = 2 := (by subst z8; exact rd_eq rfl rfl (by decide)); have T8 := T7.fr F8; rw [e8]; clear z8
    exact ⟨fun _ => two (by omega) h8 F8 R8 e8, fun z => absurd (by decide) z⟩
  · intro h8 z8; obtain ⟨R8, F8⟩ := R7.th (x := 2); rw [← z8] at R8 F8; have e8 : ai h8 A 0 = 2 := (by subst z8; exact rd_eq rfl rfl (by decide)); have T8 := T7.fr F8; rw [e8]; clear z8
    exact ⟨fun _ => two (by omega) h8 F8 R8 e8, fun z => absurd (by decide) z⟩
  · rw [e76]
    rw [if_neg (by omega)] at k0 k1
    refine ⟨fun c6 => ?_, fun c6 => ?_⟩
    · rw [if_pos c6] at k1
      intro h8 z8; obtain ⟨R8, F8⟩ := R7.th (x := 3); rw [← z8] at R8 F8; have e8 : ai h8 A 0 = 3 := (by subst z8; exact rd_eq rfl rfl (by decide)); have T8 := T7.fr F8; rw [e8]; clear z8
      exact ⟨fun _ => k1 (by decide) h8 F8 R8 e8, fun z => absurd (by decide) z⟩
    rw [if_neg c6] at k0
    intro h8 z8; obtain ⟨R8, F8⟩ := R7.th (x := 0); rw [← z8] at R8 F8; have e8 : ai h8 A 0 = 0 := (by subst z8; exact rd_eq rfl rfl (by decide)); have T8 := T7.fr F8; rw [e8]; clear z8
    refine ⟨(fun z => absurd z (by decide)), fun _ => rs_keeps T8 R8 I.2.2.2.1 fun h9 T9 F9 R9 => ?_⟩
    have f76 := R9.1 76 (by omega) (by omega)
    have m1 := T9.a1.2.1
    refine ⟨A + 1, T9.a1.2.2, T9.a1.1, by omega, A + 1, T9.a1.2.2, T9.a1.1, by omega, ?_⟩
    rw [f76]
    intro g4 z4
    refine ⟨A + 1, by rw [z4]; exact T9.a1.2.2, T9.a1.1, by omega, ?_⟩
    intro g5 z5
    refine ⟨A + 1, by rw [z5, z4]; exact T9.a1.2.2, T9.a1.1, by omega, ?_⟩
    intro g6 z6
    refine ⟨A + 1, by rw [z6, z5, z4]; exact T9.a1.2.2, T9.a1.1, by omega, ?_⟩
    intro g7 z7
    have gg7 : gr g7 = gr h9 := by rw [z7, z6, z5, z4]; rfl
    have G7 : FR (Vw A) h9 g7 := by rw [z7, z6, z5, z4]; exact (((FR.pw (show Vw A (A + 1) _ from rfl)).tr (FR.pw (show Vw A (A + 1) _ from rfl))).tr (FR.pw (show Vw A (A + 1) _ from rfl))).tr (FR.pw (show Vw A (A + 1) _ from rfl))
    have e7 : ai g7 (A + 1) 76 = v 76 := by rw [z7, z6, z5, z4, rd_k (by omega) (by omega) (by omega), rd_k (by omega) (by omega) (by omega), rd_k (by omega) (by omega) (by omega), rd_k (by omega) (by omega) (by omega)]; exact f76
    refine ⟨A + 1, by rw [gg7]; exact T9.a1.2.2, T9.a1.1, by omega, ?_⟩
    rw [e7]
    intro g8 z8
    have e8' : ai g8 (A + 1) 76 = v 76 + 1 := by subst z8; exact rd_eq rfl rfl (by omega)
    have G8 : FR (Vw A) h9 g8 := by subst z8; exact G7.tr (FR.pw rfl)
    have V8 : Rv A g8 (fenV v c l a b) := by
      intro j h1 h2
      unfold fenV
      by_cases c1 : j = 76
      · rw [if_pos c1, c1]; exact e8'
      rw [if_neg c1, z8, rd_k c1 h1 (by omega), z7]
      by_cases c5 : j = 77 + 4 * v 76 + 3
      · rw [if_neg (by omega), if_neg (by omega), if_neg (by omega), if_pos c5, rd_eq rfl c5 hb]
      rw [rd_k c5 h1 (by omega), z6]
      by_cases c4 : j = 77 + 4 * v 76 + 2
      · rw [if_neg (by omega), if_neg (by omega), if_pos c4, rd_eq rfl c4 ha]
      rw [rd_k c4 h1 (by omega), z5]
      by_cases c3 : j = 77 + 4 * v 76 + 1
      · rw [if_neg (by omega), if_pos c3, rd_eq rfl c3 hl]
      rw [rd_k c3 h1 (by omega), z4]
      by_cases c2 : j = 77 + 4 * v 76
      · rw [if_pos c2, rd_eq rfl c2 hc]
      rw [rd_k c2 h1 (by omega), if_neg c2, if_neg c3, if_neg c4, if_neg c5]
      exact R9.1 j h1 h2
    have J := fenV_Iv I.1 (by omega) (show 0 ≤ c ∧ c < v 11 by omega) (show 1 ≤ l ∧ l ≤ 7 by omega) (show 0 ≤ a ∧ a < b ∧ b ≤ 10000 by omega)
    refine r_strikes (T9.fr G8) V8 J fun m Sm => k0 rfl g8 m Sm ((F8.sk.tr F9.rk2).tr G8.vw.rk1) (R9.vv G8.vw V8) ?_
    rw [frA G8, F9.ai (by unfold Kw; omega)]; exact e8
  · intro h8 z8; obtain ⟨R8, F8⟩ := R7.th (x := 2); rw [← z8] at R8 F8; have e8 : ai h8 A 0 = 2 := (by subst z8; exact rd_eq rfl rfl (by decide)); have T8 := T7.fr F8; rw [e8]; clear z8
    exact ⟨fun _ => two (by omega) h8 F8 R8 e8, fun z => absurd (by decide) z⟩
  · intro h8 z8; obtain ⟨R8, F8⟩ := R7.th (x := 2); rw [← z8] at R8 F8; have e8 : ai h8 A 0 = 2 := (by subst z8; exact rd_eq rfl rfl (by decide)); have T8 := T7.fr F8; rw [e8]; clear z8
    exact ⟨fun _ => two (by omega) h8 F8 R8 e8, fun z => absurd (by decide) z⟩
theorem P_addFence (S : Sim T N bs h i) (hc : In c) (hl : In l) (ha : In a) (hb : In b) (k : Cont T N bs i h Q) : ZI T N 258 [vr (some bs), vi (J c), vi (J l), vi (J a), vi (J b), vr (some (bs + 3309))] h (fun z1 h1 => ZI T N 177 [vr (some (bs + 3296)), vi (J c), vi (J l), vi (J a), vi (J b)] h1 (fun z2 h2 => ZI T N 156 [vr (some (bs + 3296))] h2 (fun z3 h3 => Q z1 z2 z3 h3))) := by
  obtain ⟨v, iss, sv, n, hs, tn, tx, re, er, C, I, D, R⟩ := S
  have bb := I.1.b
  have o := C.o
  have out := C.out
  have bad : ∀ {h7 : PH} {d : Int}, Com T N bs h7 (i + 1) → SD T N bs h7 v iss sv n hs tn tx re er → Fcl bs h h7 → refF v c l a b = d → d ≠ 0 → ZI T N 177 [vr (some (bs + 3296)), vi (J c), vi (J l), vi (J a), vi (J b)] h7 (fun b h2 => ZI T N 156 [vr (some (bs + 3296))] h2 (fun t h3 => Q d b t h3)) := fun C7 D7 F7 hc' h0 =>
    q_addFence C7.rt I (R.fd F7) hc hl ha hb (fun z => absurd (hc'.symm.trans z) h0) (fun _ h8 F8 R8 e8 => fin k C7 I D7 F7 F8.sk R8 (e8.trans hc') (by decide) fun z => absurd z h0)
  refine z258 o.1 out.1 hc hl ha hb (c_addFence C I D hc hl ha hb (fun c0 h4 m Sm C4 D4 I4 F4 => Or.inl ⟨m, rfl, Sm.1, by omega, ?_⟩) (fun c => Or.inr (Or.inl ⟨rfl, bad C.bm (D.bm I) Fcl.bm c (by decide)⟩)) (fun c => Or.inr (Or.inr (Or.inl ⟨rfl, bad C.bm (D.bm I) Fcl.bm c (by decide)⟩))) (fun c => Or.inr (Or.inr (Or.inr ⟨rfl, bad C.bm (D.bm I) Fcl.bm c (by decide)⟩))))
  intro h7 z7; subst z7
  obtain ⟨C7, D7, F7, G7⟩ := tail0 (h := h) C4 D4 I4 F4 (x := (J m).toInt64)
  generalize sL h4 (bs + 3309) (Int.toNat 0) (J m).toInt64 = h7 at *
  exact q_addFence C7.rt I (R.fd F7) hc hl ha hb (fun _ h8 m2 Sm2 F8 R8 e8 => by rw [Sm2.un Sm]; exact fin k C7 I4 D7 F7 F8 R8 e8 Sm.1 fun _ => G7) (fun z => absurd c0 z)
/-! removeFence -/
theorem r_dropLoop (R : RT T N A h) (V : Rv A h v) (I : Iv v) (hf : 0 ≤ a ∧ a < v 76) (k : ∀ h2, RT T N A h2 → FR (Vw A) h h2 → Rv A h2 (dropV v a) → ZI T N 200 [vr (some A)] h2 K) : ∀ (m : Nat) (x : Int) (h3 : PH), x = 77 + 4 * (v 76 - 1) - m → 77 + 4 * a ≤ x → FR (Vw A) h h3 → (∀ j, 0 ≤ j → j < 449 → ai h3 (A + 1) j = if j = 76 then v 76 - 1 else if 77 + 4 * a ≤ j ∧ j < x then v (j + 4) else v j) → ZW T N 178 58 [some (vr (some A)), none, some (vi (J x))] [] h3 K := by
  have b := I.b
  intro m
  induction m with
  | zero =>
    intro x h3 hx h0 F C
    have R3 := R.fr F
    have n1 := R3.a1.2.1
    have e76 : ai h3 (A + 1) 76 = v 76 - 1 := by rw [C 76 (by omega) (by omega), if_pos rfl]
    refine z178_58 R.t (by omega) ⟨A + 1, R3.a1.2.2, R3.a1.1, by omega, ?_⟩
    rw [e76]
    refine ⟨by omega, fun c => by omega, fun c => k h3 R3 F fun j a1 a2 => ?_⟩
    rw [C j a1 a2]
    unfold dropV
    by_cases c1 : j = 76
    · rw [if_pos c1, if_pos c1]
    · rw [if_neg c1, if_neg c1]
      by_cases c2 : 77 + 4 * a ≤ j ∧ j < x
      · rw [if_pos c2, if_pos (by omega)]
      · rw [if_neg c2, if_neg (by omega)]
  | succ m ih =>
    intro x h3 hx h0 F C
    have R3 := R.fr F
    have n1 := R3.a1.2.1
    have e76 : ai h3 (A + 1) 76 = v 76 - 1 := by rw [C 76 (by omega) (by omega), if_pos rfl]
    refine z178_58 R.t (by omega) ⟨A + 1, R3.a1.2.2, R3.a1.1, by omega, ?_⟩
    rw [e76]
    refine ⟨by omega, fun c => ⟨A + 1, R3.a1.2.2, R3.a1.1, by omega, by omega, ?_⟩, fun c => absurd (by omega) c⟩
    have ev : ai h3 (A + 1) (x + 4) = v (x + 4) := by rw [C _ (by omega) (by omega), if_neg (by omega), if_neg (by omega)]
    have hi : In (v (x + 4)) := by rw [← ev]; exact ai_in _ _ _
    rw [ev]
    intro h4 z4
    refine ih (x + 1) h4 (by omega) (by omega) (by subst z4; exact F.tr (FR.pw rfl)) fun j a1 a2 => ?_
    subst z4
    by_cases c1 : j = x
    · rw [rd_eq rfl c1 hi, if_neg (by omega), if_pos (by omega), c1]
    · rw [rd_k c1 a1 (by omega), C j a1 a2]
      by_cases c2 : j = 76
      · rw [if_pos c2, if_pos c2]
      · rw [if_neg c2, if_neg c2]
        by_cases c3 : 77 + 4 * a ≤ j ∧ j < x
        · rw [if_pos c3, if_pos (by omega)]
        · rw [if_neg c3, if_neg (by omega)]
theorem q_rmFence (T7 : RT T N A h7) (I : IvS v iss sv n hs tn tx re er) (R7 : SR A h7 v iss sv n hs tn tx re er) (ha : In a) (k0 : 0 ≤ a ∧ a < v 76 → ∀ h8 m, SM (dropV v a) m → FR (RKw A) h7 h8 → SR A h8 (dropV v a) iss sv (pushN n) (pushH n hs v) tn tx re er → ai h8 A 0 = 0 → K m h8) (k1 : ¬ (0 ≤ a ∧ a < v 76) → ∀ h8, FR (Scr A) h7 h8 → SR A h8 v iss sv n hs tn tx re er → ai h8 A 0 = 1 → K 0 h8) : ZI T N 178 [vr (some A), vi (J a)] h7 K := by
  have bb := I.1.b
  have n1 := T7.a1.2.1
  refine z178 T7.t ha ⟨A + 1, T7.a1.2.2, T7.a1.1, by omega, ?_⟩
  rw [R7.1 76 (by omega) (by omega)]
  refine r_in ha (by decide) (by omega) (fun c1 => ⟨(fun z => absurd z (by decide)), fun _ => ?_⟩) (fun c1 => ⟨fun _ => ?_, (fun z => absurd rfl z)⟩)
  · have ca : 0 ≤ a ∧ a < v 76 := by omega
    intro h8 z8; obtain ⟨R8, F8⟩ := R7.th (x := 0); rw [← z8] at R8 F8; have e8 : ai h8 A 0 = 0 := (by subst z8; exact rd_eq rfl rfl (by decide)); have T8 := T7.fr F8; rw [e8]; clear z8
    refine ⟨(fun z => absurd z (by decide)), fun _ => rs_keeps T8 R8 I.2.2.2.1 fun h9 T9 F9 R9 => ?_⟩
    have f76 := R9.1 76 (by omega) (by omega)
    have m1 := T9.a1.2.1
    refine ⟨A + 1, T9.a1.2.2, T9.a1.1, by omega, ?_⟩
    rw [f76]
    intro g4 z4
    have G4 : FR (Vw A) h9 g4 := by subst z4; exact FR.pw rfl
    refine r_dropLoop T9 R9.1 I.1 ca (fun h10 T10 F10 V10 => r_strikes T10 V10 (dropV_Iv I.1 ca) fun m Sm => k0 ca h10 m Sm ((F8.sk.tr F9.rk2).tr F10.vw.rk1) (R9.vv F10.vw V10) ?_) (4 * (v 76 - 1 - a)).toNat (77 + 4 * a) g4 (by omega) (by omega) G4 fun j a1 a2 => ?_
    · rw [frA F10, F9.ai (by unfold Kw; omega)]; exact e8
    · subst z4
      by_cases c2 : j = 76
      · rw [rd_eq rfl c2 (by omega), if_pos c2]
      · rw [rd_k c2 a1 (by omega), if_neg c2, if_neg (by omega)]; exact R9.1 j a1 a2
  · intro h8 z8; obtain ⟨R8, F8⟩ := R7.th (x := 1); rw [← z8] at R8 F8; have e8 : ai h8 A 0 = 1 := (by subst z8; exact rd_eq rfl rfl (by decide)); have T8 := T7.fr F8; rw [e8]; clear z8
    exact ⟨fun _ => k1 (by omega) h8 F8 R8 e8, fun z => absurd rfl z⟩
theorem P_removeFence (S : Sim T N bs h i) (ha : In a) (k : Cont T N bs i h Q) : ZI T N 259 [vr (some bs), vi (J a), vr (some (bs + 3309))] h (fun z1 h1 => ZI T N 178 [vr (some (bs + 3296)), vi (J a)] h1 (fun z2 h2 => ZI T N 156 [vr (some (bs + 3296))] h2 (fun z3 h3 => Q z1 z2 z3 h3))) := by
  obtain ⟨v, iss, sv, n, hs, tn, tx, re, er, C, I, D, R⟩ := S; have b := I.1.b; have o := C.o; have out := C.out
  have eb := D.1.b
  refine z259 o.1 out.1 ha (z110 o.1 ha ⟨bs + 1, o.2.1, C.2.1.1.t, d_fen C.2.1.1 ha (by omega) (fun c1 => ⟨fun z => by (cases z), fun a' ea => ⟨bs + 589, o.2.2.2.1, C.1.his.1, ?_⟩⟩) (fun c1 => ⟨fun _ => ⟨C.t0, Or.inr ⟨rfl, ?_⟩⟩, fun a' ea => by (cases ea)⟩)⟩)
  · have ca : 0 ≤ a ∧ a < v 76 := by omega
    have JJ := dropV_Iv I.1 ca
    rw [o.2.1]
    refine dv_rem C I D fun h2 C2 D2 I2 F2 g2 => ⟨bs + 1, by rw [g2]; exact o.2.1, C.2.1.1.t, d_dropFen D2.1 I.1 ca fun h3 F3 W3 => ?_⟩
    obtain ⟨C5, D5, I5, F5⟩ := dv_wo C2 I2 D2 F3 W3 JJ
    refine ⟨bs + 1, C5.o.2.1, C.2.1.1.t, d_struck W3 JJ fun m Sm => Or.inl ⟨m, rfl, Sm.1, by omega, ?_⟩⟩
    intro h7 z7; subst z7
    obtain ⟨C7, D7, F7, G7⟩ := tail0 (h := h) C5 D5 I5 (F2.tr F5) (x := (J m).toInt64)
    generalize sL h3 (bs + 3309) (Int.toNat 0) (J m).toInt64 = h7 at *
    exact q_rmFence C7.rt I (R.fd F7) ha (fun _ h8 m2 Sm2 F8 R8 e8 => by rw [Sm2.un Sm]; exact fin k C7 I5 D7 F7 F8 R8 e8 Sm.1 fun _ => G7) (fun z => absurd ca z)
  · have C7 := C.bm; have D7 := D.bm I; have F7 : Fcl bs h (bump h) := Fcl.bm; generalize bump h = h7 at *; have R7 := R.fd F7
    exact q_rmFence C7.rt I R7 ha (fun z => by omega) (fun _ h8 F8 R8 e8 => fin k C7 I D7 F7 F8.sk R8 e8 (by decide) fun z => by omega)
end FEN
