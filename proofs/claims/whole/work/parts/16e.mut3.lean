/-! ADVANCE, CLEAR, UNDO, SAVE, RESTORE -/
section MU3
variable {T N : Nat → Nat} {bs A p q : Nat} {h h1 h2 h3 h7 h10 : PH} {v u sv tx e e2 : Int → Int} {hs hs2 : Int → Int → Int} {iss n tn re er d t a b l m w c : Int} {i : Nat} {K : Int → PH → Prop} {KV : PH → Prop} {KP : PR → PH → Prop} {Q : Int → Int → Int → PH → Prop} {f g : Int → Int}
def refT (v : Int → Int) (a : Int) : Int := if ¬ (1 ≤ a ∧ a ≤ 40) then 1 else if 10000 < v 448 + a then 2 else 0
theorem refT_b : refT v a = 0 ∨ refT v a = 1 ∨ refT v a = 2 := by
  unfold refT
  repeat' split
  all_goals omega
theorem refT_0 (hc : refT v a = 0) : (1 ≤ a ∧ a ≤ 40) ∧ v 448 + a ≤ 10000 := by
  unfold refT at hc
  split at hc
  · omega
  split at hc
  · omega
  omega
theorem c_adv (C : Com T N bs h i) (I : IvS v iss sv n hs tn tx re er) (D : SD T N bs h v iss sv n hs tn tx re er) (ha : In a) (k0 : refT v a = 0 → ∀ h4, Com T N bs h4 i → SD T N bs h4 (tickN v a.toNat) iss sv (pushN n) (pushH n hs v) tn tx re er → IvS (tickN v a.toNat) iss sv (pushN n) (pushH n hs v) tn tx re er → Fcl bs h h4 → KP (.inl (some (vi (J (lanN v a.toNat))))) h4) (k1 : refT v a = 1 → KP (.inr 1) (bump h)) (k2 : refT v a = 2 → KP (.inr 0) (bump h)) : CALL T N 130 [vr (some bs), vi (J a)] h KP := by
  have bb := I.1.b
  have o := C.o
  have eb := D.1.b
  unfold refT at k0 k1 k2
  refine z130 o.1 ha ⟨fun c1 => ⟨C.t0, k1 (if_pos (by omega))⟩, fun c1 => ⟨fun c2 => ⟨C.t0, k1 (if_pos (by omega))⟩, fun c2 => ⟨bs + 1, o.2.1, C.2.1.1.t, by omega, fun c3 => ⟨C.t0, k2 ?_⟩, fun c3 => ⟨bs + 589, o.2.2.2.1, C.1.his.1, ?_⟩⟩⟩⟩
  · rw [if_neg (by omega), if_pos (by omega)]
  · rw [if_neg (by omega), if_neg (by omega)] at k0
    rw [o.2.1]
    obtain ⟨m, rfl⟩ : ∃ m : Nat, a = (m : Int) := ⟨a.toNat, by omega⟩
    rw [show ((m : Nat) : Int).toNat = m by omega] at k0
    obtain ⟨It, -, -⟩ := tickN_Iv I.1 m (by omega)
    refine dv_rem C I D fun h2 C2 D2 I2 F2 g2 => ⟨bs + 1, by rw [g2]; exact o.2.1, C.2.1.1.t, d_passTicks D2.1 I.1 (by omega) fun h3 F3 W3 => ?_⟩
    obtain ⟨C5, D5, I5, F5⟩ := dv_wo C2 I2 D2 F3 W3 It
    exact k0 rfl h3 C5 D5 I5 (F2.tr F5)
theorem q_adv (T7 : RT T N A h7) (I : IvS v iss sv n hs tn tx re er) (R7 : SR A h7 v iss sv n hs tn tx re er) (ha : In a) (k0 : refT v a = 0 → ∀ h8, FR (RKw A) h7 h8 → SR A h8 (tickN v a.toNat) iss sv (pushN n) (pushH n hs v) tn tx re er → ai h8 A 0 = 0 → K (lanN v a.toNat) h8) (k1 : refT v a ≠ 0 → ∀ h8, FR (Scr A) h7 h8 → SR A h8 v iss sv n hs tn tx re er → ai h8 A 0 = refT v a → K 0 h8) : ZI T N 232 [vr (some A), vi (J a)] h7 K := by
  have bb := I.1.b
  have n1 := T7.a1.2.1
  unfold refT at k0 k1
  refine z232 T7.t ha (r_in ha (by decide) (by decide) (fun c1 => ⟨(fun z => absurd z (by decide)), fun _ => ⟨A + 1, T7.a1.2.2, T7.a1.1, by omega, ?_⟩⟩) (fun c1 => ⟨fun _ => ?_, (fun z => absurd rfl z)⟩))
  · rw [R7.1 448 (by omega) (by omega)]
    refine ⟨by omega, fun c2 => ?_, fun c2 => ?_⟩
    · rw [if_neg (by omega), if_pos c2] at k1
      intro h8 z8; obtain ⟨R8, F8⟩ := R7.th (x := 2); rw [← z8] at R8 F8; have e8 : ai h8 A 0 = 2 := (by subst z8; exact rd_eq rfl rfl (by decide)); have T8 := T7.fr F8; rw [e8]; clear z8
      exact ⟨fun _ => k1 (by decide) h8 F8 R8 e8, fun z => absurd (by decide) z⟩
    · rw [if_neg (by omega), if_neg c2] at k0
      intro h8 z8; obtain ⟨R8, F8⟩ := R7.th (x := 0); rw [← z8] at R8 F8; have e8 : ai h8 A 0 = 0 := (by subst z8; exact rd_eq rfl rfl (by decide)); have T8 := T7.fr F8; rw [e8]; clear z8
      refine ⟨(fun z => absurd z (by decide)), fun _ => rs_keeps T8 R8 I.2.2.2.1 fun h9 T9 F9 R9 => ?_⟩
      obtain ⟨m, rfl⟩ : ∃ m : Nat, a = (m : Int) := ⟨a.toNat, by omega⟩
      rw [show ((m : Nat) : Int).toNat = m by omega] at k0
      refine r_ticks T9 R9.1 I.1 (by omega) fun h10 T10 F10 V10 L10 => ?_
      rw [L10]
      refine k0 rfl h10 ((F8.sk.tr F9.rk2).tr F10.t2.rk1) (R9.vv F10.t2 V10) ?_
      rw [F10.ai (by unfold Tw; omega), F9.ai (by unfold Kw; omega)]; exact e8
  · rw [if_pos c1] at k1
    intro h8 z8; obtain ⟨R8, F8⟩ := R7.th (x := 1); rw [← z8] at R8 F8; have e8 : ai h8 A 0 = 1 := (by subst z8; exact rd_eq rfl rfl (by decide)); have T8 := T7.fr F8; rw [e8]; clear z8
    exact ⟨fun _ => k1 (by decide) h8 F8 R8 e8, fun z => absurd (by decide) z⟩
theorem P_advance (S : Sim T N bs h i) (ha : In a) (k : Cont T N bs i h Q) : ZI T N 276 [vr (some bs), vi (J a), vr (some (bs + 3309))] h (fun c h1 => ZI T N 232 [vr (some (bs + 3296)), vi (J a)] h1 (fun b h2 => ZI T N 156 [vr (some (bs + 3296))] h2 (fun t h3 => Q c b t h3))) := by
  obtain ⟨v, iss, sv, n, hs, tn, tx, re, er, C, I, D, R⟩ := S
  have bb := I.1.b
  have o := C.o
  have out := C.out
  have bad : ∀ {h7 : PH} {c : Int}, Com T N bs h7 (i + 1) → SD T N bs h7 v iss sv n hs tn tx re er → Fcl bs h h7 → refT v a = c → c ≠ 0 → ZI T N 232 [vr (some (bs + 3296)), vi (J a)] h7 (fun b h2 => ZI T N 156 [vr (some (bs + 3296))] h2 (fun t h3 => Q c b t h3)) := fun C7 D7 F7 hc h0 =>
    q_adv C7.rt I (R.fd F7) ha (fun z => absurd (hc.symm.trans z) h0) (fun _ h8 F8 R8 e8 => fin k C7 I D7 F7 F8.sk R8 (e8.trans hc) (by decide) fun z => absurd z h0)
  have lb : refT v a = 0 → In (lanN v a.toNat) := fun hc => by
    obtain ⟨q1, q2⟩ := refT_0 hc
    have := lanN_b I.1 a.toNat (by omega)
    omega
  refine z276 o.1 out.1 ha (c_adv C I D ha (fun c0 h4 C4 D4 I4 F4 => Or.inl ⟨_, rfl, lb c0, by omega, ?_⟩) (fun c => Or.inr (Or.inl ⟨rfl, bad C.bm (D.bm I) Fcl.bm c (by decide)⟩)) (fun c => Or.inr (Or.inr ⟨rfl, bad C.bm (D.bm I) Fcl.bm c (by decide)⟩)))
  have lb0 := lb c0
  intro h7 z7; subst z7
  obtain ⟨C7, D7, F7, G7⟩ := tail0 (h := h) C4 D4 I4 F4 (x := (J (lanN v a.toNat)).toInt64)
  generalize sL h4 (bs + 3309) (Int.toNat 0) (J (lanN v a.toNat)).toInt64 = h7 at *
  exact q_adv C7.rt I (R.fd F7) ha (fun _ h8 F8 R8 e8 => fin k C7 I4 D7 F7 F8 R8 e8 lb0 fun _ => G7) (fun z => absurd c0 z)
/-! undo -/
theorem r_undoLoop (R : RT T N A h) (H : RH A h (n + 1) hs) (hn : 0 ≤ n ∧ n ≤ 7) (k : ∀ h2, RT T N A h2 → FR (fun b k => b = A + 1 ∨ (b = A ∧ k = 6)) h h2 → Rv A h2 (hs n) → ai h2 A 6 = n → K n h2) : ∀ (q : Nat) (x : Int) (h3 : PH), x = 449 - q → 0 ≤ x → FR (fun b k => b = A + 1 ∨ (b = A ∧ k = 6)) h h3 → ai h3 A 6 = n → (∀ j, 0 ≤ j → j < x → ai h3 (A + 1) j = hs n j) → ZW T N 250 38 [some (vr (some A)), some (vi (J x))] [] h3 K := by
  intro q
  induction q with
  | zero =>
    intro x h3 hx h0 F e6 C
    refine z250_38 R.t (by omega) ⟨fun c => by omega, fun c => ?_⟩
    rw [e6]
    exact k h3 (R.fr F) F (fun j a1 a2 => C j a1 (by omega)) e6
  | succ q ih =>
    intro x h3 hx h0 F e6 C
    have R3 := R.fr F
    have n1 := R3.a1.2.1
    have n5 := R3.a5.2.1
    refine z250_38 R.t (by omega) ⟨fun c => ?_, fun c => absurd (by omega) c⟩
    rw [e6]
    refine ⟨A + 5, R3.a5.2.2, R3.a5.1, by omega, A + 1, R3.a1.2.2, R3.a1.1, by omega, ?_⟩
    have ev : ai h3 (A + 5) (n * 449 + x) = hs n x := by
      rw [F.ai (by omega)]
      have := H.2 n hn.1 (by omega) x h0 (by omega)
      rw [← this]; congr 1; omega
    rw [ev]
    have hi : In (hs n x) := by rw [← ev]; exact ai_in _ _ _
    intro h4 z4
    refine ih (x + 1) h4 (by omega) (by omega) (by subst z4; exact F.tr (FR.pw (Or.inl rfl))) (by subst z4; rw [rd_a (by omega)]; exact e6) fun j a1 a2 => ?_
    subst z4
    by_cases c : j = x
    · rw [rd_eq rfl c hi, c]
    · rw [rd_k c a1 h0]; exact C j a1 (by omega)
end MU3
