/-! REROUTE: all struck drones -/
def RRel (m : Int) (v : Int → Int) : Nat → (Int → Int) → Int → Prop
  | 0, v', c => v' = v ∧ c = 0
  | i + 1, v', c => ∃ v1 c1, RRel m v i v1 c1 ∧ ((mb m i = false ∧ v' = v1 ∧ c = c1) ∨ (mb m i = true ∧ ∃ e k, DV v1 i e k ∧ v' = putD v1 i e ∧ c = c1 + k))
section RR2
variable {T N : Nat → Nat} {bs A w : Nat} {h h1 h2 h3 h7 h10 : PH} {v u sv tx e e1 v1 v2 : Int → Int} {hs hs2 : Int → Int → Int} {iss n tn re er d a t q b l m x y c tm en t2 k k2 y2 last last2 n2 c1 c2 : Int} {i : Nat} {K : Int → PH → Prop} {KV : PH → Prop} {KP : PR → PH → Prop} {Q : Int → Int → Int → PH → Prop} {P : Int → Prop}
theorem RRel.iv (I : Iv v) (hm : ∀ j : Nat, (j : Int) < v 117 → mb m j = true → rc v j 0 ≠ 3) : ∀ (i : Nat), (i : Int) ≤ v 117 → ∀ v' c, RRel m v i v' c → Iv v' ∧ v' 117 = v 117 ∧ (∀ j k, (i : Int) ≤ j → 0 ≤ k → k < 55 → rc v' j k = rc v j k) ∧ 0 ≤ c ∧ c ≤ i
  | 0, _, v', c, h => by
    obtain ⟨h1, h2⟩ := h
    rw [h1, h2]
    exact ⟨I, rfl, fun _ _ _ _ _ => rfl, by decide, by decide⟩
  | i + 1, hi, v', c, h => by
    obtain ⟨v1, c1, h1, h2⟩ := h
    obtain ⟨q1, q2, q3, q4⟩ := RRel.iv I hm i (by omega) v1 c1 h1
    rcases h2 with ⟨z1, z2, z3⟩ | ⟨z1, e, k, z2, z3, z4⟩
    · rw [z2, z3]
      exact ⟨q1, q2, fun j k a1 a2 a3 => q3 j k (by omega) a2 a3, by omega, by omega⟩
    · have nl : rc v1 i 0 ≠ 3 := by rw [q3 i 0 (by omega) (by decide) (by decide)]; exact hm i (by omega) z1
      have hd : 0 ≤ (i : Int) ∧ (i : Int) < v1 117 := by omega
      have kb := z2.kb
      rw [z3, z4]
      refine ⟨q1.put hd (z2.ok q1 hd nl), ?_, fun j k a1 a2 a3 => ?_, by omega, by omega⟩
      · rw [putD_lo (by omega) (by decide)]; exact q2
      · rw [rc_put_ne (by omega) ⟨a2, a3⟩]
        exact q3 j k (by omega) a2 a3
theorem RRel.un (I : Iv v) (hm : ∀ j : Nat, (j : Int) < v 117 → mb m j = true → rc v j 0 ≠ 3) : ∀ (i : Nat), (i : Int) ≤ v 117 → ∀ v1 c1 v2 c2, RRel m v i v1 c1 → RRel m v i v2 c2 → v1 = v2 ∧ c1 = c2
  | 0, _, v1, c1, v2, c2, h, g => ⟨h.1.trans g.1.symm, h.2.trans g.2.symm⟩
  | i + 1, hi, v1, c1, v2, c2, h, g => by
    obtain ⟨u1, d1, h1, h2⟩ := h
    obtain ⟨u2, d2, g1, g2⟩ := g
    obtain ⟨e1, e2⟩ := RRel.un I hm i (by omega) u1 d1 u2 d2 h1 g1
    subst e1; subst e2
    obtain ⟨q1, q2, -⟩ := RRel.iv I hm i (by omega) u1 d1 h1
    rcases h2 with ⟨z1, z2, z3⟩ | ⟨z1, e, k, z2, z3, z4⟩ <;> rcases g2 with ⟨w1, w2, w3⟩ | ⟨w1, e', k', w2, w3, w4⟩
    · exact ⟨z2.trans w2.symm, z3.trans w3.symm⟩
    · rw [z1] at w1; exact absurd w1 (by decide)
    · rw [z1] at w1; exact absurd w1 (by decide)
    · obtain ⟨a1, a2⟩ := z2.un q1 (by omega) w2
      rw [z3, w3, z4, w4, a1, a2]; exact ⟨rfl, rfl⟩
theorem SM_nl (I : Iv v) (S : SM v m) : ∀ j : Nat, (j : Int) < v 117 → mb m j = true → rc v j 0 ≠ 3 := fun j hj hm z => by
  have b := I.b
  obtain ⟨_, i, h1, h2, _⟩ := (S.2 j (by omega)).mp hm
  have O := I.d (n := (j : Int)) (by omega) hj
  have := O.2.2.2.2.2.2.2.2.2.2.2.2.2.2.2.1 z
  have := (aheadE_b O).1
  omega
theorem c_rrL (I : IvS v iss sv n hs tn tx re er) (hm : In m) (nl : ∀ j : Nat, (j : Int) < v 117 → mb m j = true → rc v j 0 ≠ 3) (kk : ∀ v' c, RRel m v (v 117).toNat v' c → ∀ h4, Com T N bs h4 i → SD T N bs h4 v' iss sv n hs tn tx re er → IvS v' iss sv n hs tn tx re er → Fcl bs h h4 → K c h4) : ∀ (q j : Nat) (h3 : PH) (v1 : Int → Int) (c : Int), (j : Int) + q = v 117 → RRel m v j v1 c → Com T N bs h3 i → SD T N bs h3 v1 iss sv n hs tn tx re er → IvS v1 iss sv n hs tn tx re er → Fcl bs h h3 → ZW T N 126 23 [some (vr (some bs)), some (vi (J m)), some (vi (J c)), some (vi (J (j : Int)))] [] h3 K := by
  have b := I.1.b
  intro q
  induction q with
  | zero =>
    intro j h3 v1 c hj RR C3 D3 I3 L3
    obtain ⟨q1, q2, q3, q4⟩ := RRel.iv I.1 nl j (by omega) _ _ RR
    have eb := D3.1.b
    refine z126_23 C3.o.1 hm (by omega) (by omega) ⟨bs + 1, C3.o.2.1, C3.2.1.1.t, fun z => by omega, fun _ => kk v1 c ?_ h3 C3 D3 I3 L3⟩
    rw [show (v 117).toNat = j by omega]; exact RR
  | succ q ih =>
    intro j h3 v1 c hj RR C3 D3 I3 L3
    obtain ⟨q1, q2, q3, q4⟩ := RRel.iv I.1 nl j (by omega) _ _ RR
    have eb := D3.1.b
    have nx : ∀ h4 v' c', RRel m v (j + 1) v' c' → Com T N bs h4 i → SD T N bs h4 v' iss sv n hs tn tx re er → IvS v' iss sv n hs tn tx re er → Fcl bs h h4 → ZW T N 126 23 [some (vr (some bs)), some (vi (J m)), some (vi (J c')), some (vi (J ((j : Int) + 1)))] [] h4 K := fun h4 v' c' R4 C4 D4 I4 L4 => by
      have := ih (j + 1) h4 v' c' (by omega) R4 C4 D4 I4 L4
      rw [show ((j + 1 : Nat) : Int) = (j : Int) + 1 by omega] at this; exact this
    refine z126_23 C3.o.1 hm (by omega) (by omega) ⟨bs + 1, C3.o.2.1, C3.2.1.1.t, fun _ => d_holds (S := mb m j = true) hm (by omega) (by rw [show ((j : Int)).toNat = j by omega]) (fun s => ⟨(fun z => absurd z (by decide)), fun _ => ?_⟩) (fun s => ⟨fun _ => nx h3 v1 c ⟨v1, c, RR, Or.inl ⟨by cases hb : mb m j; rfl; exact absurd hb s, rfl, rfl⟩⟩ C3 D3 I3 L3, (fun z => absurd rfl z)⟩), fun z => absurd (by omega) z⟩
    have nl1 : rc v1 j 0 ≠ 3 := by rw [q3 j 0 (by omega) (by decide) (by decide)]; exact nl j (by omega) s
    refine c_divert C3 I3 D3 (d := (j : Int)) (by omega) nl1 fun e k dv h4 C4 D4 I4 L4 => ?_
    have RN : RRel m v (j + 1) (putD v1 j e) (c + k) := ⟨v1, c, RR, Or.inr ⟨s, e, k, dv, rfl, rfl⟩⟩
    rcases dv.kb with z | z
    · subst z
      rw [Int.add_zero] at RN
      exact ⟨fun _ => nx h4 _ c RN C4 D4 I4 (L3.tr L4), (fun z => absurd rfl z)⟩
    · subst z
      exact ⟨(fun z => absurd z (by decide)), fun _ => nx h4 _ (c + 1) RN C4 D4 I4 (L3.tr L4)⟩
theorem r_rrL (R : RT T N A h) (I : IvS v iss sv n hs tn tx re er) (hm : In m) (nl : ∀ j : Nat, (j : Int) < v 117 → mb m j = true → rc v j 0 ≠ 3) (kk : ∀ v' c, RRel m v (v 117).toNat v' c → ∀ h4, FR (RVw A) h h4 → SR A h4 v' iss sv n hs tn tx re er → K c h4) : ∀ (q j : Nat) (h3 : PH) (v1 : Int → Int) (c : Int), (j : Int) + q = v 117 → RRel m v j v1 c → FR (RVw A) h h3 → SR A h3 v1 iss sv n hs tn tx re er → ZW T N 223 18 [some (vr (some A)), some (vi (J m)), some (vi (J c)), some (vi (J (j : Int))), none, none, none, none] [] h3 K := by
  have b := I.1.b
  intro q
  induction q with
  | zero =>
    intro j h3 v1 c hj RR F3 S3
    obtain ⟨q1, q2, q3, q4⟩ := RRel.iv I.1 nl j (by omega) _ _ RR
    have T3 := R.fr F3
    have n1 := T3.a1.2.1
    have e117 := S3.1 117 (by decide) (by decide)
    refine z223_18 T3.t hm (by omega) (by omega) ⟨A + 1, T3.a1.2.2, T3.a1.1, by omega, fun z => by omega, fun _ => kk v1 c ?_ h3 F3 S3⟩
    rw [show (v 117).toNat = j by omega]; exact RR
  | succ q ih =>
    intro j h3 v1 c hj RR F3 S3
    obtain ⟨q1, q2, q3, q4⟩ := RRel.iv I.1 nl j (by omega) _ _ RR
    have b1 := q1.b
    have T3 := R.fr F3
    have n1 := T3.a1.2.1
    have e117 := S3.1 117 (by decide) (by decide)
    have nx : ∀ h4 v' c', RRel m v (j + 1) v' c' → FR (RVw A) h3 h4 → Rv A h4 v' → ZW T N 223 18 [some (vr (some A)), some (vi (J m)), some (vi (J c')), some (vi (J ((j : Int) + 1))), none, none, none, none] [] h4 K := fun h4 v' c' R4 F4 V4 => by
      have := ih (j + 1) h4 v' c' (by omega) R4 (F3.tr F4) (S3.vv F4 V4)
      rw [show ((j + 1 : Nat) : Int) = (j : Int) + 1 by omega] at this; exact this
    have hz := hold_z (m := m) (k := (j : Int)) (by omega)
    rw [show ((j : Int)).toNat = j by omega] at hz
    refine z223_18 T3.t hm (by omega) (by omega) ⟨A + 1, T3.a1.2.2, T3.a1.1, by omega, fun _ => ?_, fun z => absurd (by omega) z⟩
    rw [hz]
    by_cases s : mb m j = true
    rotate_left
    · rw [if_neg s]
      exact ⟨fun _ => nx h3 v1 c ⟨v1, c, RR, Or.inl ⟨by cases hb : mb m j; rfl; exact absurd hb s, rfl, rfl⟩⟩ FR.rf S3.1, (fun z => absurd rfl z)⟩
    rw [if_pos s]
    refine ⟨(fun z => absurd z (by decide)), fun _ => ?_⟩
    have nl1 : rc v1 j 0 ≠ 3 := by rw [q3 j 0 (by omega) (by decide) (by decide)]; exact nl j (by omega) s
    have hd : 0 ≤ (j : Int) ∧ (j : Int) < v1 117 := by omega
    have hd6 : 0 ≤ (j : Int) ∧ (j : Int) < 6 := by omega
    have O := q1.d hd.1 hd.2
    have o4 := O.2.2.2.2.1
    refine r_begins T3 S3.1 q1 hd fun h4 T4 F4 S4 => ⟨fun c3 => absurd c3 nl1, fun _ => ?_⟩
    have V4 : Rv A h4 v1 := S3.1.fr F4.bg
    refine r_looks (q := 2) T4 V4 q1 S4 hd (by decide) (by decide) fun h5 T5 F5 V5 S5 K5 => r_of T5 hd6 (by decide) ?_
    rw [V5 _ (by omega) (by omega)]
    have e4 : v1 (118 + 55 * (j : Int) + 4) = rc v1 j 4 := rfl
    rw [e4]
    have F35 : FR (Scr A) h3 h5 := F4.bg.tr (PL_pm F5).pm
    have gone : ∀ h6 n2 last k, FR (PB A) h5 h6 → LST v1 j 2 n2 last → (k = 0 ∨ k = 1) → DV v1 j (goE v1 j 2 last n2) k → ZI T N 210 [vr (some A), vi (J n2)] h6 (fun x h7 => CV T N 213 [vr (some A), vi (J (j : Int)), vi (J x), vi (J n2)] h7 (fun h8 => ZW T N 223 18 [some (vr (some A)), some (vi (J m)), some (vi (J (c + k))), some (vi (J ((j : Int) + 1))), none, none, none, none] [] h8 K)) := fun h6 n2 last k F6 L kb dv => by
      refine r_goB (T5.fr F6) (V5.pm (PB_pm F6)) q1 (S5.pm (PB_pm F6)) (K5.pb F6) hd L fun h7 T7 F7 V7 _ => nx h7 _ (c + k) ⟨v1, c, RR, Or.inr ⟨s, _, k, dv, rfl, rfl⟩⟩ ?_ V7
      have F7' : FR (RVw A) h6 h7 := F7.mo fun b k z => by unfold PB Vw at z; unfold RVw Scr; omega
      exact ((F35.tr (PB_pm F6).pm).sc).tr F7'
    refine ⟨(fun z => absurd z (by decide)), fun _ => r_best T5 V5 q1 S5 K5 hd (by omega) (fun z h6 F6 _ _ => ⟨(fun z => absurd z (by decide)), fun _ => ?_⟩) (fun z1 z2 h6 F6 => ⟨fun _ => ⟨(fun z => absurd z (by decide)), fun _ => ?_⟩, (fun z => absurd rfl z)⟩) (fun z1 k Bk h6 F6 _ _ => ⟨fun z => by have := Bk.1.1; omega, fun _ => ?_⟩)⟩
    · have L : LST v1 j 2 (rc v1 j 4) (-1) := Or.inl ⟨z, rfl⟩
      exact gone h6 _ _ 1 F6 L (Or.inr rfl) (Or.inl ⟨_, L, rfl, rfl⟩)
    · have nd : ∀ last, ¬ LST v1 j 2 (rc v1 j 4) last := LST_no (Or.inr ⟨z1, z2⟩) nl1
      refine r_firstPad (T5.fr F6) (V5.pm (PB_pm F6)) q1 (S5.pm (PB_pm F6)) (K5.pb F6) hd (fun np h7 F7 => ⟨fun _ => ?_, fun z => absurd (by decide) z⟩) (fun n2 fp h7 F7 => ⟨fun z => by have := fp.1.1; omega, fun _ => ?_⟩)
      · have F57 := F6.tr F7
        have T7 := T5.fr F57
        have V7 : Rv A h7 (putD v1 j (rc v1 j)) := by rw [putD_rc]; exact V5.pm (PB_pm F57)
        have ah := ahead_b (f := rc v1 j)
        refine r_aheadD T7 V7 hd6 (r_setD T7 V7 hd6 (by decide) (by omega) fun h8 T8 F8 V8 => r_setD T8 V8 hd6 (by decide) (by decide) fun h9 T9 F9 V9 => nx h9 (putD v1 j (cutE (rc v1 j) (-1))) c ⟨v1, c, RR, Or.inr ⟨s, _, 0, Or.inr ⟨nd, rfl, Or.inr ⟨np, rfl⟩⟩, rfl, (Int.add_zero c).symm⟩⟩ ?_ V9)
        exact (((F35.tr (PB_pm F57).pm).sc).tr F8.vw).tr F9.vw
      · obtain ⟨last, L⟩ := FPad_l fp
        have := gone h7 n2 last 0 (F6.tr F7) L (Or.inl rfl) (Or.inr ⟨nd, rfl, Or.inl ⟨n2, last, fp, L, rfl⟩⟩)
        rw [Int.add_zero] at this
        exact this
    · have L : LST v1 j 2 (rc v1 j 4) k := Or.inr ⟨z1, Bk⟩
      exact gone h6 _ _ 1 F6 L (Or.inr rfl) (Or.inl ⟨_, L, rfl, rfl⟩)
theorem P_reroute (S : Sim T N bs h i) {Q2 : Int → Int → PH → Prop} (k : ∀ x h3, Sim T N bs h3 (i + 1) → Scp bs h h3 → Q2 x x h3) : ZI T N 126 [vr (some bs)] h (fun x h1 => ZI T N 223 [vr (some (bs + 3296))] h1 (fun y h2 => Q2 x y h2)) := by
  obtain ⟨v, iss, sv, n, hs, tn, tx, re, er, C, I, D, R⟩ := S; have b := I.1.b; have o := C.o; have out := C.out
  refine z126 o.1 ⟨bs + 589, o.2.2.2.1, C.1.his.1, ?_⟩
  rw [o.2.1]
  refine dv_rem C I D fun h2 C2 D2 I2 L2 g2 => ⟨bs + 1, C2.o.2.1, C2.2.1.1.t, d_struck D2.1 I2.1 fun m Sm => ?_⟩
  have nl := SM_nl I.1 Sm
  refine c_rrL (h := h) I2 Sm.1 nl (fun v' c RR h4 C4 D4 I4 L4 => ?_) (v 117).toNat 0 h2 v 0 (by omega) ⟨rfl, rfl⟩ C2 D2 I2 L2
  have R4 := R.fd L4
  refine z223 C4.rt.t ?_
  intro h8 z8
  obtain ⟨R8, F8⟩ := R4.th (x := 0)
  rw [← z8] at R8 F8
  refine rs_keeps (C4.rt.fr F8) R8 I.2.2.2.1 fun h9 T9 F9 R9 => ?_
  refine r_strikes T9 R9.1 I.1 fun m2 Sm2 => ?_
  rw [Sm2.un Sm]
  refine r_rrL T9 I2 Sm.1 nl (fun v2 c2 RR2 h10 F10 R10 => ?_) (v 117).toNat 0 h9 v 0 (by omega) ⟨rfl, rfl⟩ FR.rf R9
  obtain ⟨ev, ec⟩ := RRel.un I.1 nl (v 117).toNat (by omega) _ _ _ _ RR2 RR
  rw [ev] at R10
  rw [ec]
  obtain ⟨S10, s10, -⟩ := Sim.mk' C4.up I4 D4 ((F8.sk.tr F9.rk2).tr F10.rk1) RKw_in R10
  exact k c h10 S10 ((Scp.cl L4).tr s10)
end RR2
