/-! SETWIND, ADDDRONE -/
/-- the first x entries are 0 -/
def zE (e : Int → Int) (x : Int) : Int → Int := fun j => if j < x then 0 else e j
section MU2
variable {T N : Nat → Nat} {bs A : Nat} {h h1 h2 h3 h7 h10 : PH} {v u sv tx e e2 : Int → Int} {hs hs2 : Int → Int → Int} {iss n tn re er d t a b l m w c : Int} {i : Nat} {K : Int → PH → Prop} {KV : PH → Prop} {KP : PR → PH → Prop} {Q : Int → Int → Int → PH → Prop} {f g : Int → Int}
def refW (v : Int → Int) (a w : Int) : Int := if ¬ (0 ≤ a ∧ a < v 11) then 1 else if ¬ (-v (12 + 4 * a + 2) ≤ w ∧ w ≤ v (12 + 4 * a + 2)) then 2 else 0
theorem c_wind (C : Com T N bs h i) (I : IvS v iss sv n hs tn tx re er) (D : SD T N bs h v iss sv n hs tn tx re er) (ha : In a) (hw : In w) (k0 : refW v a w = 0 → ∀ h4, Com T N bs h4 i → SD T N bs h4 (windV v a w) iss sv (pushN n) (pushH n hs v) tn tx re er → IvS (windV v a w) iss sv (pushN n) (pushH n hs v) tn tx re er → Fcl bs h h4 → KP (.inl (some (vi (J (v (12 + 4 * a + 3)))))) h4) (k1 : refW v a w = 1 → KP (.inr 2) (bump h)) (k2 : refW v a w = 2 → KP (.inr 1) (bump h)) : CALL T N 108 [vr (some bs), vi (J a), vi (J w)] h KP := by
  have bb := I.1.b
  have o := C.o
  have eb := D.1.b
  unfold refW at k0 k1 k2
  refine z108 o.1 ha hw ⟨bs + 1, o.2.1, C.2.1.1.t, d_cor C.2.1.1 ha (by omega) (fun c1 => ⟨fun z => by (cases z), fun a' ea => ?_⟩) (fun c1 => ⟨fun _ => ⟨C.t0, k1 (if_pos (by omega))⟩, fun a' ea => by (cases ea)⟩)⟩
  cases ea
  have ca : 0 ≤ a ∧ a < v 11 := by omega
  rw [if_neg (by omega)] at k0 k2
  have tc := (C.2.1.1.c (c := a) (by omega)).1
  have cO := I.1.c ca.1 ca.2
  unfold corOK at cO
  rw [D.1.c (c := a) (k := 2) ca.1 ca.2 (by omega) (by omega)]
  refine ⟨tc, d_windFor (by omega) hw (by omega) (fun c2 => ⟨(fun z => absurd z (by decide)), fun _ => ⟨bs + 589, o.2.2.2.1, C.1.his.1, ?_⟩⟩) (fun c2 => ⟨fun _ => ⟨C.t0, k2 (if_pos (by omega))⟩, (fun z => absurd rfl z)⟩)⟩
  rw [if_neg (by omega)] at k0
  rw [o.2.1]
  refine dv_rem C I D fun h2 C2 D2 I2 F2 g2 => ?_
  intro h3 z3; subst z3
  obtain ⟨W3, F3⟩ := Wo_wind D2.1 I.1 ca hw
  obtain ⟨C5, D5, I5, F5⟩ := dv_wo C2 I2 D2 F3 W3 (windV_Iv I.1 ca (by omega))
  rw [D2.1.c (c := a) (k := 3) ca.1 ca.2 (by omega) (by omega)]
  exact k0 rfl _ C5 D5 I5 (F2.tr F5)
theorem P_setWind (S : Sim T N bs h i) (ha : In a) (hw : In w) (k : Cont T N bs i h Q) : ZI T N 257 [vr (some bs), vi (J a), vi (J w), vr (some (bs + 3309))] h (fun c h1 => ZI T N 176 [vr (some (bs + 3296)), vi (J a), vi (J w)] h1 (fun b h2 => ZI T N 156 [vr (some (bs + 3296))] h2 (fun t h3 => Q c b t h3))) := by
  obtain ⟨v, iss, sv, n, hs, tn, tx, re, er, C, I, D, R⟩ := S
  have bb := I.1.b
  have o := C.o
  have out := C.out
  have ref : ∀ {h7 : PH} {KK : Int → PH → Prop}, RT T N (bs + 3296) h7 → SR (bs + 3296) h7 v iss sv n hs tn tx re er → (refW v a w = 0 → ∀ h8, FR (RKw (bs + 3296)) h7 h8 → SR (bs + 3296) h8 (windV v a w) iss sv (pushN n) (pushH n hs v) tn tx re er → ai h8 (bs + 3296) 0 = 0 → KK (v (12 + 4 * a + 3)) h8) → (refW v a w ≠ 0 → ∀ h8, FR (Scr (bs + 3296)) h7 h8 → SR (bs + 3296) h8 v iss sv n hs tn tx re er → ai h8 (bs + 3296) 0 = refW v a w → KK 0 h8) → ZI T N 176 [vr (some (bs + 3296)), vi (J a), vi (J w)] h7 KK := by
    intro h7 KK T7 R7 k0 k1
    generalize bs + 3296 = A at *
    have e0 := R7.1 11 (by omega) (by omega)
    unfold refW at k0 k1
    refine z176 T7.t ha hw (r_isCor T7 ha (by omega) (fun c1 => ⟨(fun z => absurd z (by decide)), fun _ => ?_⟩) (fun c1 => ⟨fun _ => ?_, (fun z => absurd rfl z)⟩))
    rotate_left
    · rw [if_pos (by omega)] at k1
      intro h8 z8; obtain ⟨R8, F8⟩ := R7.th (x := 1); rw [← z8] at R8 F8; have e8 : ai h8 A 0 = 1 := (by subst z8; exact rd_eq rfl rfl (by decide)); have T8 := T7.fr F8; rw [e8]; clear z8
      exact ⟨fun _ => k1 (by decide) h8 F8 R8 e8, fun z => absurd (by decide) z⟩
    rw [if_neg (by omega)] at k0 k1
    have ca : 0 ≤ a ∧ a < v 11 := by omega
    have cO := I.1.c ca.1 ca.2
    unfold corOK at cO
    have e2 := R7.1 (12 + 4 * a + 2) (by omega) (by omega)
    refine r_len T7 (by omega) (r_len T7 (by omega) ?_)
    rw [e2]
    refine r_in hw (by omega) (by omega) (fun c2 => ⟨(fun z => absurd z (by decide)), fun _ => ?_⟩) (fun c2 => ⟨fun _ => ?_, (fun z => absurd rfl z)⟩)
    rotate_left
    · rw [if_pos (by omega)] at k1
      intro h8 z8; obtain ⟨R8, F8⟩ := R7.th (x := 2); rw [← z8] at R8 F8; have e8 : ai h8 A 0 = 2 := (by subst z8; exact rd_eq rfl rfl (by decide)); have T8 := T7.fr F8; rw [e8]; clear z8
      exact ⟨fun _ => k1 (by decide) h8 F8 R8 e8, fun z => absurd (by decide) z⟩
    rw [if_neg (by omega)] at k0
    intro h8 z8; obtain ⟨R8, F8⟩ := R7.th (x := 0); rw [← z8] at R8 F8; have e8 : ai h8 A 0 = 0 := (by subst z8; exact rd_eq rfl rfl (by decide)); have T8 := T7.fr F8; rw [e8]; clear z8
    refine ⟨(fun z => absurd z (by decide)), fun _ => rs_keeps T8 R8 I.2.2.2.1 fun h9 T9 F9 R9 => ?_⟩
    have n1 := T9.a1.2.1
    refine ⟨A + 1, T9.a1.2.2, T9.a1.1, by omega, A + 1, T9.a1.2.2, T9.a1.1, by omega, ?_⟩
    rw [R9.1 _ (by omega) (by omega)]
    intro h10 z10
    have F10 : FR (Vw A) h9 h10 := by subst z10; exact FR.pw rfl
    have V10 : Rv A h10 (windV v a w) := by
      have := R9.1.w (i := 12 + 4 * a + 3) (x := w) (by omega) hw
      subst z10
      exact this
    refine k0 rfl h10 ((F8.sk.tr F9.rk2).tr F10.vw.rk1) (R9.vv F10.vw V10) ?_
    rw [frA F10, F9.ai (by unfold Kw; omega)]; exact e8
  have bad : ∀ {h7 : PH} {c : Int}, Com T N bs h7 (i + 1) → SD T N bs h7 v iss sv n hs tn tx re er → Fcl bs h h7 → refW v a w = c → c ≠ 0 → ZI T N 176 [vr (some (bs + 3296)), vi (J a), vi (J w)] h7 (fun b h2 => ZI T N 156 [vr (some (bs + 3296))] h2 (fun t h3 => Q c b t h3)) := fun C7 D7 F7 hc h0 =>
    ref C7.rt (R.fd F7) (fun z => absurd (hc.symm.trans z) h0) (fun _ h8 F8 R8 e8 => fin k C7 I D7 F7 F8.sk R8 (e8.trans hc) (by decide) fun z => absurd z h0)
  have ok : refW v a w = 0 → (0 ≤ a ∧ a < v 11) := fun hc => by
    unfold refW at hc
    split at hc
    · omega
    · rename_i c1; exact Classical.not_not.mp c1
  refine z257 o.1 out.1 ha hw (c_wind C I D ha hw (fun c0 h4 C4 D4 I4 F4 => Or.inl ⟨_, rfl, ?_, by omega, ?_⟩) (fun c => Or.inr (Or.inl ⟨rfl, bad C.bm (D.bm I) Fcl.bm c (by decide)⟩)) (fun c => Or.inr (Or.inr ⟨rfl, bad C.bm (D.bm I) Fcl.bm c (by decide)⟩)))
  · have q := ok c0
    have cO := I.1.c q.1 q.2
    unfold corOK at cO; omega
  · have q := ok c0
    have cO := I.1.c q.1 q.2
    unfold corOK at cO
    intro h7 z7; subst z7
    obtain ⟨C7, D7, F7, G7⟩ := tail0 (h := h) C4 D4 I4 F4 (x := (J (v (12 + 4 * a + 3))).toInt64)
    generalize sL h4 (bs + 3309) (Int.toNat 0) (J (v (12 + 4 * a + 3))).toInt64 = h7 at *
    exact ref C7.rt (R.fd F7) (fun _ h8 F8 R8 e8 => fin k C7 I4 D7 F7 F8 R8 e8 (by omega) fun _ => G7) (fun z => absurd c0 z)
/-! addDrone -/
theorem droV_Iv (I : Iv v) (hv : v 117 < 6) (hn : 0 ≤ n ∧ n < v 0) (he : 1 ≤ m ∧ m ≤ 200) : Iv (droV v n m) := by
  have b := I.b
  have lo : ∀ j, j < 117 → v j = droV v n m j := fun j hj => by unfold droV; rw [up_ne (by omega), putD_lo (by omega) (by omega)]
  have h448 : droV v n m 448 = v 448 := by unfold droV; rw [up_ne (by omega), putD_hi (by omega) (by omega)]
  have h117 : droV v n m 117 = v 117 + 1 := up_eq rfl
  have l0 := lo 0 (by omega); have l11 := lo 11 (by omega); have l76 := lo 76 (by omega)
  have pv := I.p hn.1 hn.2
  refine ⟨by omega, fun x h1 h2 => ?_, I.cs (by omega) fun j a1 a2 => lo j (by omega), I.fs (by omega) fun j a1 a2 => lo j (by omega), fun d2 h1 h3 => ?_⟩
  · rw [← lo _ (by omega)]; exact I.p h1 (by omega)
  · rw [h448]
    have rcx : ∀ k, 0 ≤ k → k < 55 → rc (droV v n m) d2 k = rc (putD v (v 117) (newE (v (1 + n)) n m)) d2 k := fun k a1 a2 => by unfold rc droV; rw [up_ne (by omega)]
    by_cases c : d2 = v 117
    · have O : drOK v (v 448) (newE (v (1 + n)) n m) := by
        have e : ∀ j, 0 ≤ j → newE (v (1 + n)) n m j = if j = 0 then (if v (1 + n) = 1 then 0 else 1) else if j = 1 then m else if j = 3 then n else if j = 4 then -1 else if j = 6 then m else 0 := fun j _ => rfl
        have q0 : newE (v (1 + n)) n m 0 = 0 ∨ newE (v (1 + n)) n m 0 = 1 := by
          rw [e 0 (by omega), if_pos rfl]; split; exact Or.inl rfl; exact Or.inr rfl
        have q1 : newE (v (1 + n)) n m 1 = m := rfl
        have q2 : newE (v (1 + n)) n m 2 = 0 := rfl
        have q3 : newE (v (1 + n)) n m 3 = n := rfl
        have q4 : newE (v (1 + n)) n m 4 = -1 := rfl
        have q5 : newE (v (1 + n)) n m 5 = 0 := rfl
        have q6 : newE (v (1 + n)) n m 6 = m := rfl
        have q7 : newE (v (1 + n)) n m 7 = 0 := rfl
        have q8 : newE (v (1 + n)) n m 8 = 0 := rfl
        have q9 : newE (v (1 + n)) n m 9 = 0 := rfl
        have q10 : newE (v (1 + n)) n m 10 = 0 := rfl
        have q11 : newE (v (1 + n)) n m 11 = 0 := rfl
        have q12 : newE (v (1 + n)) n m 12 = 0 := rfl
        exact ⟨by omega, by omega, by omega, by omega, by omega, by omega, by omega, by omega, by omega, by omega, by omega, by omega, by omega, by omega, by omega, by omega, by omega, fun i h1 h2 => by omega⟩
      exact drOK_cg (by omega) (by omega) (fun j a1 a2 a3 => lo j (by omega)) (fun j a1 a2 => by rw [rcx j a1 a2, c, rc_put ⟨a1, a2⟩]) O
    · exact drOK_cg (by omega) (by omega) (fun j a1 a2 a3 => lo j (by omega)) (fun j a1 a2 => by rw [rcx j a1 a2, rc_put_ne c ⟨a1, a2⟩]) (I.d h1 (by omega))
theorem d_newDrone (W : Wo T N h1 A v) (I : Iv v) (hv : v 117 < 6) (hn : 0 ≤ n ∧ n < v 0) (he : 1 ≤ m ∧ m ≤ 200) (k : ∀ h2, Fp (fun x => A ≤ x ∧ x < A + 294) h1 h2 → Wo T N h2 A (droV v n m) → K (v 117) h2) : ZI T N 96 [vr (some A), vi (J n), vi (J m)] h1 K := by
  obtain ⟨b0, b1, b3, b4, b5⟩ := W.b
  have b := I.b
  have J2 := droV_Iv I hv hn he
  refine z96 W.o.t (by omega) (by omega) ⟨fun c => ?_, fun c => absurd (show ai h1 A 5 < 6 by omega) c⟩
  intro h3 g; subst g
  have e1 : ai (wi h1 A 5 (ai h1 A 5 + 1)) A 5 = ai h1 A 5 + 1 := rd_eq rfl rfl (by omega)
  rw [e1, show ai h1 A 5 + 1 - 1 = v 117 by omega]
  refine d_dro (h := wi h1 A 5 (ai h1 A 5 + 1)) (n := v 117) (W.o.to rfl) (by omega) (by omega) (fun c => ⟨fun z => by (cases z), fun a' ea => ?_⟩) (fun c => absurd (by omega) c)
  cases ea
  have Dt := (W.o.d (c := v 117) (by omega)).2
  have F1 : Fp (fun x => x = A) h1 (wi h1 A 5 (ai h1 A 5 + 1)) := Fp.pw rfl
  have e2 : ai (wi h1 A 5 (ai h1 A 5 + 1)) A 2 = ai h1 A 2 := rd_k (by omega) (by omega) (by omega)
  have pv := I.p hn.1 hn.2
  have go : ∀ p, (p = 0 ∨ p = 1) → p = v (1 + n) → T (dA A (v 117)) = 3 ∧ CV T N 15 [vr (some (dA A (v 117))), vi (J n), vi (J p), vi (J m)] (wi h1 A 5 (ai h1 A 5 + 1)) (fun h_24 => (In ((ai h_24 A 5) - 1) ∧ K ((ai h_24 A 5) - 1) h_24)) := by
    intro p hp hpv
    refine ⟨Dt.t, d_setUp (v := droV v n m) (n := n) (p := p) (en := m) (show DT T N (wi h1 A 5 (ai h1 A 5 + 1)) (dA A (v 117)) from Dt.to rfl) (by omega) hp (by omega) fun h4 F4 g4 D4 => ?_⟩
    have s4 := F4.1 A (by unfold dA; omega)
    rw [s4.ai, e1, show ai h1 A 5 + 1 - 1 = v 117 by omega]
    have FF : Fp (fun x => x = A ∨ (dA A (v 117) ≤ x ∧ x < dA A (v 117) + 44)) h1 h4 := (F1.mo fun x z => Or.inl z).tr (F4.mo fun x z => Or.inr z)
    have lo : ∀ j, j < 117 → v j = droV v n m j := fun j hj => by unfold droV; rw [up_ne (by omega), putD_lo (by omega) (by omega)]
    have h448 : droV v n m 448 = v 448 := by unfold droV; rw [up_ne (by omega), putD_hi (by omega) (by omega)]
    have h117 : droV v n m 117 = v 117 + 1 := up_eq rfl
    have l0 := lo 0 (by omega); have l11 := lo 11 (by omega); have l76 := lo 76 (by omega)
    have rcx : ∀ d2 k, 0 ≤ d2 → 0 ≤ k → k < 55 → rc (droV v n m) d2 k = rc (putD v (v 117) (newE (v (1 + n)) n m)) d2 k := fun d2 k a0 a1 a2 => by unfold rc droV; rw [up_ne (by omega)]
    refine ⟨by omega, k h4 (FF.mo fun x z => by unfold dA at z; omega) ⟨W.o.dro (fun b h1 h2 k => by rw [g4]; rfl) (fun d2 h1 => ((W.o.2.2.2.2.2.2 d2 h1).2).to (by rw [g4]; rfl)), ?_, ?_, W.cs I (fun b e1 e2 => FF.1 b (by unfold dA; omega)) fun j a1 a2 => lo j (by omega), W.fs I (fun b e1 e2 => FF.1 b (by unfold dA; omega)) fun j a1 a2 => lo j (by omega), fun d2 h1 h3 => ?_⟩⟩
    · rw [s4.ai, s4.ai, s4.ai, s4.ai, s4.ai, e1, rd_k (by omega) (by omega) (by omega), rd_k (by omega) (by omega) (by omega), rd_k (by omega) (by omega) (by omega), rd_k (by omega) (by omega) (by omega)]; omega
    · rw [s4.ai, e2]; exact padsR_cg l0 (fun n a1 a2 => lo _ (by omega)) W.p
    · by_cases c2 : d2 = v 117
      · rw [c2]
        refine DrD_cg (e := newE p n m) (e2 := rc (droV v n m) (v 117)) (fun j a1 a2 => rfl) (fun j a1 a2 => ?_) (by show (0 : Int) ≤ 42; decide) D4
        rw [rcx _ j (by omega) a1 a2, rc_put ⟨a1, a2⟩, hpv]
      · have O2 := I.d h1 (by omega)
        have Dn := (W.d h1 (by omega)).fr (T := T) (N := N) (h2 := h4) (fun b q1 q2 => FF.1 b (by unfold dA at *; omega)) (W.o.d (by omega)).2 O2.2.2.2.2.2.1.2
        exact DrD_cl O2 (fun j a1 a2 a3 => lo j (by omega)) (fun j a1 a2 => by rw [rcx _ j h1 a1 a2, rc_put_ne c2 ⟨a1, a2⟩]) Dn
  rw [e2]
  refine d_holds (S := n < v 0 ∧ v (1 + n) = 1) (ai_in _ _ _) (by omega) (by rw [W.p n.toNat (by omega), show ((n.toNat : Nat) : Int) = n by omega]) (fun s => go 1 (Or.inr rfl) s.2.symm) (fun s => go 0 (Or.inl rfl) (by omega))
theorem refD_b : refD v a m = 0 ∨ refD v a m = 1 ∨ refD v a m = 2 ∨ refD v a m = 3 := by
  unfold refD
  repeat' split
  all_goals omega
theorem refD_0 (I : Iv v) (hc : refD v a m = 0) : (0 ≤ a ∧ a < v 0) ∧ (1 ≤ m ∧ m ≤ 200) ∧ v 117 < 6 := by
  have b := I.b
  unfold refD at hc
  split at hc
  · omega
  split at hc
  · omega
  split at hc
  · omega
  omega
theorem c_addDrone (C : Com T N bs h i) (I : IvS v iss sv n hs tn tx re er) (D : SD T N bs h v iss sv n hs tn tx re er) (ha : In a) (hm : In m) (k0 : refD v a m = 0 → ∀ h4, Com T N bs h4 i → SD T N bs h4 (droV v a m) iss sv (pushN n) (pushH n hs v) tn tx re er → IvS (droV v a m) iss sv (pushN n) (pushH n hs v) tn tx re er → Fcl bs h h4 → KP (.inl (some (vi (J (v 117))))) h4) (k1 : refD v a m = 1 → KP (.inr 2) (bump h)) (k2 : refD v a m = 2 → KP (.inr 1) (bump h)) (k3 : refD v a m = 3 → KP (.inr 0) (bump h)) : CALL T N 117 [vr (some bs), vi (J a), vi (J m)] h KP := by
  have bb := I.1.b
  have o := C.o
  have eb := D.1.b
  unfold refD at k0 k1 k2 k3
  refine z117 o.1 ha hm ⟨bs + 1, o.2.1, C.2.1.1.t, d_hasNode C.2.1.1 ha (fun c1 => ⟨(fun z => absurd z (by decide)), fun _ => ?_⟩) (fun c1 => ⟨fun _ => ⟨C.t0, k1 (if_pos (by omega))⟩, (fun z => absurd rfl z)⟩)⟩
  have q1 : ¬ ¬ (0 ≤ a ∧ a < v 0) := by omega
  rw [if_neg q1] at k0 k2 k3
  refine ⟨fun c2 => ⟨C.t0, k2 (if_pos (by omega))⟩, fun c2 => ⟨fun c3 => ⟨C.t0, k2 (if_pos (by omega))⟩, fun c3 => ⟨bs + 1, o.2.1, C.2.1.1.t, fun c4 => ⟨bs + 589, o.2.2.2.1, C.1.his.1, ?_⟩, fun c4 => ⟨C.t0, k3 ?_⟩⟩⟩⟩
  · rw [if_neg (by omega), if_neg (by omega)] at k0
    rw [o.2.1]
    refine dv_rem C I D fun h2 C2 D2 I2 F2 g2 => ⟨bs + 1, by rw [g2]; exact o.2.1, C.2.1.1.t, ?_⟩
    refine d_newDrone D2.1 I.1 (by omega) (by omega) (by omega) fun h3 F3 W3 => ?_
    obtain ⟨C5, D5, I5, F5⟩ := dv_wo C2 I2 D2 F3 W3 (droV_Iv I.1 (by omega) (by omega) (by omega))
    exact k0 rfl h3 C5 D5 I5 (F2.tr F5)
  · rw [if_neg (by omega), if_pos (by omega)]
theorem r_refuses (R : RT T N A h) (V : Rv A h v) (I : Iv v) (ha : In a) (hm : In m) (k : K (refD v a m) h) : ZI T N 194 [vr (some A), vi (J a), vi (J m)] h K := by
  have bb := I.b
  have n1 := R.a1.2.1
  have e0 := V 0 (by omega) (by omega)
  have e11 := V 117 (by omega) (by omega)
  unfold refD at k
  refine z194 R.t ha hm (r_isNode R ha (by omega) (fun c1 => ⟨(fun z => absurd z (by decide)), fun _ => ?_⟩) (fun c1 => ⟨fun _ => ?_, (fun z => absurd rfl z)⟩))
  rotate_left
  · rw [if_pos (by omega)] at k; exact k
  rw [if_neg (by omega)] at k
  refine r_in hm (by decide) (by decide) (fun c4 => ⟨(fun z => absurd z (by decide)), fun _ => ?_⟩) (fun c4 => ⟨fun _ => ?_, (fun z => absurd rfl z)⟩)
  rotate_left
  · rw [if_pos (by omega)] at k; exact k
  rw [if_neg (by omega)] at k
  refine ⟨A + 1, R.a1.2.2, R.a1.1, by omega, fun c6 => ?_, fun c6 => ?_⟩
  · rw [if_pos (by omega)] at k; exact k
  · rw [if_neg (by omega)] at k; exact k
theorem r_addsD_loop (R : RT T N A h) (S : SR A h v iss sv n hs tn tx re er) (I : Iv v) (hn : 0 ≤ a ∧ a < v 0) (he : 1 ≤ m ∧ m ≤ 200) (hv : v 117 < 6) (k : ∀ h2, RT T N A h2 → FR (Vw A) h h2 → Rv A h2 (droV v a m) → K (v 117) h2) : ∀ (q : Nat) (x : Int) (h3 : PH), x = 55 - q → 0 ≤ x → RT T N A h3 → FR (Vw A) h h3 → Rv A h3 (putD v (v 117) (zE (rc v (v 117)) x)) → ZW T N 195 30 [some (vr (some A)), some (vi (J a)), some (vi (J m)), some (vi (J (v 117))), some (vi (J x))] [] h3 K := by
  have bb := I.b
  have hd : 0 ≤ v 117 ∧ v 117 < 6 := by omega
  have pv := I.p hn.1 hn.2
  intro q
  induction q with
  | zero =>
    intro x h3 hx h0 R3 F3 V3
    have n1 := R3.a1.2.1
    refine z195_30 R.t (by omega) (by omega) (by omega) (by omega) ⟨fun c => by omega, fun c => ⟨A + 1, R3.a1.2.2, R3.a1.1, by omega, ?_⟩⟩
    rw [V3 _ (by omega) (by omega), putD_lo hd.1 (by omega)]
    have V3' : Rv A h3 (putD v (v 117) (fun _ => 0)) := V3.cg fun j a1 a2 => by
      unfold putD zE
      by_cases c2 : 118 + 55 * v 117 ≤ j ∧ j < 118 + 55 * v 117 + 55
      · rw [if_pos c2, if_pos c2, if_pos (by omega)]
      · rw [if_neg c2, if_neg c2]
    have go : ∀ s, s = (if v (1 + a) = 1 then 0 else 1) → CV T N 169 [vr (some A), vi (J (v 117)), vi (J 0), vi (J s)] h3 (fun h_35 => (CV T N 169 [vr (some A), vi (J (v 117)), vi (J 1), vi (J m)] h_35 (fun h_38 => (CV T N 169 [vr (some A), vi (J (v 117)), vi (J 6), vi (J m)] h_38 (fun h_41 => (CV T N 169 [vr (some A), vi (J (v 117)), vi (J 3), vi (J a)] h_41 (fun h_44 => (CV T N 169 [vr (some A), vi (J (v 117)), vi (J 4), vi (J (-1))] h_44 (fun h_47 => (∃ a_51, (gr h_47 A 1) = some a_51 ∧ T a_51 = 22 ∧ (0 ≤ (117 : Int) ∧ (117 : Int) < (N a_51 : Int) ∧ (117 : Int) < 2147483648) ∧ ∀ h_56, h_56 = wi h_47 a_51 117 ((ai h_47 a_51 117) + 1) → K (v 117) h_56)))))))))) := by
      intro s hs
      have hsb : In s := by rw [hs]; split <;> decide
      refine r_setD R3 V3' hd (by omega) hsb fun h4 R4 F4 V4 => r_setD R4 V4 hd (by omega) (by omega) fun h5 R5 F5 V5 => r_setD R5 V5 hd (by omega) (by omega) fun h6 R6 F6 V6 => r_setD R6 V6 hd (by omega) (by omega) fun h7 R7 F7 V7 => r_setD R7 V7 hd (by omega) (by decide) fun h8 R8 F8 V8 => ?_
      have n8 := R8.a1.2.1
      refine ⟨A + 1, R8.a1.2.2, R8.a1.1, by omega, ?_⟩
      rw [V8 117 (by omega) (by omega), putD_lo hd.1 (by omega)]
      intro h9 z9
      have V9 := V8.w (i := 117) (x := v 117 + 1) (by omega) (by omega)
      rw [← z9] at V9
      refine k h9 (R8.fr (by subst z9; exact FR.pw (show Vw A (A + 1) _ from rfl))) ((((((F3.tr F4).tr F5).tr F6).tr F7).tr F8).tr (by subst z9; exact FR.pw rfl)) (V9.cg fun j a1 a2 => ?_)
      unfold droV
      by_cases c2 : j = 117
      · rw [up_eq c2, up_eq c2]
      · rw [up_ne c2, up_ne c2]
        unfold putD
        by_cases c3 : 118 + 55 * v 117 ≤ j ∧ j < 118 + 55 * v 117 + 55
        · rw [if_pos c3, if_pos c3]
          unfold up newE
          generalize j - 118 - 55 * v 117 = y
          rw [hs]
          by_cases y4 : y = 4
          · rw [if_pos y4, if_neg (by omega), if_neg (by omega), if_neg (by omega), if_pos y4]
          rw [if_neg y4]
          by_cases y3 : y = 3
          · rw [if_pos y3, if_neg (by omega), if_neg (by omega), if_pos y3]
          rw [if_neg y3]
          by_cases y6 : y = 6
          · rw [if_pos y6, if_neg (by omega), if_neg (by omega), if_neg y3, if_neg y4, if_pos y6]
          rw [if_neg y6]
          by_cases y1 : y = 1
          · rw [if_pos y1, if_neg (by omega), if_pos y1]
          rw [if_neg y1]
          by_cases y0 : y = 0
          · rw [if_pos y0, if_pos y0]
          rw [if_neg y0, if_neg y0, if_neg y1, if_neg y3, if_neg y4, if_neg y6]
        · rw [if_neg c3, if_neg c3]
    refine ⟨fun c2 => go 0 (by rw [if_pos c2]), fun c2 => go 1 (by rw [if_neg c2])⟩
  | succ q ih =>
    intro x h3 hx h0 R3 F3 V3
    refine z195_30 R.t (by omega) (by omega) (by omega) (by omega) ⟨fun c => ?_, fun c => absurd (by omega) c⟩
    refine r_setD R3 V3 hd (by omega) (by decide) fun h4 R4 F4 V4 => ih (x + 1) h4 (by omega) (by omega) R4 (F3.tr F4) (V4.cg fun j a1 a2 => ?_)
    unfold putD up zE
    by_cases c2 : 118 + 55 * v 117 ≤ j ∧ j < 118 + 55 * v 117 + 55
    · rw [if_pos c2, if_pos c2]
      by_cases c3 : j - 118 - 55 * v 117 = x
      · rw [if_pos c3, if_pos (by omega)]
      · rw [if_neg c3]
        by_cases c4 : j - 118 - 55 * v 117 < x
        · rw [if_pos c4, if_pos (by omega)]
        · rw [if_neg c4, if_neg (by omega)]
    · rw [if_neg c2, if_neg c2]
theorem r_addsDrone (R : RT T N A h) (S : SR A h v iss sv n hs tn tx re er) (I : Iv v) (ha : In a) (hm : In m) (k0 : refD v a m = 0 → ∀ h2, RT T N A h2 → FR (RVw A) h h2 → SR A h2 (droV v a m) iss sv n hs tn tx re er → ai h2 A 0 = 0 → K (v 117) h2) (k1 : refD v a m ≠ 0 → ∀ h2, RT T N A h2 → FR (RVw A) h h2 → SR A h2 v iss sv n hs tn tx re er → ai h2 A 0 = refD v a m → K 0 h2) : ZI T N 195 [vr (some A), vi (J a), vi (J m)] h K := by
  have bb := I.b
  refine z195 R.t ha hm (r_refuses R S.1 I ha hm ?_)
  intro h3 z3
  obtain ⟨S3, F3⟩ := S.th (x := refD v a m)
  rw [← z3] at S3 F3
  have rb := refD_b (v := v) (a := a) (m := m)
  have e3 : ai h3 A 0 = refD v a m := by subst z3; exact rd_eq rfl rfl (by omega)
  rw [e3]
  have R3 := R.fr F3
  have n1 := R3.a1.2.1
  refine ⟨fun c => k1 (by omega) h3 R3 F3.sc S3 e3, fun c => ?_⟩
  have c0 : refD v a m = 0 := by omega
  obtain ⟨q1, q2, q6⟩ := refD_0 I c0
  refine ⟨A + 1, R3.a1.2.2, R3.a1.1, by omega, ?_⟩
  rw [S3.1 117 (by omega) (by omega)]
  refine r_addsD_loop R3 S3 I q1 q2 q6 (fun h4 R4 F4 V4 => k0 c0 h4 R4 (F3.sc.tr F4.vw) (S3.vv F4.vw V4) (by rw [frA F4, e3, c0])) 55 0 h3 (by omega) (by omega) R3 FR.rf (S3.1.cg fun j a1 a2 => ?_)
  unfold putD zE rc
  by_cases c2 : 118 + 55 * v 117 ≤ j ∧ j < 118 + 55 * v 117 + 55
  · rw [if_pos c2, if_neg (by omega)]; congr 1; omega
  · rw [if_neg c2]
theorem P_addDrone (S : Sim T N bs h i) (ha : In a) (hm : In m) (k : Cont T N bs i h Q) : ZI T N 266 [vr (some bs), vi (J a), vi (J m), vr (some (bs + 3309))] h (fun c h1 => ZI T N 196 [vr (some (bs + 3296)), vi (J a), vi (J m)] h1 (fun b h2 => ZI T N 156 [vr (some (bs + 3296))] h2 (fun t h3 => Q c b t h3))) := by
  obtain ⟨v, iss, sv, n, hs, tn, tx, re, er, C, I, D, R⟩ := S
  have bb := I.1.b
  have o := C.o
  have out := C.out
  have bad : ∀ {h7 : PH} {c : Int}, Com T N bs h7 (i + 1) → SD T N bs h7 v iss sv n hs tn tx re er → Fcl bs h h7 → refD v a m = c → c ≠ 0 → ZI T N 196 [vr (some (bs + 3296)), vi (J a), vi (J m)] h7 (fun b h2 => ZI T N 156 [vr (some (bs + 3296))] h2 (fun t h3 => Q c b t h3)) := by
    intro h7 c C7 D7 F7 hc h0
    have R7 := R.fd F7
    refine z196 C7.rt.t ha hm (r_refuses C7.rt R7.1 I.1 ha hm ?_)
    rw [hc]
    intro h8 z8
    obtain ⟨R8, F8⟩ := R7.th (x := c)
    rw [← z8] at R8 F8
    have rb := refD_b (v := v) (a := a) (m := m)
    have e8 : ai h8 (bs + 3296) 0 = c := by subst z8; exact rd_eq rfl rfl (by omega)
    rw [e8]
    exact ⟨fun _ => fin k C7 I D7 F7 F8.sk R8 e8 (by decide) fun z => absurd z h0, fun z => by omega⟩
  refine z266 o.1 out.1 ha hm (c_addDrone C I D ha hm (fun c0 h4 C4 D4 I4 F4 => Or.inl ⟨v 117, rfl, by omega, by omega, ?_⟩) (fun c => Or.inr (Or.inl ⟨rfl, bad C.bm (D.bm I) Fcl.bm c (by decide)⟩)) (fun c => Or.inr (Or.inr (Or.inl ⟨rfl, bad C.bm (D.bm I) Fcl.bm c (by decide)⟩))) (fun c => Or.inr (Or.inr (Or.inr ⟨rfl, bad C.bm (D.bm I) Fcl.bm c (by decide)⟩))))
  intro h7 z7; subst z7
  obtain ⟨C7, D7, F7, G7⟩ := tail0 (h := h) C4 D4 I4 F4 (x := (J (v 117)).toInt64)
  generalize sL h4 (bs + 3309) (Int.toNat 0) (J (v 117)).toInt64 = h7 at *
  have R7 := R.fd F7
  refine z196 C7.rt.t ha hm (r_refuses C7.rt R7.1 I.1 ha hm ?_)
  rw [c0]
  intro h8 z8
  obtain ⟨R8, F8⟩ := R7.th (x := 0)
  rw [← z8] at R8 F8
  have e8 : ai h8 (bs + 3296) 0 = 0 := by subst z8; exact rd_eq rfl rfl (by decide)
  rw [e8]
  refine ⟨(fun z => absurd z (by decide)), fun _ => ?_⟩
  refine rs_keeps (C7.rt.fr F8) R8 I.2.2.2.1 fun h9 T9 F9 R9 => r_addsDrone T9 R9 I.1 ha hm (fun _ h10 T10 F10 R10 e10 => ?_) (fun z => absurd c0 z)
  exact fin k C7 I4 D7 F7 ((F8.sk.tr F9.rk2).tr F10.rk1) R10 e10 (by omega) fun _ => G7
end MU2
