/-! CALLS THAT CHANGE THE WORLD: corridors, winds, drones -/
def refC (v : Int → Int) (a b l w : Int) : Int := if ¬ (0 ≤ a ∧ a < v 0) then 1 else if ¬ (0 ≤ b ∧ b < v 0) then 1 else if a = b then 2 else if ¬ (1 ≤ l ∧ l ≤ 9) then 2 else if ¬ (-l ≤ w ∧ w ≤ l) then 2 else if v 11 = 16 then 3 else 0
section MUT
variable {T N : Nat → Nat} {bs A : Nat} {h h1 h2 h3 h7 h10 : PH} {v u sv tx e : Int → Int} {hs hs2 : Int → Int → Int} {iss n tn re er d t a b l w : Int} {i : Nat} {K : Int → PH → Prop} {KV : PH → Prop} {KP : PR → PH → Prop} {Q : Int → Int → Int → PH → Prop} {f g : Int → Int}
theorem dv_rem (C : Com T N bs h i) (I : IvS v iss sv n hs tn tx re er) (D : SD T N bs h v iss sv n hs tn tx re er) (k : ∀ h2, Com T N bs h2 i → SD T N bs h2 v iss sv (pushN n) (pushH n hs v) tn tx re er → IvS v iss sv (pushN n) (pushH n hs v) tn tx re er → Fcl bs h h2 → gr h2 = gr h → KV h2) : CV T N 41 [vr (some (bs + 589)), vr (some (bs + 1))] h KV :=
  d_remember C.1 C.2.1 D.2.2.1 I.2.2.2.2.1 D.1 I.1 fun h2 F2 g2 H2 => k h2 (C.to F2 g2) (D.hi I (fun x z => F2.1 x z) H2) (I.push I.1) (Fcl.fp F2 fun x z => by omega) g2
theorem dv_wo (C : Com T N bs h i) (I : IvS v iss sv n hs tn tx re er) (D : SD T N bs h v iss sv n hs tn tx re er) (F : Fp (fun x => bs + 1 ≤ x ∧ x < bs + 1 + 294) h h2) (W : Wo T N h2 (bs + 1) u) (J : Iv u) : Com T N bs h2 i ∧ SD T N bs h2 u iss sv n hs tn tx re er ∧ IvS u iss sv n hs tn tx re er ∧ Fcl bs h h2 :=
  ⟨C.fr F ⟨W.o, C.2.1.2.1.fr fun b q1 q2 => F.1 b (by omega), fun j hj => (C.2.1.2.2.1 j hj).fr fun b q1 q2 => F.1 b (by omega), C.2.1.2.2.2.fr fun b q1 q2 => F.1 b (by omega)⟩ fun b hb k => (F.1 b (by omega)).gr k, D.wo I (fun x z => F.1 x (by omega)) W, ⟨J, I.2⟩, Fcl.fp F fun x z => by omega⟩
theorem r_refusal (R : RT T N A h) (V : Rv A h v) (I : Iv v) (ha : In a) (hb : In b) (hl : In l) (hw : In w) (k : K (refC v a b l w) h) : ZI T N 173 [vr (some A), vi (J a), vi (J b), vi (J l), vi (J w)] h K := by
  have bb := I.b
  have n1 := R.a1.2.1
  have e0 := V 0 (by omega) (by omega)
  have e11 := V 11 (by omega) (by omega)
  unfold refC at k
  refine z173 R.t ha hb hl hw (r_isNode R ha (by omega) (fun c1 => ⟨(fun z => absurd z (by decide)), fun _ => ?_⟩) (fun c1 => ⟨fun _ => ?_, (fun z => absurd rfl z)⟩))
  rotate_left
  · rw [if_pos (by omega)] at k; exact k
  rw [if_neg (by omega)] at k
  refine r_isNode R hb (by omega) (fun c2 => ⟨(fun z => absurd z (by decide)), fun _ => ?_⟩) (fun c2 => ⟨fun _ => ?_, (fun z => absurd rfl z)⟩)
  rotate_left
  · rw [if_pos (by omega)] at k; exact k
  rw [if_neg (by omega)] at k
  refine ⟨fun c3 => ?_, fun c3 => ?_⟩
  · rw [if_pos c3] at k; exact k
  rw [if_neg c3] at k
  refine r_in hl (by decide) (by decide) (fun c4 => ⟨(fun z => absurd z (by decide)), fun _ => ?_⟩) (fun c4 => ⟨fun _ => ?_, (fun z => absurd rfl z)⟩)
  rotate_left
  · rw [if_pos (by omega)] at k; exact k
  rw [if_neg (by omega)] at k
  refine r_in hw (by omega) hl (fun c5 => ⟨(fun z => absurd z (by decide)), fun _ => ?_⟩) (fun c5 => ⟨fun _ => ?_, (fun z => absurd rfl z)⟩)
  rotate_left
  · rw [if_pos (by omega)] at k; exact k
  rw [if_neg (by omega)] at k
  refine ⟨A + 1, R.a1.2.2, R.a1.1, by omega, fun c6 => ?_, fun c6 => ?_⟩
  · rw [if_pos (by omega)] at k; exact k
  · rw [if_neg (by omega)] at k; exact k
theorem refC_0 (hc : refC v a b l w = 0) (I : Iv v) : (0 ≤ a ∧ a < v 0) ∧ (0 ≤ b ∧ b < v 0) ∧ a ≠ b ∧ (1 ≤ l ∧ l ≤ 9) ∧ (-l ≤ w ∧ w ≤ l) ∧ v 11 < 16 := by
  have bb := I.b
  unfold refC at hc
  split at hc
  · omega
  split at hc
  · omega
  split at hc
  · omega
  split at hc
  · omega
  split at hc
  · omega
  split at hc
  · omega
  omega
theorem refC_b : refC v a b l w = 0 ∨ refC v a b l w = 1 ∨ refC v a b l w = 2 ∨ refC v a b l w = 3 := by
  unfold refC
  repeat' split
  all_goals omega
theorem d_windFor (hl : In l) (hw : In w) (hl2 : -2147483648 < l) (k1 : -l ≤ w ∧ w ≤ l → K 1 h) (k0 : ¬ (-l ≤ w ∧ w ≤ l) → K 0 h) : ZI T N 147 [vi (J l), vi (J w)] h K :=
  z147 hl hw ⟨by omega, fun c => k0 (by omega), fun c => ⟨fun c2 => k0 (by omega), fun c2 => k1 (by omega)⟩⟩
theorem c_addCor (C : Com T N bs h i) (I : IvS v iss sv n hs tn tx re er) (D : SD T N bs h v iss sv n hs tn tx re er) (ha : In a) (hb : In b) (hl : In l) (hw : In w) (k0 : refC v a b l w = 0 → ∀ h3, Com T N bs h3 i → SD T N bs h3 (corV v a b l w) iss sv (pushN n) (pushH n hs v) tn tx re er → Fcl bs h h3 → KP (.inl (some (vi (J (v 11))))) h3) (k1 : refC v a b l w = 1 → KP (.inr 2) (bump h)) (k2 : refC v a b l w = 2 → KP (.inr 1) (bump h)) (k3 : refC v a b l w = 3 → KP (.inr 0) (bump h)) : CALL T N 107 [vr (some bs), vi (J a), vi (J b), vi (J l), vi (J w)] h KP := by
  have bb := I.1.b
  have o := C.o
  have eb := D.1.b
  have I0 := I.1
  unfold refC at k0 k1 k2 k3
  refine z107 o.1 ha hb hl hw ⟨bs + 1, o.2.1, C.2.1.1.t, d_hasNode C.2.1.1 ha (fun c1 => ⟨(fun z => absurd z (by decide)), fun _ => ⟨bs + 1, o.2.1, C.2.1.1.t, ?_⟩⟩) (fun c1 => ⟨fun _ => ⟨C.t0, k1 (if_pos (by omega))⟩, (fun z => absurd rfl z)⟩)⟩
  have q1 : ¬ ¬ (0 ≤ a ∧ a < v 0) := by omega
  rw [if_neg q1] at k0 k1 k2 k3
  refine d_hasNode C.2.1.1 hb (fun c2 => ⟨(fun z => absurd z (by decide)), fun _ => ?_⟩) (fun c2 => ⟨fun _ => ⟨C.t0, k1 (if_pos (by omega))⟩, (fun z => absurd rfl z)⟩)
  have q2 : ¬ ¬ (0 ≤ b ∧ b < v 0) := by omega
  rw [if_neg q2] at k0 k1 k2 k3
  refine ⟨fun c3 => ⟨C.t0, k2 (if_pos c3)⟩, fun c3 => ?_⟩
  rw [if_neg c3] at k0 k1 k2 k3
  refine ⟨fun c4 => ⟨C.t0, k2 (if_pos (by omega))⟩, fun c4 => ⟨fun c4b => ⟨C.t0, k2 (if_pos (by omega))⟩, fun c4b => ?_⟩⟩
  have q4 : ¬ ¬ (1 ≤ l ∧ l ≤ 9) := by omega
  rw [if_neg q4] at k0 k1 k2 k3
  refine d_windFor hl hw (by omega) (fun c5 => ⟨(fun z => absurd z (by decide)), fun _ => ⟨bs + 1, o.2.1, C.2.1.1.t, ?_⟩⟩) (fun c5 => ⟨fun _ => ⟨C.t0, k2 (if_pos (by omega))⟩, (fun z => absurd rfl z)⟩)
  have q5 : ¬ ¬ (-l ≤ w ∧ w ≤ l) := by omega
  rw [if_neg q5] at k0 k1 k2 k3
  refine ⟨fun c6 => ⟨bs + 589, o.2.2.2.1, C.1.his.1, ?_⟩, fun c6 => ⟨C.t0, k3 (if_pos (by omega))⟩⟩
  rw [o.2.1]
  have q6 : ¬ v 11 = 16 := by omega
  rw [if_neg q6] at k0
  refine dv_rem C I D fun h2 C2 D2 I2 F2 g2 => ⟨bs + 1, by rw [g2]; exact o.2.1, C.2.1.1.t, ?_⟩
  refine d_newCor D2.1 I.1 (by omega) ha hb hl hw fun h3 F3 W3 => ?_
  obtain ⟨C3, D3, I3, G3⟩ := dv_wo C2 I2 D2 F3 W3 (corV_Iv I0 (by omega) (by omega) (by omega) c3 (by omega) (by omega))
  exact k0 rfl h3 C3 D3 (F2.tr G3)
theorem r_addsCor (R : RT T N A h) (S : SR A h v iss sv n hs tn tx re er) (I : Iv v) (ha : In a) (hb : In b) (hl : In l) (hw : In w) (k0 : refC v a b l w = 0 → ∀ h2, RT T N A h2 → FR (RVw A) h h2 → SR A h2 (corV v a b l w) iss sv n hs tn tx re er → ai h2 A 0 = 0 → K (v 11) h2) (k1 : refC v a b l w ≠ 0 → ∀ h2, RT T N A h2 → FR (RVw A) h h2 → SR A h2 v iss sv n hs tn tx re er → ai h2 A 0 = refC v a b l w → K 0 h2) : ZI T N 174 [vr (some A), vi (J a), vi (J b), vi (J l), vi (J w)] h K := by
  have bb := I.b
  refine z174 R.t ha hb hl hw (r_refusal R S.1 I ha hb hl hw ?_)
  intro h3 z3
  obtain ⟨S3, F3⟩ := S.th (x := refC v a b l w)
  rw [← z3] at S3 F3
  have rb := refC_b (v := v) (a := a) (b := b) (l := l) (w := w)
  have e3 : ai h3 A 0 = refC v a b l w := by subst z3; exact rd_eq rfl rfl (by omega)
  rw [e3]
  have R3 := R.fr F3
  have n1 := R3.a1.2.1
  refine ⟨fun c => k1 (by omega) h3 R3 F3.sc S3 e3, fun c => ?_⟩
  have c0 : refC v a b l w = 0 := by omega
  obtain ⟨q1, q2, q3, q4, q5, q6⟩ := refC_0 c0 I
  have e11 := S3.1 11 (by omega) (by omega)
  refine ⟨A + 1, R3.a1.2.2, R3.a1.1, by omega, A + 1, R3.a1.2.2, R3.a1.1, by omega, ?_⟩
  rw [e11]
  intro h4 z4
  refine ⟨A + 1, by rw [z4]; exact R3.a1.2.2, R3.a1.1, by omega, ?_⟩
  intro h5 z5
  refine ⟨A + 1, by rw [z5, z4]; exact R3.a1.2.2, R3.a1.1, by omega, ?_⟩
  intro h6 z6
  refine ⟨A + 1, by rw [z6, z5, z4]; exact R3.a1.2.2, R3.a1.1, by omega, ?_⟩
  intro h7 z7
  have g7 : gr h7 = gr h3 := by rw [z7, z6, z5, z4]; rfl
  have F7 : FR (Vw A) h3 h7 := by rw [z7, z6, z5, z4]; exact (((FR.pw (show Vw A (A + 1) _ from rfl)).tr (FR.pw (show Vw A (A + 1) _ from rfl))).tr (FR.pw (show Vw A (A + 1) _ from rfl))).tr (FR.pw (show Vw A (A + 1) _ from rfl))
  have e7 : ai h7 (A + 1) 11 = v 11 := by rw [z7, z6, z5, z4, rd_k (by omega) (by omega) (by omega), rd_k (by omega) (by omega) (by omega), rd_k (by omega) (by omega) (by omega), rd_k (by omega) (by omega) (by omega)]; exact e11
  refine ⟨A + 1, by rw [g7]; exact R3.a1.2.2, R3.a1.1, by omega, ?_⟩
  rw [e7]
  intro h8 z8
  have e8 : ai h8 (A + 1) 11 = v 11 + 1 := by subst z8; exact rd_eq rfl rfl (by omega)
  have F8 : FR (Vw A) h3 h8 := by subst z8; exact F7.tr (FR.pw rfl)
  refine ⟨A + 1, by rw [z8]; show gr h7 A 1 = _; rw [g7]; exact R3.a1.2.2, R3.a1.1, by omega, ?_⟩
  rw [e8, show v 11 + 1 - 1 = v 11 by omega]
  have V8 : Rv A h8 (corV v a b l w) := by
    intro j h1 h2
    unfold corV
    by_cases c1 : j = 11
    · rw [if_pos c1, c1]; exact e8
    rw [if_neg c1, z8, rd_k c1 h1 (by omega), z7]
    by_cases c5 : j = 12 + 4 * v 11 + 3
    · rw [if_neg (by omega), if_neg (by omega), if_neg (by omega), if_pos c5, rd_eq rfl c5 hw]
    rw [rd_k c5 h1 (by omega), z6]
    by_cases c4 : j = 12 + 4 * v 11 + 2
    · rw [if_neg (by omega), if_neg (by omega), if_pos c4, rd_eq rfl c4 hl]
    rw [rd_k c4 h1 (by omega), z5]
    by_cases c3 : j = 12 + 4 * v 11 + 1
    · rw [if_neg (by omega), if_pos c3, rd_eq rfl c3 hb]
    rw [rd_k c3 h1 (by omega), z4]
    by_cases c2 : j = 12 + 4 * v 11
    · rw [if_pos c2, rd_eq rfl c2 ha]
    rw [rd_k c2 h1 (by omega), if_neg c2, if_neg c3, if_neg c4, if_neg c5]
    exact S3.1 j h1 h2
  have e0 : ai h8 A 0 = 0 := by rw [frA F8, e3, c0]
  exact ⟨by omega, k0 c0 h8 (R3.fr F8) (F3.sc.tr F8.vw) (S3.vv F8.vw V8) e0⟩
theorem P_addCorridor (S : Sim T N bs h i) (ha : In a) (hb : In b) (hl : In l) (hw : In w) (k : Cont T N bs i h Q) : ZI T N 256 [vr (some bs), vi (J a), vi (J b), vi (J l), vi (J w), vr (some (bs + 3309))] h (fun c h1 => ZI T N 175 [vr (some (bs + 3296)), vi (J a), vi (J b), vi (J l), vi (J w)] h1 (fun b h2 => ZI T N 156 [vr (some (bs + 3296))] h2 (fun t h3 => Q c b t h3))) := by
  obtain ⟨v, iss, sv, n, hs, tn, tx, re, er, C, I, D, R⟩ := S
  have bb := I.1.b
  have o := C.o
  have out := C.out
  have bad : ∀ {h7 : PH} {c : Int}, Com T N bs h7 (i + 1) → SD T N bs h7 v iss sv n hs tn tx re er → Fcl bs h h7 → refC v a b l w = c → c ≠ 0 → ZI T N 175 [vr (some (bs + 3296)), vi (J a), vi (J b), vi (J l), vi (J w)] h7 (fun b h2 => ZI T N 156 [vr (some (bs + 3296))] h2 (fun t h3 => Q c b t h3)) := by
    intro h7 c C7 D7 F7 hc h0
    have R7 := R.fd F7
    refine z175 C7.rt.t ha hb hl hw (r_refusal C7.rt R7.1 I.1 ha hb hl hw ?_)
    rw [hc]
    intro h8 z8
    obtain ⟨R8, F8⟩ := R7.th (x := c)
    rw [← z8] at R8 F8
    have rb := refC_b (v := v) (a := a) (b := b) (l := l) (w := w)
    have e8 : ai h8 (bs + 3296) 0 = c := by subst z8; exact rd_eq rfl rfl (by omega)
    rw [e8]
    exact ⟨fun _ => fin k C7 I D7 F7 F8.sk R8 e8 (by decide) fun z => absurd z h0, fun z => by omega⟩
  refine z256 o.1 out.1 ha hb hl hw (c_addCor C I D ha hb hl hw (fun c0 h3 C3 D3 F3 => Or.inl ⟨v 11, rfl, by omega, by omega, ?_⟩) (fun c => Or.inr (Or.inl ⟨rfl, bad C.bm (D.bm I) Fcl.bm c (by decide)⟩)) (fun c => Or.inr (Or.inr (Or.inl ⟨rfl, bad C.bm (D.bm I) Fcl.bm c (by decide)⟩))) (fun c => Or.inr (Or.inr (Or.inr ⟨rfl, bad C.bm (D.bm I) Fcl.bm c (by decide)⟩))))
  obtain ⟨q1, q2, q3, q4, q5, q6⟩ := refC_0 c0 I.1
  have I3 := I.push (corV_Iv I.1 q6 q1 q2 q3 q4 q5)
  intro h7 z7; subst z7
  obtain ⟨C7, D7, F7, G7⟩ := tail0 (h := h) C3 D3 I3 F3 (x := (J (v 11)).toInt64)
  generalize sL h3 (bs + 3309) (Int.toNat 0) (J (v 11)).toInt64 = h7 at *
  have R7 := R.fd F7
  refine z175 C7.rt.t ha hb hl hw (r_refusal C7.rt R7.1 I.1 ha hb hl hw ?_)
  rw [c0]
  intro h8 z8
  obtain ⟨R8, F8⟩ := R7.th (x := 0)
  rw [← z8] at R8 F8
  have e8 : ai h8 (bs + 3296) 0 = 0 := by subst z8; exact rd_eq rfl rfl (by decide)
  rw [e8]
  refine ⟨(fun z => absurd z (by decide)), fun _ => ?_⟩
  refine rs_keeps (C7.rt.fr F8) R8 I.2.2.2.1 fun h9 T9 F9 R9 => r_addsCor T9 R9 I.1 ha hb hl hw (fun _ h10 T10 F10 R10 e10 => ?_) (fun z => absurd c0 z)
  exact fin k C7 I3 D7 F7 ((F8.sk.tr F9.rk2).tr F10.rk1) R10 e10 (by omega) fun _ => G7
end MUT
