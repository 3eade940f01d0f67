/-! CALLS ON BOTH SIDES, one behind the other -/
def Sim (T N : Nat → Nat) (bs : Nat) (h : PH) (i : Nat) : Prop := ∃ v iss sv n hs tn tx re er, Com T N bs h i ∧ IvS v iss sv n hs tn tx re er ∧ SD T N bs h v iss sv n hs tn tx re er ∧ SR (bs + 3296) h v iss sv n hs tn tx re er
/-- the script is the same -/
def Scp (bs : Nat) (h h2 : PH) : Prop := ∀ x, x < bs → sm x h h2
section PAR
variable {T N : Nat → Nat} {bs A a b w : Nat} {h h1 h2 h3 : PH} {v u sv tx e : Int → Int} {hs hs2 : Int → Int → Int} {iss n tn re er d t : Int} {i : Nat} {K : Int → PH → Prop} {KV : PH → Prop}
/-- the class's answer is stored -/
theorem tail0 (C : Com T N bs h2 i) (D : SD T N bs h2 v iss sv n hs tn tx re er) (I : IvS v iss sv n hs tn tx re er) (F : Fcl bs h h2) {x : Int64} : Com T N bs (sL h2 (bs + 3309) (Int.toNat 0) x) (i + 1) ∧ SD T N bs (sL h2 (bs + 3309) (Int.toNat 0) x) v iss sv n hs tn tx re er ∧ Fcl bs h (sL h2 (bs + 3309) (Int.toNat 0) x) ∧ gl (sL h2 (bs + 3309) (Int.toNat 0) x) (bs + 3309) 0 = x := by
  have F2 : Fp (fun x => x = bs + 3309) h2 (sL h2 (bs + 3309) (Int.toNat 0) x) := Fp.pl rfl
  exact ⟨(C.to F2 rfl).up, D.fr I fun y q1 q2 q3 => F2.1 y (by omega), F.tr (Fcl.fp F2 fun y z => by omega), by rw [gl_sL', if_pos ⟨rfl, rfl⟩]⟩
theorem Scp.cl (F : Fcl bs h h2) : Scp bs h h2 := fun x hx => F x (by omega)
theorem Scp.fm (F : Fm bs h h2) : Scp bs h h2 := fun x hx => F x (by omega)
theorem Scp.tr (s : Scp bs h h2) (t : Scp bs h2 h3) : Scp bs h h3 := fun x hx => (s x hx).tr (t x hx)
/-- behind both calls -/
theorem Sim.mk' {P : Nat → Nat → Prop} (C : Com T N bs h1 i) (I : IvS v iss sv n hs tn tx re er) (D : SD T N bs h1 v iss sv n hs tn tx re er) (F : FR P h1 h2) (g : ∀ b k, P b k → bs + 3296 ≤ b ∧ b < bs + 3309) (R : SR (bs + 3296) h2 v iss sv n hs tn tx re er) : Sim T N bs h2 i ∧ Scp bs h1 h2 ∧ gl h2 (bs + 3309) 0 = gl h1 (bs + 3309) 0 := by
  have Fmm := Fm.fr (bs := bs) F g
  exact ⟨⟨v, iss, sv, n, hs, tn, tx, re, er, C.fm F, I, D.fm I Fmm, R⟩, Scp.fm Fmm, (Fmm (bs + 3309) (by omega)).2.2 0⟩
theorem RVw_in : ∀ b k, RVw (bs + 3296) b k → bs + 3296 ≤ b ∧ b < bs + 3309 := fun b k z => by unfold RVw Scr at z; omega
theorem Scr_in : ∀ b k, Scr (bs + 3296) b k → bs + 3296 ≤ b ∧ b < bs + 3309 := fun b k z => by unfold Scr at z; omega
def RKw (A b k : Nat) : Prop := RVw A b k ∨ Kw A b k
theorem RKw_in : ∀ b k, RKw (bs + 3296) b k → bs + 3296 ≤ b ∧ b < bs + 3309 := fun b k z => by unfold RKw RVw Scr Kw at z; omega
theorem FR.rk1 (F : FR (RVw A) h h2) : FR (RKw A) h h2 := F.mo fun _ _ z => Or.inl z
theorem FR.rk2 (F : FR (Kw A) h h2) : FR (RKw A) h h2 := F.mo fun _ _ z => Or.inr z
theorem FR.sc (F : FR (Scr A) h h2) : FR (RVw A) h h2 := F.mo fun _ _ z => Or.inr z
theorem r_thrown (R : RT T N A h) (k : K (ai h A 0) h) : ZI T N 156 [vr (some A)] h K := z156 R.t k
/-- addsNode -/
theorem r_addsNode (R : RT T N A h) (V : Rv A h v) (hn : 0 ≤ v 0 ∧ v 0 < 10) {p : Int} (hp : p = 0 ∨ p = 1) (k : ∀ h2, RT T N A h2 → FR (Vw A) h h2 → Rv A h2 (nodeV v p) → K (v 0) h2) : ZI T N 171 [vr (some A), vi (J p)] h K := by
  have n1 := R.a1.2.1
  have e0 := V 0 (by omega) (by omega)
  refine z171 R.t (by omega) ⟨A + 1, R.a1.2.2, R.a1.1, by omega, fun c => absurd c (by omega), fun c => ⟨A + 1, R.a1.2.2, R.a1.1, by omega, ?_⟩⟩
  rw [e0]
  have go : ∀ h3, h3 = wi h (A + 1) (1 + v 0) p → ∃ a_22, (gr h3 A 1) = some a_22 ∧ T a_22 = 22 ∧ (0 ≤ (0 : Int) ∧ (0 : Int) < (N a_22 : Int) ∧ (0 : Int) < 2147483648) ∧ ∀ h4, h4 = wi h3 a_22 0 ((ai h3 a_22 0) + 1) → ∃ a_31, (gr h4 A 1) = some a_31 ∧ T a_31 = 22 ∧ (0 ≤ (0 : Int) ∧ (0 : Int) < (N a_31 : Int) ∧ (0 : Int) < 2147483648) ∧ In ((ai h4 a_31 0) - 1) ∧ K ((ai h4 a_31 0) - 1) h4 := by
    intro h3 z3
    have g3 : gr h3 = gr h := by subst z3; rfl
    have e3 : ai h3 (A + 1) 0 = v 0 := by subst z3; rw [rd_k (by omega) (by omega) (by omega)]; exact e0
    refine ⟨A + 1, by rw [g3]; exact R.a1.2.2, R.a1.1, by omega, ?_⟩
    rw [e3]
    intro h4 z4
    have g4 : gr h4 = gr h := by subst z4; exact g3
    have e4 : ai h4 (A + 1) 0 = v 0 + 1 := by subst z4; exact rd_eq rfl rfl (by omega)
    refine ⟨A + 1, by rw [g4]; exact R.a1.2.2, R.a1.1, by omega, ?_⟩
    rw [e4, show v 0 + 1 - 1 = v 0 by omega]
    refine ⟨by omega, k h4 (R.to g4) (by subst z4; subst z3; exact (FR.pw (show Vw A (A + 1) _ from rfl)).tr (FR.pw (show Vw A (A + 1) _ from rfl))) fun j h1 h2 => ?_⟩
    unfold nodeV
    by_cases c0 : j = 0
    · rw [if_pos c0, c0]; exact e4
    · rw [if_neg c0]
      subst z4
      rw [rd_k c0 h1 (by omega)]
      subst z3
      by_cases c1 : j = 1 + v 0
      · rw [if_pos c1, rd_eq rfl c1 (by omega)]
      · rw [if_neg c1, rd_k c1 h1 (by omega)]; exact V j h1 h2
  refine ⟨fun c0 => ⟨by omega, ?_⟩, fun c0 => ⟨by omega, ?_⟩⟩
  · subst c0; exact go
  · have c1 : p = 1 := by omega
    subst c1; exact go
theorem P_addNode (S : Sim T N bs h i) {p : Int} (hp : p = 0 ∨ p = 1) {Q : Int → Int → Int → PH → Prop} (hK : ∀ c h1, Scp bs h h1 → ZI T N 172 [vr (some (bs + 3296)), vi (J p)] h1 (fun b h2 => ZI T N 156 [vr (some (bs + 3296))] h2 (fun t h3 => Q c b t h3)) → K c h1) (k : ∀ c b h3, Sim T N bs h3 (i + 1) → Scp bs h h3 → In c → In b → (c = 0 → gl h3 (bs + 3309) 0 = (J b).toInt64) → Q c b c h3) : ZI T N 255 [vr (some bs), vi (J p), vr (some (bs + 3309))] h K := by
  obtain ⟨v, iss, sv, n, hs, tn, tx, re, er, C, I, D, R⟩ := S
  have b := I.1.b
  have o := C.o
  have out := C.out
  have eb := D.1.b
  refine z255 o.1 out.1 (by omega) (z106 o.1 (by omega) ⟨bs + 1, o.2.1, C.2.1.1.t, fun c1 => ?_, fun c1 => ?_⟩)
  · have hn : v 0 < 10 := by omega
    have In' := nodeV_Iv I.1 hn hp
    refine ⟨bs + 589, o.2.2.2.1, C.1.his.1, ?_⟩
    rw [o.2.1]
    refine d_remember C.1 C.2.1 D.2.2.1 I.2.2.2.2.1 D.1 I.1 fun h2 F2 g2 H2 => ⟨bs + 1, by rw [g2]; exact o.2.1, C.2.1.1.t, ?_⟩
    have C2 := C.to F2 g2
    have D2 := D.hi I (fun x z => F2.1 x z) H2
    have I2 := I.push I.1
    refine d_newNode D2.1 I.1 hn hp fun h3 F3 W3 => Or.inl ⟨v 0, rfl, by omega, by omega, ?_⟩
    have C3 := C2.fr F3 ⟨W3.o, C2.2.1.2.1.fr fun b q1 q2 => F3.1 b (by omega), fun j hj => (C2.2.1.2.2.1 j hj).fr fun b q1 q2 => F3.1 b (by omega), C2.2.1.2.2.2.fr fun b q1 q2 => F3.1 b (by omega)⟩ fun b hb k => (F3.1 b (by omega)).gr k
    have D3 := D2.wo I2 (fun x z => F3.1 x (by omega)) W3
    have I3 := I.push In'
    intro h7 z7; subst z7
    obtain ⟨C7, D7, F7, G7⟩ := tail0 (h := h) C3 D3 I3 ((Fcl.fp F2 (fun x z => by omega)).tr (Fcl.fp F3 fun x z => by omega)) (x := (J (v 0)).toInt64)
    generalize sL h3 (bs + 3309) (Int.toNat 0) (J (v 0)).toInt64 = h7 at *
    have R7 := R.fd F7
    refine hK 0 h7 (Scp.cl F7) (z172 C7.rt.t (by omega) ?_)
    intro h8 z8
    have R8 := (R7.th (x := 0)).1
    have F8 := (R7.th (x := 0)).2
    rw [← z8] at R8 F8
    have T8 := C7.rt.fr F8
    have n1 := T8.a1.2.1
    have e8 := R8.1 0 (by omega) (by omega)
    refine ⟨bs + 3296 + 1, T8.a1.2.2, T8.a1.1, by omega, fun c => absurd c (by omega), fun c => ?_⟩
    refine rs_keeps T8 R8 I.2.2.2.1 fun h9 T9 F9 R9 => r_addsNode T9 R9.1 (by omega) hp fun h10 T10 F10 V10 => r_thrown T10 ?_
    have e0 : ai h10 (bs + 3296) 0 = 0 := by
      rw [frA F10, F9.ai (by unfold Kw; omega)]; subst z8; exact rd_eq rfl rfl (by decide)
    rw [e0]
    have FF : FR (RKw (bs + 3296)) h7 h10 := ((F8.sc.rk1).tr F9.rk2).tr F10.vw.rk1
    obtain ⟨S10, s10, g10⟩ := Sim.mk' C7 I3 D7 FF RKw_in (R9.vv F10.vw V10)
    exact k 0 (v 0) h10 S10 ((Scp.cl F7).tr s10) (by decide) (by omega) fun _ => by rw [g10, G7]
  · have hn : ¬ v 0 < 10 := by omega
    refine ⟨C.t0, Or.inr ⟨rfl, ?_⟩⟩
    have C7 := C.bm
    have D7 := D.bm I
    have F7 : Fcl bs h (bump h) := Fcl.bm
    generalize bump h = h7 at *
    have R7 := R.fd F7
    refine hK 1 h7 (Scp.cl F7) (z172 C7.rt.t (by omega) ?_)
    intro h8 z8
    have R8 := (R7.th (x := 0)).1
    have F8 := (R7.th (x := 0)).2
    rw [← z8] at R8 F8
    have T8 := C7.rt.fr F8
    have n1 := T8.a1.2.1
    have e8 := R8.1 0 (by omega) (by omega)
    refine ⟨bs + 3296 + 1, T8.a1.2.2, T8.a1.1, by omega, fun c => r_no T8 (by decide) (r_thrown (T8.to rfl) ?_), fun c => absurd (by omega) c⟩
    have e0 : ai (wi h8 (bs + 3296) 0 1) (bs + 3296) 0 = 1 := rd_eq rfl rfl (by decide)
    rw [e0]
    have R9 := (R8.th (x := 1)).1
    have F9 := (R8.th (x := 1)).2
    obtain ⟨S10, s10, g10⟩ := Sim.mk' C7 I D7 (F8.tr F9) Scr_in R9
    exact k 1 0 _ S10 ((Scp.cl F7).tr s10) (by decide) (by decide) fun z => by omega
end PAR
