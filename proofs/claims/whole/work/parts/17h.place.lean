/-! PLACE AFTER -/
section PLA
variable {T N : Nat → Nat} {bs A p q w x : Nat} {h h1 h2 h3 h7 h10 : PH} {v u sv tx e e2 : Int → Int} {hs hs2 : Int → Int → Int} {iss n tn re er d t a b l m c y : Int} {i : Nat} {K : Int → PH → Prop} {KV : PH → Prop} {KP : PR → PH → Prop} {Q : Int → Int → Int → PH → Prop} {f g : Int → Int}
theorem tickE_cg (I : Ix v) (O : drOK v t e) (ht : 0 ≤ t ∧ t ≤ 10040) (s : ∀ j, j < 118 → u j = v j) : tickE u t e = tickE v t e := by
  have b := I.b
  have O2 := stE_OKx I O ht
  have e1 : stE u t e = stE v t e := by
    unfold stE ownE
    rw [costV_cg (by omega) (fun j _ h => s j h), s _ (by omega)]
  unfold tickE
  rw [e1]
  have o3 := O2.2.2.2.1
  unfold finE
  rw [endV_cg2 (fun j _ h => s j h), s (1 + stE v t e 3) (by omega)]
/-- where a drone is -/
def plV (v : Int → Int) (d : Int) : Int := if rc v d 0 = 2 then 100 + rc v d 13 % 16 else rc v d 3
theorem plV_in (I : Ix v) (hd : 0 ≤ d ∧ d < v 117) : 0 ≤ plV v d ∧ plV v d ≤ 1000 := by
  have b := I.b
  have O := I.d hd.1 hd.2
  have o3 := O.2.2.2.1
  unfold plV; split <;> omega
theorem d_placeLoop (C : Com T N bs h i) (I : IvS v iss sv n hs tn tx re er) (D : SD T N bs h v iss sv n hs tn tx re er) (hd : 0 ≤ d ∧ d < v 117) {m : Nat} (hm : m ≤ 40) (k : ∀ h2, Fp (fun x => bs + 3252 ≤ x ∧ x < bs + 3252 + 44) h h2 → DT T N h2 (bs + 3252) → KP (.inl (some (vi (J (plV (tickN v m) d))))) h2) : ∀ (q j : Nat) (h3 : PH), j + q = m → Fp (fun x => bs + 3252 ≤ x ∧ x < bs + 3252 + 44) h h3 → DT T N h3 (bs + 3252) → DrD (tickN v j) h3 (bs + 3252) (rc (tickN v j) d) → WX T N 131 55 [some (vr (some bs)), none, some (vi (J (m : Int))), none, some (vi (J (j : Int)))] [] h3 KP := by
  have b := I.1.b
  have o := C.o
  have eb := D.1.b
  intro q
  induction q with
  | zero =>
    intro j h3 hj F Dt G
    obtain ⟨Ij, ej, sj⟩ := tickN_Ivx I.1.x j (by omega)
    have bj := Ij.b
    have e117 := sj 117 (by omega)
    have gg : gr h3 bs = gr h bs := funext fun z => (F.1 bs (by omega)).gr z
    have pb := plV_in Ij (d := d) (by omega)
    refine z131_55 o.1 (by omega) (by omega) ⟨fun z => by omega, fun _ => ⟨bs + 3252, by rw [gg]; exact o.2.2.2.2.2.2.2, Dt.t, d_place Dt (Ij.d hd.1 (by omega)) G ?_⟩⟩
    rw [show j = m by omega] at pb ⊢
    have := k h3 F Dt
    unfold plV at this
    exact this
  | succ q ih =>
    intro j h3 hj F Dt G
    obtain ⟨Ij, ej, sj⟩ := tickN_Ivx I.1.x j (by omega)
    have e117 := sj 117 (by omega)
    have gg : gr h3 bs = gr h bs := funext fun z => (F.1 bs (by omega)).gr z
    have s1 := F.1 (bs + 1) (by omega)
    have W3 : Wo T N h3 (bs + 1) v := D.1.fr (fun x q1 q2 => F.1 x (by omega)) I.1
    refine z131_55 o.1 (by omega) (by omega) ⟨fun _ => ⟨bs + 1, by rw [gg]; exact o.2.1, W3.o.t, bs + 3252, by rw [gg]; exact o.2.2.2.2.2.2.2, Dt.t, ?_⟩, fun z => absurd (by omega) z⟩
    rw [W3.b.1]
    have O := Ij.d (n := d) hd.1 (by omega)
    have Ov : drOK v (v 448 + j) (rc (tickN v j) d) := by
      rw [ej] at O
      exact drOK_cg (by rw [sj 0 (by omega)]; exact Int.le_refl _) (by rw [sj 11 (by omega)]; exact Int.le_refl _) (fun z a1 a2 _ => sj z (by have := Ij.b; omega)) (fun _ _ _ => rfl) O
    have Gv : DrD v h3 (bs + 3252) (rc (tickN v j) d) := DrD_cl O (fun z a1 a2 _ => sj z (by have := Ij.b; omega)) (fun _ _ _ => rfl) G
    have As : Asks T N h3 (bs + 1) (bs + 3252) v := ⟨W3.o, W3.b.2.2.1, W3.p, fun c h1 h2 k h3 h4 => W3.c h1 h2 h3 h4, by omega⟩
    refine d_passTickx As I.1 Dt Ov (by omega) Gv fun h4 F4 D4 G4 => ?_
    have nxt := ih (j + 1) h4 (by omega) (F.tr F4) D4 (by
      have Ov2 := tickE_OKx I.1.x Ov (by omega)
      have es : tickE v (v 448 + j) (rc (tickN v j) d) = tickE (tickN v j) (tickN v j 448) (rc (tickN v j) d) := by
        rw [ej]; exact (tickE_cg I.1.x Ov (by omega) sj).symm
      have s2 := (tickN_Ivx I.1.x (j + 1) (by omega)).2.2
      refine DrD_cl Ov2 (fun z a1 a2 _ => (s2 z (by omega)).symm) (fun z a1 a2 => ?_) G4
      rw [es]
      exact (tick1_rc (v := tickN v j) ⟨hd.1, by omega⟩ ⟨a1, a2⟩ (by omega)).symm)
    rw [show ((j + 1 : Nat) : Int) = (j : Int) + 1 by omega] at nxt
    exact nxt
theorem c_place (C : Com T N bs h i) (I : IvS v iss sv n hs tn tx re er) (D : SD T N bs h v iss sv n hs tn tx re er) (ha : In a) (hm : In m) (k0 : 0 ≤ a ∧ a < v 117 → 0 ≤ m ∧ m ≤ 40 → ∀ h4, Com T N bs h4 i → SD T N bs h4 v iss sv n hs tn tx re er → Fcl bs h h4 → KP (.inl (some (vi (J (plV (tickN v m.toNat) a))))) h4) (k1 : ¬ (0 ≤ a ∧ a < v 117) → KP (.inr 2) (bump h)) (k2 : 0 ≤ a ∧ a < v 117 → ¬ (0 ≤ m ∧ m ≤ 40) → KP (.inr 1) (bump h)) : CALL T N 131 [vr (some bs), vi (J a), vi (J m)] h KP := by
  have b := I.1.b
  have o := C.o
  have eb := D.1.b
  refine z131 o.1 ha hm ⟨bs + 1, o.2.1, C.2.1.1.t, d_dro C.2.1.1 ha (by omega) (fun c1 => ⟨fun z => by (cases z), fun a' ea => ?_⟩) (fun c1 => ⟨fun _ => ⟨C.t0, k1 (by omega)⟩, fun a' ea => by (cases ea)⟩)⟩
  cases ea
  have cf : 0 ≤ a ∧ a < v 117 := by omega
  have Dt := (C.2.1.1.d (c := a) (by omega)).2
  have Gt := C.2.1.2.2.2
  have da : dA (bs + 1) a + 44 ≤ bs + 3252 := by unfold dA; omega
  refine ⟨fun z => ⟨C.t0, k2 cf (by omega)⟩, fun z => ⟨fun z2 => ⟨C.t0, k2 cf (by omega)⟩, fun z2 => ⟨bs + 3252, o.2.2.2.2.2.2.2, Gt.t, d_copyD Gt Dt (Or.inr da) (rc_5 I.1 cf) (D.1.d cf.1 cf.2) fun h3 F3 g3 G3 => ?_⟩⟩⟩
  have kk := fun h2 (F : Fp (fun x => bs + 3252 ≤ x ∧ x < bs + 3252 + 44) h h2) (DD : DT T N h2 (bs + 3252)) => k0 cf (by omega) h2 (C.fr F ⟨C.2.1.1.fr fun x q1 q2 => F.1 x (by omega), C.2.1.2.1.fr fun x q1 q2 => F.1 x (by omega), fun j hj => (C.2.1.2.2.1 j hj).fr fun x q1 q2 => F.1 x (by omega), DD⟩ fun x hx kx => (F.1 x (by omega)).gr kx) (D.fr I fun x q1 q2 q3 => F.1 x (by omega)) (Fcl.fp F fun x z => by omega)
  obtain ⟨m', rfl⟩ : ∃ m' : Nat, m = (m' : Int) := ⟨m.toNat, by omega⟩
  exact d_placeLoop C I D cf (m := m') (by omega) kk m' 0 h3 (by omega) F3 (Gt.to g3) G3
theorem q_place (T7 : RT T N A h7) (I : IvS v iss sv n hs tn tx re er) (R7 : SR A h7 v iss sv n hs tn tx re er) (ha : In a) (hm : In m) (k0 : 0 ≤ a ∧ a < v 117 → 0 ≤ m ∧ m ≤ 40 → ∀ h8, FR (RKw A) h7 h8 → SR A h8 v iss sv n hs tn tx re er → ai h8 A 0 = 0 → K (plV (tickN v m.toNat) a) h8) (k1 : ¬ (0 ≤ a ∧ a < v 117) → ∀ h8, FR (Scr A) h7 h8 → SR A h8 v iss sv n hs tn tx re er → ai h8 A 0 = 1 → K 0 h8) (k2 : 0 ≤ a ∧ a < v 117 → ¬ (0 ≤ m ∧ m ≤ 40) → ∀ h8, FR (Scr A) h7 h8 → SR A h8 v iss sv n hs tn tx re er → ai h8 A 0 = 2 → K 0 h8) : ZI T N 233 [vr (some A), vi (J a), vi (J m)] h7 K := by
  have b := I.1.b
  have n1 := T7.a1.2.1
  have e0 := R7.1 117 (by omega) (by omega)
  refine z233 T7.t ha hm (r_isDrone T7 ha (by omega) (fun c1 => ⟨(fun z => absurd z (by decide)), fun _ => ?_⟩) (fun c1 => ⟨fun _ => ?_, (fun z => absurd rfl z)⟩))
  rotate_left
  · intro h8 z8; obtain ⟨R8, F8⟩ := R7.th (x := 1); rw [← z8] at R8 F8; have e8 : ai h8 A 0 = 1 := (by subst z8; exact rd_eq rfl rfl (by decide)); have T8 := T7.fr F8; rw [e8]; clear z8
    exact ⟨fun _ => k1 (by omega) h8 F8 R8 e8, fun z => absurd (by decide) z⟩
  have cf : 0 ≤ a ∧ a < v 117 := by omega
  refine r_in hm (by decide) (by decide) (fun c3 => ⟨(fun z => absurd z (by decide)), fun _ => ?_⟩) (fun c3 => ⟨fun _ => ?_, (fun z => absurd rfl z)⟩)
  rotate_left
  · intro h8 z8; obtain ⟨R8, F8⟩ := R7.th (x := 2); rw [← z8] at R8 F8; have e8 : ai h8 A 0 = 2 := (by subst z8; exact rd_eq rfl rfl (by decide)); have T8 := T7.fr F8; rw [e8]; clear z8
    exact ⟨fun _ => k2 cf c3 h8 F8 R8 e8, fun z => absurd (by decide) z⟩
  intro h8 z8; obtain ⟨R8, F8⟩ := R7.th (x := 0); rw [← z8] at R8 F8; have e8 : ai h8 A 0 = 0 := (by subst z8; exact rd_eq rfl rfl (by decide)); have T8 := T7.fr F8; rw [e8]; clear z8
  have A1 := T8.a1
  have A3 := T8.a3
  obtain ⟨m', rfl⟩ : ∃ m' : Nat, m = (m' : Int) := ⟨m.toNat, by omega⟩
  rw [show ((m' : Nat) : Int).toNat = m' by omega] at k0
  obtain ⟨Ij, ej, sj⟩ := tickN_Ivx I.1.x m' (by omega)
  have e117 := sj 117 (by omega)
  have bj := Ij.b
  have pb := plV_in Ij (d := a) (by omega)
  refine ⟨(fun z => absurd z (by decide)), fun _ => ?_⟩
  rw [A1.2.2, A3.2.2]
  refine r_copies A1.1 A3.1 A1.2.1 A3.2.1 (by omega) fun h9 F9 E9 => ?_
  have T9 := T8.fr F9
  have V9 : Rv A h9 v := fun j q1 q2 => by rw [F9.ai (by omega)]; exact R8.1 j q1 q2
  have K9 : ∀ j, 0 ≤ j → j < 449 → ai h9 (A + 3) j = v j := fun j q1 q2 => by rw [E9 j q1 q2]; exact R8.1 j q1 q2
  refine r_ticksx T9 V9 I.1.x (by omega) fun h10 T10 F10 V10 _ => ?_
  have O := Ij.d (n := a) cf.1 (by omega)
  have back : ∀ {y : Int}, y = plV (tickN v m') a → CV T N 161 [vr (gr h10 A 3), vr (gr h10 A 1)] h10 (fun h_5 => K y h_5) := fun hy => by
    subst hy
    rw [T10.a3.2.2, T10.a1.2.2]
    refine r_copies A3.1 A1.1 A3.2.1 A1.2.1 (by omega) fun h11 F11 E11 => ?_
    have V11 : Rv A h11 v := fun j q1 q2 => by rw [E11 j q1 q2, F10.ai (by unfold Tw; omega)]; exact K9 j q1 q2
    have F8' : FR (RVw A) h8 h11 := ((F9.mo fun b k z => by unfold RVw Scr; omega).tr F10.t2).tr (F11.mo fun b k z => by unfold RVw; exact Or.inl z)
    refine k0 cf c3 h11 (F8.sk.tr F8'.rk1) (R8.vv F8' V11) ?_
    rw [F11.ai (by omega), F10.ai (by unfold Tw; omega), F9.ai (by omega)]; exact e8
  refine r_of T10 (by omega) (by omega) ?_
  rw [V10 _ (by omega) (by omega)]
  refine ⟨fun c2 => r_leg T10 (by omega) (by omega) ?_, fun c2 => r_of T10 (by omega) (by omega) ?_⟩
  · rw [V10 _ (by omega) (by omega)]
    have oc := O.2.2.2.2.2.2.2.2.2.2.2.2.2.2.2.2.1 c2
    have L : legOK (tickN v m') (rc (tickN v m') a (13 + 0)) := O.2.2.2.2.2.2.2.2.2.2.2.2.2.2.2.2.2 0 (by omega) (by omega)
    unfold legOK at L
    refine r_cOf (show 0 ≤ rc (tickN v m') a (13 + 0) ∧ rc (tickN v m') a (13 + 0) < _ by omega) ?_
    have e : plV (tickN v m') a = 100 + rc (tickN v m') a (13 + 0) % 16 := if_pos c2
    rw [T10.a3.2.2, T10.a1.2.2] at back
    rw [T10.a3.2.2, T10.a1.2.2]
    have bk := back e.symm
    have inb : In (100 + rc (tickN v m') a (13 + 0) % 16) := by omega
    refine r_copies A3.1 A1.1 A3.2.1 A1.2.1 (by omega) fun h11 F11 E11 => ⟨inb, ?_⟩
    have V11 : Rv A h11 v := fun j q1 q2 => by rw [E11 j q1 q2, F10.ai (by unfold Tw; omega)]; exact K9 j q1 q2
    have F8' : FR (RVw A) h8 h11 := ((F9.mo fun b k z => by unfold RVw Scr; omega).tr F10.t2).tr (F11.mo fun b k z => by unfold RVw; exact Or.inl z)
    have kk := k0 cf c3 h11 (F8.sk.tr F8'.rk1) (R8.vv F8' V11) (by rw [F11.ai (by omega), F10.ai (by unfold Tw; omega), F9.ai (by omega)]; exact e8)
    rw [e] at kk; exact kk
  · rw [V10 _ (by omega) (by omega)]
    exact back (show _ = plV (tickN v m') a from (if_neg c2).symm)
theorem P_placeAfter (S : Sim T N bs h i) (ha : In a) (hm : In m) (k : Cont T N bs i h Q) : ZI T N 277 [vr (some bs), vi (J a), vi (J m), vr (some (bs + 3309))] h (fun z1 h1 => ZI T N 233 [vr (some (bs + 3296)), vi (J a), vi (J m)] h1 (fun z2 h2 => ZI T N 156 [vr (some (bs + 3296))] h2 (fun z3 h3 => Q z1 z2 z3 h3))) := by
  obtain ⟨v, iss, sv, n, hs, tn, tx, re, er, C, I, D, R⟩ := S; have b := I.1.b; have o := C.o; have out := C.out
  have pb : 0 ≤ a ∧ a < v 117 → 0 ≤ m ∧ m ≤ 40 → In (plV (tickN v m.toNat) a) := fun a1 a2 => by
    obtain ⟨Ij, ej, sj⟩ := tickN_Ivx I.1.x m.toNat (by omega)
    have e117 := sj 117 (by omega)
    have := plV_in Ij (d := a) (by omega)
    omega
  refine z277 o.1 out.1 ha hm (c_place C I D ha hm (fun a1 a2 h4 C4 D4 F4 => Or.inl ⟨_, rfl, pb a1 a2, by omega, ?_⟩) (fun a1 => Or.inr (Or.inl ⟨rfl, ?_⟩)) (fun a1 a2 => Or.inr (Or.inr ⟨rfl, ?_⟩)))
  · have pb0 := pb a1 a2
    intro h7 z7; subst z7
    obtain ⟨C7, D7, F7, G7⟩ := tail0 (h := h) C4 D4 I F4 (x := (J (plV (tickN v m.toNat) a)).toInt64)
    generalize sL h4 (bs + 3309) (Int.toNat 0) (J (plV (tickN v m.toNat) a)).toInt64 = h7 at *
    exact q_place C7.rt I (R.fd F7) ha hm (fun _ _ h8 F8 R8 e8 => fin k C7 I D7 F7 F8 R8 e8 pb0 fun _ => G7) (fun z => absurd a1 z) (fun _ z => absurd a2 z)
  · have C7 := C.bm; have D7 := D.bm I; have F7 : Fcl bs h (bump h) := Fcl.bm; generalize bump h = h7 at *; have R7 := R.fd F7
    exact q_place C7.rt I R7 ha hm (fun z => absurd z a1) (fun _ h8 F8 R8 e8 => fin k C7 I D7 F7 F8.sk R8 e8 (by decide) fun z => by omega) (fun z => absurd z a1)
  · have C7 := C.bm; have D7 := D.bm I; have F7 : Fcl bs h (bump h) := Fcl.bm; generalize bump h = h7 at *; have R7 := R.fd F7
    exact q_place C7.rt I R7 ha hm (fun _ z => absurd z a2) (fun z => absurd a1 z) (fun _ _ h8 F8 R8 e8 => fin k C7 I D7 F7 F8.sk R8 e8 (by decide) fun z => by omega)
end PLA
