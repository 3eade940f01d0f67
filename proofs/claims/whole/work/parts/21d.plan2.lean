/-! PLAN -/
section PL2
variable {T N : Nat → Nat} {bs A w : Nat} {h h1 h2 h3 h7 h10 : PH} {v u sv tx : Int → Int} {hs hs2 : Int → Int → Int} {iss n tn re er d a t q b l m x y c e tm en t2 e2 k y2 last last2 n2 : Int} {i : Nat} {K : Int → PH → Prop} {KV : PH → Prop} {KP : PR → PH → Prop} {Q : Int → Int → Int → PH → Prop} {P : Int → Prop}
theorem c_150 (C : Com T N bs h i) (I : IvS v iss sv n hs tn tx re er) (D : SD T N bs h v iss sv n hs tn tx re er) (ca : 0 ≤ a ∧ a < v 117) (ct : 0 ≤ t ∧ t < v 0) (hn : NPL v a 2 t) (kk : ∀ y, WHY v a t y → ∀ h4, Com T N bs h4 i → SD T N bs h4 v iss sv n hs tn tx re er → Fcl bs h h4 → K y h4) : ZI T N 150 [vr (some bs), vi (J a), vi (J t)] h K := by
  have b := I.1.b
  have o := C.o
  have eb := D.1.b
  have c0 := (D.1.d ca.1 ca.2).1.1
  have Dt := (D.1.o.d (c := a) (by omega)).2
  refine z150 o.1 (by omega) (by omega) ⟨bs + 1, o.2.1, C.2.1.1.t, d_dro C.2.1.1 (by omega) (by omega) (fun c1 => ⟨fun z => by (cases z), fun a' ea => ?_⟩) (fun c1 => absurd (by omega) c1)⟩
  cases ea
  refine ⟨Dt.t, ?_⟩
  rw [c0]
  refine ⟨fun z => kk 1 (Or.inl ⟨z, rfl⟩) h C D (fun _ _ => sm.rf), fun nl => ⟨bs + 1, o.2.1, C.2.1.1.t, bs + 3248, o.2.2.2.2.2.1, C.wy2.1, ?_⟩⟩
  obtain ⟨ts, n2⟩ : t ≠ rc v a 3 ∧ NCa v a 2 t := by
    rcases hn with z | z
    · exact absurd z nl
    · exact z
  refine d_measure D.1 I.1 C.wy2 (by omega) (f := resF v) resF_b (ai_in _ _ _) (resF_m I.1 D.1.p) (by decide) fun h4 F4 g4 W4 => ?_
  obtain ⟨C4, D4, L4⟩ := dv_own C I D F4 g4 fun x z => by omega
  have o4 := C4.o
  refine ⟨bs + 3248, o4.2.2.2.2.2.1, C.wy2.1, d_least C4.wy2 W4 (by omega) ⟨fun z => ⟨bs + 3237, o4.2.2.2.2.1, C4.se.1, ?_⟩, fun z => kk 2 (Or.inr ⟨nl, ts, Or.inl ⟨z, rfl⟩⟩) h4 C4 D4 L4⟩⟩
  rw [o4.2.1]
  have next : ∀ h5, ¬ NCa v a 0 t → Com T N bs h5 i → SD T N bs h5 v iss sv n hs tn tx re er → Fcl bs h h5 → ZI T N 59 [vr (some (bs + 3237)), vr (gr h5 bs 0), vi (J a), vi (J (zshl 1 t)), vi (J 1)] h5 (fun x_54 h_53 => (((x_54 = 0 → (K 4 h_53)) ∧ (¬ (x_54 = 0) → (K 5 h_53))))) := fun h5 n0 C5 D5 L5 => by
    rw [C5.o.2.1]
    refine c_find (q := 1) C5 I D5 ca (by decide) (Gls1 (by omega)) (fun z => absurd z nl) (fun _ z2 => absurd z2.symm ts) (fun _ z2 n3 k fk h6 C6 D6 L6 g6 K6 f6 => ⟨(fun z => absurd z (by decide)), fun _ => ?_⟩) (fun _ z2 nn h6 C6 D6 L6 g6 => ⟨fun _ => kk 4 (Or.inr ⟨nl, ts, Or.inr ⟨z, n2, Or.inr ⟨n0, Or.inl ⟨fun k => nn t k rfl, rfl⟩⟩⟩⟩) h6 C6 D6 (L5.tr L6), (fun z => absurd rfl z)⟩)
    have e3 : n3 = t := fk.1
    rw [e3] at fk
    exact kk 5 (Or.inr ⟨nl, ts, Or.inr ⟨z, n2, Or.inr ⟨n0, Or.inr ⟨fun nc => nc k fk.2.1.1, rfl⟩⟩⟩⟩) h6 C6 D6 (L5.tr L6)
  refine c_find (q := 0) C4 I D4 ca (by decide) (Gls1 (by omega)) (fun z => absurd z nl) (fun _ z2 => absurd z2.symm ts) (fun _ z2 n3 k fk h6 C6 D6 L6 g6 K6 f6 => ⟨(fun z => absurd z (by decide)), fun _ => ⟨bs + 3237, C6.o.2.2.2.2.1, C6.se.1, ?_⟩⟩) (fun _ z2 nn h6 C6 D6 L6 g6 => ⟨fun _ => kk 3 (Or.inr ⟨nl, ts, Or.inr ⟨z, n2, Or.inl ⟨fun k => nn t k rfl, rfl⟩⟩⟩) h6 C6 D6 (L4.tr L6), (fun z => absurd rfl z)⟩)
  have e3 : n3 = t := fk.1
  rw [e3] at fk
  exact next h6 (fun nc => nc k fk.2.1.1) C6 D6 (L4.tr L6)
theorem c_119 (C : Com T N bs h i) (I : IvS v iss sv n hs tn tx re er) (D : SD T N bs h v iss sv n hs tn tx re er) (ha : In a) (ht : In t) (k0 : (0 ≤ a ∧ a < v 117) ∧ 0 ≤ t ∧ t < v 0 → rc v a 0 ≠ 3 → ∀ last, LST v a 2 t last → ∀ h4, Com T N bs h4 i → SD T N bs h4 (putD v a (goE v a 2 last t)) iss sv (pushN n) (pushH n hs v) tn tx re er → IvS (putD v a (goE v a 2 last t)) iss sv (pushN n) (pushH n hs v) tn tx re er → Fcl bs h h4 → KP (.inl (some (vi (J (orgV v a + tmV v last))))) h4) (k1 : ¬ ((0 ≤ a ∧ a < v 117) ∧ 0 ≤ t ∧ t < v 0) → KP (.inr 2) (bump h)) (kw : (0 ≤ a ∧ a < v 117) ∧ 0 ≤ t ∧ t < v 0 → ∀ y, WHY v a t y → ∀ h4, Com T N bs h4 i → SD T N bs h4 v iss sv n hs tn tx y er → IvS v iss sv n hs tn tx y er → Fcl bs h h4 → KP (.inr 4) (bump h4)) : CALL T N 119 [vr (some bs), vi (J a), vi (J t)] h KP := by
  have b := I.1.b
  have o := C.o
  have eb := D.1.b
  refine z119 o.1 ha ht ⟨bs + 1, o.2.1, C.2.1.1.t, d_dro C.2.1.1 ha (by omega) (fun c1 => ⟨fun z => by (cases z), fun a' ea => ?_⟩) (fun c1 => ⟨fun _ => ⟨C.t0, k1 (by omega)⟩, fun a' ea => by (cases ea)⟩)⟩
  cases ea
  refine ⟨bs + 1, o.2.1, C.2.1.1.t, d_hasNode C.2.1.1 ht (fun c2 => ⟨(fun z => absurd z (by decide)), fun _ => ⟨bs + 3237, o.2.2.2.2.1, C.se.1, ?_⟩⟩) (fun c2 => ⟨fun _ => ⟨C.t0, k1 (by omega)⟩, (fun z => absurd rfl z)⟩)⟩
  have ca : 0 ≤ a ∧ a < v 117 := by omega
  have ct : 0 ≤ t ∧ t < v 0 := by omega
  rw [o.2.1]
  have no : ∀ h4, NPL v a 2 t → Com T N bs h4 i → SD T N bs h4 v iss sv n hs tn tx re er → Fcl bs h h4 → ZI T N 150 [vr (some bs), vi (J a), vi (J t)] h4 (fun x_56 h_55 => (∀ h_59, h_59 = wi h_55 bs 8 x_56 → (∀ a, nx h_59 ≤ a → T a = 0) ∧ KP (.inr 4) (bump h_59))) := fun h4 hn C4 D4 L4 => by
    refine c_150 C4 I D4 ca ct hn fun y hy h5 C5 D5 L5 => ?_
    intro h6 e6
    obtain ⟨C6, D6, I6, L6⟩ := dv_rs C5 I D5 hy.bd e6
    exact ⟨C6.t0, kw ⟨ca, ct⟩ y hy h6 C6 D6 I6 ((L4.tr L5).tr L6)⟩
  have yes : ∀ h4 last, rc v a 0 ≠ 3 → LST v a 2 t last → Com T N bs h4 i → SD T N bs h4 v iss sv n hs tn tx re er → Fcl bs h h4 → (0 ≤ last → KT h4 (bs + 3237) v a 2 (orgV v a - v 448) (enK v last)) → FDh h4 (bs + 3237) v a (shK (orgV v a - v 448) last) t (tmV v last) (ai h4 (bs + 3237) 1) → ∃ a_35, (gr h4 bs 2) = some a_35 ∧ T a_35 = 5 ∧ CV T N 41 [vr (some a_35), vr (gr h4 bs 0)] h4 (fun h_38 => (∃ a_43, (gr h_38 bs 3) = some a_43 ∧ T a_43 = 8 ∧ CV T N 60 [vr (some a_43), vr (gr h_38 bs 0), vr (some (dA (bs + 1) a))] h_38 (fun h_46 => (∃ a_50, (gr h_46 bs 3) = some a_50 ∧ T a_50 = 8 ∧ KP (.inl (some (vi (J (ai h_46 a_50 0))))) h_46)))) := fun h4 last nl L C4 D4 L4 K4 f4 => by
    refine ⟨bs + 589, C4.o.2.2.2.1, C4.1.his.1, ?_⟩
    rw [C4.o.2.1]
    refine d_remember C4.1 C4.2.1 D4.2.2.1 I.2.2.2.2.1 D4.1 I.1 fun h5 F5 g5 H5 => ?_
    have C5 := C4.to F5 g5
    have D5 := D4.hi I (fun x z => F5.1 x z) H5
    have I5 := I.push I.1
    refine ⟨bs + 3237, C5.o.2.2.2.2.1, C5.se.1, ?_⟩
    rw [C5.o.2.1]
    have s5 := F5.1 (bs + 3237) (by omega)
    refine c_apply C5 I5 D5 ca nl L (fun z => (K4 z).fr F5 (by omega) (by omega)) (e := ai h4 (bs + 3237) 1) ⟨by rw [s5.ai]; exact f4.1, by rw [s5.ai]; exact f4.2.1, by rw [s5.ai], by rw [s5.ai]; exact f4.2.2.2⟩ fun h6 C6 D6 I6 L6 g6 e6 => ⟨bs + 3237, C6.o.2.2.2.2.1, C6.se.1, ?_⟩
    rw [e6]
    exact k0 ⟨ca, ct⟩ nl last L h6 C6 D6 I6 ((L4.tr (Fcl.fp F5 fun x z => by omega)).tr L6)
  refine c_find (q := 2) C I D ca (by decide) (Gls1 (by omega)) (fun z => ⟨fun _ => no h (Or.inl z) C D (fun _ _ => sm.rf), (fun z => absurd rfl z)⟩) (fun z1 z2 h4 C4 D4 L4 g4 f4 => ⟨(fun z => absurd z (by decide)), fun _ => yes h4 (-1) z1 (Or.inl ⟨z2.symm, rfl⟩) C4 D4 L4 (fun z => absurd z (by decide)) ⟨f4.1, f4.2.1, rfl, by rw [f4.2.2.2]; exact z2⟩⟩) (fun z1 z2 n2 k fk h4 C4 D4 L4 g4 K4 f4 => ⟨(fun z => absurd z (by decide)), fun _ => ?_⟩) (fun z1 z2 nn h4 C4 D4 L4 g4 => ⟨fun _ => no h4 (Or.inr ⟨fun z => z2 z.symm, fun k => nn t k rfl⟩) C4 D4 L4, (fun z => absurd rfl z)⟩)
  have e2 : n2 = t := fk.1
  rw [e2] at fk f4
  have k00 := fk.2.1.1.1
  have tme : tmV v k = enK v k := if_neg (by omega)
  have she : shK (orgV v a - v 448) k = k + 96 * (orgV v a - v 448) := if_neg (by omega)
  exact yes h4 k z1 (Or.inr ⟨fun z => z2 z.symm, fk.2.1⟩) C4 D4 L4 (fun _ => K4) ⟨by rw [she]; exact f4.1, by rw [tme]; exact f4.2.1, rfl, f4.2.2.2⟩
theorem q_215 (T7 : RT T N A h7) (I : IvS v iss sv n hs tn tx re er) (R7 : SR A h7 v iss sv n hs tn tx re er) (ha : In a) (ht : In t) (k0 : (0 ≤ a ∧ a < v 117) ∧ 0 ≤ t ∧ t < v 0 → rc v a 0 ≠ 3 → ∀ last, LST v a 2 t last → ∀ h8, FR (RAll A) h7 h8 → SR A h8 (putD v a (goE v a 2 last t)) iss sv (pushN n) (pushH n hs v) tn tx re er → ai h8 A 0 = 0 → K (orgV v a + tmV v last) h8) (k1 : ¬ ((0 ≤ a ∧ a < v 117) ∧ 0 ≤ t ∧ t < v 0) → ∀ h8, FR (RAll A) h7 h8 → SR A h8 v iss sv n hs tn tx re er → ai h8 A 0 = 1 → K 0 h8) (kw : (0 ≤ a ∧ a < v 117) ∧ 0 ≤ t ∧ t < v 0 → ∀ y, WHY v a t y → ∀ h8, FR (RAll A) h7 h8 → SR A h8 v iss sv n hs tn tx y er → ai h8 A 0 = 2 → K 0 h8) : ZI T N 215 [vr (some A), vi (J a), vi (J t)] h7 K := by
  have b := I.1.b
  have e0 := R7.1 0 (by omega) (by omega)
  have e117 := R7.1 117 (by omega) (by omega)
  refine z215 T7.t ha ht (r_isDrone T7 ha (by omega) (fun c1 => ⟨(fun z => absurd z (by decide)), fun _ => r_isNode T7 ht (by omega) (fun c2 => ⟨(fun z => absurd z (by decide)), fun _ => ?_⟩) (fun c2 => ⟨fun _ => ?_, (fun z => absurd rfl z)⟩)⟩) (fun c1 => ⟨fun _ => ?_, (fun z => absurd rfl z)⟩))
  rotate_left
  · intro h8 z8; obtain ⟨R8, F8⟩ := R7.th (x := 1); rw [← z8] at R8 F8; have e8 : ai h8 A 0 = 1 := (by subst z8; exact rd_eq rfl rfl (by decide)); have T8 := T7.fr F8; rw [e8]; clear z8
    exact ⟨fun _ => k1 (by omega) h8 F8.sk.al R8 e8, fun z => absurd rfl z⟩
  · intro h8 z8; obtain ⟨R8, F8⟩ := R7.th (x := 1); rw [← z8] at R8 F8; have e8 : ai h8 A 0 = 1 := (by subst z8; exact rd_eq rfl rfl (by decide)); have T8 := T7.fr F8; rw [e8]; clear z8
    exact ⟨fun _ => k1 (by omega) h8 F8.sk.al R8 e8, fun z => absurd rfl z⟩
  have ca : 0 ≤ a ∧ a < v 117 := by omega
  have ct : 0 ≤ t ∧ t < v 0 := by omega
  intro h8 z8; obtain ⟨R8, F8⟩ := R7.th (x := 0); rw [← z8] at R8 F8; have e8 : ai h8 A 0 = 0 := (by subst z8; exact rd_eq rfl rfl (by decide)); have T8 := T7.fr F8; rw [e8]; clear z8
  have no : ∀ y h9, WHY v a t y → FR (Scr A) h8 h9 → ZW T N 215 121 [some (vr (some A)), some (vi (J a)), some (vi (J t)), some (vi (J y)), none] [] h9 K := fun y h9 hy F9 => by
    have yb := hy.bd
    refine z215_121 T8.t ha ht (by omega) ⟨fun _ => ?_, fun z => absurd (by omega) z⟩
    intro h10 e10
    have R10 := (R8.sc F9).rs (by omega) e10
    have T10 : RT T N A h10 := by subst e10; exact (T8.fr F9).to rfl
    refine r_no T10 (by decide) ?_
    obtain ⟨R11, F11⟩ := R10.th (x := 2)
    refine kw ⟨ca, ct⟩ y hy _ (((F8.tr F9).sk.al.tr ?_).tr F11.sk.al) R11 (rd_eq rfl rfl (by decide))
    subst e10; exact FR.pw (by unfold RAll; omega)
  refine ⟨(fun z => absurd z (by decide)), fun _ => r_begins T8 R8.1 I.1 ca fun h9 T9 F9 S9 => ⟨fun c3 => ⟨fun _ => no 1 h9 (Or.inl ⟨c3, rfl⟩) F9.bg, (fun z => absurd rfl z)⟩, fun c3 => ⟨(fun z => absurd z (by decide)), fun _ => ?_⟩⟩⟩
  have R9 := R8.sc F9.bg
  have go : ∀ last h10, LST v a 2 t last → FR (Scr A) h9 h10 → SB A h10 v a → ai h10 A 0 = 0 → ZW T N 215 121 [some (vr (some A)), some (vi (J a)), some (vi (J t)), some (vi (J 0)), none] [] h10 K := fun last h10 L F10 S10 e10 => by
    have R10 := R9.sc F10
    have T10 := T9.fr F10
    refine z215_121 T10.t ha ht (by decide) ⟨fun z => absurd z (by decide), fun _ => rs_keeps T10 R10 I.2.2.2.1 fun h11 T11 F11 R11 => ?_⟩
    have S11 : SB A h11 v a := ⟨by rw [F11.ai (by unfold Kw; omega)]; exact S10.1, by rw [F11.ai (by unfold Kw; omega)]; exact S10.2.1, by rw [F11.ai (by unfold Kw; omega)]; exact S10.2.2⟩
    refine r_looks (q := 2) T11 R11.1 I.1 S11 ca (by decide) (by decide) fun h12 T12 F12 V12 S12 K12 => r_goB T12 V12 I.1 S12 K12 ca L fun h13 T13 F13 V13 e13 => ?_
    rw [e13]
    have R12 := R11.sc (PL_pm F12).pm
    have F13' : FR (RVw A) h12 h13 := F13.mo fun b k z => by unfold PB Vw at z; unfold RVw Scr; omega
    have FF : FR (RAll A) h7 h13 := (((((F8.tr F9.bg).tr F10).sk).tr F11.rk2).tr ((PL_pm F12).pm).sk).al.tr (F13'.rk1.al)
    refine k0 ⟨ca, ct⟩ c3 last L h13 FF (R12.vv F13' V13) ?_
    rw [F13.ai (by unfold PB Vw; omega), F12.ai (by unfold PLk P9; omega), F11.ai (by unfold Kw; omega)]
    exact e10
  have e9 : ai h9 A 0 = 0 := by rw [F9.ai (by omega)]; exact e8
  rw [S9.2.2]
  refine ⟨fun c4 => go (-1) h9 (Or.inl ⟨c4, rfl⟩) FR.rf S9 e9, fun c4 => r_reserves T9 R9.1 I.1 fun h10 T10 F10 W10 => ?_⟩
  have n7 := T10.a7.2.1
  have F10s : FR (Scr A) h9 h10 := F10.mo fun b k z => by unfold Scr; omega
  have R10 := R9.sc F10s
  have S10 : SB A h10 v a := ⟨by rw [F10.ai (by omega)]; exact S9.1, by rw [F10.ai (by omega)]; exact S9.2.1, by rw [F10.ai (by omega)]; exact S9.2.2⟩
  have e10 : ai h10 A 0 = 0 := by rw [F10.ai (by omega)]; exact e9
  refine ⟨A + 7, T10.a7.2.2, T10.a7.1, by omega, ?_⟩
  rw [W10 _ ct.1 ct.2]
  refine ⟨fun c5 => ?_, fun c5 => no 2 h10 (Or.inr ⟨c3, c4, Or.inl ⟨c5, rfl⟩⟩) (F9.bg.tr F10s)⟩
  have m0 : ∀ h11, FR (PM A) h10 h11 → ai h11 A 0 = 0 := fun h11 F11 => by rw [F11.ai (by unfold PM PLk P9 PB; omega)]; exact e10
  refine r_mayGo (q := 2) T10 R10.1 I.1 S10 ca ht (by decide) (by decide) (fun z => absurd z c4) (fun _ nc2 h11 F11 => ⟨fun _ => ?_, (fun z => absurd rfl z)⟩) (fun _ k B h11 F11 _ _ _ => ⟨(fun z => absurd z (by decide)), fun _ => go k h11 (Or.inr ⟨c4, B⟩) (F10s.tr F11.pm) (S10.pm F11) (m0 h11 F11)⟩)
  refine r_mayGo (q := 0) (T10.fr F11) (R10.sc F11.pm).1 I.1 (S10.pm F11) ca ht (by decide) (by decide) (fun z => absurd z c4) (fun _ nc0 h12 F12 => ⟨fun _ => no 3 h12 (Or.inr ⟨c3, c4, Or.inr ⟨c5, nc2, Or.inl ⟨nc0, rfl⟩⟩⟩) (((F9.bg.tr F10s).tr F11.pm).tr F12.pm), (fun z => absurd rfl z)⟩) (fun _ k0 B0 h12 F12 _ _ _ => ⟨(fun z => absurd z (by decide)), fun _ => ?_⟩)
  have n0 : ¬ NCa v a 0 t := fun z => z k0 B0.1
  refine r_mayGo (q := 1) ((T10.fr F11).fr F12) (R10.sc (F11.tr F12).pm).1 I.1 (S10.pm (F11.tr F12)) ca ht (by decide) (by decide) (fun z => absurd z c4) (fun _ nc1 h13 F13 => ⟨fun _ => no 4 h13 (Or.inr ⟨c3, c4, Or.inr ⟨c5, nc2, Or.inr ⟨n0, Or.inl ⟨nc1, rfl⟩⟩⟩⟩) ((((F9.bg.tr F10s).tr F11.pm).tr F12.pm).tr F13.pm), (fun z => absurd rfl z)⟩) (fun _ k1 B1 h13 F13 _ _ _ => ⟨(fun z => absurd z (by decide)), fun _ => no 5 h13 (Or.inr ⟨c3, c4, Or.inr ⟨c5, nc2, Or.inr ⟨n0, Or.inr ⟨fun z => z k1 B1.1, rfl⟩⟩⟩⟩) ((((F9.bg.tr F10s).tr F11.pm).tr F12.pm).tr F13.pm)⟩)
theorem P_plan (S : Sim T N bs h i) (ha : In a) (ht : In t) (k : Cont T N bs i h Q) : ZI T N 268 [vr (some bs), vi (J a), vi (J t), vr (some (bs + 3309))] h (fun z1 h1 => ZI T N 215 [vr (some (bs + 3296)), vi (J a), vi (J t)] h1 (fun z2 h2 => ZI T N 156 [vr (some (bs + 3296))] h2 (fun z3 h3 => Q z1 z2 z3 h3))) := by
  obtain ⟨v, iss, sv, n, hs, tn, tx, re, er, C, I, D, R⟩ := S
  have b := I.1.b
  have o := C.o
  have out := C.out
  refine z268 o.1 out.1 ha ht (c_119 C I D ha ht (fun z nl last L h4 C4 D4 I4 F4 => Or.inl ⟨_, rfl, ?_, by omega, ?_⟩) (fun z => Or.inr (Or.inl ⟨rfl, ?_⟩)) (fun z y hy h4 C4 D4 I4 F4 => Or.inr (Or.inr ⟨rfl, ?_⟩)))
  · have := tmV_b I.1 z.1 L
    have := org_b I.1 z.1
    omega
  · have tb := tmV_b I.1 z.1 L
    have ob := org_b I.1 z.1
    intro h7 z7; subst z7; obtain ⟨C7, D7, F7, G7⟩ := tail0 (h := h) C4 D4 I4 F4 (x := (J (orgV v a + tmV v last)).toInt64); generalize sL h4 (bs + 3309) (Int.toNat 0) (J (orgV v a + tmV v last)).toInt64 = h7 at *
    refine q_215 C7.rt I (R.fd F7) ha ht (fun _ nl2 last2 L2 h8 F8 R8 e8 => ?_) (fun y => absurd z y) (fun _ y hy => (hy.no I.1 z.1 nl L).elim)
    rw [LST.un I.1 z.1 L2 L] at R8 ⊢
    exact fin2 k C7 I4 D7 F7 F8 R8 e8 (by omega) fun _ => G7
  · have C7 := C.bm; have D7 := D.bm I; have F7 : Fcl bs h (bump h) := Fcl.bm; generalize bump h = h7 at *; have R7 := R.fd F7
    exact q_215 C7.rt I R7 ha ht (fun y => absurd y z) (fun _ h8 F8 R8 e8 => fin2 k C7 I D7 F7 F8 R8 e8 (by decide) fun z => by omega) (fun y => absurd y z)
  · have F7 := F4.tr Fcl.bm
    refine q_215 C4.bm.rt I (R.fd F7) ha ht (fun _ nl2 last2 L2 => (hy.no I.1 z.1 nl2 L2).elim) (fun y => absurd z y) (fun _ y2 hy2 h8 F8 R8 e8 => ?_)
    rw [hy2.un hy] at R8
    exact fin2 k C4.bm I4 (D4.bm I4) F7 F8 R8 e8 (by decide) fun z => by omega
end PL2
