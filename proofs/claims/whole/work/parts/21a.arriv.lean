/-! ARRIVAL, PLAN ENERGY -/
/-- the drone can be planned: when it arrives, with what energy taken -/
def PLN (v : Int → Int) (d q n t e : Int) : Prop := rc v d 0 ≠ 3 ∧ ((n = rc v d 3 ∧ t = orgV v d ∧ e = 0) ∨ (n ≠ rc v d 3 ∧ ∃ k, Bst v d q n k ∧ t = orgV v d + enK v k ∧ e = TK v d q k))
def NPL (v : Int → Int) (d q n : Int) : Prop := rc v d 0 = 3 ∨ (n ≠ rc v d 3 ∧ ∀ k, ¬ Cand v d q n k)
section ARI
variable {T N : Nat → Nat} {bs A w : Nat} {h h1 h2 h3 h7 h10 : PH} {v u sv tx : Int → Int} {hs hs2 : Int → Int → Int} {iss n tn re er d a t q b l m x y c e tm en t2 e2 : Int} {i : Nat} {K : Int → PH → Prop} {KV : PH → Prop} {KP : PR → PH → Prop} {Q : Int → Int → Int → PH → Prop} {P : Int → Prop}
theorem PLN.un (I : Iv v) (hd : 0 ≤ d ∧ d < v 117) (h : PLN v d q n tm en) (g : PLN v d q n t2 e2) : tm = t2 ∧ en = e2 := by
  obtain ⟨_, ⟨h1, h2, h3⟩ | ⟨h1, k, h2, h3, h4⟩⟩ := h <;> obtain ⟨_, ⟨g1, g2, g3⟩ | ⟨g1, k2, g2, g3, g4⟩⟩ := g
  · exact ⟨h2.trans g2.symm, h3.trans g3.symm⟩
  · exact absurd h1 g1
  · exact absurd g1 h1
  · rw [Bst.un I hd h2 g2] at h3 h4
    exact ⟨h3.trans g3.symm, h4.trans g4.symm⟩
theorem PLN.no (h : PLN v d q n tm en) (g : NPL v d q n) : False := by
  obtain ⟨h0, ⟨h1, _⟩ | ⟨h1, k, h2, _⟩⟩ := h
  · rcases g with g | g
    · exact h0 g
    · exact g.1 h1
  · rcases g with g | g
    · exact h0 g
    · exact g.2 k h2.1
theorem PLN.bd (I : Iv v) (hd : 0 ≤ d ∧ d < v 117) (h : PLN v d q n tm en) : (0 ≤ tm ∧ tm ≤ 20000) ∧ 0 ≤ en ∧ en ≤ 200 := by
  have b := I.b
  have ob := org_b I hd
  have lm := lim_b I hd
  obtain ⟨h0, ⟨h1, h2, h3⟩ | ⟨h1, k, h2, h3, h4⟩⟩ := h
  · omega
  · have P := TK_pos I hd h2.1.1 h2.1.2.1
    have eb := enK_b I hd h2.1
    have := P.2.2.2.1
    omega
theorem Com.se (C : Com T N bs h i) : SE T N h (bs + 3237) := by
  obtain ⟨-, -, s, -, c5, t, -⟩ := C.1
  exact ⟨s.1, ⟨C.wy1, s.2.1⟩, ⟨c5, s.2.2.1⟩, ⟨t.1, t.2.1, s.2.2.2.1⟩, ⟨t.2.2.1, t.2.2.2.1, s.2.2.2.2.1⟩, ⟨t.2.2.2.2.1, t.2.2.2.2.2.1, s.2.2.2.2.2.1⟩, ⟨t.2.2.2.2.2.2.1, t.2.2.2.2.2.2.2.1, s.2.2.2.2.2.2.1⟩, ⟨t.2.2.2.2.2.2.2.2.1, t.2.2.2.2.2.2.2.2.2.1, s.2.2.2.2.2.2.2.1⟩, ⟨t.2.2.2.2.2.2.2.2.2.2.1, t.2.2.2.2.2.2.2.2.2.2.2, s.2.2.2.2.2.2.2.2⟩⟩
theorem Gls1 (ht : 0 ≤ t ∧ t < 32) : Gls (zshl 1 t) (fun n => n = t) := ⟨zshl_in _ _, fun j hj => by rw [mb_shl ht hj, decide_eq_true_eq]⟩
theorem GlsP (W : Wo T N h w v) : Gls (ai h w 2) (fun n => n < v 0 ∧ v (1 + n) = 1) := ⟨ai_in _ _ _, fun j hj => W.p j hj⟩
/-- find, on the state -/
theorem c_find (C : Com T N bs h i) (I : IvS v iss sv n hs tn tx re er) (D : SD T N bs h v iss sv n hs tn tx re er) (hd : 0 ≤ d ∧ d < v 117) (hq : 0 ≤ q ∧ q ≤ 2) (hg : Gls x P) (k3 : rc v d 0 = 3 → K 0 h) (ks : rc v d 0 ≠ 3 → P (rc v d 3) → ∀ h4, Com T N bs h4 i → SD T N bs h4 v iss sv n hs tn tx re er → Fcl bs h h4 → gr h4 = gr h → FDh h4 (bs + 3237) v d (-1) (rc v d 3) 0 0 → K 1 h4) (k1 : rc v d 0 ≠ 3 → ¬ P (rc v d 3) → ∀ n2 k, Fst v d q P n2 k → ∀ h4, Com T N bs h4 i → SD T N bs h4 v iss sv n hs tn tx re er → Fcl bs h h4 → gr h4 = gr h → KT h4 (bs + 3237) v d q (orgV v d - v 448) (enK v k) → FDh h4 (bs + 3237) v d (k + 96 * (orgV v d - v 448)) n2 (enK v k) (TK v d q k) → K 1 h4) (k0 : rc v d 0 ≠ 3 → ¬ P (rc v d 3) → (∀ n k, P n → ¬ Cand v d q n k) → ∀ h4, Com T N bs h4 i → SD T N bs h4 v iss sv n hs tn tx re er → Fcl bs h h4 → gr h4 = gr h → K 0 h4) : ZI T N 59 [vr (some (bs + 3237)), vr (some (bs + 1)), vi (J d), vi (J x), vi (J q)] h K := by
  refine d_find C.se D.1 (by omega) I.1 hd hq hg k3 (fun z1 z2 h4 F4 g4 O4 f4 => ?_) (fun z1 z2 n2 k fk h4 F4 g4 O4 K4 f4 => ?_) (fun z1 z2 nn h4 F4 g4 => ?_)
  · obtain ⟨C4, D4, L4⟩ := dv_own C I D F4 g4 fun x z => by unfold Sg at z; omega
    exact ks z1 z2 h4 C4 D4 L4 g4 f4
  · obtain ⟨C4, D4, L4⟩ := dv_own C I D F4 g4 fun x z => by unfold Sg at z; omega
    exact k1 z1 z2 n2 k fk h4 C4 D4 L4 g4 K4 f4
  · obtain ⟨C4, D4, L4⟩ := dv_own C I D F4 g4 fun x z => by unfold Sg at z; omega
    exact k0 z1 z2 nn h4 C4 D4 L4 g4
theorem c_149 (C : Com T N bs h i) (I : IvS v iss sv n hs tn tx re er) (D : SD T N bs h v iss sv n hs tn tx re er) (ha : In a) (ht : In t) (k0 : (0 ≤ a ∧ a < v 117) ∧ 0 ≤ t ∧ t < v 0 → ∀ tm en, PLN v a 2 t tm en → ∀ h4, Com T N bs h4 i → SD T N bs h4 v iss sv n hs tn tx re er → Fcl bs h h4 → ai h4 (bs + 3237) 0 = tm → ai h4 (bs + 3237) 1 = en → KP (.inl none) h4) (k1 : ¬ ((0 ≤ a ∧ a < v 117) ∧ 0 ≤ t ∧ t < v 0) → KP (.inr 2) (bump h)) (k2 : (0 ≤ a ∧ a < v 117) ∧ 0 ≤ t ∧ t < v 0 → NPL v a 2 t → ∀ h4, Com T N bs h4 i → SD T N bs h4 v iss sv n hs tn tx re er → Fcl bs h h4 → KP (.inr 5) (bump h4)) : CALL T N 149 [vr (some bs), vi (J a), vi (J t)] h KP := by
  have b := I.1.b
  have o := C.o
  have eb := D.1.b
  refine z149 o.1 ha ht ⟨bs + 1, o.2.1, C.2.1.1.t, d_dro C.2.1.1 ha (by omega) (fun c1 => ⟨fun z => by (cases z), fun a' ea => ?_⟩) (fun c1 => ⟨fun _ => ⟨C.t0, k1 (by omega)⟩, fun a' ea => by (cases ea)⟩)⟩
  cases ea
  refine ⟨bs + 1, o.2.1, C.2.1.1.t, d_hasNode C.2.1.1 ht (fun c2 => ⟨(fun z => absurd z (by decide)), fun _ => ⟨bs + 3237, o.2.2.2.2.1, C.se.1, ?_⟩⟩) (fun c2 => ⟨fun _ => ⟨C.t0, k1 (by omega)⟩, (fun z => absurd rfl z)⟩)⟩
  have ca : 0 ≤ a ∧ a < v 117 := by omega
  have ct : 0 ≤ t ∧ t < v 0 := by omega
  rw [o.2.1]
  refine c_find (q := 2) C I D ca (by decide) (Gls1 (by omega)) (fun z => ⟨fun _ => ⟨C.t0, k2 ⟨ca, ct⟩ (Or.inl z) h C D (fun _ _ => sm.rf)⟩, (fun z => absurd rfl z)⟩) (fun z1 z2 h4 C4 D4 L4 g4 f4 => ⟨(fun z => absurd z (by decide)), fun _ => k0 ⟨ca, ct⟩ _ _ ⟨z1, Or.inl ⟨z2.symm, rfl, rfl⟩⟩ h4 C4 D4 L4 (by rw [f4.2.1]; omega) f4.2.2.1⟩) (fun z1 z2 n2 k fk h4 C4 D4 L4 g4 K4 f4 => ⟨(fun z => absurd z (by decide)), fun _ => ?_⟩) (fun z1 z2 nn h4 C4 D4 L4 g4 => ⟨fun _ => ⟨C4.t0, k2 ⟨ca, ct⟩ (Or.inr ⟨fun z => z2 z.symm, fun k => nn t k rfl⟩) h4 C4 D4 L4⟩, (fun z => absurd rfl z)⟩)
  have e2 : n2 = t := fk.1
  rw [e2] at fk
  exact k0 ⟨ca, ct⟩ _ _ ⟨z1, Or.inr ⟨fun z => z2 z.symm, k, fk.2.1, rfl, rfl⟩⟩ h4 C4 D4 L4 f4.2.1 f4.2.2.1
theorem c_120 (C : Com T N bs h i) (I : IvS v iss sv n hs tn tx re er) (D : SD T N bs h v iss sv n hs tn tx re er) (ha : In a) (ht : In t) (k0 : (0 ≤ a ∧ a < v 117) ∧ 0 ≤ t ∧ t < v 0 → ∀ tm en, PLN v a 2 t tm en → ∀ h4, Com T N bs h4 i → SD T N bs h4 v iss sv n hs tn tx re er → Fcl bs h h4 → KP (.inl (some (vi (J tm)))) h4) (k1 : ¬ ((0 ≤ a ∧ a < v 117) ∧ 0 ≤ t ∧ t < v 0) → KP (.inr 2) (bump h)) (k2 : (0 ≤ a ∧ a < v 117) ∧ 0 ≤ t ∧ t < v 0 → NPL v a 2 t → ∀ h4, Com T N bs h4 i → SD T N bs h4 v iss sv n hs tn tx re er → Fcl bs h h4 → KP (.inr 5) (bump h4)) : CALL T N 120 [vr (some bs), vi (J a), vi (J t)] h KP := by
  refine z120 C.o.1 ha ht (c_149 C I D ha ht (fun z tm en hp h4 C4 D4 L4 e0 e1 => Or.inl ⟨rfl, bs + 3237, C4.o.2.2.2.2.1, C4.se.1, ?_⟩) (fun z => Or.inr ⟨_, rfl, k1 z⟩) (fun z hn h4 C4 D4 L4 => Or.inr ⟨_, rfl, k2 z hn h4 C4 D4 L4⟩))
  rw [e0]; exact k0 z tm en hp h4 C4 D4 L4
theorem c_121 (C : Com T N bs h i) (I : IvS v iss sv n hs tn tx re er) (D : SD T N bs h v iss sv n hs tn tx re er) (ha : In a) (ht : In t) (k0 : (0 ≤ a ∧ a < v 117) ∧ 0 ≤ t ∧ t < v 0 → ∀ tm en, PLN v a 2 t tm en → ∀ h4, Com T N bs h4 i → SD T N bs h4 v iss sv n hs tn tx re er → Fcl bs h h4 → KP (.inl (some (vi (J en)))) h4) (k1 : ¬ ((0 ≤ a ∧ a < v 117) ∧ 0 ≤ t ∧ t < v 0) → KP (.inr 2) (bump h)) (k2 : (0 ≤ a ∧ a < v 117) ∧ 0 ≤ t ∧ t < v 0 → NPL v a 2 t → ∀ h4, Com T N bs h4 i → SD T N bs h4 v iss sv n hs tn tx re er → Fcl bs h h4 → KP (.inr 5) (bump h4)) : CALL T N 121 [vr (some bs), vi (J a), vi (J t)] h KP := by
  refine z121 C.o.1 ha ht (c_149 C I D ha ht (fun z tm en hp h4 C4 D4 L4 e0 e1 => Or.inl ⟨rfl, bs + 3237, C4.o.2.2.2.2.1, C4.se.1, ?_⟩) (fun z => Or.inr ⟨_, rfl, k1 z⟩) (fun z hn h4 C4 D4 L4 => Or.inr ⟨_, rfl, k2 z hn h4 C4 D4 L4⟩))
  rw [e1]; exact k0 z tm en hp h4 C4 D4 L4
/-! the reference -/
theorem FR.bg (F : FR (fun b k => b = A ∧ (k = 18 ∨ k = 19 ∨ k = 20)) h h2) : FR (Scr A) h h2 := F.mo fun b k z => by unfold Scr; omega
theorem FR.pm (F : FR (PM A) h h2) : FR (Scr A) h h2 := F.mo PM_scr
theorem SR.sc (S : SR A h v iss sv n hs tn tx re er) (F : FR (Scr A) h h2) : SR A h2 v iss sv n hs tn tx re er := S.vv F.sc (S.1.fr F)
theorem q_216 (T7 : RT T N A h7) (I : IvS v iss sv n hs tn tx re er) (R7 : SR A h7 v iss sv n hs tn tx re er) (ha : In a) (ht : In t) (k0 : (0 ≤ a ∧ a < v 117) ∧ 0 ≤ t ∧ t < v 0 → ∀ tm en, PLN v a 2 t tm en → ∀ h8, FR (Scr A) h7 h8 → SR A h8 v iss sv n hs tn tx re er → ai h8 A 0 = 0 → ai h8 A 21 = tm → ai h8 A 22 = en → K 1 h8) (k1 : ¬ ((0 ≤ a ∧ a < v 117) ∧ 0 ≤ t ∧ t < v 0) → ∀ h8, FR (Scr A) h7 h8 → SR A h8 v iss sv n hs tn tx re er → ai h8 A 0 = 1 → K 0 h8) (k2 : (0 ≤ a ∧ a < v 117) ∧ 0 ≤ t ∧ t < v 0 → NPL v a 2 t → ∀ h8, FR (Scr A) h7 h8 → SR A h8 v iss sv n hs tn tx re er → ai h8 A 0 = 2 → K 0 h8) : ZI T N 216 [vr (some A), vi (J a), vi (J t)] h7 K := by
  have b := I.1.b
  have e0 := R7.1 0 (by omega) (by omega)
  have e117 := R7.1 117 (by omega) (by omega)
  refine z216 T7.t ha ht (r_isDrone T7 ha (by omega) (fun c1 => ⟨(fun z => absurd z (by decide)), fun _ => r_isNode T7 ht (by omega) (fun c2 => ⟨(fun z => absurd z (by decide)), fun _ => ?_⟩) (fun c2 => ⟨fun _ => ?_, (fun z => absurd rfl z)⟩)⟩) (fun c1 => ⟨fun _ => ?_, (fun z => absurd rfl z)⟩))
  rotate_left
  · intro h8 z8; obtain ⟨R8, F8⟩ := R7.th (x := 1); rw [← z8] at R8 F8; have e8 : ai h8 A 0 = 1 := (by subst z8; exact rd_eq rfl rfl (by decide)); have T8 := T7.fr F8; rw [e8]; clear z8
    exact ⟨fun _ => k1 (by omega) h8 F8 R8 e8, fun z => absurd rfl z⟩
  · intro h8 z8; obtain ⟨R8, F8⟩ := R7.th (x := 1); rw [← z8] at R8 F8; have e8 : ai h8 A 0 = 1 := (by subst z8; exact rd_eq rfl rfl (by decide)); have T8 := T7.fr F8; rw [e8]; clear z8
    exact ⟨fun _ => k1 (by omega) h8 F8 R8 e8, fun z => absurd rfl z⟩
  have ca : 0 ≤ a ∧ a < v 117 := by omega
  have ct : 0 ≤ t ∧ t < v 0 := by omega
  intro h8 z8; obtain ⟨R8, F8⟩ := R7.th (x := 0); rw [← z8] at R8 F8; have e8 : ai h8 A 0 = 0 := (by subst z8; exact rd_eq rfl rfl (by decide)); have T8 := T7.fr F8; rw [e8]; clear z8
  have no : ∀ h9, FR (Scr A) h8 h9 → RT T N A h9 → NPL v a 2 t → ZW T N 216 58 [some (vr (some A)), none, none, none] [] h9 K := fun h9 F9 T9 hn => by
    refine z216_58 T9.t ?_
    intro h10 e10
    have R9 := R8.sc F9
    obtain ⟨R10, F10⟩ := R9.th (x := 2)
    rw [← e10] at R10 F10
    exact k2 ⟨ca, ct⟩ hn h10 ((F8.tr F9).tr F10) R10 (by subst e10; exact rd_eq rfl rfl (by decide))
  refine ⟨(fun z => absurd z (by decide)), fun _ => r_begins T8 R8.1 I.1 ca fun h9 T9 F9 S9 => ⟨fun c3 => ⟨fun _ => no h9 F9.bg T9 (Or.inl c3), (fun z => absurd rfl z)⟩, fun c3 => ⟨(fun z => absurd z (by decide)), fun _ => ?_⟩⟩⟩
  have R9 := R8.sc F9.bg
  have yes : ∀ tm en h10, PLN v a 2 t tm en → FR (PM A) h9 h10 → ai h10 A 21 = tm → ai h10 A 22 = en → ∀ h11, h11 = wi h10 A 0 0 → K 1 h11 := fun tm en h10 hp F10 e21 e22 h11 e11 => by
    have R10 := R9.sc F10.pm
    obtain ⟨R11, F11⟩ := R10.th (x := 0)
    rw [← e11] at R11 F11
    refine k0 ⟨ca, ct⟩ tm en hp h11 (((F8.tr F9.bg).tr F10.pm).tr F11) R11 (by subst e11; exact rd_eq rfl rfl (by decide)) ?_ ?_
    · subst e11; rw [rd_k (by decide) (by decide) (by decide)]; exact e21
    · subst e11; rw [rd_k (by decide) (by decide) (by decide)]; exact e22
  refine r_mayGo (q := 2) T9 R9.1 I.1 S9 ca ht (by decide) (by decide) (fun z h10 F10 _ e1 e2 => ⟨(fun z => absurd z (by decide)), fun _ => yes _ _ h10 ⟨c3, Or.inl ⟨z, rfl, rfl⟩⟩ F10 e1 e2⟩) (fun z1 z2 h10 F10 => ⟨fun _ => no h10 (F9.bg.tr F10.pm) (T9.fr F10) (Or.inr ⟨z1, z2⟩), (fun z => absurd rfl z)⟩) (fun z1 k B h10 F10 _ e1 e2 => ⟨(fun z => absurd z (by decide)), fun _ => yes _ _ h10 ⟨c3, Or.inr ⟨z1, k, B, rfl, rfl⟩⟩ F10 e1 e2⟩)
theorem P_arrival (S : Sim T N bs h i) (ha : In a) (ht : In t) (k : Cont T N bs i h Q) : ZI T N 269 [vr (some bs), vi (J a), vi (J t), vr (some (bs + 3309))] h (fun z1 h1 => ZI T N 217 [vr (some (bs + 3296)), vi (J a), vi (J t)] h1 (fun z2 h2 => ZI T N 156 [vr (some (bs + 3296))] h2 (fun z3 h3 => Q z1 z2 z3 h3))) := by
  obtain ⟨v, iss, sv, n, hs, tn, tx, re, er, C, I, D, R⟩ := S; have b := I.1.b; have o := C.o; have out := C.out
  refine z269 o.1 out.1 ha ht (c_120 C I D ha ht (fun z tm en hp h4 C4 D4 F4 => Or.inl ⟨_, rfl, ?_, by omega, ?_⟩) (fun z => Or.inr (Or.inl ⟨rfl, ?_⟩)) (fun z hn h4 C4 D4 F4 => Or.inr (Or.inr ⟨rfl, ?_⟩)))
  · have := hp.bd I.1 z.1; omega
  · have pb := hp.bd I.1 z.1
    intro h7 z7; subst z7; obtain ⟨C7, D7, F7, G7⟩ := tail0 (h := h) C4 D4 I F4 (x := (J tm).toInt64); generalize sL h4 (bs + 3309) (Int.toNat 0) (J tm).toInt64 = h7 at *
    refine z217 C7.rt.t ha ht (q_216 C7.rt I (R.fd F7) ha ht (fun _ t2 e2 hp2 h8 F8 R8 e8 e21 _ => ⟨(fun z => absurd z (by decide)), fun _ => ?_⟩) (fun y => absurd z y) (fun _ hn => (hp.no hn).elim))
    rw [e21, ← (hp.un I.1 z.1 hp2).1]
    exact fin k C7 I D7 F7 F8.sk R8 e8 (by omega) fun _ => G7
  · have C7 := C.bm; have D7 := D.bm I; have F7 : Fcl bs h (bump h) := Fcl.bm; generalize bump h = h7 at *; have R7 := R.fd F7
    exact z217 C7.rt.t ha ht (q_216 C7.rt I R7 ha ht (fun y => absurd y z) (fun _ h8 F8 R8 e8 => ⟨fun _ => fin k C7 I D7 F7 F8.sk R8 e8 (by decide) fun z => by omega, (fun z => absurd rfl z)⟩) (fun y => absurd y z))
  · have F7 := F4.tr Fcl.bm
    exact z217 C4.bm.rt.t ha ht (q_216 C4.bm.rt I (R.fd F7) ha ht (fun _ t2 e2 hp2 => (hp2.no hn).elim) (fun y => absurd z y) (fun _ _ h8 F8 R8 e8 => ⟨fun _ => fin k C4.bm I (D4.bm I) F7 F8.sk R8 e8 (by decide) fun z => by omega, (fun z => absurd rfl z)⟩))
theorem P_planEnergy (S : Sim T N bs h i) (ha : In a) (ht : In t) (k : Cont T N bs i h Q) : ZI T N 270 [vr (some bs), vi (J a), vi (J t), vr (some (bs + 3309))] h (fun z1 h1 => ZI T N 218 [vr (some (bs + 3296)), vi (J a), vi (J t)] h1 (fun z2 h2 => ZI T N 156 [vr (some (bs + 3296))] h2 (fun z3 h3 => Q z1 z2 z3 h3))) := by
  obtain ⟨v, iss, sv, n, hs, tn, tx, re, er, C, I, D, R⟩ := S; have b := I.1.b; have o := C.o; have out := C.out
  refine z270 o.1 out.1 ha ht (c_121 C I D ha ht (fun z tm en hp h4 C4 D4 F4 => Or.inl ⟨_, rfl, ?_, by omega, ?_⟩) (fun z => Or.inr (Or.inl ⟨rfl, ?_⟩)) (fun z hn h4 C4 D4 F4 => Or.inr (Or.inr ⟨rfl, ?_⟩)))
  · have := hp.bd I.1 z.1; omega
  · have pb := hp.bd I.1 z.1
    intro h7 z7; subst z7; obtain ⟨C7, D7, F7, G7⟩ := tail0 (h := h) C4 D4 I F4 (x := (J en).toInt64); generalize sL h4 (bs + 3309) (Int.toNat 0) (J en).toInt64 = h7 at *
    refine z218 C7.rt.t ha ht (q_216 C7.rt I (R.fd F7) ha ht (fun _ t2 e2 hp2 h8 F8 R8 e8 _ e22 => ⟨(fun z => absurd z (by decide)), fun _ => ?_⟩) (fun y => absurd z y) (fun _ hn => (hp.no hn).elim))
    rw [e22, ← (hp.un I.1 z.1 hp2).2]
    exact fin k C7 I D7 F7 F8.sk R8 e8 (by omega) fun _ => G7
  · have C7 := C.bm; have D7 := D.bm I; have F7 : Fcl bs h (bump h) := Fcl.bm; generalize bump h = h7 at *; have R7 := R.fd F7
    exact z218 C7.rt.t ha ht (q_216 C7.rt I R7 ha ht (fun y => absurd y z) (fun _ h8 F8 R8 e8 => ⟨fun _ => fin k C7 I D7 F7 F8.sk R8 e8 (by decide) fun z => by omega, (fun z => absurd rfl z)⟩) (fun y => absurd y z))
  · have F7 := F4.tr Fcl.bm
    exact z218 C4.bm.rt.t ha ht (q_216 C4.bm.rt I (R.fd F7) ha ht (fun _ t2 e2 hp2 => (hp2.no hn).elim) (fun y => absurd z y) (fun _ _ h8 F8 R8 e8 => ⟨fun _ => fin k C4.bm I (D4.bm I) F7 F8.sk R8 e8 (by decide) fun z => by omega, (fun z => absurd rfl z)⟩))
end ARI
