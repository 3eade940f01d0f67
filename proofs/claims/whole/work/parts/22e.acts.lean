/-! TEXTS: what an entry does, on both sides -/
def Zw (A b k : Nat) : Prop := b = A + 1 ∨ (b = A ∧ (k = 0 ∨ k = 23))
def acO (tx : Int → Int) (tn p : Int) (v : Int → Int) : Prop := (hrT tx tn p = 110 ∨ hrT tx tn p = 112 → v 0 < 10) ∧ (hrT tx tn p = 99 → refC v (hrT tx tn (p + 1) - 48) (hrT tx tn (p + 3) - 48) (hrT tx tn (p + 5) - 48) 0 = 0) ∧ (hrT tx tn p = 100 → refD v (hrT tx tn (p + 1) - 48) 100 = 0) ∧ (hrT tx tn p = 116 → v 448 + (hrT tx tn (p + 1) - 48) ≤ 10000)
def acV (tx : Int → Int) (tn p : Int) (v : Int → Int) : Int → Int := if hrT tx tn p = 110 then nodeV v 0 else if hrT tx tn p = 112 then nodeV v 1 else if hrT tx tn p = 99 then corV v (hrT tx tn (p + 1) - 48) (hrT tx tn (p + 3) - 48) (hrT tx tn (p + 5) - 48) 0 else if hrT tx tn p = 100 then droV v (hrT tx tn (p + 1) - 48) 100 else tickN v (hrT tx tn (p + 1) - 48).toNat
section ACT
variable {T N : Nat → Nat} {bs A : Nat} {h h1 h2 h3 h7 h10 : PH} {v u sv tx e e2 : Int → Int} {hs hs2 : Int → Int → Int} {iss n tn re er d t a b l m w c p : Int} {i : Nat} {K : Int → PH → Prop} {KV : PH → Prop} {KP : PR → PH → Prop} {Q : Int → Int → Int → PH → Prop} {f g : Int → Int}
theorem FR.zw (F : FR (Vw A) h h2) : FR (Zw A) h h2 := F.mo fun _ _ z => Or.inl z
theorem FR.tz (F : FR (Tw A) h h2) : FR (Zw A) h h2 := F.mo fun b k z => by unfold Tw at z; unfold Zw; omega
theorem FR.zr (F : FR (Zw A) h h2) : FR (RVw A) h h2 := F.mo fun b k z => by unfold Zw at z; unfold RVw Scr; omega
theorem r_addsCorZ (R : RT T N A h) (S : SR A h v iss sv n hs tn tx re er) (I : Iv v) (ha : In a) (hb : In b) (hl : In l) (hw : In w) (k0 : refC v a b l w = 0 → ∀ h2, RT T N A h2 → FR (Zw A) h h2 → SR A h2 (corV v a b l w) iss sv n hs tn tx re er → ai h2 A 0 = 0 → K (v 11) h2) (k1 : refC v a b l w ≠ 0 → ∀ h2, RT T N A h2 → FR (Zw A) h h2 → SR A h2 v iss sv n hs tn tx re er → ai h2 A 0 = refC v a b l w → K 0 h2) : ZI T N 174 [vr (some A), vi (J a), vi (J b), vi (J l), vi (J w)] h K := by
  have bb := I.b
  refine z174 R.t ha hb hl hw (r_refusal R S.1 I ha hb hl hw ?_)
  intro h3 z3
  obtain ⟨S3, F3⟩ := S.th (x := refC v a b l w)
  rw [← z3] at S3 F3
  have rb := refC_b (v := v) (a := a) (b := b) (l := l) (w := w)
  have e3 : ai h3 A 0 = refC v a b l w := by subst z3; exact rd_eq rfl rfl (by omega)
  rw [e3]
  have R3 := R.fr F3
  have FZ : FR (Zw A) h h3 := by subst z3; exact FR.pw (Or.inr ⟨rfl, by decide⟩)
  have n1 := R3.a1.2.1
  refine ⟨fun c => k1 (by omega) h3 R3 FZ S3 e3, fun c => ?_⟩
  have c0 : refC v a b l w = 0 := by omega
  obtain ⟨q1, q2, q3, q4, q5, q6⟩ := refC_0 c0 I
  have e11 := S3.1 11 (by omega) (by omega)
  refine ⟨A + 1, R3.a1.2.2, R3.a1.1, by omega, A + 1, R3.a1.2.2, R3.a1.1, by omega, ?_⟩
  rw [e11]
  intro h4 z4
  refine ⟨A + 1, by rw [z4]; exact R3.a1.2.2, R3.a1.1, by omega, ?_⟩
  intro h5 z5
  refine ⟨A + 1, by rw [z5, z4]; exact R3.a1.2.2, R3.a1.1, by omega, ?_⟩
  intro h6 z6
  refine ⟨A + 1, by rw [z6, z5, z4]; exact R3.a1.2.2, R3.a1.1, by omega, ?_⟩
  intro h7 z7
  have g7 : gr h7 = gr h3 := by rw [z7, z6, z5, z4]; rfl
  have F7 : FR (Vw A) h3 h7 := by rw [z7, z6, z5, z4]; exact (((FR.pw (show Vw A (A + 1) _ from rfl)).tr (FR.pw (show Vw A (A + 1) _ from rfl))).tr (FR.pw (show Vw A (A + 1) _ from rfl))).tr (FR.pw (show Vw A (A + 1) _ from rfl))
  have e7 : ai h7 (A + 1) 11 = v 11 := by rw [z7, z6, z5, z4, rd_k (by omega) (by omega) (by omega), rd_k (by omega) (by omega) (by omega), rd_k (by omega) (by omega) (by omega), rd_k (by omega) (by omega) (by omega)]; exact e11
  refine ⟨A + 1, by rw [g7]; exact R3.a1.2.2, R3.a1.1, by omega, ?_⟩
  rw [e7]
  intro h8 z8
  have e8 : ai h8 (A + 1) 11 = v 11 + 1 := by subst z8; exact rd_eq rfl rfl (by omega)
  have F8 : FR (Vw A) h3 h8 := by subst z8; exact F7.tr (FR.pw rfl)
  refine ⟨A + 1, by rw [z8]; show gr h7 A 1 = _; rw [g7]; exact R3.a1.2.2, R3.a1.1, by omega, ?_⟩
  rw [e8, show v 11 + 1 - 1 = v 11 by omega]
  have V8 : Rv A h8 (corV v a b l w) := by
    intro j h1 h2
    unfold corV
    by_cases c1 : j = 11
    · rw [if_pos c1, c1]; exact e8
    rw [if_neg c1, z8, rd_k c1 h1 (by omega), z7]
    by_cases c5 : j = 12 + 4 * v 11 + 3
    · rw [if_neg (by omega), if_neg (by omega), if_neg (by omega), if_pos c5, rd_eq rfl c5 hw]
    rw [rd_k c5 h1 (by omega), z6]
    by_cases c4 : j = 12 + 4 * v 11 + 2
    · rw [if_neg (by omega), if_neg (by omega), if_pos c4, rd_eq rfl c4 hl]
    rw [rd_k c4 h1 (by omega), z5]
    by_cases c3 : j = 12 + 4 * v 11 + 1
    · rw [if_neg (by omega), if_pos c3, rd_eq rfl c3 hb]
    rw [rd_k c3 h1 (by omega), z4]
    by_cases c2 : j = 12 + 4 * v 11
    · rw [if_pos c2, rd_eq rfl c2 ha]
    rw [rd_k c2 h1 (by omega), if_neg c2, if_neg c3, if_neg c4, if_neg c5]
    exact S3.1 j h1 h2
  have e0 : ai h8 A 0 = 0 := by rw [frA F8, e3, c0]
  exact ⟨by omega, k0 c0 h8 (R3.fr F8) (FZ.tr F8.zw) (S3.vv F8.vw V8) e0⟩
theorem r_addsDroneZ (R : RT T N A h) (S : SR A h v iss sv n hs tn tx re er) (I : Iv v) (ha : In a) (hm : In m) (k0 : refD v a m = 0 → ∀ h2, RT T N A h2 → FR (Zw A) h h2 → SR A h2 (droV v a m) iss sv n hs tn tx re er → ai h2 A 0 = 0 → K (v 117) h2) (k1 : refD v a m ≠ 0 → ∀ h2, RT T N A h2 → FR (Zw A) h h2 → SR A h2 v iss sv n hs tn tx re er → ai h2 A 0 = refD v a m → K 0 h2) : ZI T N 195 [vr (some A), vi (J a), vi (J m)] h K := by
  have bb := I.b
  refine z195 R.t ha hm (r_refuses R S.1 I ha hm ?_)
  intro h3 z3
  obtain ⟨S3, F3⟩ := S.th (x := refD v a m)
  rw [← z3] at S3 F3
  have rb := refD_b (v := v) (a := a) (m := m)
  have e3 : ai h3 A 0 = refD v a m := by subst z3; exact rd_eq rfl rfl (by omega)
  rw [e3]
  have R3 := R.fr F3
  have FZ : FR (Zw A) h h3 := by subst z3; exact FR.pw (Or.inr ⟨rfl, by decide⟩)
  have n1 := R3.a1.2.1
  refine ⟨fun c => k1 (by omega) h3 R3 FZ S3 e3, fun c => ?_⟩
  have c0 : refD v a m = 0 := by omega
  obtain ⟨q1, q2, q6⟩ := refD_0 I c0
  refine ⟨A + 1, R3.a1.2.2, R3.a1.1, by omega, ?_⟩
  rw [S3.1 117 (by omega) (by omega)]
  refine r_addsD_loop R3 S3 I q1 q2 q6 (fun h4 R4 F4 V4 => k0 c0 h4 R4 (FZ.tr F4.zw) (S3.vv F4.vw V4) (by rw [frA F4, e3, c0])) 55 0 h3 (by omega) (by omega) R3 FR.rf (S3.1.cg fun j a1 a2 => ?_)
  unfold putD zE rc
  by_cases c2 : 118 + 55 * v 117 ≤ j ∧ j < 118 + 55 * v 117 + 55
  · rw [if_pos c2, if_neg (by omega)]; congr 1; omega
  · rw [if_neg c2]
theorem ok_5 (ok : okE tx tn p) : hrT tx tn p = 110 ∨ hrT tx tn p = 112 ∨ hrT tx tn p = 99 ∨ hrT tx tn p = 100 ∨ hrT tx tn p = 116 := by
  have h4 := ok.1
  refine Classical.byContradiction fun z => ?_
  have n1 : ¬ hrT tx tn p = 110 := fun y => z (Or.inl y)
  have n2 : ¬ hrT tx tn p = 112 := fun y => z (Or.inr (Or.inl y))
  have n3 : ¬ hrT tx tn p = 99 := fun y => z (Or.inr (Or.inr (Or.inl y)))
  have n4 : ¬ hrT tx tn p = 100 := fun y => z (Or.inr (Or.inr (Or.inr (Or.inl y))))
  have n5 : ¬ hrT tx tn p = 116 := fun y => z (Or.inr (Or.inr (Or.inr (Or.inr y))))
  unfold sOf at h4
  rw [if_neg n3, if_neg n4, if_neg n1, if_neg n2, if_neg n5] at h4
  exact absurd h4 (by decide)
theorem ok_c (ok : okE tx tn p) (z : hrT tx tn p = 99) : (48 ≤ hrT tx tn (p + 1) ∧ hrT tx tn (p + 1) ≤ 57) ∧ (48 ≤ hrT tx tn (p + 3) ∧ hrT tx tn (p + 3) ≤ 57) ∧ 49 ≤ hrT tx tn (p + 5) ∧ hrT tx tn (p + 5) ≤ 57 := by
  have s1 : sOf (hrT tx tn p) = 1 := by rw [z]; decide
  have g := ok.2
  rw [s1] at g
  obtain ⟨-, ⟨c0, c1, c2, c3, c4, c5⟩, -, -⟩ := txc_s
  have g0 := g 0 (by decide) (by rw [txl_s.2.1]; decide)
  have g2 := g 2 (by decide) (by rw [txl_s.2.1]; decide)
  have g4 := g 4 (by decide) (by rw [txl_s.2.1]; decide)
  rw [c0, show p + 1 + 0 = p + 1 by omega] at g0
  rw [c2, show p + 1 + 2 = p + 3 by omega] at g2
  rw [c4, show p + 1 + 4 = p + 5 by omega] at g4
  unfold lk at g0 g2 g4
  rw [if_pos rfl] at g0 g2
  rw [if_neg (by decide), if_pos rfl] at g4
  exact ⟨g0, g2, g4⟩
theorem ok_d (ok : okE tx tn p) (z : hrT tx tn p = 100) : 48 ≤ hrT tx tn (p + 1) ∧ hrT tx tn (p + 1) ≤ 57 := by
  have s1 : sOf (hrT tx tn p) = 2 := by rw [z]; decide
  have g := ok.2
  rw [s1] at g
  obtain ⟨-, -, ⟨c0, c1⟩, -⟩ := txc_s
  have g0 := g 0 (by decide) (by rw [txl_s.2.2.1]; decide)
  rw [c0, show p + 1 + 0 = p + 1 by omega] at g0
  unfold lk at g0
  rw [if_pos rfl] at g0
  exact g0
theorem ok_t (ok : okE tx tn p) (z : hrT tx tn p = 116) : 49 ≤ hrT tx tn (p + 1) ∧ hrT tx tn (p + 1) ≤ 57 := by
  have s1 : sOf (hrT tx tn p) = 3 := by rw [z]; decide
  have g := ok.2
  rw [s1] at g
  obtain ⟨-, -, -, c0, c1⟩ := txc_s
  have g0 := g 0 (by decide) (by rw [txl_s.2.2.2.1]; decide)
  rw [c0, show p + 1 + 0 = p + 1 by omega] at g0
  unfold lk at g0
  rw [if_neg (by decide), if_pos rfl] at g0
  exact g0
theorem acV_n (z : hrT tx tn p = 110) : acV tx tn p v = nodeV v 0 := if_pos z
theorem acV_p (z : hrT tx tn p = 112) : acV tx tn p v = nodeV v 1 := by unfold acV; rw [if_neg (by omega), if_pos z]
theorem acV_c (z : hrT tx tn p = 99) : acV tx tn p v = corV v (hrT tx tn (p + 1) - 48) (hrT tx tn (p + 3) - 48) (hrT tx tn (p + 5) - 48) 0 := by unfold acV; rw [if_neg (by omega), if_neg (by omega), if_pos z]
theorem acV_d (z : hrT tx tn p = 100) : acV tx tn p v = droV v (hrT tx tn (p + 1) - 48) 100 := by unfold acV; rw [if_neg (by omega), if_neg (by omega), if_neg (by omega), if_pos z]
theorem acV_t (z : hrT tx tn p = 116) : acV tx tn p v = tickN v (hrT tx tn (p + 1) - 48).toNat := by unfold acV; rw [if_neg (by omega), if_neg (by omega), if_neg (by omega), if_neg (by omega)]
theorem acV_Iv (I : Iv v) (ok : okE tx tn p) (o : acO tx tn p v) : Iv (acV tx tn p v) := by
  obtain ⟨o1, o2, o3, o4⟩ := o
  rcases ok_5 ok with z | z | z | z | z
  · rw [acV_n z]; exact nodeV_Iv I (o1 (Or.inl z)) (Or.inl rfl)
  · rw [acV_p z]; exact nodeV_Iv I (o1 (Or.inr z)) (Or.inr rfl)
  · rw [acV_c z]
    obtain ⟨q1, q2, q3, q4, q5, q6⟩ := refC_0 (o2 z) I
    exact corV_Iv I (by omega) (by omega) (by omega) q3 (by omega) (by omega)
  · rw [acV_d z]
    obtain ⟨q1, q2, q6⟩ := refD_0 I (o3 z)
    exact droV_Iv I q6 q1 q2
  · rw [acV_t z]
    have := ok_t ok z
    exact (tickN_Iv I _ (by have := o4 z; omega)).1
theorem r_acts (R : RT T N A h) (S : SR A h v iss sv n hs tn tx re er) (I : IvS v iss sv n hs tn tx re er) (ok : okE tx tn p) (E : enV A h tx tn p) (e0 : ai h A 0 = 0) (k1 : acO tx tn p v → ∀ h2, FR (Zw A) h h2 → SR A h2 (acV tx tn p v) iss sv n hs tn tx re er → ai h2 A 0 = 0 → KV h2) (k0 : ¬ acO tx tn p v → ∀ h2, FR (Zw A) h h2 → SR A h2 v iss sv n hs tn tx re er → ai h2 A 0 ≠ 0 → KV h2) : CV T N 246 [vr (some A)] h KV := by
  have b := I.1.b
  have n1 := R.a1.2.1
  have e448 := S.1 448 (by decide) (by decide)
  have v0 := S.1 0 (by decide) (by decide)
  obtain ⟨x26, x27, x28⟩ := E
  refine z246 R.t ?_
  rw [x26]
  have node : ∀ x, (x = 0 ∨ x = 1) → (v 0 < 10 → ∀ h2, FR (Zw A) h h2 → SR A h2 (nodeV v x) iss sv n hs tn tx re er → ai h2 A 0 = 0 → KV h2) → (¬ v 0 < 10 → ∀ h2, FR (Zw A) h h2 → SR A h2 v iss sv n hs tn tx re er → ai h2 A 0 ≠ 0 → KV h2) → ZI T N 171 [vr (some A), vi (J x)] h (fun _ h5 => KV h5) := fun x hx y1 y0 => by
    by_cases c : v 0 < 10
    · refine r_addsNode R S.1 (by omega) hx fun h2 R2 F2 V2 => y1 c h2 F2.zw (S.vv F2.vw V2) (by rw [frA F2]; exact e0)
    · refine z171 R.t (by omega) ⟨A + 1, R.a1.2.2, R.a1.1, by omega, fun _ => r_no R (by decide) ?_, fun z => absurd (by omega) z⟩
      obtain ⟨S2, F2⟩ := S.th (x := 1)
      have e1 : ai (wi h A 0 1) A 0 = 1 := rd_eq rfl rfl (by decide)
      exact y0 c _ (FR.pw (Or.inr ⟨rfl, by decide⟩)) S2 (by rw [e1]; decide)
  rcases ok_5 ok with z | z | z | z | z
  · refine ⟨fun y => by omega, fun _ => ⟨fun y => by omega, fun _ => ⟨fun _ => node 0 (Or.inl rfl) (fun c h2 F2 S2 f2 => k1 ⟨fun _ => c, fun y => by omega, fun y => by omega, fun y => by omega⟩ h2 F2 (by rw [acV_n z]; exact S2) f2) fun c h2 F2 S2 f2 => k0 (fun o => c (o.1 (Or.inl z))) h2 F2 S2 f2, fun y => absurd z y⟩⟩⟩
  · refine ⟨fun y => by omega, fun _ => ⟨fun y => by omega, fun _ => ⟨fun y => by omega, fun _ => ⟨fun _ => node 1 (Or.inr rfl) (fun c h2 F2 S2 f2 => k1 ⟨fun _ => c, fun y => by omega, fun y => by omega, fun y => by omega⟩ h2 F2 (by rw [acV_p z]; exact S2) f2) fun c h2 F2 S2 f2 => k0 (fun o => c (o.1 (Or.inr z))) h2 F2 S2 f2, fun y => absurd z y⟩⟩⟩⟩
  · obtain ⟨q1, q2, q3⟩ := ok_c ok z
    have s1 : sOf (hrT tx tn p) = 1 := by rw [z]; decide
    rw [x27, if_neg (by rw [s1]; decide), (x28 z).1, (x28 z).2]
    refine ⟨fun _ => r_addsCorZ R S I.1 (by omega) (by omega) (by omega) (by decide) (fun c h2 R2 F2 S2 f2 => k1 ⟨fun y => by omega, fun _ => c, fun y => by omega, fun y => by omega⟩ h2 F2 (by rw [acV_c z]; exact S2) f2) (fun c h2 R2 F2 S2 f2 => k0 (fun o => c (o.2.1 z)) h2 F2 S2 (by rw [f2]; exact c)), fun y => absurd z y⟩
  · have q1 := ok_d ok z
    have s1 : sOf (hrT tx tn p) = 2 := by rw [z]; decide
    rw [x27, if_neg (by rw [s1]; decide)]
    refine ⟨fun y => by omega, fun _ => ⟨fun _ => r_addsDroneZ R S I.1 (by omega) (by decide) (fun c h2 R2 F2 S2 f2 => k1 ⟨fun y => by omega, fun y => by omega, fun _ => c, fun y => by omega⟩ h2 F2 (by rw [acV_d z]; exact S2) f2) (fun c h2 R2 F2 S2 f2 => k0 (fun o => c (o.2.2.1 z)) h2 F2 S2 (by rw [f2]; exact c)), fun y => absurd z y⟩⟩
  · have q1 := ok_t ok z
    have s1 : sOf (hrT tx tn p) = 3 := by rw [z]; decide
    rw [x27, if_neg (by rw [s1]; decide)]
    refine ⟨fun y => by omega, fun _ => ⟨fun y => by omega, fun _ => ⟨fun y => by omega, fun _ => ⟨fun y => by omega, fun _ => ⟨A + 1, R.a1.2.2, R.a1.1, by omega, ?_⟩⟩⟩⟩⟩
    rw [e448]
    refine ⟨by omega, fun c => r_no R (by decide) ?_, fun c => ?_⟩
    · obtain ⟨S2, F2⟩ := S.th (x := 1)
      have e1 : ai (wi h A 0 1) A 0 = 1 := rd_eq rfl rfl (by decide)
      exact k0 (fun o => by have := o.2.2.2 z; omega) _ (FR.pw (Or.inr ⟨rfl, by decide⟩)) S2 (by rw [e1]; decide)
    · have ea : hrT tx tn (p + 1) - 48 = (((hrT tx tn (p + 1) - 48).toNat : Nat) : Int) := by omega
      rw [ea]
      refine r_ticks R S.1 I.1 (by omega) fun h2 R2 F2 V2 _ => k1 ⟨fun y => by omega, fun y => by omega, fun y => by omega, fun _ => by omega⟩ h2 F2.tz (by rw [acV_t z]; exact S.vv F2.t2 V2) ?_
      rw [F2.ai (by unfold Tw; omega)]; exact e0
/-! the class -/
theorem Com.inp (C : Com T N bs h i) (I : IvS v iss sv n hs tn tx re er) (D : SD T N bs h v iss sv n hs tn tx re er) : INP T N h (bs + 3250) tx tn := by
  obtain ⟨-, -, -, -, -, -, -, c8, -⟩ := C.1
  have tb := I.2.2.2.2.2.1
  exact ⟨c8.1, c8.2.1, c8.2.2.1, c8.2.2.2, D.2.2.2.1.1, tb, fun j j1 j2 => ⟨D.2.2.2.1.2 j j1 j2, I.2.2.2.2.2.2.1 j j1 j2⟩⟩
theorem c_153 (C : Com T N bs h i) (I : IvS v iss sv n hs tn tx re er) (D : SD T N bs h v iss sv n hs tn tx re er) (hp : 0 ≤ p) (ok : okE tx tn p) (k1 : acO tx tn p v → ∀ h4, Com T N bs h4 i → SD T N bs h4 (acV tx tn p v) iss sv n hs tn tx re er → IvS (acV tx tn p v) iss sv n hs tn tx re er → Fcl bs h h4 → Fp (fun x => bs + 1 ≤ x ∧ x < bs + 1 + 294) h h4 → K 1 h4) (k0 : ¬ acO tx tn p v → K 0 h) : ZI T N 153 [vr (some bs), vi (J p)] h K := by
  have b := I.1.b
  have o := C.o
  have P := C.inp I D
  have tb := P.2.2.2.2.2.1
  have eb := D.1.b
  obtain ⟨oe1, oe2, oe3⟩ := okE_end ok
  have e0 : hrT tx tn p = tx p := if_pos oe2
  have e1 : hrT tx tn (p + 1) = tx (p + 1) := if_pos (by omega)
  have h0b := (P.2.2.2.2.2.2 p hp oe2).2
  have h1b := (P.2.2.2.2.2.2 (p + 1) (by omega) (by omega)).2
  have dig : ∀ {KK : Int → PH → Prop} (q : Int), 0 ≤ q → q < tn → KK (hrT tx tn q - 48) h → ZI T N 50 [vr (some (bs + 3250)), vi (J q)] h KK := fun {KK} q q0 q1 kk => by
    have eq : hrT tx tn q = tx q := if_pos q1
    have qb := (P.2.2.2.2.2.2 q q0 q1).2
    refine z50 P.1 (by omega) (d_sign P (by omega) ?_)
    rw [if_pos q1, ← eq]
    exact ⟨by omega, kk⟩
  have op : ∀ {KK : Int → PH → Prop} (x : Int), (x = 0 ∨ x = 1) → (v 0 < 10 → ∀ h4, Com T N bs h4 i → SD T N bs h4 (nodeV v x) iss sv n hs tn tx re er → IvS (nodeV v x) iss sv n hs tn tx re er → Fcl bs h h4 → Fp (fun x => bs + 1 ≤ x ∧ x < bs + 1 + 294) h h4 → KK 1 h4) → (¬ v 0 < 10 → KK 0 h) → ZI T N 92 [vr (some (bs + 1)), vi (J x)] h (fun x_67 h_66 => (((x_67 = (-1) → (KK 0 h_66)) ∧ (¬ (x_67 = (-1)) → (KK 1 h_66))))) := fun {KK} x hx y1 y0 => by
    by_cases c : v 0 < 10
    · refine d_newNode D.1 I.1 c hx fun h2 F2 W2 => ⟨fun z => by omega, fun _ => ?_⟩
      obtain ⟨C4, D4, I4, L4⟩ := dv_wo C I D (F2.mo fun x z => by omega) W2 (nodeV_Iv I.1 c hx)
      exact y1 c h2 C4 D4 I4 L4 (F2.mo fun x z => by omega)
    · exact z92 C.2.1.1.t (by omega) ⟨fun z => absurd (by omega) c, fun _ => ⟨fun _ => y0 c, fun z => absurd rfl z⟩⟩
  have g5 : gr h bs 5 = some (bs + 3250) := o.2.2.2.2.2.2.1
  refine z153 o.1 (by omega) ⟨bs + 3250, g5, P.1, dig (p + 1) (by omega) (by omega) ⟨bs + 3250, g5, P.1, d_sign P (by omega) ?_⟩⟩
  rw [if_pos oe2, ← e0]
  rcases ok_5 ok with z | z | z | z | z
  · refine ⟨fun y => by omega, fun _ => ⟨fun y => by omega, fun _ => ⟨fun _ => ⟨bs + 1, o.2.1, C.2.1.1.t, op 0 (Or.inl rfl) (fun c h4 C4 D4 I4 L4 F4 => k1 ⟨fun _ => c, fun y => by omega, fun y => by omega, fun y => by omega⟩ h4 C4 (by rw [acV_n z]; exact D4) (by rw [acV_n z]; exact I4) L4 F4) fun c => k0 fun o => c (o.1 (Or.inl z))⟩, fun y => absurd z y⟩⟩⟩
  · refine ⟨fun y => by omega, fun _ => ⟨fun y => by omega, fun _ => ⟨fun y => by omega, fun _ => ⟨fun _ => ⟨bs + 1, o.2.1, C.2.1.1.t, op 1 (Or.inr rfl) (fun c h4 C4 D4 I4 L4 F4 => k1 ⟨fun _ => c, fun y => by omega, fun y => by omega, fun y => by omega⟩ h4 C4 (by rw [acV_p z]; exact D4) (by rw [acV_p z]; exact I4) L4 F4) fun c => k0 fun o => c (o.1 (Or.inr z))⟩, fun y => absurd z y⟩⟩⟩⟩
  · obtain ⟨q1, q2, q3⟩ := ok_c ok z
    have s1 : sOf (hrT tx tn p) = 1 := by rw [z]; decide
    rw [s1, txl_s.2.1] at oe1
    refine ⟨fun _ => ⟨bs + 3250, g5, P.1, dig (p + 3) (by omega) (by omega) ⟨bs + 3250, g5, P.1, dig (p + 5) (by omega) (by omega) ?_⟩⟩, fun y => absurd z y⟩
    have no : ∀ r, refC v (hrT tx tn (p + 1) - 48) (hrT tx tn (p + 3) - 48) (hrT tx tn (p + 5) - 48) 0 = r → r ≠ 0 → K 0 h := fun r er nr => k0 fun oo => nr (er.symm.trans (oo.2.1 z))
    have all := fun (c0 : refC v (hrT tx tn (p + 1) - 48) (hrT tx tn (p + 3) - 48) (hrT tx tn (p + 5) - 48) 0 = 0) => k1 ⟨fun y => by omega, fun _ => c0, fun y => by omega, fun y => by omega⟩
    rw [acV_c z] at all
    have ba : 0 ≤ hrT tx tn (p + 1) - 48 ∧ hrT tx tn (p + 1) - 48 ≤ 9 := by omega
    have b3 : 0 ≤ hrT tx tn (p + 3) - 48 ∧ hrT tx tn (p + 3) - 48 ≤ 9 := by omega
    have b5 : 1 ≤ hrT tx tn (p + 5) - 48 ∧ hrT tx tn (p + 5) - 48 ≤ 9 := by omega
    generalize hrT tx tn (p + 1) - 48 = a at *
    generalize hrT tx tn (p + 3) - 48 = b' at *
    generalize hrT tx tn (p + 5) - 48 = l at *
    unfold refC at no all
    refine z154 o.1 (by omega) (by omega) (by omega) ⟨bs + 1, o.2.1, C.2.1.1.t, d_hasNode C.2.1.1 (by omega) (fun c1 => ⟨(fun z => absurd z (by decide)), fun _ => ⟨bs + 1, o.2.1, C.2.1.1.t, d_hasNode C.2.1.1 (by omega) (fun c2 => ⟨(fun z => absurd z (by decide)), fun _ => ⟨fun c3 => ⟨Or.inl rfl, ?_⟩, fun c3 => ⟨bs + 1, o.2.1, C.2.1.1.t, ?_⟩⟩⟩) (fun c2 => ⟨fun _ => ⟨Or.inl rfl, ?_⟩, (fun z => absurd rfl z)⟩)⟩⟩) (fun c1 => ⟨fun _ => ⟨Or.inl rfl, ?_⟩, (fun z => absurd rfl z)⟩)⟩
    · exact no 2 (by rw [if_neg (by omega), if_neg (by omega), if_pos c3]) (by decide)
    · by_cases c : v 11 < 16
      · refine d_newCor D.1 I.1 c (by omega) (by omega) (by omega) (by decide) fun h2 F2 W2 => ⟨fun z => by omega, fun _ => ⟨Or.inr rfl, ?_⟩⟩
        obtain ⟨C4, D4, I4, L4⟩ := dv_wo C I D F2 W2 (corV_Iv I.1 c (by omega) (by omega) c3 (by omega) (by omega))
        exact all (by rw [if_neg (by omega), if_neg (by omega), if_neg c3, if_neg (by omega), if_neg (by omega), if_neg (by omega)]) h2 C4 D4 I4 L4 F2
      · refine z93 C.2.1.1.t (by omega) (by omega) (by omega) (by decide) ⟨fun z => absurd (by omega) c, fun _ => ⟨fun _ => ⟨Or.inl rfl, ?_⟩, fun z => absurd rfl z⟩⟩
        exact no 3 (by rw [if_neg (by omega), if_neg (by omega), if_neg c3, if_neg (by omega), if_neg (by omega), if_pos (by omega)]) (by decide)
    · exact no 1 (by rw [if_neg (by omega), if_pos (by omega)]) (by decide)
    · exact no 1 (by rw [if_pos (by omega)]) (by decide)
  · have q1 := ok_d ok z
    have no : ∀ r, refD v (hrT tx tn (p + 1) - 48) 100 = r → r ≠ 0 → K 0 h := fun r er nr => k0 fun oo => nr (er.symm.trans (oo.2.2.1 z))
    have all := fun (c0 : refD v (hrT tx tn (p + 1) - 48) 100 = 0) => k1 ⟨fun y => by omega, fun y => by omega, fun _ => c0, fun y => by omega⟩
    rw [acV_d z] at all
    have ba : 0 ≤ hrT tx tn (p + 1) - 48 ∧ hrT tx tn (p + 1) - 48 ≤ 9 := by omega
    generalize hrT tx tn (p + 1) - 48 = a at *
    unfold refD at no all
    refine ⟨fun y => by omega, fun _ => ⟨fun _ => ⟨bs + 1, o.2.1, C.2.1.1.t, d_hasNode C.2.1.1 (by omega) (fun c1 => ⟨(fun z => absurd z (by decide)), fun _ => ⟨bs + 1, o.2.1, C.2.1.1.t, ?_⟩⟩) (fun c1 => ⟨fun _ => no 1 (by rw [if_pos (by omega)]) (by decide), (fun z => absurd rfl z)⟩)⟩, fun y => absurd z y⟩⟩
    by_cases c : v 117 < 6
    · refine d_newDrone D.1 I.1 c (by omega) (by decide) fun h2 F2 W2 => ⟨fun z => by omega, fun _ => ?_⟩
      obtain ⟨C4, D4, I4, L4⟩ := dv_wo C I D F2 W2 (droV_Iv I.1 c (by omega) (by decide))
      exact all (by rw [if_neg (by omega), if_neg (by decide), if_neg (by omega)]) h2 C4 D4 I4 L4 F2
    · refine z96 C.2.1.1.t (by omega) (by decide) ⟨fun z => absurd (by omega) c, fun _ => ⟨fun _ => ?_, fun z => absurd rfl z⟩⟩
      exact no 3 (by rw [if_neg (by omega), if_neg (by decide), if_pos (by omega)]) (by decide)
  · have q1 := ok_t ok z
    refine ⟨fun y => by omega, fun _ => ⟨fun y => by omega, fun _ => ⟨fun y => by omega, fun _ => ⟨fun y => by omega, fun _ => ⟨fun _ => ⟨bs + 1, o.2.1, C.2.1.1.t, ?_⟩, fun y => absurd z y⟩⟩⟩⟩⟩
    rw [eb.1]
    refine ⟨by omega, fun c => k0 fun oo => by (have := oo.2.2.2 z; omega), fun c => ⟨bs + 1, o.2.1, C.2.1.1.t, ?_⟩⟩
    have ea : hrT tx tn (p + 1) - 48 = (((hrT tx tn (p + 1) - 48).toNat : Nat) : Int) := by omega
    have av : acV tx tn p v = tickN v (hrT tx tn (p + 1) - 48).toNat := acV_t z
    have all := k1 ⟨fun y => by omega, fun y => by omega, fun y => by omega, fun _ => by omega⟩
    rw [av] at all
    rw [ea]
    refine d_passTicks D.1 I.1 (by omega) fun h2 F2 W2 => ?_
    obtain ⟨C4, D4, I4, L4⟩ := dv_wo C I D F2 W2 (tickN_Iv I.1 _ (by omega)).1
    exact all h2 C4 D4 I4 L4 F2
end ACT
