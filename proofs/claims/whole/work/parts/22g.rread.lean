/-! TEXTS: the reference reads -/
def FE2 (A b k : Nat) : Prop := b = A ∧ (k = 0 ∨ k = 8 ∨ k = 11 ∨ (24 ≤ k ∧ k ≤ 29))
section RRD
variable {T N : Nat → Nat} {bs A : Nat} {h h0 h1 h2 h3 h4 h7 h10 : PH} {v u sv tx e : Int → Int} {hs hs2 : Int → Int → Int} {iss n tn re er d t a b k l w c p x y : Int} {i m m2 : Nat} {K : Int → PH → Prop} {KV : PH → Prop} {KP : PR → PH → Prop} {Q : Int → Int → Int → PH → Prop} {f g : Int → Int}
theorem SR.e2 (S : SR A h v iss sv n hs tn tx re er) (F : FR (FE2 A) h h2) (e : ai h2 A 11 = t) (ht : t ≤ tn) (ey : ai h2 A 8 = y) : SR A h2 v iss sv n hs t tx re y := by
  obtain ⟨s1, ⟨s2, s3⟩, ⟨s4, s4'⟩, ⟨s5, s6⟩, s7, s8⟩ := S
  exact ⟨fun j a b => by rw [F.ai (by unfold FE2; omega)]; exact s1 j a b, ⟨by rw [F.ai (by unfold FE2; omega)]; exact s2, fun z j a b => by rw [F.ai (by unfold FE2; omega)]; exact s3 z j a b⟩, ⟨by rw [F.ai (by unfold FE2; omega)]; exact s4, fun i a b j c d => by rw [F.ai (by unfold FE2; omega)]; exact s4' i a b j c d⟩, ⟨e, fun i a b => by rw [F.ai (by unfold FE2; omega)]; exact s6 i a (by omega)⟩, by rw [F.ai (by unfold FE2; omega)]; exact s7, ey⟩
theorem FR.f2 (F : FR (FEt A) h h2) : FR (FE2 A) h h2 := F.mo fun b k z => by unfold FEt at z; unfold FE2; omega
theorem FR.f2a (F : FR (FE2 A) h h2) : FR (RAll A) h h2 := F.mo fun b k z => by unfold FE2 at z; unfold RAll; omega
theorem FR.fta (F : FR (FEt A) h h2) : FR (RAll A) h h2 := F.f2.f2a
theorem FR.fts (F : FR (FEt A) h h2) : FR (Scr A) h h2 := F.mo fun b k z => by unfold FEt at z; unfold Scr; omega
theorem FR.zwa (F : FR (Zw A) h h2) : FR (RAll A) h h2 := F.mo fun b k z => by unfold Zw at z; unfold RAll; omega
theorem f2_w (hk : k = 0 ∨ k = 8 ∨ k = 11 ∨ (24 ≤ k ∧ k ≤ 29)) (e : h2 = wi h A k x) : FR (FE2 A) h h2 := by subst e; exact FR.pw ⟨rfl, by omega⟩
theorem SR.rtx (S : SR A h v iss sv n hs tn tx re er) (I : IvS v iss sv n hs tn tx re er) : RTX A h tx tn := ⟨S.2.2.2.1.1, I.2.2.2.2.2.1, fun i a b => ⟨S.2.2.2.1.2 i a b, I.2.2.2.2.2.2.1 i a b⟩⟩
/-- the loop that looks for a fault -/
theorem r_17 (R : RT T N A h) (X : RTX A h tx tn) (e0 : ai h A 0 = 0)
  (ke : ∀ x, TXer tx tn x → ∀ h4, FR (FE2 A) h h4 → ai h4 A 11 = 0 → ai h4 A 8 = x → ZI T N 157 [vr (some A), vi (J 1)] h4 K)
  (ko : ∀ m, TXok tx tn m → ∀ h4, FR (FE2 A) h h4 → ai h4 A 11 = tn → ai h4 A 8 = ai h A 8 → ai h4 A 0 = 0 → ai h4 A 24 = 0 → ai h4 A 25 = 0 → CV T N 161 [vr (gr h4 A 1), vr (gr h4 A 3)] h4 (fun h5 => ZW T N 247 103 [some (vr (some A)), some (vi (J (m : Int))), none, some (vi (J 0))] [] h5 K)) :
  ∀ (q m : Nat) (h3 : PH), m + q = 40 → (∀ j : Nat, j < m → GE tx tn j) → FR (FEt A) h h3 → ai h3 A 24 = psT tx tn m → ai h3 A 25 = 0 → ZW T N 247 17 [some (vr (some A)), some (vi (J (m : Int))), none, none] [] h3 K := by
  have tb := X.2.1
  intro q
  induction q with
  | zero =>
    intro m h3 hm g F e24 e25
    have := psT_b tb.1 m g
    omega
  | succ q ih =>
    intro m h3 hm g F e24 e25
    have pb := psT_b tb.1 m g
    have X3 := X.fr F
    have go : (m = 0 ∨ psT tx tn m < tn) → CV T N 245 [vr (some A)] h3 (fun h4 => ZW T N 247 17 [some (vr (some A)), some (vi (J ((m : Int) + 1))), none, none] [] h4 K) := fun c => by
      refine r_entry (R.fr F) X3 (by omega) e24 e25 (fun e he h4 F4 P4 => ?_) (fun ok h4 F4 P4 _ => ?_)
      · refine z247_17 R.t (by omega) ⟨fun y => absurd (P4.2.1.symm.trans y) (by decide), fun _ h5 e5 => ?_⟩
        have xb : TXer tx tn e := ⟨m, g, c, he⟩
        have bd := xb.bd tb.1
        have F5 := f2_w (A := A) (by omega) e5
        have e255 : ai h5 A 25 = 1 := by rw [e5, rd_k (by decide) (by decide) (by decide)]; exact P4.2.1
        have e245 : ai h5 A 24 = e := by rw [e5, rd_k (by decide) (by decide) (by decide)]; exact P4.1
        have e115 : ai h5 A 11 = 0 := by rw [e5]; exact rd_eq rfl rfl (by decide)
        refine ⟨fun y => absurd (e255.symm.trans y) (by decide), fun _ h6 e6 => ?_⟩
        have F6 := f2_w (A := A) (by omega) e6
        rw [e245] at e6
        exact ke e xb h6 (((F.tr F4).f2.tr F5).tr F6) (by rw [e6, rd_k (by decide) (by decide) (by decide)]; exact e115) (by rw [e6]; exact rd_eq rfl rfl (by omega))
      · have := ih (m + 1) h4 (by omega) (fun j hj => by
          by_cases cj : j = m
          · rw [cj]; exact ⟨c, ok⟩
          · exact g j (by omega)) (F.tr F4) P4.1 P4.2.1
        rw [show ((m + 1 : Nat) : Int) = (m : Int) + 1 by omega] at this
        exact this
    refine z247_17 R.t (by omega) ⟨fun _ => ⟨fun c => go (Or.inl (by omega)), fun c => ?_⟩, fun y => absurd e25 y⟩
    rw [e24, X3.1]
    refine ⟨fun c2 => go (Or.inr c2), fun c2 h5 e5 => ?_⟩
    have F5 := f2_w (A := A) (by omega) e5
    have e255 : ai h5 A 25 = 0 := by rw [e5, rd_k (by decide) (by decide) (by decide)]; exact e25
    refine ⟨fun _ h6 e6 h7 e7 => ?_, fun y => absurd e255 y⟩
    have F6 := f2_w (A := A) (by omega) e6
    have F7 := f2_w (A := A) (by omega) e7
    have f8 : ai h3 A 8 = ai h A 8 := F.ai (by unfold FEt; omega)
    have f0 : ai h3 A 0 = ai h A 0 := F.ai (by unfold FEt; omega)
    refine ko m ⟨by omega, g, c2⟩ h7 (((F.f2.tr F5).tr F6).tr F7) ?_ ?_ ?_ ?_ ?_
    · rw [e7, rd_k (by decide) (by decide) (by decide), e6]; exact rd_eq rfl rfl (by omega)
    · rw [e7, rd_k (by decide) (by decide) (by decide), e6, rd_k (by decide) (by decide) (by decide), e5, rd_k (by decide) (by decide) (by decide)]; exact f8
    · rw [e7, rd_k (by decide) (by decide) (by decide), e6, rd_k (by decide) (by decide) (by decide), e5, rd_k (by decide) (by decide) (by decide)]; exact f0.trans e0
    · rw [e7]; exact rd_eq rfl rfl (by decide)
    · rw [e7, rd_k (by decide) (by decide) (by decide), e6, rd_k (by decide) (by decide) (by decide)]; exact e255
/-- the ends -/
theorem r_rgood (R : RT T N A h) (S : SR A h u iss sv n hs tn tx re er) (W : ∀ j, 0 ≤ j → j < 449 → ai h (A + 3) j = v j) (ht : 0 ≤ tn) (hn : 0 ≤ n ∧ n ≤ 8) (e0 : ai h A 0 = 0) (e : h3 = wi h A 11 0) (kk : ∀ h7, FR (RAll A) h h7 → SR A h7 u iss sv (pushN n) (pushH n hs v) 0 tx re er → ai h7 A 0 = 0 → KV h7) : CV T N 161 [vr (gr h3 A 1), vr (gr h3 A 4)] h3 (fun h26 => (CV T N 161 [vr (gr h26 A 3), vr (gr h26 A 1)] h26 (fun h31 => (CV T N 160 [vr (some A)] h31 (fun h35 => (CV T N 161 [vr (gr h35 A 4), vr (gr h35 A 1)] h35 (fun h40 => KV h40))))))) := by
  have F3 := f2_w (A := A) (by omega) e
  have S3 : SR A h3 u iss sv n hs 0 tx re er := S.e2 F3 (by rw [e]; exact rd_eq rfl rfl (by decide)) ht (by rw [e, rd_k (by decide) (by decide) (by decide)]; exact S.2.2.2.2.2)
  have R3 := R.fr F3
  rw [R3.a1.2.2, R3.a4.2.2]
  refine r_copies R3.a1.1 R3.a4.1 R3.a1.2.1 R3.a4.2.1 (by omega) fun h4 F4 E4 => ?_
  have R4 := R3.fr F4
  have S4 : SR A h4 u iss sv n hs 0 tx re er := S3.vv (F4.mo fun b k z => by unfold RVw Scr; omega) fun j a b => by rw [F4.ai (by omega)]; exact S3.1 j a b
  rw [R4.a3.2.2, R4.a1.2.2]
  refine r_copies R4.a3.1 R4.a1.1 R4.a3.2.1 R4.a1.2.1 (by omega) fun h5 F5 E5 => ?_
  have R5 := R4.fr F5
  have S5 : SR A h5 v iss sv n hs 0 tx re er := S4.vv (F5.mo fun b k z => by unfold RVw Scr; omega) fun j a b => by rw [E5 j a b, F4.ai (by omega), F3.ai (by unfold FE2; omega)]; exact W j a b
  refine rs_keeps R5 S5 hn fun h6 R6 F6 S6 => ?_
  rw [R6.a4.2.2, R6.a1.2.2]
  refine r_copies R6.a4.1 R6.a1.1 R6.a4.2.1 R6.a1.2.1 (by omega) fun h7 F7 E7 => ?_
  refine kk h7 ((((F3.f2a.tr (F4.mo fun b k z => by unfold RAll; omega)).tr (F5.mo fun b k z => by unfold RAll; omega)).tr (F6.mo fun b k z => by unfold Kw at z; unfold RAll; omega)).tr (F7.mo fun b k z => by unfold RAll; omega)) (S6.vv (F7.mo fun b k z => by unfold RVw Scr; omega) fun j a b => ?_) ?_
  · rw [E7 j a b, F6.ai (by unfold Kw; omega), F5.ai (by omega), E4 j a b]; exact S3.1 j a b
  · rw [F7.ai (by omega), F6.ai (by unfold Kw; omega), F5.ai (by omega), F4.ai (by omega), e, rd_k (by decide) (by decide) (by decide)]; exact e0
theorem r_rbad (R : RT T N A h) (S : SR A h u iss sv n hs tn tx re er) (W : ∀ j, 0 ≤ j → j < 449 → ai h (A + 3) j = v j) (ht : 0 ≤ tn) (e : h3 = wi h A 11 0) (kk : ∀ h7, FR (RAll A) h h7 → SR A h7 v iss sv n hs 0 tx re er → ai h7 A 0 = 2 → K 0 h7) : CV T N 161 [vr (gr h3 A 1), vr (gr h3 A 4)] h3 (fun h10 => (CV T N 161 [vr (gr h10 A 3), vr (gr h10 A 1)] h10 (fun h15 => (ZI T N 157 [vr (some A), vi (J 2)] h15 (fun x_20 h_19 => (K x_20 h_19)))))) := by
  have F3 := f2_w (A := A) (by omega) e
  have S3 : SR A h3 u iss sv n hs 0 tx re er := S.e2 F3 (by rw [e]; exact rd_eq rfl rfl (by decide)) ht (by rw [e, rd_k (by decide) (by decide) (by decide)]; exact S.2.2.2.2.2)
  have R3 := R.fr F3
  rw [R3.a1.2.2, R3.a4.2.2]
  refine r_copies R3.a1.1 R3.a4.1 R3.a1.2.1 R3.a4.2.1 (by omega) fun h4 F4 E4 => ?_
  have R4 := R3.fr F4
  have S4 : SR A h4 u iss sv n hs 0 tx re er := S3.vv (F4.mo fun b k z => by unfold RVw Scr; omega) fun j a b => by rw [F4.ai (by omega)]; exact S3.1 j a b
  rw [R4.a3.2.2, R4.a1.2.2]
  refine r_copies R4.a3.1 R4.a1.1 R4.a3.2.1 R4.a1.2.1 (by omega) fun h5 F5 E5 => ?_
  have R5 := R4.fr F5
  have S5 : SR A h5 v iss sv n hs 0 tx re er := S4.vv (F5.mo fun b k z => by unfold RVw Scr; omega) fun j a b => by rw [E5 j a b, F4.ai (by omega), F3.ai (by unfold FE2; omega)]; exact W j a b
  refine r_no R5 (by decide) ?_
  obtain ⟨S6, F6⟩ := S5.th (x := 2)
  exact kk _ (((F3.f2a.tr (F4.mo fun b k z => by unfold RAll; omega)).tr (F5.mo fun b k z => by unfold RAll; omega)).tr (FR.pw ⟨Nat.le_refl _, by omega⟩)) S6 (rd_eq rfl rfl (by decide))
/-- the loop that acts -/
theorem r_103 (I : IvS v iss sv n hs tn tx re er) (hm : TXok tx tn m)
  (ko : (∀ j : Nat, j < m → AOk tx tn v j) → ∀ h4, FR (RAll A) h h4 → SR A h4 (wkV tx tn v m) iss sv (pushN n) (pushH n hs v) 0 tx re er → ai h4 A 0 = 0 → K m h4)
  (kx : ¬ (∀ j : Nat, j < m → AOk tx tn v j) → ∀ h4, FR (RAll A) h h4 → SR A h4 v iss sv n hs 0 tx re er → ai h4 A 0 = 2 → K 0 h4) :
  ∀ (q k : Nat) (h3 : PH), k + q = m → (∀ j : Nat, j < k → AOk tx tn v j) → RT T N A h3 → FR (RAll A) h h3 → SR A h3 (wkV tx tn v k) iss sv n hs tn tx re er → (∀ j, 0 ≤ j → j < 449 → ai h3 (A + 3) j = v j) → ai h3 A 0 = 0 → ai h3 A 24 = psT tx tn k → ai h3 A 25 = 0 → ZW T N 247 103 [some (vr (some A)), some (vi (J (m : Int))), none, some (vi (J (k : Int)))] [] h3 K := by
  have hm2 := id hm
  obtain ⟨X1, X2, X3⟩ := hm
  have tb := I.2.2.2.2.2.1
  have mb := psT_b tb.1 m X2
  intro q
  induction q with
  | zero =>
    intro k h3 hk o R F S W e0 e24 e25
    have km : k = m := by omega
    subst km
    refine z247_103 R.t (by omega) (by omega) ⟨fun y => by omega, fun _ h4 e4 => ?_⟩
    have z4 : ai h4 A 0 = 0 := by rw [e4, rd_k (by decide) (by decide) (by decide)]; exact e0
    exact ⟨fun _ => r_rgood R S W tb.1 I.2.2.2.1 e0 e4 fun h7 F7 S7 z7 => ko o h7 (F.tr F7) S7 z7, fun y => absurd z4 y⟩
  | succ q ih =>
    intro k h3 hk o R F S W e0 e24 e25
    have pb := psT_b tb.1 k fun j hj => X2 j (by omega)
    have ok := (X2 k (by omega)).2
    have Ik := wkV_Iv I.1 X2 k (by omega) o
    refine z247_103 R.t (by omega) (by omega) ⟨fun _ => ⟨fun _ => ?_, fun y => absurd e0 y⟩, fun y => by omega⟩
    refine r_entry R ⟨S.2.2.2.1.1, tb, fun i a b => ⟨S.2.2.2.1.2 i a b, I.2.2.2.2.2.2.1 i a b⟩⟩ (by omega) e24 e25 (fun e he => (he.no ok).elim) (fun _ h4 F4 P4 E4 => ?_)
    have R4 := R.fr F4
    have S4 : SR A h4 (wkV tx tn v k) iss sv n hs tn tx re er := S.sc F4.fts
    have W4 : ∀ j, 0 ≤ j → j < 449 → ai h4 (A + 3) j = v j := fun j a b => by rw [F4.ai (by unfold FEt; omega)]; exact W j a b
    refine r_acts R4 S4 ⟨Ik, I.2⟩ ok E4 (by rw [F4.ai (by unfold FEt; omega)]; exact e0) (fun ao h5 F5 S5 e5 => ?_) (fun na h5 F5 S5 e5 => ?_)
    · have W5 : ∀ j, 0 ≤ j → j < 449 → ai h5 (A + 3) j = v j := fun j a b => by rw [F5.ai (by unfold Zw; omega)]; exact W4 j a b
      have := ih (k + 1) h5 (by omega) (fun j hj => by
        by_cases c : j = k
        · rw [c]; exact ao
        · exact o j (by omega)) (R4.fr F5) ((F.tr F4.fta).tr F5.zwa) S5 W5 e5 (by rw [F5.ai (by unfold Zw; omega)]; exact P4.1) (by rw [F5.ai (by unfold Zw; omega)]; exact P4.2.1)
      rw [show ((k + 1 : Nat) : Int) = (k : Int) + 1 by omega] at this
      exact this
    · have W5 : ∀ j, 0 ≤ j → j < 449 → ai h5 (A + 3) j = v j := fun j a b => by rw [F5.ai (by unfold Zw; omega)]; exact W4 j a b
      have bad : ∀ h6, h6 = wi h5 A 11 0 → ¬ (ai h6 A 0 = 0) ∧ CV T N 161 [vr (gr h6 A 1), vr (gr h6 A 4)] h6 (fun h10 => (CV T N 161 [vr (gr h10 A 3), vr (gr h10 A 1)] h10 (fun h15 => (ZI T N 157 [vr (some A), vi (J 2)] h15 (fun x_20 h_19 => (K x_20 h_19)))))) := fun h6 e6 => ⟨by rw [e6, rd_k (by decide) (by decide) (by decide)]; exact e5, r_rbad (R4.fr F5) S5 W5 tb.1 e6 fun h7 F7 S7 z7 => kx (fun al => na (al k (by omega))) h7 (((F.tr F4.fta).tr F5.zwa).tr F7) S7 z7⟩
      exact z247_103 R.t (by omega) (by omega) ⟨fun _ => ⟨fun y => absurd y e5, fun _ h6 e6 => ⟨fun y => absurd y (bad h6 e6).1, fun _ => (bad h6 e6).2⟩⟩, fun _ h6 e6 => ⟨fun y => absurd y (bad h6 e6).1, fun _ => (bad h6 e6).2⟩⟩
theorem r_read (R : RT T N A h) (S : SR A h v iss sv n hs tn tx re er) (I : IvS v iss sv n hs tn tx re er) (ke : ∀ x, TXer tx tn x → ∀ h4, FR (RAll A) h h4 → SR A h4 v iss sv n hs 0 tx re x → ai h4 A 0 = 1 → K 0 h4) (ko : ∀ m, TXok tx tn m → (∀ j : Nat, j < m → AOk tx tn v j) → ∀ h4, FR (RAll A) h h4 → SR A h4 (wkV tx tn v m) iss sv (pushN n) (pushH n hs v) 0 tx re er → ai h4 A 0 = 0 → K m h4) (kx : ∀ m, TXok tx tn m → ¬ (∀ j : Nat, j < m → AOk tx tn v j) → ∀ h4, FR (RAll A) h h4 → SR A h4 v iss sv n hs 0 tx re er → ai h4 A 0 = 2 → K 0 h4) : ZI T N 247 [vr (some A)] h K := by
  have tb := I.2.2.2.2.2.1
  refine z247 R.t fun h1 e1 h2 e2 h3 e3 => ?_
  have F1 := f2_w (A := A) (by omega) e1
  have F2 := f2_w (A := A) (by omega) e2
  have F3 := f2_w (A := A) (by omega) e3
  have F123 := (F1.tr F2).tr F3
  have z0 : ai h3 A 0 = 0 := by rw [e3, rd_k (by decide) (by decide) (by decide), e2, rd_k (by decide) (by decide) (by decide), e1]; exact rd_eq rfl rfl (by decide)
  have z11 : ai h3 A 11 = tn := by rw [e3, rd_k (by decide) (by decide) (by decide), e2, rd_k (by decide) (by decide) (by decide), e1, rd_k (by decide) (by decide) (by decide)]; exact S.2.2.2.1.1
  have z8 : ai h3 A 8 = er := by rw [e3, rd_k (by decide) (by decide) (by decide), e2, rd_k (by decide) (by decide) (by decide), e1, rd_k (by decide) (by decide) (by decide)]; exact S.2.2.2.2.2
  have z25 : ai h3 A 25 = 0 := by rw [e3, rd_k (by decide) (by decide) (by decide), e2]; exact rd_eq rfl rfl (by decide)
  have z24 : ai h3 A 24 = 0 := by rw [e3]; exact rd_eq rfl rfl (by decide)
  have S3 := S.e2 F123 z11 (Int.le_refl _) z8
  have R3 := R.fr F123
  refine r_17 R3 (S3.rtx I) z0 (fun x hx h4 F4 e11 e8 => ?_) (fun m hm h4 F4 e11 e8 e0 e24 e25 => ?_) 40 0 h3 (by omega) (fun j hj => absurd hj (Nat.not_lt_zero _)) FR.rf z24 z25
  · have S4 : SR A h4 v iss sv n hs 0 tx re x := S3.e2 F4 e11 tb.1 e8
    refine r_no (R3.fr F4) (by decide) ?_
    obtain ⟨S5, F5⟩ := S4.th (x := 1)
    exact ke x hx _ ((F123.tr F4).f2a.tr (FR.pw ⟨Nat.le_refl _, by omega⟩)) S5 (rd_eq rfl rfl (by decide))
  · have S4 : SR A h4 v iss sv n hs tn tx re er := S3.e2 F4 e11 (Int.le_refl _) (e8.trans z8)
    have R4 := R3.fr F4
    have FF := (F123.tr F4).f2a
    rw [R4.a1.2.2, R4.a3.2.2]
    refine r_copies R4.a1.1 R4.a3.1 R4.a1.2.1 R4.a3.2.1 (by omega) fun h5 F5 E5 => ?_
    have F5s : FR (Scr A) h4 h5 := F5.mo fun b k z => by unfold Scr; omega
    have F5a : FR (RAll A) h4 h5 := F5.mo fun b k z => by unfold RAll; omega
    have f : ∀ {k : Int}, ai h5 A k = ai h4 A k := F5.ai (by omega)
    exact r_103 I hm (fun al h6 F6 => ko m hm al h6 ((FF.tr F5a).tr F6)) (fun na h6 F6 => kx m hm na h6 ((FF.tr F5a).tr F6)) m 0 h5 (by omega) (fun j hj => absurd hj (Nat.not_lt_zero _)) (R4.fr F5) FR.rf (S4.sc F5s) (fun j a b => by rw [E5 j a b]; exact S4.1 j a b) (f.trans e0) (f.trans e24) (f.trans e25)
theorem P_read (S : Sim T N bs h i) (k : Cont T N bs i h Q) : ZI T N 283 [vr (some bs), vr (some (bs + 3309))] h (fun c h1 => ZI T N 247 [vr (some (bs + 3296))] h1 (fun b h2 => ZI T N 156 [vr (some (bs + 3296))] h2 (fun t h3 => Q c b t h3))) := by
  obtain ⟨v, iss, sv, n, hs, tn, tx, re, er, C, I, D, R⟩ := S; have b := I.1.b; have o := C.o; have out := C.out
  have tb := I.2.2.2.2.2.1
  refine z283 o.1 out.1 (c_139 C I D (fun x hx h4 C4 D4 I4 F4 => Or.inr (Or.inl ⟨rfl, ?_⟩)) (fun m hm al h4 C4 D4 I4 F4 => Or.inl ⟨_, rfl, ?_, by omega, ?_⟩) (fun m hm na h4 C4 D4 I4 F4 => Or.inr (Or.inr ⟨rfl, ?_⟩)))
  · have F7 := F4.tr Fcl.bm
    refine r_read C4.bm.rt (R.fd F7) I (fun x2 hx2 h8 F8 R8 e8 => ?_) (fun m hm => (TX_no hx hm).elim) (fun m hm => (TX_no hx hm).elim)
    rw [hx2.un hx] at R8
    exact fin2 k C4.bm I4 (D4.bm I4) F7 F8 R8 e8 (by decide) fun z => by omega
  · have := psT_b tb.1 m hm.2.1
    omega
  · have mb := psT_b tb.1 m hm.2.1
    intro h7 z7; subst z7
    obtain ⟨C7, D7, F7, G7⟩ := tail0 (h := h) C4 D4 I4 F4 (x := (J (m : Int)).toInt64)
    generalize sL h4 (bs + 3309) (Int.toNat 0) (J (m : Int)).toInt64 = h7 at *
    refine r_read C7.rt (R.fd F7) I (fun x2 hx2 => (TX_no hx2 hm).elim) (fun m2 hm2 al2 h8 F8 R8 e8 => ?_) (fun m2 hm2 na2 => ?_)
    · rw [hm2.un hm] at R8 ⊢
      exact fin2 k C7 I4 D7 F7 F8 R8 e8 (by omega) fun _ => G7
    · rw [hm2.un hm] at na2; exact absurd al na2
  · have F7 := F4.tr Fcl.bm
    refine r_read C4.bm.rt (R.fd F7) I (fun x2 hx2 => (TX_no hx2 hm).elim) (fun m2 hm2 al2 => ?_) (fun m2 hm2 na2 h8 F8 R8 e8 => ?_)
    · rw [hm2.un hm] at al2; exact absurd al2 na
    · exact fin2 k C4.bm I4 (D4.bm I4) F7 F8 R8 e8 (by decide) fun z => by omega
end RRD
