/-! REROUTE: one drone -/
/-- what becomes of a struck drone, and whether it keeps its destination -/
def DV (v : Int → Int) (d : Int) (e : Int → Int) (k : Int) : Prop := (∃ last, LST v d 2 (rc v d 4) last ∧ e = goE v d 2 last (rc v d 4) ∧ k = 1) ∨ ((∀ last, ¬ LST v d 2 (rc v d 4) last) ∧ k = 0 ∧ ((∃ n last, FPad v d 2 n ∧ LST v d 2 n last ∧ e = goE v d 2 last n) ∨ (NPad v d 2 ∧ e = cutE (rc v d) (-1))))
section RER
variable {T N : Nat → Nat} {bs A w : Nat} {h h1 h2 h3 h7 h10 : PH} {v u sv tx e e1 : Int → Int} {hs hs2 : Int → Int → Int} {iss n tn re er d a t q b l m x y c tm en t2 k k2 y2 last last2 n2 : Int} {i : Nat} {K : Int → PH → Prop} {KV : PH → Prop} {KP : PR → PH → Prop} {Q : Int → Int → Int → PH → Prop} {P : Int → Prop}
theorem DV.un (I : Iv v) (hd : 0 ≤ d ∧ d < v 117) (h : DV v d e k) (g : DV v d e1 k2) : e = e1 ∧ k = k2 := by
  rcases h with ⟨l, h1, h2, h3⟩ | ⟨h1, h2, h3⟩ <;> rcases g with ⟨l2, g1, g2, g3⟩ | ⟨g1, g2, g3⟩
  · rw [h2, g2, h3, g3, LST.un I hd h1 g1]; exact ⟨rfl, rfl⟩
  · exact absurd h1 (g1 l)
  · exact absurd g1 (h1 l2)
  · refine ⟨?_, h2.trans g2.symm⟩
    rcases h3 with ⟨n, l, p1, p2, p3⟩ | ⟨p1, p2⟩ <;> rcases g3 with ⟨n2, l2, q1, q2, q3⟩ | ⟨q1, q2⟩
    · rw [p3, q3]
      have en := p1.un q1
      subst en
      rw [LST.un I hd p2 q2]
    · exact (p1.no q1).elim
    · exact (q1.no p1).elim
    · rw [p2, q2]
theorem DV.kb (h : DV v d e x) : x = 0 ∨ x = 1 := by
  rcases h with ⟨l, h1, h2, h3⟩ | ⟨h1, h2, h3⟩
  · exact Or.inr h3
  · exact Or.inl h2
theorem DV.ok (I : Iv v) (hd : 0 ≤ d ∧ d < v 117) (nl : rc v d 0 ≠ 3) (h : DV v d e k) : drOK v (v 448) e := by
  have b := I.b
  rcases h with ⟨l, h1, h2, h3⟩ | ⟨h1, h2, ⟨n, l, p1, p2, p3⟩ | ⟨p1, p2⟩⟩
  · rw [h2]; exact goE_OKs I hd nl h1
  · rw [p3]; exact goE_OKs I hd nl p2
  · rw [p2]; exact cutE_OK (I.d hd.1 hd.2) ⟨by decide, by have := (I.d hd.1 hd.2).2.2.2.1; omega⟩
theorem FPad_l (h : FPad v d 2 n) : ∃ last, LST v d 2 n last := by
  obtain ⟨_, t, r, _⟩ := h
  rcases r with ⟨z1, z2⟩ | ⟨z1, k, z2, z3⟩
  · exact ⟨-1, Or.inl ⟨z1, rfl⟩⟩
  · exact ⟨k, Or.inr ⟨z1, z2⟩⟩
theorem LST_no (hn : NPL v d q n) (nl : rc v d 0 ≠ 3) : ∀ last, ¬ LST v d q n last := fun last z => by
  rcases hn with y | ⟨y1, y2⟩
  · exact nl y
  · rcases z with ⟨z1, _⟩ | ⟨_, z2⟩
    · exact y1 z1
    · exact y2 _ z2.1
theorem Iv.put (I : Iv v) (hd : 0 ≤ d ∧ d < v 117) (O : drOK v (v 448) e) : Iv (putD v d e) := by
  have b := I.b
  have lo : ∀ j, j < 118 → v j = putD v d e j := fun j hj => (putD_lo hd.1 hj).symm
  have h448 : putD v d e 448 = v 448 := putD_hi (by omega) (by omega)
  have l0 := lo 0 (by omega); have l11 := lo 11 (by omega); have l76 := lo 76 (by omega); have l117 := lo 117 (by omega)
  refine ⟨?_, fun n h1 h2 => ?_, I.cs (by omega) fun j a1 a2 => lo j (by omega), I.fs (by omega) fun j a1 a2 => lo j (by omega), fun d2 h1 h3 => ?_⟩
  · omega
  · rw [← lo _ (by omega)]; exact I.p h1 (by omega)
  · rw [h448]
    by_cases c : d2 = d
    · subst c
      exact drOK_cg (by omega) (by omega) (fun j a1 a2 a3 => lo j (by omega)) (fun j a1 a2 => (rc_put ⟨a1, a2⟩).symm) O
    · exact drOK_cg (by omega) (by omega) (fun j a1 a2 a3 => lo j (by omega)) (fun j a1 a2 => (rc_put_ne c ⟨a1, a2⟩).symm) (I.d h1 (by omega))
theorem c_cut (C : Com T N bs h i) (I : IvS v iss sv n hs tn tx re er) (D : SD T N bs h v iss sv n hs tn tx re er) (hd : 0 ≤ d ∧ d < v 117) (kk : ∀ h4, Com T N bs h4 i → SD T N bs h4 (putD v d (cutE (rc v d) (-1))) iss sv n hs tn tx re er → IvS (putD v d (cutE (rc v d) (-1))) iss sv n hs tn tx re er → Fcl bs h h4 → K 0 h4) : ZI T N 22 [vr (some (dA (bs + 1) d))] h (fun x_41 h_40 => (∀ h_44, h_44 = wi h_40 (dA (bs + 1) d) 4 (-1) → K 0 h_44)) := by
  have b := I.1.b
  have Dt := (D.1.o.d (c := d) (by omega)).2
  have O := I.1.d hd.1 hd.2
  refine d_cutLegs Dt O (D.1.d hd.1 hd.2) fun h3 F3 g3 G3 => ?_
  intro h4 z4
  have F4 : Fp (fun x => dA (bs + 1) d ≤ x ∧ x < dA (bs + 1) d + 44) h h4 := by subst z4; exact (F3.mo fun x e => by omega).tr (Fp.pw (by omega))
  have Dt4 : DT T N h4 (dA (bs + 1) d) := Dt.to (by subst z4; exact g3)
  have q5 : up (rc v d) 5 (aheadE (rc v d)) 5 ≤ 41 := by rw [up_eq rfl]; unfold aheadE; split <;> decide
  have D4 : DrD v h4 (dA (bs + 1) d) (cutE (rc v d) (-1)) := by
    obtain ⟨⟨f0, f1, f2, f3, f4, f5, f6, f8⟩, fs, fl⟩ := id G3
    unfold cutE
    refine DrD.fl (Dt.to g3) q5 G3 (by subst z4; exact Fp.pw rfl) (by rw [up_ne (by omega)]; exact Int.le_refl _) (fun i h1 h2 => by rw [up_ne (by omega)]) ?_ fun j h1 h2 => by rw [up_ne (by omega)]
    subst z4
    refine ⟨?_, ?_, ?_, ?_, ?_, ?_, ?_, ?_⟩
    · rw [rd_k (by decide) (by decide) (by decide), up_ne (by decide)]; exact f0
    · rw [rd_k (by decide) (by decide) (by decide), up_ne (by decide)]; exact f1
    · rw [rd_k (by decide) (by decide) (by decide), up_ne (by decide)]; exact f2
    · rw [rd_k (by decide) (by decide) (by decide), up_ne (by decide)]; exact f3
    · rw [rd_eq rfl rfl (by decide), up_eq rfl]
    · rw [rd_k (by decide) (by decide) (by decide), up_ne (by decide)]; exact f5
    · rw [rd_k (by decide) (by decide) (by decide), up_ne (by decide)]; exact f6
    · rw [rd_k (by decide) (by decide) (by decide), up_ne (by decide)]; exact f8
  obtain ⟨C5, D5, I5, L5⟩ := dv_put C I D hd F4 Dt4 D4 (cutE_OK O ⟨by decide, by have := O.2.2.2.1; omega⟩)
  exact kk h4 C5 D5 I5 L5
theorem c_divert (C : Com T N bs h i) (I : IvS v iss sv n hs tn tx re er) (D : SD T N bs h v iss sv n hs tn tx re er) (hd : 0 ≤ d ∧ d < v 117) (nl : rc v d 0 ≠ 3) (kk : ∀ e k, DV v d e k → ∀ h4, Com T N bs h4 i → SD T N bs h4 (putD v d e) iss sv n hs tn tx re er → IvS (putD v d e) iss sv n hs tn tx re er → Fcl bs h h4 → K k h4) : ZI T N 151 [vr (some bs), vi (J d)] h K := by
  have b := I.1.b
  have o := C.o
  have eb := D.1.b
  have O := I.1.d hd.1 hd.2
  have o4 := O.2.2.2.2.1
  have Dt := (D.1.o.d (c := d) (by omega)).2
  have c4 := (D.1.d hd.1 hd.2).1.2.2.2.2.1
  refine z151 o.1 (by omega) ⟨bs + 1, o.2.1, C.2.1.1.t, d_dro C.2.1.1 (by omega) (by omega) (fun c1 => ⟨fun z => by (cases z), fun a' ea => ?_⟩) (fun c1 => absurd (by omega) c1)⟩
  cases ea
  refine ⟨Dt.t, bs + 1, o.2.1, C.2.1.1.t, ?_⟩
  rw [c4]
  have pads : ∀ h4, (∀ last, ¬ LST v d 2 (rc v d 4) last) → Com T N bs h4 i → SD T N bs h4 v iss sv n hs tn tx re er → Fcl bs h h4 → ∃ a_28, (gr h4 bs 0) = some a_28 ∧ T a_28 = 10 ∧ ∃ a_32, (gr h4 bs 3) = some a_32 ∧ T a_32 = 8 ∧ ZI T N 59 [vr (some a_32), vr (some a_28), vi (J d), vi (J (ai h4 a_28 2)), vi (J 2)] h4 (fun x_36 h_35 => (((x_36 = 0 → (ZI T N 22 [vr (some (dA (bs + 1) d))] h_35 (fun x_41 h_40 => (∀ h_44, h_44 = wi h_40 (dA (bs + 1) d) 4 (-1) → K 0 h_44)))) ∧ (¬ (x_36 = 0) → (∃ a_50, (gr h_35 bs 3) = some a_50 ∧ T a_50 = 8 ∧ CV T N 60 [vr (some a_50), vr (gr h_35 bs 0), vr (some (dA (bs + 1) d))] h_35 (fun h_53 => (K 0 h_53))))))) := fun h4 nd C4 D4 L4 => by
    refine ⟨bs + 1, C4.o.2.1, C4.2.1.1.t, bs + 3237, C4.o.2.2.2.2.1, C4.se.1, ?_⟩
    refine c_find (q := 2) (P := PDs v) C4 I D4 hd (by decide) (GlsP D4.1) (fun z => absurd z nl) (fun z1 z2 h5 C5 D5 L5 g5 f5 => ⟨(fun z => absurd z (by decide)), fun _ => ⟨bs + 3237, C5.o.2.2.2.2.1, C5.se.1, ?_⟩⟩) (fun z1 z2 n2 k fk h5 C5 D5 L5 g5 K5 f5 => ⟨(fun z => absurd z (by decide)), fun _ => ⟨bs + 3237, C5.o.2.2.2.2.1, C5.se.1, ?_⟩⟩) (fun z1 z2 nn h5 C5 D5 L5 g5 => ⟨fun _ => c_cut C5 I D5 hd fun h6 C6 D6 I6 L6 => kk _ 0 (Or.inr ⟨nd, rfl, Or.inr ⟨NPad_f z2 nn, rfl⟩⟩) h6 C6 D6 I6 ((L4.tr L5).tr L6), (fun z => absurd rfl z)⟩)
    · rw [C5.o.2.1]
      have L : LST v d 2 (rc v d 3) (-1) := Or.inl ⟨rfl, rfl⟩
      exact c_apply C5 I D5 hd nl L (fun z => absurd z (by decide)) f5 fun h6 C6 D6 I6 L6 g6 e6 => kk _ 0 (Or.inr ⟨nd, rfl, Or.inl ⟨_, _, FPad_st I.1 hd z2, L, rfl⟩⟩) h6 C6 D6 I6 ((L4.tr L5).tr L6)
    · rw [C5.o.2.1]
      have k00 := fk.2.1.1.1
      have ns : n2 ≠ rc v d 3 := fun z => z2 (by rw [← z]; exact fk.1)
      have L : LST v d 2 n2 k := Or.inr ⟨ns, fk.2.1⟩
      have she : shK (orgV v d - v 448) k = k + 96 * (orgV v d - v 448) := if_neg (by omega)
      refine c_apply C5 I D5 hd nl L (fun _ => K5) (by rw [she]; exact f5) fun h6 C6 D6 I6 L6 g6 e6 => kk _ 0 (Or.inr ⟨nd, rfl, Or.inl ⟨_, _, FPad_f I.1 hd z2 fk, L, rfl⟩⟩) h6 C6 D6 I6 ((L4.tr L5).tr L6)
  refine d_hasNode C.2.1.1 (by omega) (fun c2 => ⟨(fun z => absurd z (by decide)), fun _ => ⟨bs + 3237, o.2.2.2.2.1, C.se.1, ?_⟩⟩) (fun c2 => ⟨fun _ => pads h (fun last L => by have := L.nd I.1 hd; omega) C D (fun _ _ => sm.rf), (fun z => absurd rfl z)⟩)
  rw [o.2.1, c4]
  refine c_find (q := 2) C I D hd (by decide) (Gls1 (t := rc v d 4) (by omega)) (fun z => absurd z nl) (fun z1 z2 h5 C5 D5 L5 g5 f5 => ⟨(fun z => absurd z (by decide)), fun _ => ⟨bs + 3237, C5.o.2.2.2.2.1, C5.se.1, ?_⟩⟩) (fun z1 z2 n2 k fk h5 C5 D5 L5 g5 K5 f5 => ⟨(fun z => absurd z (by decide)), fun _ => ⟨bs + 3237, C5.o.2.2.2.2.1, C5.se.1, ?_⟩⟩) (fun z1 z2 nn h5 C5 D5 L5 g5 => ⟨fun _ => pads h5 (LST_no (Or.inr ⟨fun z => z2 z.symm, fun k => nn _ k rfl⟩) nl) C5 D5 L5, (fun z => absurd rfl z)⟩)
  · rw [C5.o.2.1]
    have L : LST v d 2 (rc v d 4) (-1) := Or.inl ⟨z2.symm, rfl⟩
    exact c_apply C5 I D5 hd nl L (fun z => absurd z (by decide)) (by rw [z2] at f5; exact f5) fun h6 C6 D6 I6 L6 g6 e6 => kk _ 1 (Or.inl ⟨_, L, rfl, rfl⟩) h6 C6 D6 I6 (L5.tr L6)
  · rw [C5.o.2.1]
    have e2 : n2 = rc v d 4 := fk.1
    rw [e2] at fk f5
    have k00 := fk.2.1.1.1
    have L : LST v d 2 (rc v d 4) k := Or.inr ⟨fun z => z2 z.symm, fk.2.1⟩
    have she : shK (orgV v d - v 448) k = k + 96 * (orgV v d - v 448) := if_neg (by omega)
    exact c_apply C5 I D5 hd nl L (fun _ => K5) (by rw [she]; exact f5) fun h6 C6 D6 I6 L6 g6 e6 => kk _ 1 (Or.inl ⟨_, L, rfl, rfl⟩) h6 C6 D6 I6 (L5.tr L6)
end RER
