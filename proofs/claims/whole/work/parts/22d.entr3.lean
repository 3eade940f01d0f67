/-! TEXTS: the reference reads an entry, from its first sign -/
section EN3
variable {T N : Nat → Nat} {A a : Nat} {h h0 h1 h2 h3 : PH} {tx : Int → Int} {tn p q e e2 i j k x y c w f : Int} {m m2 s : Nat} {K : Int → PH → Prop} {KV : PH → Prop} {KS : Nat → PH → Prop}
theorem r_TL (R : RT T N A h) (X : RTX A h tx tn) (hp : 0 ≤ p ∧ p ≤ 60) (h4 : sOf (hrT tx tn p) < 4) (P : PS A h (p + 1) 0 (hrT tx tn p)) (ke : ∀ e, erE tx tn p e → ∀ h2, FR (FEt A) h h2 → PS A h2 e 1 (hrT tx tn p) → KV h2) (ko : okE tx tn p → ∀ h2, FR (FEt A) h h2 → PS A h2 (p + txl (sOf (hrT tx tn p)) + 1) 0 (hrT tx tn p) → enV A h2 tx tn p → KV h2) : TLk T N A KV h := by
  have tl := txl_s
  obtain ⟨c00, ⟨c0, -⟩, ⟨d0, d1⟩, ⟨t0, t1⟩⟩ := txc_s
  have b1 := hr_b X (q := p + 1) (by omega)
  have p0 : p + 1 + 0 = p + 1 := by omega
  refine ⟨fun w1 => fun h5 e5 => ?_, fun w1 => ⟨fun w2 => fun h5 e5 => ?_, fun w2 => ⟨fun w3 => ?_, fun w3 => ?_⟩⟩⟩
  · rw [P.2.2] at w1
    have s0 : sOf (hrT tx tn p) = 0 := by rw [w1]; decide
    have F5 := FE_w (A := A) (by decide) e5
    refine r_TCn (i := 0) (R.fr F5) (X.fr F5) hp (by omega) h4 (by omega) (by rw [s0, tl.1]; rfl) (by decide) (by rw [s0]; exact c00) (P.so (by decide) e5) PRk0 ?_ (fun e he h6 F6 P6 => ke e he h6 (F5.tr F6) P6) fun ok h6 F6 P6 v6 => ko ok h6 (F5.tr F6) P6 v6
    rw [if_pos s0]; subst e5; exact rd_eq rfl rfl (by decide)
  · rw [P.2.2] at w2
    have s0 : sOf (hrT tx tn p) = 0 := by rw [w2]; decide
    have F5 := FE_w (A := A) (by decide) e5
    refine r_TCn (i := 0) (R.fr F5) (X.fr F5) hp (by omega) h4 (by omega) (by rw [s0, tl.1]; rfl) (by decide) (by rw [s0]; exact c00) (P.so (by decide) e5) PRk0 ?_ (fun e he h6 F6 P6 => ke e he h6 (F5.tr F6) P6) fun ok h6 F6 P6 v6 => ko ok h6 (F5.tr F6) P6 v6
    rw [if_pos s0]; subst e5; exact rd_eq rfl rfl (by decide)
  · rw [P.2.2] at w3
    have s3 : sOf (hrT tx tn p) = 3 := by rw [w3]; decide
    refine r_digit R X (by omega) P (Or.inr ⟨rfl, rfl⟩) (fun z h5 F5 P5 k5 => ?_) (fun z h5 F5 P5 => ?_)
    · intro h6 e6
      have F6 := FE_w (A := A) (by decide) e6
      have F56 := F5.tr F6
      refine r_TCn (i := 1) (R.fr F56) (X.fr F56) hp (by omega) h4 (by omega) (by rw [s3, tl.2.2.2.1]; rfl) (by decide) (by rw [s3]; exact t1) (P5.so (by decide) e6) (PRk.st (i := 0) PRk0 (by rw [s3, t0, p0]; exact z)) ?_ (fun e he h7 F7 P7 => ke e he h7 (F56.tr F7) P7) fun ok h7 F7 P7 v7 => ko ok h7 (F56.tr F7) P7 v7
      rw [if_neg (by omega)]; subst e6; exact rd_eq rfl rfl (by omega)
    · intro h6 e6
      have F6 := FE_w (A := A) (by decide) e6
      have P6 := P5.so (by decide) e6
      exact r_TCf ((R.fr F5).fr F6) P6 (ke _ (Or.inr ⟨h4, 0, by decide, by rw [s3, tl.2.2.2.1]; decide, p0.symm, by rw [s3, t0, p0]; exact z, PRk0⟩) h6 (F5.tr F6) P6)
  · rw [P.2.2] at w1 w2 w3
    have sc : (hrT tx tn p = 99 ∧ sOf (hrT tx tn p) = 1) ∨ (hrT tx tn p ≠ 99 ∧ sOf (hrT tx tn p) = 2) := by
      unfold sOf at h4 ⊢
      by_cases c99 : hrT tx tn p = 99
      · left; rw [if_pos c99]; exact ⟨c99, rfl⟩
      · right
        rw [if_neg c99] at h4 ⊢
        by_cases c100 : hrT tx tn p = 100
        · rw [if_pos c100]; exact ⟨c99, rfl⟩
        · rw [if_neg c100, if_neg w1, if_neg w2, if_neg w3] at h4
          exact absurd h4 (by decide)
    rcases sc with ⟨w9, s1⟩ | ⟨w9, s2⟩
    · refine r_digit R X (by omega) P (Or.inl ⟨rfl, rfl⟩) (fun z h5 F5 P5 k5 => ?_) (fun z h5 F5 P5 => ?_)
      · intro h6 e6
        have F6 := FE_w (A := A) (by decide) e6
        have F56 := F5.tr F6
        have P6 := P5.so (by decide) e6
        rw [show p + 1 + 1 = p + 2 by omega] at P6
        refine r_TCc (R.fr F56) (X.fr F56) hp w9 P6 z ?_ (fun e he h7 F7 P7 => ke e he h7 (F56.tr F7) P7) fun ok h7 F7 P7 v7 => ko ok h7 (F56.tr F7) P7 v7
        subst e6; exact rd_eq rfl rfl (by omega)
      · intro h6 e6
        have F6 := FE_w (A := A) (by decide) e6
        have P6 := P5.so (by decide) e6
        exact r_TCf ((R.fr F5).fr F6) P6 (ke _ (Or.inr ⟨h4, 0, by decide, by rw [s1, tl.2.1]; decide, p0.symm, by rw [s1, c0, p0]; exact z, PRk0⟩) h6 (F5.tr F6) P6)
    · refine r_digit R X (by omega) P (Or.inl ⟨rfl, rfl⟩) (fun z h5 F5 P5 k5 => ?_) (fun z h5 F5 P5 => ?_)
      · intro h6 e6
        have F6 := FE_w (A := A) (by decide) e6
        have F56 := F5.tr F6
        refine r_TCn (i := 1) (R.fr F56) (X.fr F56) hp w9 h4 (by omega) (by rw [s2, tl.2.2.1]; rfl) (by decide) (by rw [s2]; exact d1) (P5.so (by decide) e6) (PRk.st (i := 0) PRk0 (by rw [s2, d0, p0]; exact z)) ?_ (fun e he h7 F7 P7 => ke e he h7 (F56.tr F7) P7) fun ok h7 F7 P7 v7 => ko ok h7 (F56.tr F7) P7 v7
        rw [if_neg (by omega)]; subst e6; exact rd_eq rfl rfl (by omega)
      · intro h6 e6
        have F6 := FE_w (A := A) (by decide) e6
        have P6 := P5.so (by decide) e6
        exact r_TCf ((R.fr F5).fr F6) P6 (ke _ (Or.inr ⟨h4, 0, by decide, by rw [s2, tl.2.2.1]; decide, p0.symm, by rw [s2, d0, p0]; exact z, PRk0⟩) h6 (F5.tr F6) P6)
theorem r_entry (R : RT T N A h) (X : RTX A h tx tn) (hp : 0 ≤ p ∧ p ≤ 60) (e24 : ai h A 24 = p) (e25 : ai h A 25 = 0) (ke : ∀ e, erE tx tn p e → ∀ h2, FR (FEt A) h h2 → PS A h2 e 1 (hrT tx tn p) → KV h2) (ko : okE tx tn p → ∀ h2, FR (FEt A) h h2 → PS A h2 (p + txl (sOf (hrT tx tn p)) + 1) 0 (hrT tx tn p) → enV A h2 tx tn p → KV h2) : CV T N 245 [vr (some A)] h KV := by
  have bp := hr_b X hp.1
  refine z245 R.t (r_here R X hp.1 e24 ?_)
  intro h6 e6
  have F6 := FE_w (A := A) (by decide) e6
  have P6 : PS A h6 p 0 (hrT tx tn p) := by
    subst e6
    exact ⟨by rw [rd_k (by decide) (by decide) (by decide)]; exact e24, by rw [rd_k (by decide) (by decide) (by decide)]; exact e25, rd_eq rfl rfl (by omega)⟩
  have head : sOf (hrT tx tn p) < 4 → ∀ h12, h12 = wi h6 A 25 (zor (ai h6 A 25) 0) → ∀ h19, h19 = wi h12 A 24 ((ai h12 A 24) + 1) → (ai h19 A 25 = 0) ∧ TLk T N A KV h19 := fun h4 h12 e12 h19 e19 => by
    rw [P6.2.1, zor_00] at e12
    have P12 := P6.s25 (by decide) e12
    rw [P12.1] at e19
    have P19 := P12.s24 (by omega) e19
    have F19 := (F6.tr (FE_w (A := A) (by decide) e12)).tr (FE_w (A := A) (by decide) e19)
    exact ⟨P19.2.1, r_TL (R.fr F19) (X.fr F19) hp h4 P19 (fun e he h7 F7 P7 => ke e he h7 (F19.tr F7) P7) fun ok h7 F7 P7 v7 => ko ok h7 (F19.tr F7) P7 v7⟩
  have z0 : zor (ai h6 A 25) 0 = 0 ∨ zor (ai h6 A 25) 0 = 1 := by rw [P6.2.1]; exact Or.inl zor_00
  have z1 : zor (ai h6 A 25) 1 = 0 ∨ zor (ai h6 A 25) 1 = 1 := by rw [P6.2.1]; exact Or.inr zor_01
  have f12 : ∀ h12, h12 = wi h6 A 25 (zor (ai h6 A 25) 0) → ai h12 A 25 = 0 := fun h12 e12 => by
    rw [P6.2.1, zor_00] at e12
    exact (P6.s25 (by decide) e12).2.1
  have hw := P6.2.2
  have s4 : ∀ c, hrT tx tn p = c → sOf c < 4 → sOf (hrT tx tn p) < 4 := fun c z y => by rw [z]; exact y
  refine ⟨fun w1 => ⟨z0, fun h12 e12 => ⟨fun _ h19 e19 => ⟨fun _ => (head (s4 110 (hw.symm.trans w1) (by decide)) h12 e12 h19 e19).2, fun y => absurd (head (s4 110 (hw.symm.trans w1) (by decide)) h12 e12 h19 e19).1 y⟩, fun y => absurd (f12 h12 e12) y⟩⟩, fun w1 => ⟨fun w2 => ⟨z0, fun h12 e12 => ⟨fun _ h19 e19 => ⟨fun _ => (head (s4 112 (hw.symm.trans w2) (by decide)) h12 e12 h19 e19).2, fun y => absurd (head (s4 112 (hw.symm.trans w2) (by decide)) h12 e12 h19 e19).1 y⟩, fun y => absurd (f12 h12 e12) y⟩⟩, fun w2 => ⟨fun w3 => ⟨z0, fun h12 e12 => ⟨fun _ h19 e19 => ⟨fun _ => (head (s4 99 (hw.symm.trans w3) (by decide)) h12 e12 h19 e19).2, fun y => absurd (head (s4 99 (hw.symm.trans w3) (by decide)) h12 e12 h19 e19).1 y⟩, fun y => absurd (f12 h12 e12) y⟩⟩, fun w3 => ⟨fun w4 => ⟨z0, fun h12 e12 => ⟨fun _ h19 e19 => ⟨fun _ => (head (s4 100 (hw.symm.trans w4) (by decide)) h12 e12 h19 e19).2, fun y => absurd (head (s4 100 (hw.symm.trans w4) (by decide)) h12 e12 h19 e19).1 y⟩, fun y => absurd (f12 h12 e12) y⟩⟩, fun w4 => ⟨fun w5 => ⟨z0, fun h12 e12 => ⟨fun _ h19 e19 => ⟨fun _ => (head (s4 116 (hw.symm.trans w5) (by decide)) h12 e12 h19 e19).2, fun y => absurd (head (s4 116 (hw.symm.trans w5) (by decide)) h12 e12 h19 e19).1 y⟩, fun y => absurd (f12 h12 e12) y⟩⟩, fun w5 => ⟨z1, fun h12 e12 => ?_⟩⟩⟩⟩⟩⟩
  rw [P6.2.1, zor_01] at e12
  have P12 := P6.s25 (by decide) e12
  have F12 := F6.tr (FE_w (A := A) (by decide) e12)
  have e4 : sOf (hrT tx tn p) = 4 := by
    rw [hw] at w1 w2 w3 w4 w5
    unfold sOf
    rw [if_neg w3, if_neg w4, if_neg w1, if_neg w2, if_neg w5]
  refine ⟨fun y => absurd (P12.2.1.symm.trans y) (by decide), fun _ h19 e19 => ?_⟩
  rw [P12.1, Int.add_zero] at e19
  have P19 := P12.s24 (by omega) e19
  exact ⟨fun y => absurd (P19.2.1.symm.trans y) (by decide), fun _ => ke p (Or.inl ⟨e4, rfl⟩) h19 (F12.tr (FE_w (A := A) (by decide) e19)) P19⟩
end EN3
