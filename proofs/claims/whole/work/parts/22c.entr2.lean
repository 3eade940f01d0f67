/-! TEXTS: the reference reads an entry, whole -/
section EN2
variable {T N : Nat → Nat} {A a : Nat} {h h0 h1 h2 h3 : PH} {tx : Int → Int} {tn p q e e2 i j k x y c w f : Int} {m m2 s : Nat} {K : Int → PH → Prop} {KV : PH → Prop} {KS : Nat → PH → Prop}
theorem r_TCn (R : RT T N A h) (X : RTX A h tx tn) (hp : 0 ≤ p ∧ p ≤ 60) (hw : hrT tx tn p ≠ 99) (h4 : sOf (hrT tx tn p) < 4) (hi : q = p + 1 + i) (hl : txl (sOf (hrT tx tn p)) = i + 1) (i0 : 0 ≤ i ∧ i ≤ 10) (h59 : txc (sOf (hrT tx tn p)) i = 59) (P : PS A h q 0 (hrT tx tn p)) (PR : PRk tx tn p (sOf (hrT tx tn p)) i) (e27 : ai h A 27 = (if sOf (hrT tx tn p) = 0 then 0 else hrT tx tn (p + 1) - 48)) (ke : ∀ e, erE tx tn p e → ∀ h2, FR (FEt A) h h2 → PS A h2 e 1 (hrT tx tn p) → KV h2) (ko : okE tx tn p → ∀ h2, FR (FEt A) h h2 → PS A h2 (p + txl (sOf (hrT tx tn p)) + 1) 0 (hrT tx tn p) → enV A h2 tx tn p → KV h2) : TCk T N A KV h :=
  ⟨fun y => absurd (P.2.2.symm.trans y) hw, fun _ => r_207 R X hp rfl h4 hi hl i0 h59 P PR ke fun ok h2 F2 P2 s2 => ko ok h2 F2 P2 ⟨P2.2.2, by rw [s2 27 (by decide)]; exact e27, fun y => absurd y hw⟩⟩
theorem r_TCf (R : RT T N A h) (P : PS A h q 1 w) (k : KV h) : TCk T N A KV h :=
  ⟨fun _ => ⟨fun y => absurd (P.2.1.symm.trans y) (by decide), fun _ => r_f162 R P k⟩, fun _ => r_f207 R P k⟩
theorem r_TCc (R : RT T N A h) (X : RTX A h tx tn) (hp : 0 ≤ p ∧ p ≤ 60) (hw : hrT tx tn p = 99) (P : PS A h (p + 2) 0 (hrT tx tn p)) (PR : lk 35 (hrT tx tn (p + 1))) (e27 : ai h A 27 = hrT tx tn (p + 1) - 48) (ke : ∀ e, erE tx tn p e → ∀ h2, FR (FEt A) h h2 → PS A h2 e 1 (hrT tx tn p) → KV h2) (ko : okE tx tn p → ∀ h2, FR (FEt A) h h2 → PS A h2 (p + txl (sOf (hrT tx tn p)) + 1) 0 (hrT tx tn p) → enV A h2 tx tn p → KV h2) : TCk T N A KV h := by
  have s1 : sOf (hrT tx tn p) = 1 := by rw [hw]; rfl
  have tl := txl_s
  obtain ⟨-, ⟨c0, c1, c2, c3, c4, c5⟩, -, -⟩ := txc_s
  have b1 := hr_b X (q := p + 1) (by omega)
  have b3 := hr_b X (q := p + 3) (by omega)
  have b5 := hr_b X (q := p + 5) (by omega)
  have R1 : PRk tx tn p 1 1 := PRk.st (i := 0) PRk0 (by rw [c0, show p + 1 + 0 = p + 1 by omega]; exact PR)
  have er : ∀ i e, 0 ≤ i → i < 6 → e = p + 1 + i → PRk tx tn p 1 i → ¬ lk (txc 1 i) (hrT tx tn e) → erE tx tn p e := fun i e i0 i6 ee Pi ni => Or.inr ⟨by rw [s1]; decide, i, i0, by rw [s1, tl.2.1]; exact i6, ee, by rw [s1, ← ee]; exact ni, fun j j1 j2 => by rw [s1]; exact Pi j j1 j2⟩
  refine ⟨fun _ => ⟨fun _ => r_takes R X (by omega) P (by decide) (by decide) (by decide) (fun z3 h3 F3 P3 k3 => ?_) (fun z3 h3 F3 P3 => r_f162 (R.fr F3) P3 (ke _ (er 1 _ (by decide) (by decide) (by omega) R1 (by rw [c1]; exact z3)) h3 F3 P3)), fun y => absurd P.2.1 y⟩, fun y => absurd (P.2.2.trans hw) y⟩
  have R2 : PRk tx tn p 1 2 := PRk.st (i := 1) R1 (by rw [c1, show p + 1 + 1 = p + 2 by omega]; exact z3)
  have T3 := R.fr F3
  refine z245_162 T3.t ⟨fun _ => r_digit T3 (X.fr F3) (by omega) P3 (Or.inl ⟨rfl, rfl⟩) (fun z4 h4 F4 P4 k4 => ?_) (fun z4 h4 F4 P4 => ?_), fun y => absurd P3.2.1 y⟩
  rotate_left
  · intro h5 e5
    have F5 := FE_w (A := A) (by decide) e5
    exact r_f178 ((T3.fr F4).fr F5) (P4.so (by decide) e5) (ke _ (er 2 _ (by decide) (by decide) (by omega) R2 (by rw [c2]; exact z4)) h5 ((F3.tr F4).tr F5) (P4.so (by decide) e5))
  have e3 : p + 2 + 1 = p + 3 := by omega
  rw [e3] at z4 P4 ⊢
  intro h5 e5
  have F5 := FE_w (A := A) (by decide) e5
  have T5 := (T3.fr F4).fr F5
  have X5 := ((X.fr F3).fr F4).fr F5
  have P5 := P4.so (by decide) e5
  have R3 : PRk tx tn p 1 3 := PRk.st (i := 2) R2 (by rw [c2, show p + 1 + 2 = p + 3 by omega]; exact z4)
  have v28 : ai h5 A 28 = hrT tx tn (p + 3) - 48 := by subst e5; exact rd_eq rfl rfl (by omega)
  have v27 : ai h5 A 27 = hrT tx tn (p + 1) - 48 := by
    have e54 : ai h5 A 27 = ai h4 A 27 := by subst e5; exact rd_k (by decide) (by decide) (by decide)
    rw [e54, k4 27 (by decide), k3 27 (by decide)]; exact e27
  refine z245_178 T5.t ⟨fun _ => r_takes T5 X5 (by omega) P5 (by decide) (by decide) (by decide) (fun z6 h6 F6 P6 k6 => ?_) (fun z6 h6 F6 P6 => r_f191 (T5.fr F6) P6 (ke _ (er 3 _ (by decide) (by decide) (by omega) R3 (by rw [c3]; exact z6)) h6 (((F3.tr F4).tr F5).tr F6) P6)), fun y => absurd P5.2.1 y⟩
  have R4 : PRk tx tn p 1 4 := PRk.st (i := 3) R3 (by rw [c3, show p + 1 + 3 = p + 3 + 1 by omega]; exact z6)
  have T6 := T5.fr F6
  refine z245_191 T6.t ⟨fun _ => r_digit T6 (X5.fr F6) (by omega) P6 (Or.inr ⟨rfl, rfl⟩) (fun z7 h7 F7 P7 k7 => ?_) (fun z7 h7 F7 P7 => ?_), fun y => absurd P6.2.1 y⟩
  rotate_left
  · intro h8 e8
    have F8 := FE_w (A := A) (by decide) e8
    exact r_f207 ((T6.fr F7).fr F8) (P7.so (by decide) e8) (ke _ (er 4 _ (by decide) (by decide) (by omega) R4 (by rw [c4]; exact z7)) h8 (((((F3.tr F4).tr F5).tr F6).tr F7).tr F8) (P7.so (by decide) e8))
  have e5' : p + 3 + 1 + 1 = p + 5 := by omega
  rw [e5'] at z7 P7 ⊢
  intro h8 e8
  have F8 := FE_w (A := A) (by decide) e8
  have T8 := (T6.fr F7).fr F8
  have X8 := (((X5.fr F6).fr F7)).fr F8
  have P8 := P7.so (by decide) e8
  have R5 : PRk tx tn p 1 5 := PRk.st (i := 4) R4 (by rw [c4, show p + 1 + 4 = p + 5 by omega]; exact z7)
  have v29 : ai h8 A 29 = hrT tx tn (p + 5) - 48 := by subst e8; exact rd_eq rfl rfl (by omega)
  have v828 : ai h8 A 28 = hrT tx tn (p + 3) - 48 := by
    have e87 : ai h8 A 28 = ai h7 A 28 := by subst e8; exact rd_k (by decide) (by decide) (by decide)
    rw [e87, k7 28 (by decide), k6 28 (by decide)]; exact v28
  have v827 : ai h8 A 27 = hrT tx tn (p + 1) - 48 := by
    have e87 : ai h8 A 27 = ai h7 A 27 := by subst e8; exact rd_k (by decide) (by decide) (by decide)
    rw [e87, k7 27 (by decide), k6 27 (by decide)]; exact v27
  have F08 := ((((F3.tr F4).tr F5).tr F6).tr F7).tr F8
  have e6 : p + 5 + 1 = p + 1 + 5 := by omega
  rw [e6] at P8
  refine r_207 (s := 1) (i := 5) T8 X8 hp s1.symm (by decide) rfl (by rw [tl.2.1]; rfl) (by decide) c5 P8 R5 (fun e he h9 F9 P9 => ke e he h9 (F08.tr F9) P9) fun ok h9 F9 P9 k9 => ko ok h9 (F08.tr F9) (by rw [s1]; exact P9) ⟨P9.2.2, ?_, fun _ => ⟨?_, ?_⟩⟩
  · rw [k9 27 (by decide), s1, if_neg (by decide)]; exact v827
  · rw [k9 28 (by decide)]; exact v828
  · rw [k9 29 (by decide)]; exact v29
end EN2
