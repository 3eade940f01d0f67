/-! TEXTS: the reference reads an entry -/
def RTX (A : Nat) (h : PH) (tx : Int → Int) (tn : Int) : Prop := ai h A 11 = tn ∧ (0 ≤ tn ∧ tn ≤ 60) ∧ ∀ i, 0 ≤ i → i < tn → ai h (A + 6) i = tx i ∧ 32 ≤ tx i ∧ tx i ≤ 126
/-- where it reads, whether it has failed, what it reads -/
def PS (A : Nat) (h : PH) (q f w : Int) : Prop := ai h A 24 = q ∧ ai h A 25 = f ∧ ai h A 26 = w
def FEt (A b k : Nat) : Prop := b = A ∧ 24 ≤ k ∧ k ≤ 29
def TCk (T N : Nat → Nat) (A : Nat) (K : PH → Prop) (h : PH) : Prop := ((ai h A 26) = 99 → ((ai h A 25) = 0 → (CV T N 243 [vr (some A), vi (J 45)] h (fun h33 => WV T N 245 162 [some (vr (some A))] [] h33 K))) ∧ (¬ ((ai h A 25) = 0) → (WV T N 245 162 [some (vr (some A))] [] h K))) ∧ (¬ ((ai h A 26) = 99) → (WV T N 245 207 [some (vr (some A))] [] h K))
def TLk (T N : Nat → Nat) (A : Nat) (K : PH → Prop) (h : PH) : Prop := ((ai h A 26) = 110 → ∀ h26, h26 = wi h A 27 0 → TCk T N A K h26) ∧ (¬ ((ai h A 26) = 110) → ((ai h A 26) = 112 → ∀ h68, h68 = wi h A 27 0 → TCk T N A K h68) ∧ (¬ ((ai h A 26) = 112) → ((ai h A 26) = 116 → ZI T N 244 [vr (some A), vi (J 1)] h (fun x h54 => ∀ h58, h58 = wi h54 A 27 x → TCk T N A K h58)) ∧ (¬ ((ai h A 26) = 116) → ZI T N 244 [vr (some A), vi (J 0)] h (fun x h40 => ∀ h44, h44 = wi h40 A 27 x → TCk T N A K h44))))
section ENT
variable {T N : Nat → Nat} {A a : Nat} {h h0 h1 h2 h3 : PH} {tx : Int → Int} {tn p q e e2 i j k x y c w f : Int} {m m2 s : Nat} {K : Int → PH → Prop} {KV : PH → Prop} {KS : Nat → PH → Prop}
theorem PS.s24 (P : PS A h q f w) (hx : In x) (e : h2 = wi h A 24 x) : PS A h2 x f w := by
  subst e
  exact ⟨rd_eq rfl rfl hx, by rw [rd_k (by decide) (by decide) (by decide)]; exact P.2.1, by rw [rd_k (by decide) (by decide) (by decide)]; exact P.2.2⟩
theorem PS.s25 (P : PS A h q f w) (hx : In x) (e : h2 = wi h A 25 x) : PS A h2 q x w := by
  subst e
  exact ⟨by rw [rd_k (by decide) (by decide) (by decide)]; exact P.1, rd_eq rfl rfl hx, by rw [rd_k (by decide) (by decide) (by decide)]; exact P.2.2⟩
theorem PS.so (P : PS A h q f w) (hk : 27 ≤ k) (e : h2 = wi h A k x) : PS A h2 q f w := by
  subst e
  exact ⟨by rw [rd_k (by omega) (by omega) (by omega)]; exact P.1, by rw [rd_k (by omega) (by omega) (by omega)]; exact P.2.1, by rw [rd_k (by omega) (by omega) (by omega)]; exact P.2.2⟩
theorem FE_w (hk : 24 ≤ k ∧ k ≤ 29) (e : h2 = wi h A k x) : FR (FEt A) h h2 := by subst e; exact FR.pw ⟨rfl, by omega, by omega⟩
theorem RTX.fr (X : RTX A h tx tn) (F : FR (FEt A) h h2) : RTX A h2 tx tn := ⟨by rw [F.ai (by unfold FEt; omega)]; exact X.1, X.2.1, fun i a b => by rw [F.ai (by unfold FEt; omega)]; exact X.2.2 i a b⟩
theorem zor_00 : zor 0 0 = 0 := by decide
theorem zor_01 : zor 0 1 = 1 := by decide
theorem hr_b (X : RTX A h tx tn) (hq : 0 ≤ q) : -1 ≤ hrT tx tn q ∧ hrT tx tn q ≤ 126 := by
  unfold hrT
  split
  · rename_i c
    have := X.2.2 q hq c
    omega
  · omega
theorem r_here (R : RT T N A h) (X : RTX A h tx tn) (hq : 0 ≤ q) (e24 : ai h A 24 = q) (k : K (hrT tx tn q) h) : ZI T N 242 [vr (some A)] h K := by
  have n6 := R.a6.2.1
  have tb := X.2.1
  refine z242 R.t ?_
  rw [e24, X.1]
  unfold hrT at k
  refine ⟨fun c => ⟨A + 6, R.a6.2.2, R.a6.1, by omega, ?_⟩, fun c => ?_⟩
  · rw [(X.2.2 q hq c).1]; rw [if_pos c] at k; exact k
  · rw [if_neg c] at k; exact k
theorem r_takes (R : RT T N A h) (X : RTX A h tx tn) (hq : 0 ≤ q ∧ q ≤ 100) (P : PS A h q 0 w) (hc : In c) (h35 : c ≠ 35) (h43 : c ≠ 43) (k1 : lk c (hrT tx tn q) → ∀ h2, FR (FEt A) h h2 → PS A h2 (q + 1) 0 w → (∀ k, 26 ≤ k → ai h2 A k = ai h A k) → KV h2) (k0 : ¬ lk c (hrT tx tn q) → ∀ h2, FR (FEt A) h h2 → PS A h2 q 1 w → KV h2) : CV T N 243 [vr (some A), vi (J c)] h KV := by
  have el : lk c (hrT tx tn q) ↔ hrT tx tn q = c := by unfold lk; rw [if_neg h35, if_neg h43]
  rw [el] at k1 k0
  refine z243 R.t hc (r_here R X hq.1 P.1 ?_)
  rw [P.2.1, zor_00, zor_01]
  refine ⟨fun z => ⟨Or.inl rfl, fun h4 e4 => ?_⟩, fun z => ⟨Or.inr rfl, fun h4 e4 => ?_⟩⟩
  · have P4 := P.s25 (by decide) e4
    refine ⟨fun _ h5 e5 => ?_, fun y => absurd P4.2.1 y⟩
    rw [P4.1] at e5
    exact k1 z h5 ((FE_w (by decide) e4).tr (FE_w (by decide) e5)) (P4.s24 (by omega) e5) fun k hk => by subst e5; subst e4; rw [rd_k (by omega) (by omega) (by omega), rd_k (by omega) (by omega) (by omega)]
  · have P4 := P.s25 (by decide) e4
    refine ⟨fun y => absurd (P4.2.1.symm.trans y) (by decide), fun _ h5 e5 => ?_⟩
    rw [P4.1, Int.add_zero] at e5
    exact k0 z h5 ((FE_w (by decide) e4).tr (FE_w (by decide) e5)) (P4.s24 (by omega) e5)
theorem r_digit (R : RT T N A h) (X : RTX A h tx tn) (hq : 0 ≤ q ∧ q ≤ 100) (P : PS A h q 0 w) (hl : (x = 0 ∧ c = 35) ∨ (x = 1 ∧ c = 43)) (k1 : lk c (hrT tx tn q) → ∀ h2, FR (FEt A) h h2 → PS A h2 (q + 1) 0 w → (∀ k, 26 ≤ k → ai h2 A k = ai h A k) → K (hrT tx tn q - 48) h2) (k0 : ¬ lk c (hrT tx tn q) → ∀ h2, FR (FEt A) h h2 → PS A h2 q 1 w → K 0 h2) : ZI T N 244 [vr (some A), vi (J x)] h K := by
  have hb := hr_b X hq.1
  have el : lk c (hrT tx tn q) ↔ x ≤ hrT tx tn q - 48 ∧ hrT tx tn q - 48 ≤ 9 := by
    unfold lk
    rcases hl with ⟨z1, z2⟩ | ⟨z1, z2⟩ <;> subst z1 <;> subst z2
    · rw [if_pos rfl]; omega
    · rw [if_neg (by decide), if_pos rfl]; omega
  rw [el] at k1 k0
  refine z244 R.t (by omega) (r_here R X hq.1 P.1 (r_in (by omega) (by omega) (by decide) (fun z => ⟨(fun z => absurd z (by decide)), fun _ => ?_⟩) (fun z => ⟨fun _ => ?_, (fun z => absurd rfl z)⟩)))
  · rw [P.2.1, zor_00]
    refine ⟨Or.inl rfl, fun h4 e4 => ?_⟩
    have P4 := P.s25 (by decide) e4
    refine ⟨fun _ h5 e5 => ?_, fun y => absurd P4.2.1 y⟩
    rw [P4.1] at e5
    have P5 := P4.s24 (by omega) e5
    exact ⟨fun _ => ⟨by omega, k1 z h5 ((FE_w (by decide) e4).tr (FE_w (by decide) e5)) P5 fun k hk => by subst e5; subst e4; rw [rd_k (by omega) (by omega) (by omega), rd_k (by omega) (by omega) (by omega)]⟩, fun y => absurd P5.2.1 y⟩
  · rw [P.2.1, zor_01]
    refine ⟨Or.inr rfl, fun h4 e4 => ?_⟩
    have P4 := P.s25 (by decide) e4
    refine ⟨fun y => absurd (P4.2.1.symm.trans y) (by decide), fun _ h5 e5 => ?_⟩
    rw [P4.1, Int.add_zero] at e5
    have P5 := P4.s24 (by omega) e5
    exact ⟨fun y => absurd (P5.2.1.symm.trans y) (by decide), fun _ => k0 z h5 ((FE_w (by decide) e4).tr (FE_w (by decide) e5)) P5⟩
/-- what an entry is -/
def enV (A : Nat) (h : PH) (tx : Int → Int) (tn p : Int) : Prop := ai h A 26 = hrT tx tn p ∧ ai h A 27 = (if sOf (hrT tx tn p) = 0 then 0 else hrT tx tn (p + 1) - 48) ∧ (hrT tx tn p = 99 → ai h A 28 = hrT tx tn (p + 3) - 48 ∧ ai h A 29 = hrT tx tn (p + 5) - 48)
def PRk (tx : Int → Int) (tn p : Int) (s : Nat) (i : Int) : Prop := ∀ j, 0 ≤ j → j < i → lk (txc s j) (hrT tx tn (p + 1 + j))
theorem PRk.st (P : PRk tx tn p s i) (z : lk (txc s i) (hrT tx tn (p + 1 + i))) : PRk tx tn p s (i + 1) := fun j j1 j2 => by
  by_cases c : j = i
  · rw [c]; exact z
  · exact P j j1 (by omega)
theorem PRk0 : PRk tx tn p s 0 := fun j j1 j2 => by omega
/-- all behind the last sign but one -/
theorem r_207 (R : RT T N A h) (X : RTX A h tx tn) (hp : 0 ≤ p ∧ p ≤ 60) (hs : s = sOf (hrT tx tn p)) (h4 : s < 4) (hi : q = p + 1 + i) (hl : txl s = i + 1) (i0 : 0 ≤ i ∧ i ≤ 10) (h59 : txc s i = 59) (P : PS A h q 0 w) (PR : PRk tx tn p s i) (ke : ∀ e, erE tx tn p e → ∀ h2, FR (FEt A) h h2 → PS A h2 e 1 w → KV h2) (ko : okE tx tn p → ∀ h2, FR (FEt A) h h2 → PS A h2 (p + txl s + 1) 0 w → (∀ k, 26 ≤ k → ai h2 A k = ai h A k) → KV h2) : WV T N 245 207 [some (vr (some A))] [] h KV := by
  refine z245_207 R.t ⟨fun _ => r_takes R X (by omega) P (by decide) (by decide) (by decide) (fun z h2 F2 P2 s2 => z245_220 ?_) (fun z h2 F2 P2 => z245_220 ?_), fun y => absurd P.2.1 y⟩
  · subst hs
    refine ko ⟨h4, fun j j1 j2 => ?_⟩ h2 F2 (by rw [hl, show p + (i + 1) + 1 = q + 1 by omega]; exact P2) s2
    refine PRk.st (i := i) PR (by rw [h59, ← hi]; exact z) j j1 (by omega)
  · subst hs
    exact ke q (Or.inr ⟨h4, i, i0.1, by omega, hi, by rw [h59, ← hi]; exact z, PR⟩) h2 F2 P2
theorem r_f207 (R : RT T N A h) (P : PS A h q 1 w) (k : KV h) : WV T N 245 207 [some (vr (some A))] [] h KV := z245_207 R.t ⟨fun y => absurd (P.2.1.symm.trans y) (by decide), fun _ => z245_220 k⟩
theorem r_f191 (R : RT T N A h) (P : PS A h q 1 w) (k : KV h) : WV T N 245 191 [some (vr (some A))] [] h KV := z245_191 R.t ⟨fun y => absurd (P.2.1.symm.trans y) (by decide), fun _ => r_f207 R P k⟩
theorem r_f178 (R : RT T N A h) (P : PS A h q 1 w) (k : KV h) : WV T N 245 178 [some (vr (some A))] [] h KV := z245_178 R.t ⟨fun y => absurd (P.2.1.symm.trans y) (by decide), fun _ => r_f191 R P k⟩
theorem r_f162 (R : RT T N A h) (P : PS A h q 1 w) (k : KV h) : WV T N 245 162 [some (vr (some A))] [] h KV := z245_162 R.t ⟨fun y => absurd (P.2.1.symm.trans y) (by decide), fun _ => r_f178 R P k⟩
end ENT
