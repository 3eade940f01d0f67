/-! SEARCH: the reference looks, and takes the best -/
def PLk (A b k : Nat) : Prop := b = A + 7 ∨ P9 A b k
section RLK
variable {T N : Nat → Nat} {A : Nat} {h h0 h1 h2 h3 : PH} {v u : Int → Int} {d q e k l m n t x y a b o w j x1 x2 x3 x4 x9 : Int} {W : (Int → Int) × (Int → Int)} {p : Int × Int} {K : Int → PH → Prop} {KV : PH → Prop} {s c : Nat}
theorem r_lkB (I : Iv v) (hd : 0 ≤ d ∧ d < v 117) (hs : s < 40) (I2 : In x2) (I3 : In x3) (kk : ∀ h4, LI T N A h0 h4 v d q (wsF v d q (s + 1)) (96 * s) → WV T N 208 188 [some (vr (some A)), some (vi (J d)), some (vi (J x2)), some (vi (J x3)), some (vi (J (v 448 + 40))), some (vi (J (orgV v d + s))), some (vi (J (0))), none, none, none] [] h4 KV) :
    ∀ (m c : Nat) (h3 : PH), (c : Int) + m = v 11 → LI T N A h0 h3 v d q (arN v (TK v d q) s (6 * c) (wsF v d q s)) (96 * s) → WV T N 208 82 [some (vr (some A)), some (vi (J d)), some (vi (J x2)), some (vi (J x3)), some (vi (J (v 448 + 40))), some (vi (J (orgV v d + s))), some (vi (J ((c : Int)))), none, none, none] [] h3 KV := by
  have b := I.b
  have ob := org_b I hd
  intro m
  induction m with
  | zero =>
    intro c h3 hc G
    have n1 := G.1.1.a1.2.1
    have e11 := G.1.2.1 11 (by omega) (by omega)
    refine z208_82 G.1.1.t (by omega) I2 I3 (by omega) (by omega) (by omega) ⟨A + 1, G.1.1.a1.2.2, G.1.1.a1.1, by omega, fun z => by omega, fun _ => kk h3 ?_⟩
    have ec : c = (v 11).toNat := by omega
    rw [ec] at G
    exact G
  | succ m ih =>
    intro c h3 hc G
    have n1 := G.1.1.a1.2.1
    have e11 := G.1.2.1 11 (by omega) (by omega)
    have el := G.1.2.1 (12 + 4 * (c : Int) + 2) (by omega) (by omega)
    refine z208_82 G.1.1.t (by omega) I2 I3 (by omega) (by omega) (by omega) ⟨A + 1, G.1.1.a1.2.2, G.1.1.a1.1, by omega, fun _ => r_len G.1.1 (by omega) ?_, fun z => absurd (by omega) z⟩
    rw [el, G.1.2.2.1.1, show orgV v d + (s : Int) - v (12 + 4 * (c : Int) + 2) - orgV v d = s - v (12 + 4 * (c : Int) + 2) by omega]
    refine r_lkA I hd hs I2 I3 (by omega) (fun h4 G4 => ?_) 6 0 h3 (by omega) G
    have := ih (c + 1) h4 (by omega) G4
    rw [show ((c + 1 : Nat) : Int) = (c : Int) + 1 by omega] at this; exact this
theorem r_lkS (I : Iv v) (hd : 0 ≤ d ∧ d < v 117) (h2 : x2 = if 1 ≤ q then 1 else 0) (h3' : x3 = if 2 ≤ q then 1 else 0) (kk : ∀ h4, LB T N A h4 v d → RK A h4 v d q 3936 → FR (P9 A) h0 h4 → KV h4) :
    ∀ (m s : Nat) (h3 : PH), (s : Int) + m = limV v d → LI T N A h0 h3 v d q (wsF v d q s) (96 * s) → WV T N 208 72 [some (vr (some A)), some (vi (J d)), some (vi (J x2)), some (vi (J x3)), some (vi (J (v 448 + 40))), some (vi (J (orgV v d + s))), none, none, none, none] [] h3 KV := by
  have b := I.b
  have ob := org_b I hd
  have lm := lim_b I hd
  have eo : limV v d = v 448 + 40 - orgV v d := rfl
  have I2 : In x2 := by rw [h2]; split <;> decide
  have I3 : In x3 := by rw [h3']; split <;> decide
  intro m
  induction m with
  | zero =>
    intro s h3 hs G
    refine z208_72 (by omega) I2 I3 (by omega) (by omega) ⟨fun z => by omega, fun _ => kk h3 G.1 (RK_skip G.2.2.1 (fun k h1 h2 => ?_) (by omega)) G.2.2.2⟩
    by_cases c : 3840 ≤ k
    · exact TK_hi c
    · have := TK_no (d := d) (q := q) (s := (k / 96).toNat) (e := k % 96) I (by omega) (by omega) (fun z => by
        have := ln_b I (e := k % 96) (by omega)
        omega)
      rw [← this]; congr 1; omega
  | succ m ih =>
    intro s h3 hs G
    refine z208_72 (by omega) I2 I3 (by omega) (by omega) ⟨fun _ => ?_, fun z => absurd (by omega) z⟩
    refine r_lkB I hd (by omega) I2 I3 (fun h4 G4 => ?_) (v 11).toNat 0 h3 (by omega) G
    refine r_lkC I hd (by omega) h2 h3' (fun h5 G5 => ?_) (v 11).toNat 0 h4 (by omega) (by rw [show 96 * (s : Int) + 6 * ((0 : Nat) : Int) = 96 * s by omega]; exact G4)
    have := ih (s + 1) h5 (by omega) (by rw [show 96 * ((s + 1 : Nat) : Int) = 96 * (s : Int) + 96 by omega]; exact G5)
    rw [show orgV v d + ((s + 1 : Nat) : Int) = orgV v d + s + 1 by omega] at this; exact this
theorem r_lkF1 (R : RT T N A h0) (hd : In d) (I2 : In x2) (I3 : In x3) (kk : ∀ h4, FR (P9 A) h0 h4 → (∀ j, 0 ≤ j → j < 3936 → ai h4 (A + 9) j = -1) → WV T N 208 32 [some (vr (some A)), some (vi (J d)), some (vi (J x2)), some (vi (J x3)), some (vi (J (0))), none, none, none, none, none] [] h4 KV) : ∀ (m k : Nat) (h3 : PH), k + m = 3936 → FR (P9 A) h0 h3 → (∀ j, 0 ≤ j → j < (k : Int) → ai h3 (A + 9) j = -1) → WV T N 208 7 [some (vr (some A)), some (vi (J d)), some (vi (J x2)), some (vi (J x3)), some (vi (J ((k : Int)))), none, none, none, none, none] [] h3 KV := by
  intro m
  induction m with
  | zero =>
    intro k h3 hk F G
    exact z208_7 R.t hd I2 I3 (by omega) ⟨fun z => by omega, fun _ => kk h3 F fun j a1 a2 => G j a1 (by omega)⟩
  | succ m ih =>
    intro k h3 hk F G
    have n9 := R.a9.2.1
    have R3 := R.fr F
    refine z208_7 R.t hd I2 I3 (by omega) ⟨fun _ => ⟨A + 9, R3.a9.2.2, R3.a9.1, by omega, ?_⟩, fun z => absurd (by omega) z⟩
    intro h4 e4
    have := ih (k + 1) h4 (by omega) (by subst e4; exact F.tr (FR.pw (by unfold P9; omega))) (fun j a1 a2 => by
      subst e4
      by_cases c : j = k
      · rw [rd_eq rfl c (by decide)]
      · rw [rd_k c a1 (by omega)]; exact G j a1 (by omega))
    rw [show ((k + 1 : Nat) : Int) = (k : Int) + 1 by omega] at this; exact this
theorem r_lkF2 (R : RT T N A h0) (V : Rv A h0 v) (hd : In d) (I2 : In x2) (I3 : In x3) (g9 : ∀ j, 0 ≤ j → j < 3936 → ai h0 (A + 9) j = -1) (kk : ∀ h4, FR (P9 A) h0 h4 → (∀ j, 0 ≤ j → j < 3936 → ai h4 (A + 9) j = -1) → (∀ j, 0 ≤ j → j < 30 → ai h4 (A + 12) j = -1) → WV T N 208 72 [some (vr (some A)), some (vi (J d)), some (vi (J x2)), some (vi (J x3)), some (vi (J (v 448 + 40))), some (vi (J (ai h0 A 18))), none, none, none, none] [] h4 KV) : ∀ (m k : Nat) (h3 : PH), k + m = 30 → FR (P9 A) h0 h3 → (∀ j, 0 ≤ j → j < 3936 → ai h3 (A + 9) j = -1) → (∀ j, 0 ≤ j → j < (k : Int) → ai h3 (A + 12) j = -1) → WV T N 208 32 [some (vr (some A)), some (vi (J d)), some (vi (J x2)), some (vi (J x3)), some (vi (J ((k : Int)))), none, none, none, none, none] [] h3 KV := by
  intro m
  induction m with
  | zero =>
    intro k h3 hk F g G
    have n1 := R.a1.2.1
    have R3 := R.fr F
    refine z208_32 R.t hd I2 I3 (by omega) ⟨fun z => by omega, fun _ => ⟨A + 1, R3.a1.2.2, R3.a1.1, by omega, ?_⟩⟩
    rw [F.ai (by unfold P9; omega), F.ai (by unfold P9; omega), V _ (by omega) (by omega)]
    exact kk h3 F g fun j a1 a2 => G j a1 (by omega)
  | succ m ih =>
    intro k h3 hk F g G
    have n12 := R.a12.2.1
    have R3 := R.fr F
    refine z208_32 R.t hd I2 I3 (by omega) ⟨fun _ => ⟨A + 12, R3.a12.2.2, R3.a12.1, by omega, ?_⟩, fun z => absurd (by omega) z⟩
    intro h4 e4
    have := ih (k + 1) h4 (by omega) (by subst e4; exact F.tr (FR.pw (by unfold P9; omega))) (fun j a1 a2 => by subst e4; rw [rd_a (by omega)]; exact g j a1 a2) (fun j a1 a2 => by
      subst e4
      by_cases c : j = k
      · rw [rd_eq rfl c (by decide)]
      · rw [rd_k c a1 (by omega)]; exact G j a1 (by omega))
    rw [show ((k + 1 : Nat) : Int) = (k : Int) + 1 by omega] at this; exact this
theorem r_looks (R : RT T N A h) (V : Rv A h v) (I : Iv v) (S : SB A h v d) (hd : 0 ≤ d ∧ d < v 117) (h2 : x2 = if 1 ≤ q then 1 else 0) (h3' : x3 = if 2 ≤ q then 1 else 0) (kk : ∀ h4, RT T N A h4 → FR (PLk A) h h4 → Rv A h4 v → SB A h4 v d → RK A h4 v d q 3936 → KV h4) : CV T N 208 [vr (some A), vi (J d), vi (J x2), vi (J x3)] h KV := by
  have b := I.b
  have lm := lim_b I hd
  have I2 : In x2 := by rw [h2]; split <;> decide
  have I3 : In x3 := by rw [h3']; split <;> decide
  refine z208 R.t (by omega) I2 I3 (r_reserves R V I fun h5 R5 F5 W5 => ?_)
  have V5 : Rv A h5 v := fun j a1 a2 => by rw [F5.ai (by omega)]; exact V j a1 a2
  have S5 : SB A h5 v d := ⟨by rw [F5.ai (by omega)]; exact S.1, by rw [F5.ai (by omega)]; exact S.2.1, by rw [F5.ai (by omega)]; exact S.2.2⟩
  have L5 : LB T N A h5 v d := ⟨R5, V5, S5, W5⟩
  refine r_lkF1 R5 (by omega) I2 I3 (fun h6 F6 g6 => ?_) 3936 0 h5 (by omega) FR.rf fun j a1 a2 => by omega
  have L6 := L5.fr F6
  refine r_lkF2 L6.1 L6.2.1 (by omega) I2 I3 g6 (fun h7 F7 g7 g8 => ?_) 30 0 h6 (by omega) FR.rf g6 fun j a1 a2 => by omega
  have L7 := L6.fr F7
  rw [L6.2.2.1.1]
  have := r_lkS (T := T) (N := N) (A := A) (h0 := h5) (KV := KV) I hd h2 h3' (fun h8 L8 K8 F8 => kk h8 L8.1 ((F5.mo fun b k z => Or.inl z).tr (F8.mo fun b k z => Or.inr z)) L8.2.1 L8.2.2.1 K8) (limV v d).toNat 0 h7 (by omega) ⟨L7, fun a h1 h2 => ⟨g8 a h1 h2, fun z => absurd (show (0 : Int) ≤ -1 from z) (by decide)⟩, fun k h1 h2 => ⟨by rw [if_neg (by omega)]; exact g7 k h1 h2, fun z => by omega⟩, F6.tr F7⟩
  rw [show orgV v d + ((0 : Nat) : Int) = orgV v d by omega] at this
  exact this
end RLK
