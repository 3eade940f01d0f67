/-! THE REFERENCE: ticks -/
section RTN
variable {T N : Nat → Nat} {A a b : Nat} {h h2 h3 : PH} {u v e e2 g : Int → Int} {d t n : Int} {K : Int → PH → Prop} {KV : PH → Prop}
theorem lanN_b (I : Iv v) : ∀ i : Nat, v 448 + i ≤ 10000 → 0 ≤ lanN v i ∧ lanN v i ≤ 6 * i := by
  intro i
  induction i with
  | zero => intro _; exact ⟨Int.le_refl 0, Int.le_refl 0⟩
  | succ i ih =>
    intro hi
    have b := I.b
    have := ih (by omega)
    have sb := sumI_b (f := lan1 (tickN v i)) (fun n => lanE_b) (tickN v i 117).toNat
    have e := (tickN_Iv I i (by omega)).2.2 117 (by omega)
    have e1 : lanN v (i + 1) = lanN v i + sumI (lan1 (tickN v i)) (tickN v i 117).toNat := rfl
    omega
theorem r_ticks_loop (I : Iv v) {m : Nat} (hm : v 448 + m ≤ 10000) (k : ∀ h2, RT T N A h2 → FR (Tw A) h h2 → Rv A h2 (tickN v m) → ai h2 A 23 = lanN v m → KV h2) :
    ∀ (n : Nat) (i : Nat) (h3 : PH), i + n = m → RT T N A h3 → FR (Tw A) h h3 → Rv A h3 (tickN v i) → ai h3 A 23 = lanN v i → WV T N 231 7 [some (vr (some A)), some (vi (J (m : Int))), some (vi (J (i : Int))), none] [] h3 KV := by
  have b := I.b
  intro n
  induction n with
  | zero =>
    intro i h3 hi R F V L
    have e : i = m := by omega
    subst e
    exact z231_7 (by omega) (by omega) ⟨fun c => absurd c (by omega), fun c => k h3 R F V L⟩
  | succ n ih =>
    intro i h3 hi R F V L
    obtain ⟨I3, e1, e2⟩ := tickN_Iv I i (by omega)
    have lb := lanN_b I i (by omega)
    refine z231_7 (by omega) (by omega) ⟨fun c => ?_, fun c => absurd (by omega) c⟩
    refine r_st_loop I3 (by omega) (x1 := m) (x2 := i) (by omega) (by omega) (fun h4 R4 F4 V4 => ?_) (tickN v i 117).toNat 0 h3 (by have := e2 117 (by omega); omega) R FR.rf (V.cg fun j a1 a2 => by unfold mx; rw [if_neg (by omega)])
    have L4 : ai h4 A 23 = lanN v i := by rw [frA F4]; exact L
    have := r_fin_loop (KV := KV) I3 (by omega) (x1 := m) (x2 := i) (L := lanN v i) (by omega) (by omega) (by omega) (fun h5 R5 F5 V5 L5 => by
      have := ih (i + 1) h5 (by omega) R5 ((F.tr F4.tw).tr F5) V5 L5
      rw [show ((i + 1 : Nat) : Int) = (i : Int) + 1 by omega] at this
      exact this) (tickN v i 117).toNat 0 h4 (by have := e2 117 (by omega); omega) R4 FR.rf (V4.cg fun j a1 a2 => by unfold mx; rw [if_neg (by omega)]) (by rw [L4]; exact (Int.add_zero _).symm)
    exact this
theorem r_ticks (R : RT T N A h) (V : Rv A h v) (I : Iv v) {m : Nat} (hm : v 448 + m ≤ 10000) (k : ∀ h2, RT T N A h2 → FR (Tw A) h h2 → Rv A h2 (tickN v m) → ai h2 A 23 = lanN v m → KV h2) : CV T N 231 [vr (some A), vi (J (m : Int))] h KV := by
  have b := I.b
  refine z231 R.t (by omega) ?_
  intro h3 z
  have F : FR (Tw A) h h3 := by subst z; exact FR.pw (Or.inr ⟨rfl, rfl⟩)
  exact r_ticks_loop I hm k m 0 h3 (by omega) (R.fr F) F (V.fr (by subst z; exact FR.pw (Or.inl ⟨rfl, by decide⟩))) (by subst z; exact rd_eq rfl rfl (by omega))
end RTN
