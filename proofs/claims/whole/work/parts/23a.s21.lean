/-! THE SCRIPT IS NOT WRITTEN: what has the tag 21 keeps its ints through every run -/
def c21 (e : PE) : Bool := (match e.1 with | .putfield _ => !(Nat.beq e.2.2.1 21) | _ => true) && (bif isInv e.1 && !(Nat.ble 1000 e.2.2.1) then Nat.blt e.2.2.1 289 else true)
def all21 (M : Nat) : Bool := (List.range (mln M)).all fun pc => match cod0 M pc with | none => true | some e => c21 e
set_option maxRecDepth 100000 in
theorem is_21 : ((List.range 289).all all21) = true := by decide +kernel
section S21
variable {T N : Nat → Nat} {a k pc M n : Nat} {h : PH} {L : PL} {st : List PV} {sz : Nat → Nat}
theorem c21_of {e : PE} (hM : M < 289) (hk : cod M pc = some e) : c21 e = true := by
  have g := List.all_eq_true.mp is_21 M (List.mem_range.mpr hM)
  have g2 := List.all_eq_true.mp g pc (List.mem_range.mpr (cod_lt hk))
  have hc : cod0 M pc = some e := by
    unfold cod at hk
    cases c : Nat.blt pc (mln M) with
    | false => rw [c] at hk; cases hk
    | true => rw [c] at hk; exact hk
  rw [hc] at g2
  exact g2
theorem gi_ne {x : Int32} {b j q : Nat} (ne : b ≠ a) : gi (si h a q x) b j = gi h b j := by
  show up2 h.1 a q x b j = h.1 b j
  unfold up2
  exact if_neg fun z => ne z.1
theorem hs21 {e : PE} {d : HC} (c : c21 e = true) (hh : hstep T N sz e pc st h = some d) (ha : T a = 21) : gi d.2.2 a k = gi h a k := by
  unfold hstep at hh
  split at hh
  · unfold hGet at hh
    split at hh
    · obtain ⟨g, z⟩ := pif_some hh; cases z; rfl
    · cases hh
  · rename_i heq
    unfold c21 at c
    rw [heq] at c
    unfold hPut at hh
    split at hh
    · obtain ⟨g, z⟩ := pif_some hh
      cases z
      refine gi_ne fun y => ?_
      have g1 := g.1
      rw [← y, ha] at g1
      rw [← g1] at c
      cases c
    · obtain ⟨g, z⟩ := pif_some hh; cases z; rfl
    · cases hh
  · unfold hLd at hh; split at hh
    · obtain ⟨g, z⟩ := pif_some hh; cases z; rfl
    · cases hh
  · unfold hLd at hh; split at hh
    · obtain ⟨g, z⟩ := pif_some hh; cases z; rfl
    · cases hh
  · unfold hLd at hh; split at hh
    · obtain ⟨g, z⟩ := pif_some hh; cases z; rfl
    · cases hh
  · unfold hLd at hh; split at hh
    · obtain ⟨g, z⟩ := pif_some hh; cases z; rfl
    · cases hh
  · unfold hLd at hh; split at hh
    · obtain ⟨g, z⟩ := pif_some hh; cases z; rfl
    · cases hh
  · unfold hLen at hh; split at hh
    · obtain ⟨g, z⟩ := pif_some hh; cases z; rfl
    · cases hh
  · unfold hStI at hh; split at hh
    · obtain ⟨g, z⟩ := pif_some hh; cases z
      exact gi_ne fun y => by have g1 := g.1; rw [← y, ha] at g1; cases g1
    · cases hh
  · unfold hStI at hh; split at hh
    · obtain ⟨g, z⟩ := pif_some hh; cases z
      exact gi_ne fun y => by have g1 := g.1; rw [← y, ha] at g1; cases g1
    · cases hh
  · unfold hStL at hh; split at hh
    · obtain ⟨g, z⟩ := pif_some hh; cases z; rfl
    · cases hh
  · unfold hStD at hh; split at hh
    · obtain ⟨g, z⟩ := pif_some hh; cases z; rfl
    · cases hh
  · unfold hStA at hh; split at hh
    · obtain ⟨g, z⟩ := pif_some hh; cases z; rfl
    · cases hh
  · obtain ⟨g, z⟩ := pif_some hh; cases z; rfl
  · unfold hNewa at hh; split at hh
    · obtain ⟨g, z⟩ := pif_some hh; cases z; rfl
    · cases hh
  · unfold hNewa at hh; split at hh
    · obtain ⟨g, z⟩ := pif_some hh; cases z; rfl
    · cases hh
  · cases hh
theorem e21 : ∀ (n : Nat) {M pc : Nat} {L : PL} {st : List PV} {h : PH} {o : PR} {h2 : PH}, M < 289 → exec T N n M pc L st h = some (o, h2) → ∀ a, T a = 21 → ∀ k, gi h2 a k = gi h a k := by
  intro n
  induction n with
  | zero => intro M pc L st h o h2 hM e; cases e
  | succ n ih =>
    intro M pc L st h o h2 hM e a ha k
    rw [exec] at e
    cases h1 : cod M pc with
    | none => rw [h1] at e; cases e
    | some c =>
      rw [h1] at e
      dsimp only at e
      have cc := c21_of hM h1
      cases p2 : pstep c pc L st with
      | some d => rw [p2] at e; dsimp only at e; exact ih hM e a ha k
      | none =>
        rw [p2] at e; dsimp only at e
        cases p3 : hstep T N csz c pc st h with
        | some d => rw [p3] at e; dsimp only at e; exact (ih hM e a ha k).trans (hs21 cc p3 ha)
        | none =>
          rw [p3] at e; dsimp only at e
          cases p4 : rets c.1 (rk M) st with
          | some d => rw [p4] at e; cases e; rfl
          | none =>
            rw [p4] at e; dsimp only at e
            cases p5 : isInv c.1 with
            | false =>
              rw [p5] at e; dsimp only [cond_false] at e
              split at e
              · cases p6 : Nat.ble 100 c.2.2.1 with
                | true =>
                  rw [p6] at e; dsimp only [cond_true] at e
                  obtain ⟨g, z⟩ := pif_some e
                  cases z; rfl
                | false => rw [p6] at e; cases e
              · cases e
            | true =>
              rw [p5] at e; dsimp only [cond_true] at e
              cases p6 : Nat.ble 1000 c.2.2.1 with
              | true =>
                rw [p6] at e; dsimp only [cond_true] at e
                cases p7 : jstep txt c.2.2.1 st with
                | none => rw [p7] at e; cases e
                | some d =>
                  rw [p7] at e; dsimp only at e
                  cases p8 : Nat.ble (wsum d) 8 with
                  | false => rw [p8] at e; cases e
                  | true => rw [p8] at e; exact ih hM e a ha k
              | false =>
                rw [p6] at e; dsimp only [cond_false] at e
                obtain ⟨g, e⟩ := pif_some e
                have hM2 : c.2.2.1 < 289 := by
                  unfold c21 at cc
                  rw [p5, p6] at cc
                  simp only [Bool.and_eq_true] at cc
                  exact Nat.le_of_ble_eq_true cc.2
                cases p8 : exec T N n c.2.2.1 0 (ent (st.take c.2.2.2.1).reverse (loc c.2.2.1)) [] h with
                | none => rw [p8] at e; cases e
                | some d =>
                  obtain ⟨r, h3⟩ := d
                  have q8 := ih hM2 p8 a ha k
                  rw [p8] at e
                  cases r with
                  | inl v => exact (ih hM e a ha k).trans q8
                  | inr E =>
                    dsimp only at e
                    cases p9 : hfind pc E (hnd M) with
                    | none => rw [p9] at e; cases e; exact q8
                    | some q => rw [p9] at e; exact (ih hM e a ha k).trans q8
theorem ZI_21 {as : List PV} {K : Int → PH → Prop} (hM : M < 289) (w : ZI T N M as h K) : ZI T N M as h (fun x h2 => (∀ b, T b = 21 → ∀ j, ai h2 b j = ai h b j) ∧ K x h2) := by
  obtain ⟨n, o, h2, e, x, q1, q2⟩ := w
  exact ⟨n, o, h2, e, x, q1, fun b hb j => by show (gi h2 b j.toNat).toInt = (gi h b j.toNat).toInt; rw [e21 n hM e b hb], q2⟩
end S21
