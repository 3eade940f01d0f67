/-! THE REFERENCE: what its writes leave; its drones' ticks -/
/-- only cells of P were written -/
def FR (P : Nat → Nat → Prop) (h h2 : PH) : Prop := h2.2 = h.2 ∧ ∀ b k, ¬ P b k → gi h2 b k = gi h b k
/-- what the reference writes and nobody reads behind the call -/
def Scr (A b k : Nat) : Prop := (b = A ∧ k ≠ 6 ∧ k ≠ 7 ∧ k ≠ 8 ∧ k ≠ 9 ∧ k ≠ 11) ∨ b = A + 3 ∨ b = A + 4 ∨ (A + 7 ≤ b ∧ b ≤ A + 12)
/-- the row alone -/
def Vw (A b _k : Nat) : Prop := b = A + 1
/-- the row and the landings -/
def Tw (A b k : Nat) : Prop := b = A + 1 ∨ (b = A ∧ k = 23)
def RVw (A b k : Nat) : Prop := b = A + 1 ∨ Scr A b k
/-- the reference's row says v -/
def Rv (A : Nat) (h : PH) (v : Int → Int) : Prop := ∀ j, 0 ≤ j → j < 449 → ai h (A + 1) j = v j
def putD (v : Int → Int) (d : Int) (e : Int → Int) : Int → Int := fun j => if 118 + 55 * d ≤ j ∧ j < 118 + 55 * d + 55 then e (j - 118 - 55 * d) else v j
section RTK
variable {T N : Nat → Nat} {A a b : Nat} {h h2 h3 : PH} {u v e e2 : Int → Int} {d t : Int} {K : Int → PH → Prop} {KV : PH → Prop} {P Q : Nat → Nat → Prop}
theorem FR.rf : FR P h h := ⟨rfl, fun _ _ _ => rfl⟩
theorem FR.tr (s : FR P h h2) (t : FR P h2 h3) : FR P h h3 := ⟨t.1.trans s.1, fun b k g => (t.2 b k g).trans (s.2 b k g)⟩
theorem FR.mo (s : FR P h h2) (i : ∀ b k, P b k → Q b k) : FR Q h h2 := ⟨s.1, fun b k g => s.2 b k fun z => g (i b k z)⟩
theorem FR.pw {k x : Int} (g : P a k.toNat) : FR P h (wi h a k x) := ⟨rfl, fun b j z => by
  show (if b = a ∧ j = k.toNat then J x else gi h b j) = gi h b j
  rw [if_neg fun (e : b = a ∧ j = k.toNat) => z (by rw [e.1, e.2]; exact g)]⟩
theorem FR.gr (s : FR P h h2) : gr h2 = gr h := by show h2.2.2.2.1 = h.2.2.2.1; rw [s.1]
theorem FR.ai (s : FR P h h2) {b : Nat} {k : Int} (g : ¬ P b k.toNat) : ai h2 b k = ai h b k := by show (gi h2 b k.toNat).toInt = _; rw [s.2 b _ g]; rfl
theorem RT.fr (R : RT T N A h) (s : FR P h h2) : RT T N A h2 := R.to s.gr
theorem Rv.cg (V : Rv A h v) (e : ∀ j, 0 ≤ j → j < 449 → v j = u j) : Rv A h u := fun j h1 h2 => by rw [V j h1 h2]; exact e j h1 h2
theorem Rv.fr (V : Rv A h v) (s : FR (Scr A) h h2) : Rv A h2 v := fun j h1 h2 => by rw [s.ai (by unfold Scr; omega)]; exact V j h1 h2
theorem Rv.w {i x : Int} (V : Rv A h v) (hi : 0 ≤ i) (hx : In x) : Rv A (wi h (A + 1) i x) (up v i x) := fun j h1 h2 => by
  by_cases c : j = i
  · rw [rd_eq rfl c hx, up_eq c]
  · rw [rd_k c h1 hi, up_ne c]; exact V j h1 h2
theorem putD_at {k : Int} (hk : 0 ≤ k ∧ k < 55) : putD u d e (118 + 55 * d + k) = e k := by
  unfold putD; rw [if_pos (by omega)]; congr 1; omega
theorem putD_lo {j : Int} (hd : 0 ≤ d) (hj : j < 118) : putD u d e j = u j := by unfold putD; rw [if_neg (by omega)]
theorem putD_hi {j : Int} (hd : d < 6) (hj : 448 ≤ j) : putD u d e j = u j := by unfold putD; rw [if_neg (by omega)]
theorem putD_up {k x : Int} (hk : 0 ≤ k ∧ k < 55) : up (putD u d e) (118 + 55 * d + k) x = putD u d (up e k x) := by
  funext j
  unfold putD up
  by_cases c : j = 118 + 55 * d + k
  · rw [if_pos c, if_pos (by omega), if_pos (by omega)]
  · rw [if_neg c]
    by_cases c2 : 118 + 55 * d ≤ j ∧ j < 118 + 55 * d + 55
    · dsimp only; rw [if_pos c2, if_pos c2, if_neg (by omega)]
    · dsimp only; rw [if_neg c2, if_neg c2]
theorem putD_rc : putD u d (rc u d) = u := by
  funext j
  unfold putD rc
  by_cases c : 118 + 55 * d ≤ j ∧ j < 118 + 55 * d + 55
  · rw [if_pos c]; congr 1; omega
  · rw [if_neg c]
theorem r_ofD (R : RT T N A h) (V : Rv A h (putD u d e)) {w : Int} (hd : 0 ≤ d ∧ d < 6) (hw : 0 ≤ w ∧ w < 55) (k : K (e w) h) : ZI T N 168 [vr (some A), vi (J d), vi (J w)] h K :=
  r_of R hd hw (by rw [V _ (by omega) (by omega), putD_at hw]; exact k)
theorem r_setD (R : RT T N A h) (V : Rv A h (putD u d e)) {w x : Int} (hd : 0 ≤ d ∧ d < 6) (hw : 0 ≤ w ∧ w < 55) (hx : In x) (k : ∀ h2, RT T N A h2 → FR (Vw A) h h2 → Rv A h2 (putD u d (up e w x)) → KV h2) : CV T N 169 [vr (some A), vi (J d), vi (J w), vi (J x)] h KV :=
  r_sets R hd hw hx (k _ (R.to rfl) (FR.pw rfl) (by rw [← putD_up hw]; exact V.w (by omega) hx))
theorem r_legD (R : RT T N A h) (V : Rv A h (putD u d e)) {i : Int} (hd : 0 ≤ d ∧ d < 6) (hw : 0 ≤ i ∧ i < 42) (k : K (e (13 + i)) h) : ZI T N 186 [vr (some A), vi (J d), vi (J i)] h K :=
  r_leg R hd hw (by rw [V _ (by omega) (by omega), putD_at (by omega)]; exact k)
theorem r_loses (R : RT T N A h) (V : Rv A h (putD u d e)) (hd : 0 ≤ d ∧ d < 6) (k : ∀ h2, RT T N A h2 → FR (Vw A) h h2 → Rv A h2 (putD u d (loseE e)) → KV h2) : CV T N 220 [vr (some A), vi (J d)] h KV :=
  z220 R.t (by omega) (r_setD R V hd (by omega) (by omega) fun h3 R3 F3 V3 => r_setD R3 V3 hd (by omega) (by omega) fun h4 R4 F4 V4 => k h4 R4 (F3.tr F4) V4)
theorem r_lands (R : RT T N A h) (V : Rv A h (putD u d e)) (hd : 0 ≤ d ∧ d < 6) (k : ∀ h2, RT T N A h2 → FR (Vw A) h h2 → Rv A h2 (putD u d (up (up e 0 0) 2 0)) → KV h2) : CV T N 214 [vr (some A), vi (J d)] h KV :=
  z214 R.t (by omega) (r_setD R V hd (by omega) (by omega) fun h3 R3 F3 V3 => r_setD R3 V3 hd (by omega) (by omega) fun h4 R4 F4 V4 => k h4 R4 (F3.tr F4) V4)
theorem r_charges (R : RT T N A h) (V : Rv A h (putD u d e)) (hd : 0 ≤ d ∧ d < 6) (O : drOK v t e) (ht : t ≤ 10100) (k : ∀ h2, RT T N A h2 → FR (Vw A) h h2 → Rv A h2 (putD u d (chE e)) → KV h2) : CV T N 230 [vr (some A), vi (J d)] h KV := by
  obtain ⟨o0, o1, o2, o3, o4, o5, o6, o7, o8, o9, o10, o11, o12, os, oa, ob, oc, ol⟩ := O
  unfold chE at k
  dsimp only at k
  refine z230 R.t (by omega) (r_ofD R V hd (by omega) ⟨by omega, fun c => ?_, fun c => ?_⟩)
  · rw [if_pos c] at k
    exact r_ofD R V hd (by omega) (r_setD R V hd (by omega) (by omega) fun h3 R3 F3 V3 => r_ofD R3 V3 hd (by omega) (by
      rw [up_ne (by omega)]
      exact r_setD R3 V3 hd (by omega) (by omega) fun h4 R4 F4 V4 => k h4 R4 (F3.tr F4) V4))
  · rw [if_neg c] at k
    exact r_ofD R V hd (by omega) (r_setD R V hd (by omega) (by omega) fun h3 R3 F3 V3 => r_ofD R3 V3 hd (by omega) (by
      rw [up_ne (by omega)]
      exact r_setD R3 V3 hd (by omega) (by omega) fun h4 R4 F4 V4 => k h4 R4 (F3.tr F4) V4))
theorem r_hovers (R : RT T N A h) (V : Rv A h (putD u d e)) (hd : 0 ≤ d ∧ d < 6) (O : drOK v t e) (ht : t ≤ 10100) (k : ∀ h2, RT T N A h2 → FR (Vw A) h h2 → Rv A h2 (putD u d (hoE e)) → KV h2) : CV T N 229 [vr (some A), vi (J d)] h KV := by
  obtain ⟨o0, o1, o2, o3, o4, o5, o6, o7, o8, o9, o10, o11, o12, os, oa, ob, oc, ol⟩ := O
  unfold hoE at k
  dsimp only at k
  refine z229 R.t (by omega) (r_ofD R V hd (by omega) ⟨fun c => ?_, fun c => ?_⟩)
  · rw [if_pos c] at k
    refine r_ofD R V hd (by omega) (r_setD R V hd (by omega) (by omega) fun h3 R3 F3 V3 => r_ofD R3 V3 hd (by omega) ?_)
    rw [up_ne (by omega)]
    refine r_setD R3 V3 hd (by omega) (by omega) fun h4 R4 F4 V4 => r_ofD R4 V4 hd (by omega) ⟨fun c2 => ?_, fun c2 => ?_⟩
    · rw [if_pos c2] at k
      exact r_loses R4 V4 hd fun h5 R5 F5 V5 => k h5 R5 ((F3.tr F4).tr F5) V5
    · rw [if_neg c2] at k
      exact k h4 R4 (F3.tr F4) V4
  · rw [if_neg c] at k
    refine r_ofD R V hd (by omega) ⟨fun c2 => ?_, fun c2 => absurd (by omega) c2⟩
    rw [if_pos c2] at k
    exact r_loses R V hd fun h5 R5 F5 V5 => k h5 R5 F5 V5
theorem FR.vw (F : FR (Vw A) h h2) : FR (RVw A) h h2 := F.mo fun _ _ z => Or.inl z
theorem FR.tw (F : FR (Vw A) h h2) : FR (Tw A) h h2 := F.mo fun _ _ z => Or.inl z
theorem FR.t2 (F : FR (Tw A) h h2) : FR (RVw A) h h2 := F.mo fun b k z => by unfold Tw at z; unfold RVw Scr; omega
theorem frA {k : Int} (F : FR (Vw A) h h2) : ai h2 A k = ai h A k := F.ai (by unfold Vw; omega)
end RTK
