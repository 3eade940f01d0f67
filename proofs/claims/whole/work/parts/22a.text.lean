/-! TEXTS: entries, where they end, where they fail -/
def hrT (tx : Int → Int) (tn q : Int) : Int := if q < tn then tx q else -1
def lk (k x : Int) : Prop := if k = 35 then 48 ≤ x ∧ x ≤ 57 else if k = 43 then 49 ≤ x ∧ x ≤ 57 else x = k
def sOf (c : Int) : Nat := if c = 99 then 1 else if c = 100 then 2 else if c = 110 then 0 else if c = 112 then 0 else if c = 116 then 3 else 4
def okE (tx : Int → Int) (tn p : Int) : Prop := sOf (hrT tx tn p) < 4 ∧ ∀ i, 0 ≤ i → i < txl (sOf (hrT tx tn p)) → lk (txc (sOf (hrT tx tn p)) i) (hrT tx tn (p + 1 + i))
def erE (tx : Int → Int) (tn p e : Int) : Prop := (sOf (hrT tx tn p) = 4 ∧ e = p) ∨ (sOf (hrT tx tn p) < 4 ∧ ∃ i, 0 ≤ i ∧ i < txl (sOf (hrT tx tn p)) ∧ e = p + 1 + i ∧ ¬ lk (txc (sOf (hrT tx tn p)) i) (hrT tx tn (p + 1 + i)) ∧ ∀ j, 0 ≤ j → j < i → lk (txc (sOf (hrT tx tn p)) j) (hrT tx tn (p + 1 + j)))
def psT (tx : Int → Int) (tn : Int) : Nat → Int
  | 0 => 0
  | m + 1 => psT tx tn m + txl (sOf (hrT tx tn (psT tx tn m))) + 1
def GE (tx : Int → Int) (tn : Int) (m : Nat) : Prop := (m = 0 ∨ psT tx tn m < tn) ∧ okE tx tn (psT tx tn m)
/-- a text with m entries; a text that fails at e -/
def TXok (tx : Int → Int) (tn : Int) (m : Nat) : Prop := 1 ≤ m ∧ (∀ j : Nat, j < m → GE tx tn j) ∧ ¬ psT tx tn m < tn
def TXer (tx : Int → Int) (tn e : Int) : Prop := ∃ m : Nat, (∀ j : Nat, j < m → GE tx tn j) ∧ (m = 0 ∨ psT tx tn m < tn) ∧ erE tx tn (psT tx tn m) e
section TXT
variable {T N : Nat → Nat} {a : Nat} {h h0 h1 h2 h3 : PH} {tx : Int → Int} {tn p q e e2 i j k x y c : Int} {m m2 s : Nat} {K : Int → PH → Prop} {KS : Nat → PH → Prop}
theorem txl_s : txl 0 = 1 ∧ txl 1 = 6 ∧ txl 2 = 2 ∧ txl 3 = 2 ∧ txl 4 = 0 := by decide +kernel
theorem txc_s : txc 0 0 = 59 ∧ (txc 1 0 = 35 ∧ txc 1 1 = 45 ∧ txc 1 2 = 35 ∧ txc 1 3 = 42 ∧ txc 1 4 = 43 ∧ txc 1 5 = 59) ∧ (txc 2 0 = 35 ∧ txc 2 1 = 59) ∧ (txc 3 0 = 43 ∧ txc 3 1 = 59) := by decide +kernel
theorem sOf_4 : sOf c ≤ 4 := by unfold sOf; split; omega; split; omega; split; omega; split; omega; split <;> omega
theorem txl_b (hs : s ≤ 4) : 0 ≤ txl s ∧ txl s ≤ 6 ∧ (s < 4 → 1 ≤ txl s) := by
  have t := txl_s
  rcases (show s = 0 ∨ s = 1 ∨ s = 2 ∨ s = 3 ∨ s = 4 by omega) with z | z | z | z | z <;> subst z <;> omega
theorem txc_b (hs : s < 4) (hi : 0 ≤ i ∧ i < txl s) : 35 ≤ txc s i ∧ txc s i ≤ 59 := by
  have t := txl_s
  have u := txc_s
  rcases (show s = 0 ∨ s = 1 ∨ s = 2 ∨ s = 3 by omega) with z | z | z | z <;> subst z
  · rw [show i = 0 by omega]; omega
  · rcases (show i = 0 ∨ i = 1 ∨ i = 2 ∨ i = 3 ∨ i = 4 ∨ i = 5 by omega) with z | z | z | z | z | z <;> subst z <;> omega
  · rcases (show i = 0 ∨ i = 1 by omega) with z | z <;> subst z <;> omega
  · rcases (show i = 0 ∨ i = 1 by omega) with z | z <;> subst z <;> omega
theorem lk_m1 (hk : 35 ≤ k) : ¬ lk k (-1) := by
  unfold lk
  split
  · omega
  · split <;> omega
theorem hr_lt (h : sOf (hrT tx tn p) < 4) : p < tn := by
  unfold hrT at h
  by_cases c : p < tn
  · exact c
  · rw [if_neg c] at h; exact absurd h (by decide)
theorem okE_end (h : okE tx tn p) : p + txl (sOf (hrT tx tn p)) + 1 ≤ tn ∧ p < tn ∧ 1 ≤ txl (sOf (hrT tx tn p)) := by
  obtain ⟨h1, h2⟩ := h
  have b := txl_b (s := sOf (hrT tx tn p)) sOf_4
  have b1 := b.2.2 h1
  have g := h2 (txl (sOf (hrT tx tn p)) - 1) (by omega) (by omega)
  have cb := txc_b h1 (i := txl (sOf (hrT tx tn p)) - 1) (by omega)
  refine ⟨?_, hr_lt h1, b1⟩
  by_cases c : p + 1 + (txl (sOf (hrT tx tn p)) - 1) < tn
  · omega
  · rw [show hrT tx tn (p + 1 + (txl (sOf (hrT tx tn p)) - 1)) = -1 from if_neg c] at g
    exact absurd g (lk_m1 cb.1)
theorem erE.un (h : erE tx tn p e) (g : erE tx tn p e2) : e = e2 := by
  rcases h with ⟨h1, h2⟩ | ⟨h1, i, h2, h3, h4, h5, h6⟩ <;> rcases g with ⟨g1, g2⟩ | ⟨g1, j, g2, g3, g4, g5, g6⟩
  · rw [h2, g2]
  · omega
  · omega
  · by_cases c1 : i < j
    · exact absurd (g6 i h2 c1) h5
    · by_cases c2 : j < i
      · exact absurd (h6 j g2 c2) g5
      · omega
theorem erE.no (h : erE tx tn p e) (g : okE tx tn p) : False := by
  rcases h with ⟨h1, h2⟩ | ⟨h1, i, h2, h3, h4, h5, h6⟩
  · have := g.1; omega
  · exact h5 (g.2 i h2 h3)
theorem TXer.un (h : TXer tx tn e) (g : TXer tx tn e2) : e = e2 := by
  obtain ⟨m, h1, h2, h3⟩ := h
  obtain ⟨m2, g1, g2, g3⟩ := g
  by_cases c1 : m < m2
  · exact (h3.no (g1 m c1).2).elim
  · by_cases c2 : m2 < m
    · exact (g3.no (h1 m2 c2).2).elim
    · have em : m = m2 := by omega
      subst em
      exact h3.un g3
theorem TX_no (h : TXer tx tn e) (g : TXok tx tn m) : False := by
  obtain ⟨m2, h1, h2, h3⟩ := h
  obtain ⟨g1, g2, g3⟩ := g
  by_cases c1 : m2 < m
  · exact h3.no (g2 m2 c1).2
  · by_cases c2 : m < m2
    · have := (h1 m c2).1
      rcases this with z | z
      · omega
      · exact g3 z
    · have em : m = m2 := by omega
      subst em
      rcases h2 with z | z
      · omega
      · exact g3 z
theorem TXok.un (h : TXok tx tn m) (g : TXok tx tn m2) : m = m2 := by
  obtain ⟨h1, h2, h3⟩ := h
  obtain ⟨g1, g2, g3⟩ := g
  by_cases c1 : m < m2
  · rcases (g2 m c1).1 with z | z
    · omega
    · exact absurd z h3
  · by_cases c2 : m2 < m
    · rcases (h2 m2 c2).1 with z | z
      · omega
      · exact absurd z g3
    · omega
theorem psT_b (ht : 0 ≤ tn) : ∀ m : Nat, (∀ j : Nat, j < m → GE tx tn j) → 2 * (m : Int) ≤ psT tx tn m ∧ psT tx tn m ≤ tn
  | 0, _ => ⟨Int.le_refl 0, ht⟩
  | m + 1, g => by
    have ih := psT_b ht m fun j hj => g j (by omega)
    have o := okE_end (g m (by omega)).2
    have e : psT tx tn (m + 1) = psT tx tn m + txl (sOf (hrT tx tn (psT tx tn m))) + 1 := rfl
    omega
/-- the class's input -/
def INP (T N : Nat → Nat) (h : PH) (a : Nat) (tx : Int → Int) (tn : Int) : Prop := T a = 6 ∧ gr h a 1 = some (a + 1) ∧ T (a + 1) = 23 ∧ N (a + 1) = 60 ∧ ai h a 0 = tn ∧ (0 ≤ tn ∧ tn ≤ 60) ∧ ∀ i, 0 ≤ i → i < tn → ai h (a + 1) i = tx i ∧ 32 ≤ tx i ∧ tx i ≤ 126
theorem d_sign (P : INP T N h a tx tn) (hq : 0 ≤ q ∧ q < 2147483648) (k : K (if q < tn then tx q else 32) h) : ZI T N 49 [vr (some a), vi (J q)] h K := by
  obtain ⟨t0, g1, t1, n1, e0, tb, e1⟩ := P
  refine z49 t0 (by omega) ⟨fun z => by omega, fun _ => ?_⟩
  rw [e0]
  refine ⟨fun c => ⟨a + 1, g1, by omega, by omega, fun _ => ⟨a + 1, g1, t1, by omega, ?_, ?_⟩, fun z => absurd (by omega) z⟩, fun c => ⟨by decide, ?_⟩⟩
  · have := e1 q hq.1 c; omega
  · rw [(e1 q hq.1 c).1]; rw [if_pos c] at k; exact k
  · rw [if_neg c] at k; exact k
theorem d_rest (P : INP T N h a tx tn) (hq : 0 ≤ q ∧ q < tn) (k : KS (sOf (hrT tx tn q)) h) : CS T N 51 [vr (some a), vi (J q)] h KS := by
  have tb := P.2.2.2.2.2.1
  refine z51 P.1 (by omega) (d_sign P (by omega) ?_)
  have e : hrT tx tn q = tx q := if_pos hq.2
  rw [if_pos hq.2]
  rw [e] at k
  unfold sOf at k
  refine ⟨fun c => ?_, fun c => ⟨fun c2 => ?_, fun c2 => ⟨fun c3 => ?_, fun c3 => ⟨fun c4 => ?_, fun c4 => ⟨fun c5 => ?_, fun c5 => ?_⟩⟩⟩⟩⟩
  · rw [if_pos c] at k; exact k
  · rw [if_neg c, if_pos c2] at k; exact k
  · rw [if_neg c, if_neg c2, if_pos c3] at k; exact k
  · rw [if_neg c, if_neg c2, if_neg c3, if_pos c4] at k; exact k
  · rw [if_neg c, if_neg c2, if_neg c3, if_neg c4, if_pos c5] at k; exact k
  · rw [if_neg c, if_neg c2, if_neg c3, if_neg c4, if_neg c5] at k; exact k
theorem d_like (hk : In k) (hx : In x) (k1 : lk k x → K 1 h) (k0 : ¬ lk k x → K 0 h) : ZI T N 53 [vi (J k), vi (J x)] h K := by
  unfold lk at k1 k0
  refine z53 hk hx ⟨fun c => ?_, fun c => ⟨fun c2 => ?_, fun c2 => ?_⟩⟩
  · rw [if_pos c] at k1 k0
    exact ⟨fun z => k0 (by omega), fun z => ⟨fun z2 => k0 (by omega), fun z2 => k1 (by omega)⟩⟩
  · rw [if_neg c, if_pos c2] at k1 k0
    exact ⟨fun z => k0 (by omega), fun z => ⟨fun z2 => k0 (by omega), fun z2 => k1 (by omega)⟩⟩
  · rw [if_neg c, if_neg c2] at k1 k0
    exact ⟨k1, k0⟩
theorem d_fe27 (P : INP T N h a tx tn) (hp : 0 ≤ p ∧ p < tn) (hs : s = sOf (hrT tx tn p)) (h4 : s < 4) (ke : ∀ e, erE tx tn p e → K e h) (ko : okE tx tn p → ZW T N 52 2 [some (vr (some a)), some (vi (J (p + txl s + 1))), none, none] [] h K) : ∀ (m i : Nat), (i : Int) + m = txl s → (∀ j, 0 ≤ j → j < (i : Int) → lk (txc s j) (hrT tx tn (p + 1 + j))) → ZW T N 52 27 [some (vr (some a)), some (vi (J (p + i))), some (vs s), some (vi (J (i : Int)))] [] h K := by
  have tb := P.2.2.2.2.2.1
  have e0 := P.2.2.2.2.1
  have sl := txl_b (s := s) (by omega)
  subst hs
  intro m
  induction m with
  | zero =>
    intro i hi g
    have lb := txl_b (s := sOf (hrT tx tn p)) (by omega)
    refine z52_27 P.1 (by omega) (by omega) ⟨by omega, by omega, fun z => by omega, fun _ => ?_⟩
    rw [show p + (i : Int) + 1 = p + txl (sOf (hrT tx tn p)) + 1 by omega]
    exact ko ⟨h4, fun j j1 j2 => g j j1 (by omega)⟩
  | succ m ih =>
    intro i hi g
    have cb := txc_b h4 (i := (i : Int)) (by omega)
    refine z52_27 P.1 (by omega) (by omega) ⟨by omega, by omega, fun _ => ⟨by omega, ?_⟩, fun z => absurd (by omega) z⟩
    rw [e0]
    have err : ¬ lk (txc (sOf (hrT tx tn p)) i) (hrT tx tn (p + 1 + i)) → K (p + i + 1) h := fun z => ke _ (Or.inr ⟨h4, i, by omega, by omega, by omega, z, g⟩)
    refine ⟨fun c => ⟨⟨by omega, by omega, by omega, by omega⟩, d_sign P (by omega) ?_⟩, fun c => err ?_⟩
    · rw [if_pos c]
      have eh : hrT tx tn (p + 1 + i) = tx (p + i + 1) := by
        unfold hrT; rw [if_pos (by omega), show p + 1 + (i : Int) = p + i + 1 by omega]
      have xb := (P.2.2.2.2.2.2 (p + i + 1) (by omega) c).2
      refine d_like (by omega) (by omega) (fun z => ⟨(fun z => absurd z (by decide)), fun _ => ?_⟩) (fun z => ⟨fun _ => err (by rw [eh]; exact z), (fun z => absurd rfl z)⟩)
      have := ih (i + 1) (by omega) fun j j1 j2 => by
        by_cases cj : j = i
        · rw [cj, eh]; exact z
        · exact g j j1 (by omega)
      rw [show p + ((i + 1 : Nat) : Int) = p + i + 1 by omega, show ((i + 1 : Nat) : Int) = (i : Int) + 1 by omega] at this
      exact this
    · rw [show hrT tx tn (p + 1 + i) = -1 from if_neg (by omega)]
      exact lk_m1 cb.1
theorem d_findError (P : INP T N h a tx tn) (ke : ∀ e, TXer tx tn e → K e h) (ko : ∀ m, TXok tx tn m → K (-1) h) : ZI T N 52 [vr (some a)] h K := by
  have tb := P.2.2.2.2.2.1
  have e0 := P.2.2.2.2.1
  have go : ∀ (f m : Nat), tn - psT tx tn m ≤ f → (∀ j : Nat, j < m → GE tx tn j) → ZW T N 52 2 [some (vr (some a)), some (vi (J (psT tx tn m))), none, none] [] h K := by
    intro f
    induction f with
    | zero =>
      intro m hm g
      have pb := psT_b tb.1 m g
      refine z52_2 P.1 (by omega) ⟨fun z => by omega, fun z => ?_⟩
      rw [e0]
      refine ⟨fun c => ke 0 ⟨0, fun j hj => absurd hj (Nat.not_lt_zero _), Or.inl rfl, Or.inl ⟨?_, rfl⟩⟩, fun c => ko m ⟨?_, g, by omega⟩⟩
      · rw [show hrT tx tn (psT tx tn 0) = -1 from if_neg (show ¬ (0 : Int) < tn by omega)]; rfl
      · by_cases c0 : m = 0
        · subst c0
          have : psT tx tn 0 = 0 := rfl
          omega
        · omega
    | succ f ih =>
      intro m hm g
      have pb := psT_b tb.1 m g
      refine z52_2 P.1 (by omega) ⟨fun z => ?_, fun z => ?_⟩
      · rw [e0] at z
        refine d_rest P (by omega) ?_
        have s4 := sOf_4 (c := hrT tx tn (psT tx tn m))
        have lb := txl_b s4
        have er : ∀ e, erE tx tn (psT tx tn m) e → K e h := fun e he => ke e ⟨m, g, Or.inr z, he⟩
        refine ⟨by omega, by split <;> decide, fun c => ?_, fun c => ?_⟩
        · have h4 : sOf (hrT tx tn (psT tx tn m)) < 4 := by
            refine Classical.byContradiction fun n4 => ?_
            have e4 : sOf (hrT tx tn (psT tx tn m)) = 4 := by omega
            rw [e4, if_pos txl_s.2.2.2.2] at c
            exact absurd c (by decide)
          have := d_fe27 (K := K) P (p := psT tx tn m) (by omega) rfl h4 er (fun ok => by
            have o := okE_end ok
            exact ih (m + 1) (by show tn - (psT tx tn m + txl (sOf (hrT tx tn (psT tx tn m))) + 1) ≤ f; omega) fun j hj => by
              by_cases cj : j = m
              · rw [cj]; exact ⟨Or.inr z, ok⟩
              · exact g j (by omega)) (txl (sOf (hrT tx tn (psT tx tn m)))).toNat 0 (by omega) fun j j1 j2 => by omega
          rw [show psT tx tn m + ((0 : Nat) : Int) = psT tx tn m by omega] at this
          exact this
        · have e4 : sOf (hrT tx tn (psT tx tn m)) = 4 := by
            refine Classical.byContradiction fun n4 => c (if_neg ?_)
            have := lb.2.2 (by omega)
            omega
          exact er _ (Or.inl ⟨e4, rfl⟩)
      · rw [e0] at z
        rw [e0]
        refine ⟨fun c => ke 0 ⟨0, fun j hj => absurd hj (Nat.not_lt_zero _), Or.inl rfl, Or.inl ⟨?_, rfl⟩⟩, fun c => ko m ⟨?_, g, z⟩⟩
        · rw [show hrT tx tn (psT tx tn 0) = -1 from if_neg (show ¬ (0 : Int) < tn by omega)]; rfl
        · by_cases c0 : m = 0
          · subst c0
            have : psT tx tn 0 = 0 := rfl
            omega
          · omega
  exact z52 (go tn.toNat 0 (by show tn - 0 ≤ _; omega) fun j hj => absurd hj (Nat.not_lt_zero _))
end TXT
