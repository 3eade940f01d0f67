/-! DRONES: what the class's drones do to their part of a row -/
def up (e : Int → Int) (i x : Int) : Int → Int := fun j => if j = i then x else e j
theorem up_eq {e : Int → Int} {i j x : Int} (h : j = i) : up e i x j = x := if_pos h
theorem up_ne {e : Int → Int} {i j x : Int} (h : j ≠ i) : up e i x j = e j := if_neg h
/-- a new drone's part -/
def newE (p n en : Int) : Int → Int := fun j => if j = 0 then (if p = 1 then 0 else 1) else if j = 1 then en else if j = 3 then n else if j = 4 then -1 else if j = 6 then en else 0
/-- the legs that have started are kept -/
def aheadE (e : Int → Int) : Int := if e 0 = 2 then 1 else 0
def cutE (e : Int → Int) (g : Int) : Int → Int := up (up e 5 (aheadE e)) 4 g
def loseE (e : Int → Int) : Int → Int := up (up e 0 3) 5 0
def drainE (e : Int → Int) (m : Int) : Int → Int :=
  let l := if e 0 = 2 ∧ 0 < e 1 then 1 else 0
  let left := if e 1 - m < l then l else e 1 - m
  let e2 := up (up e 1 left) 12 (e 12 + e 1 - left)
  if e 0 = 1 ∧ left = 0 then loseE e2 else e2
def chE (e : Int → Int) : Int → Int :=
  let g := if 200 - e 1 < 3 then 200 - e 1 else 3
  up (up e 1 (e 1 + g)) 10 (e 10 + g)
def hoE (e : Int → Int) : Int → Int :=
  let e2 := if 0 < e 1 then up (up e 1 (e 1 - 1)) 9 (e 9 + 1) else e
  if e2 1 = 0 then loseE e2 else e2
/-- the first leg ends -/
def shE (e : Int → Int) : Int → Int := fun j => if j = 5 then e 5 - 1 else if 13 ≤ j ∧ j < 13 + (e 5 - 1) then e (j + 1) else e j
def absI (x : Int) : Int := if x < 0 then -x else x
def chgE (e : Int → Int) : Int := absI (e 13 / 32 % 4 - e 2)
def ownE (v e : Int → Int) : Int := costV v (e 13 % 16) (e 13 / 16 % 2)
def stE (v : Int → Int) (t : Int) (e : Int → Int) : Int → Int :=
  if e 0 < 2 ∧ 0 < e 5 ∧ e 13 / 128 = t then
    (if e 1 < chgE e + ownE v e then up (up e 5 0) 4 (-1)
     else up (up (up (up (up (up (up e 1 (e 1 - chgE e - ownE v e)) 7 (e 7 + ownE v e)) 8 (e 8 + chgE e)) 11 (e 11 + 1)) 0 2) 2 (e 13 / 32 % 4)) 3 (v (12 + 4 * (e 13 % 16) + (1 - e 13 / 16 % 2))))
  else e
/-- whether a leg that ends is the landing -/
def laE (v : Int → Int) (e : Int → Int) : Prop := ¬ (0 < e 5 - 1) ∧ e 3 = e 4 ∧ v (1 + e 3) = 1
section DRO
variable {T N : Nat → Nat} {h h2 : PH} {w a b : Nat} {v u e e2 : Int → Int} {t : Int} {K : Int → PH → Prop} {KV : PH → Prop}
theorem DrD.mk' (D : DT T N h a) (h41 : e 5 ≤ 41) (g : DrD v h a e) (s : ∀ b, a + 2 ≤ b → b < a + 44 → sm b h h2) (h5 : e2 5 ≤ e 5) (hl : ∀ i, 0 ≤ i → i < e2 5 → e2 (13 + i) = e (13 + i))
    (f : ai h2 a 0 = e2 0 ∧ ai h2 a 1 = e2 1 ∧ ai h2 a 2 = e2 2 ∧ ai h2 a 3 = e2 3 ∧ ai h2 a 4 = e2 4 ∧ ai h2 a 5 = e2 6 ∧ ai h2 a 6 = e2 12 ∧ ai h2 a 8 = e2 5) (su : ∀ k, 0 ≤ k → k < 5 → ai h2 (a + 1) k = e2 (7 + k)) : DrD v h2 a e2 := by
  refine ⟨f, su, fun i h1 h3 b hb => ?_⟩
  rw [(s (a + 2) (by omega) (by omega)).gr] at hb
  obtain ⟨b', e1, q2, q3, q4⟩ := D.at (i := i) (by omega)
  rw [e1] at hb
  have q := Option.some.inj hb
  rw [← q, hl i h1 h3]
  exact (g.2.2 i h1 (by omega) b' e1).fr (s b' (by omega) (by omega))
/-- only fields of the drone's own object were written -/
theorem DrD.fl (D : DT T N h a) (h41 : e 5 ≤ 41) (g : DrD v h a e) (F : Fp (fun x => x = a) h h2) (h5 : e2 5 ≤ e 5) (hl : ∀ i, 0 ≤ i → i < e2 5 → e2 (13 + i) = e (13 + i))
    (f : ai h2 a 0 = e2 0 ∧ ai h2 a 1 = e2 1 ∧ ai h2 a 2 = e2 2 ∧ ai h2 a 3 = e2 3 ∧ ai h2 a 4 = e2 4 ∧ ai h2 a 5 = e2 6 ∧ ai h2 a 6 = e2 12 ∧ ai h2 a 8 = e2 5) (su : ∀ k, 7 ≤ k → k < 12 → e2 k = e k) : DrD v h2 a e2 :=
  DrD.mk' D h41 g (fun b h1 h2 => F.1 b (by omega)) h5 hl f fun k h1 h3 => by rw [(F.1 (a + 1) (by omega)).ai, su _ (by omega) (by omega)]; exact g.2.1 k h1 h3
theorem In_of {x : Int} (h : -2147483648 ≤ x ∧ x < 2147483648) : In x := h
theorem fill_loop (ta : T a = 22) {x m : Int} (hx : In x) (hm : m = (N a : Int) ∧ m ≤ 100000) (k : ∀ h2, Fp (fun b => b = a) h h2 → gr h2 = gr h → (∀ j, 0 ≤ j → j < m → ai h2 a j = x) → KV h2) : ∀ (n : Nat) (i : Int) (h3 : PH), i = m - n → 0 ≤ i → Fp (fun b => b = a) h h3 → gr h3 = gr h → (∀ j, 0 ≤ j → j < i → ai h3 a j = x) → WV T N 254 5 [some (vr (some a)), some (vi (J x)), some (vi (J i)), some (vi (J m))] [] h3 KV := by
  intro n
  induction n with
  | zero =>
    intro i h3 hi h0 F g C
    refine z254_5 ta hx (by omega) (by omega) ⟨fun c => by omega, fun c => k h3 F g fun j a1 a2 => C j a1 (by omega)⟩
  | succ n ih =>
    intro i h3 hi h0 F g C
    refine z254_5 ta hx (by omega) (by omega) ⟨fun c => ⟨by omega, ?_⟩, fun c => absurd (by omega) c⟩
    intro h4 z; subst z
    refine ih (i + 1) _ (by omega) (by omega) (F.pw2 rfl) g fun j a1 a2 => ?_
    by_cases c2 : j = i
    · rw [rd_eq rfl c2 hx]
    · rw [rd_k c2 a1 h0]; exact C j a1 (by omega)
theorem d_fill (ta : T a = 22) {x : Int} (hx : In x) (hm : N a ≤ 100000) (k : ∀ h2, Fp (fun b => b = a) h h2 → gr h2 = gr h → (∀ j, 0 ≤ j → j < (N a : Int) → ai h2 a j = x) → KV h2) : CV T N 254 [vr (some a), vi (J x)] h KV :=
  z254 (by omega) hx (fill_loop ta hx ⟨rfl, by omega⟩ k (N a) 0 h (by omega) (by omega) Fp.rf rfl fun j a1 a2 => by omega)
theorem d_setUp (D : DT T N h a) {n p en : Int} (hn : In n) (hp : p = 0 ∨ p = 1) (he : In en) (k : ∀ h2, Fp (fun x => a ≤ x ∧ x < a + 44) h h2 → gr h2 = gr h → DrD v h2 a (newE p n en) → KV h2) : CV T N 15 [vr (some a), vi (J n), vi (J p), vi (J en)] h KV := by
  have n1 := D.su.2.1
  have main : ∀ st : Int, st = (if p = 1 then 0 else 1) → ∀ h3, h3 = wi (wi (wi (wi (wi (wi (wi h a 0 st) a 1 en) a 2 0) a 3 n) a 4 (-1)) a 5 en) a 6 0 → CV T N 254 [vr (gr h3 a 7), vi (J 0)] h3 (fun h4 => ∀ h5, h5 = wi h4 a 8 0 → KV h5) := by
    intro st hst h3 e3
    have hs : In st := by rw [hst]; split <;> decide
    have g3 : gr h3 = gr h := by subst e3; rfl
    have F3 : Fp (fun x => x = a) h h3 := by subst e3; exact Fp.pw2 (Fp.pw2 (Fp.pw2 (Fp.pw2 (Fp.pw2 (Fp.pw2 (Fp.pw rfl) rfl) rfl) rfl) rfl) rfl) rfl
    rw [g3, D.su.2.2]
    refine d_fill D.su.1 (by decide) (by omega) fun h4 F4 g4 C => ?_
    intro h5 z; subst z
    have s4 := F4.1 a (by omega)
    refine k _ (((F3.mo fun x e => by omega).tr (F4.mo fun x e => by omega)).tr (Fp.pw (by omega))) (g4.trans g3) ⟨?_, fun j h1 h2 => ?_, fun i h1 h2 => ?_⟩
    · refine ⟨?_, ?_, ?_, ?_, ?_, ?_, ?_, ?_⟩
      · rw [rd_k (by omega) (by omega) (by omega), s4.ai]; subst e3; simp (disch := first | omega | exact ai_in _ _ _ | exact zor_in _ _) only [rd_eq, rd_a, rd_k]; exact hst
      · rw [rd_k (by omega) (by omega) (by omega), s4.ai]; subst e3; simp (disch := first | omega | exact ai_in _ _ _ | exact zor_in _ _) only [rd_eq, rd_a, rd_k]; rfl
      · rw [rd_k (by omega) (by omega) (by omega), s4.ai]; subst e3; simp (disch := first | omega | exact ai_in _ _ _ | exact zor_in _ _) only [rd_eq, rd_a, rd_k]; rfl
      · rw [rd_k (by omega) (by omega) (by omega), s4.ai]; subst e3; simp (disch := first | omega | exact ai_in _ _ _ | exact zor_in _ _) only [rd_eq, rd_a, rd_k]; rfl
      · rw [rd_k (by omega) (by omega) (by omega), s4.ai]; subst e3; simp (disch := first | omega | exact ai_in _ _ _ | exact zor_in _ _) only [rd_eq, rd_a, rd_k]; rfl
      · rw [rd_k (by omega) (by omega) (by omega), s4.ai]; subst e3; simp (disch := first | omega | exact ai_in _ _ _ | exact zor_in _ _) only [rd_eq, rd_a, rd_k]; rfl
      · rw [rd_k (by omega) (by omega) (by omega), s4.ai]; subst e3; simp (disch := first | omega | exact ai_in _ _ _ | exact zor_in _ _) only [rd_eq, rd_a, rd_k]; rfl
      · rw [rd_eq rfl rfl (by omega)]; rfl
    · rw [rd_a (by omega), C j h1 (by omega)]
      unfold newE
      rw [if_neg (by omega), if_neg (by omega), if_neg (by omega), if_neg (by omega), if_neg (by omega)]
    · have : newE p n en 5 = 0 := rfl
      omega
  refine z15 D.t hn (by omega) he ⟨fun c => ?_, fun c => ?_⟩
  · intro h3 z; subst z; intro h3 z; subst z; intro h3 z; subst z; intro h3 z; subst z; intro h3 z; subst z; intro h3 z; subst z; intro h3 z
    exact main 1 (by rw [if_neg (by omega)]) h3 z
  · intro h3 z; subst z; intro h3 z; subst z; intro h3 z; subst z; intro h3 z; subst z; intro h3 z; subst z; intro h3 z; subst z; intro h3 z
    exact main 0 (by rw [if_pos (by omega)]) h3 z
theorem d_cutLegs (D : DT T N h a) (O : drOK v t e) (g : DrD v h a e) (k : ∀ h2, Fp (fun x => x = a) h h2 → gr h2 = gr h → DrD v h2 a (up e 5 (aheadE e)) → K (e 5 - aheadE e) h2) : ZI T N 22 [vr (some a)] h K := by
  obtain ⟨⟨g0, g1, g2, g3, g4, g5, g6, g8⟩, gs, gl⟩ := id g
  obtain ⟨o0, o1, o2, o3, o4, o5, o6, o7, o8, o9, o10, o11, o12, os, oa, ob, oc, ol⟩ := id O
  have ea : (if ai h a 0 = 2 ∧ 0 < ai h a 8 then (1 : Int) else 0) = aheadE e := by
    unfold aheadE
    by_cases c : e 0 = 2
    · rw [if_pos (by omega), if_pos c]
    · rw [if_neg (by omega), if_neg c]
  have hb : 0 ≤ aheadE e ∧ aheadE e ≤ 1 ∧ aheadE e ≤ e 5 := by
    unfold aheadE
    by_cases c : e 0 = 2
    · have := oc c; rw [if_pos c]; omega
    · rw [if_neg c]; omega
  refine z22 D.t (d_legsBegun D ?_)
  rw [ea]
  intro h3 z; subst z
  rw [show ai h a 8 - (ai h a 8 - aheadE e) = aheadE e by omega, g8]
  refine ⟨by omega, k _ (Fp.pw rfl) rfl (DrD.fl D o5.2 g (Fp.pw rfl) ?_ (fun i h1 h2 => up_ne (by omega)) ?_ fun k h1 h2 => up_ne (by omega))⟩
  · rw [up_eq rfl]; omega
  · exact ⟨by simp (disch := first | omega | exact ai_in _ _ _) only [rd_eq, rd_a, rd_k, up_eq, up_ne, g0], by simp (disch := first | omega | exact ai_in _ _ _) only [rd_eq, rd_a, rd_k, up_eq, up_ne, g1], by simp (disch := first | omega | exact ai_in _ _ _) only [rd_eq, rd_a, rd_k, up_eq, up_ne, g2], by simp (disch := first | omega | exact ai_in _ _ _) only [rd_eq, rd_a, rd_k, up_eq, up_ne, g3], by simp (disch := first | omega | exact ai_in _ _ _) only [rd_eq, rd_a, rd_k, up_eq, up_ne, g4], by simp (disch := first | omega | exact ai_in _ _ _) only [rd_eq, rd_a, rd_k, up_eq, up_ne, g5], by simp (disch := first | omega | exact ai_in _ _ _) only [rd_eq, rd_a, rd_k, up_eq, up_ne, g6], by simp (disch := first | omega | exact ai_in _ _ _) only [rd_eq, rd_a, rd_k, up_eq, up_ne, g8]⟩
end DRO
