/-! WORLDS: a tick of all drones -/
def sumI (f : Int → Int) : Nat → Int
  | 0 => 0
  | n + 1 => sumI f n + f n
def tick1 (v : Int → Int) : Int → Int := fun j => if j = 448 then v 448 + 1 else if 118 ≤ j ∧ j < 118 + 55 * v 117 then tickE v (v 448) (rc v ((j - 118) / 55)) ((j - 118) % 55) else v j
def lan1 (v : Int → Int) (d : Int) : Int := lanE v (v 448 + 1) (stE v (v 448) (rc v d))
def tickN (v : Int → Int) : Nat → Int → Int
  | 0 => v
  | n + 1 => tick1 (tickN v n)
def lanN (v : Int → Int) : Nat → Int
  | 0 => 0
  | n + 1 => lanN v n + sumI (lan1 (tickN v n)) (tickN v n 117).toNat
section TKS
variable {T N : Nat → Nat} {h h2 : PH} {w a b : Nat} {v u e e2 : Int → Int} {t : Int} {K : Int → PH → Prop} {KV : PH → Prop}
theorem WO.dro (W : WO T N h w) (s : ∀ b, w ≤ b → b < w + 30 → ∀ k, gr h2 b k = gr h b k) (g : ∀ d : Nat, d < 6 → DT T N h2 (w + 30 + 44 * d)) : WO T N h2 w := by
  have s0 := s w (by omega) (by omega)
  refine ⟨W.t, ?_, ?_, ?_, fun c hc => ?_, fun c hc => ?_, fun d hd => ⟨?_, g d hd⟩⟩
  · rw [s0]; exact W.co
  · rw [s0]; exact W.fe
  · rw [s0]; exact W.dr
  · rw [s (w + 1) (by omega) (by omega)]; exact W.2.2.2.2.1 c hc
  · rw [s (w + 2) (by omega) (by omega)]; exact W.2.2.2.2.2.1 c hc
  · rw [s (w + 3) (by omega) (by omega)]; exact (W.2.2.2.2.2.2 d hd).1
theorem lanE_b : lanE v t e = 0 ∨ lanE v t e = 1 := by unfold lanE; split; exact Or.inr rfl; exact Or.inl rfl
theorem sumI_b {f : Int → Int} (hf : ∀ n, f n = 0 ∨ f n = 1) : ∀ n : Nat, 0 ≤ sumI f n ∧ sumI f n ≤ n
  | 0 => ⟨Int.le_refl 0, Int.le_refl 0⟩
  | n + 1 => by
    have := sumI_b hf n
    have g := hf n
    unfold sumI
    omega
theorem tick1_rc {d k : Int} (hd : 0 ≤ d ∧ d < v 117) (hk : 0 ≤ k ∧ k < 55) (h6 : v 117 ≤ 6) : rc (tick1 v) d k = tickE v (v 448) (rc v d) k := by
  unfold rc tick1
  rw [if_neg (by omega), if_pos (by omega), show (118 + 55 * d + k - 118) / 55 = d by omega, show (118 + 55 * d + k - 118) % 55 = k by omega]
  rfl
theorem tick1_lo {j : Int} (hj : j < 118) : tick1 v j = v j := by unfold tick1; rw [if_neg (by omega), if_neg (by omega)]
theorem tick1_Iv (I : Iv v) (ht : v 448 < 10000) : Iv (tick1 v) := by
  have b := I.b
  have e0 := tick1_lo (v := v) (j := 0) (by omega); have e11 := tick1_lo (v := v) (j := 11) (by omega); have e76 := tick1_lo (v := v) (j := 76) (by omega); have e117 := tick1_lo (v := v) (j := 117) (by omega)
  have e448 : tick1 v 448 = v 448 + 1 := rfl
  refine ⟨by omega, fun n h1 h2 => ?_, I.cs (by omega) (fun j a1 a2 => (tick1_lo (by omega)).symm), I.fs (by omega) (fun j a1 a2 => (tick1_lo (by omega)).symm), fun d h1 h2 => ?_⟩
  · rw [tick1_lo (by omega)]; exact I.p h1 (by omega)
  · rw [e448]
    exact drOK_cg (by omega) (by omega) (fun j a1 a2 a3 => (tick1_lo (by omega)).symm) (fun j a1 a2 => (tick1_rc ⟨h1, by omega⟩ ⟨a1, a2⟩ (by omega)).symm) (tickE_OK I (I.d h1 (by omega)) (by omega))
theorem tickN_Iv (I : Iv v) : ∀ n : Nat, v 448 + n ≤ 10000 → Iv (tickN v n) ∧ tickN v n 448 = v 448 + n ∧ (∀ j, j < 118 → tickN v n j = v j)
  | 0, _ => ⟨I, by show v 448 = _; omega, fun _ _ => rfl⟩
  | n + 1, hn => by
    obtain ⟨I1, e1, e2⟩ := tickN_Iv I n (by omega)
    refine ⟨tick1_Iv I1 (by omega), ?_, fun j hj => ?_⟩
    · show tickN v n 448 + 1 = _; omega
    · show tick1 (tickN v n) j = _; rw [tick1_lo hj]; exact e2 j hj
/-- the drones one behind the other -/
theorem tick_loop (W : Wo T N h w v) (I : Iv v) (ht : v 448 < 10000) {x1 x2 x3 : Int} (hx1 : In x1) (hx2 : 0 ≤ x2 ∧ x2 ≤ 100000) (hx3 : In x3)
    (k : ∀ h2, Fp (fun x => w ≤ x ∧ x < w + 294) h h2 → Wo T N h2 w (tick1 v) → ZW T N 103 4 [some (vr (some w)), some (vi (J x1)), some (vi (J (x2 + sumI (lan1 v) (v 117).toNat))), some (vi (J (x3 + 1))), none, none] [] h2 K) :
    ∀ (n : Nat) (i : Nat) (h3 : PH), (i : Int) = v 117 - n → Fp (fun x => w + 30 ≤ x ∧ x < w + 294) h h3 → (∀ d : Nat, d < 6 → DT T N h3 (w + 30 + 44 * d)) → (∀ d : Int, 0 ≤ d → d < v 117 → DrD v h3 (dA w d) (if d < i then tickE v (v 448) (rc v d) else rc v d)) →
      ZW T N 103 12 [some (vr (some w)), some (vi (J x1)), some (vi (J (x2 + sumI (lan1 v) i))), some (vi (J x3)), some (vi (J (i : Int))), none] [] h3 K := by
  have b := I.b
  obtain ⟨b0, b1, b3, b4, b5⟩ := W.b
  intro n
  induction n with
  | zero =>
    intro i h3 hi F G C
    have sb := sumI_b (f := lan1 v) (fun n => lanE_b) i
    have s0 := F.1 w (by omega)
    have e5 : ai h3 w 5 = v 117 := by rw [s0.ai]; exact b5
    have e0 : ai h3 w 0 = v 448 := by rw [s0.ai]; exact b0
    refine z103_12 W.o.t hx1 (by omega) hx3 (by omega) ⟨fun c => by omega, fun c => ?_⟩
    intro h4 z4
    rw [e0] at z4
    have F4 : Fp (fun x => x = w ∨ (w + 30 ≤ x ∧ x < w + 294)) h h4 := by subst z4; exact (F.mo fun x e => Or.inr e).tr (Fp.pw (Or.inl rfl))
    have F34 : Fp (fun x => x = w) h3 h4 := by subst z4; exact Fp.pw rfl
    have lo : ∀ j, j < 118 → v j = tick1 v j := fun j hj => (tick1_lo hj).symm
    have l0 := lo 0 (by omega); have l11 := lo 11 (by omega); have l76 := lo 76 (by omega); have l117 := lo 117 (by omega)
    rw [show i = (v 117).toNat by omega]
    refine k h4 (F4.mo fun x e => by omega) ⟨W.o.dro (h2 := h4) (fun b h1 h2 => ?_) (fun d hd => (G d hd).to (by subst z4; rfl)), ?_, ?_, W.cs I (fun b e1 e2 => F4.1 b (by omega)) fun j a1 a2 => lo j (by omega), W.fs I (fun b e1 e2 => F4.1 b (by omega)) fun j a1 a2 => lo j (by omega), fun d h1 h2 => ?_⟩
    · intro k2
      have : gr h4 = gr h3 := by subst z4; rfl
      rw [this]; exact (F.1 b (by omega)).gr k2
    · subst z4
      rw [rd_eq rfl rfl (by omega), rd_k (by omega) (by omega) (by omega), rd_k (by omega) (by omega) (by omega), rd_k (by omega) (by omega) (by omega), rd_k (by omega) (by omega) (by omega), s0.ai, s0.ai, s0.ai, s0.ai, ← l0, ← l11, ← l76, ← l117]
      exact ⟨rfl, b1, b3, b4, b5⟩
    · have : ai h4 w 2 = ai h w 2 := by subst z4; rw [rd_k (by omega) (by omega) (by omega), s0.ai]
      rw [this]; exact padsR_cg l0 (fun n a1 a2 => lo _ (by omega)) W.p
    · have D := C d h1 (by omega)
      rw [if_pos (by omega)] at D
      have OK := tickE_OK I (I.d h1 (by omega)) (by omega)
      have D4 := D.fr (T := T) (N := N) (h2 := h4) (fun b q1 q2 => F34.1 b (by unfold dA at q1; omega)) (by have := G d.toNat (by omega); exact this) OK.2.2.2.2.2.1.2
      exact DrD_cl OK (fun j a1 a2 a3 => lo j (by omega)) (fun j a1 a2 => (tick1_rc ⟨h1, by omega⟩ ⟨a1, a2⟩ (by omega)).symm) D4
  | succ n ih =>
    intro i h3 hi F G C
    have sb := sumI_b (f := lan1 v) (fun n => lanE_b) i
    have s0 := F.1 w (by omega)
    have e5 : ai h3 w 5 = v 117 := by rw [s0.ai]; exact b5
    have e0 : ai h3 w 0 = v 448 := by rw [s0.ai]; exact b0
    have W3 : WO T N h3 w := W.o.dro (fun b h1 h2 => (F.1 b (by omega)).gr) G
    have Dt : DT T N h3 (dA w i) := G i (by omega)
    have Dd := C i (by omega) (by omega)
    rw [if_neg (by omega)] at Dd
    have As : Asks T N h3 w (dA w i) v := ⟨W3, by rw [s0.ai]; exact b3, by rw [s0.ai]; exact W.p, W.cs I (fun b e1 e2 => F.1 b (by omega)) (fun j a1 a2 => rfl), Or.inl (by unfold dA; omega)⟩
    refine z103_12 W.o.t hx1 (by omega) hx3 (by omega) ⟨fun c => ?_, fun c => absurd (by omega) c⟩
    refine d_dro (h := h3) (n := (i : Int)) W3 (by omega) (by omega) (fun c1 => ⟨fun z => by (cases z), fun a' ea => ?_⟩) (fun c1 => absurd (by omega) c1)
    cases ea
    rw [e0]
    refine ⟨Dt.t, d_passTick As I Dt (I.d (by omega) (by omega)) (by omega) Dd fun h4 F4 D4 g4 => ?_⟩
    have next : ZW T N 103 12 [some (vr (some w)), some (vi (J x1)), some (vi (J (x2 + sumI (lan1 v) (i + 1)))), some (vi (J x3)), some (vi (J ((i + 1 : Nat) : Int))), none] [] h4 K := by
      refine ih (i + 1) h4 (by omega) (F.tr (F4.mo fun x e => by unfold dA at e; omega)) (fun d hd => ?_) (fun d h1 h2 => ?_)
      · by_cases c2 : d = i
        · subst c2; have := D4; unfold dA at this; rw [show ((d : Int)).toNat = d by omega] at this; exact this
        · exact (G d hd).fr fun b q1 q2 => F4.1 b (by unfold dA; omega)
      · by_cases c2 : d = i
        · subst c2; rw [if_pos (by omega)]; exact g4
        · have Dx := C d h1 h2
          have D' := Dx.fr (T := T) (N := N) (h2 := h4) (fun b q1 q2 => F4.1 b (by unfold dA at *; omega)) (G d.toNat (by omega)) (by
            split
            · exact (tickE_OK I (I.d h1 (by omega)) (by omega)).2.2.2.2.2.1.2
            · exact (I.d h1 (by omega)).2.2.2.2.2.1.2)
          by_cases c3 : d < i
          · rw [if_pos c3] at D'; rw [if_pos (by omega)]; exact D'
          · rw [if_neg c3] at D'; rw [if_neg (by omega)]; exact D'
    have sI : sumI (lan1 v) (i + 1) = sumI (lan1 v) i + lanE v (v 448 + 1) (stE v (v 448) (rc v (i : Int))) := rfl
    rw [sI, show ((i + 1 : Nat) : Int) = (i : Int) + 1 by omega] at next
    refine ⟨fun c2 => ?_, fun c2 => ?_⟩
    · rw [c2, Int.add_zero] at next; exact next
    · rw [show lanE v (v 448 + 1) (stE v (v 448) (rc v (i : Int))) = 1 by rcases lanE_b (v := v) (t := v 448 + 1) (e := stE v (v 448) (rc v (i : Int))) with z | z; exact absurd z c2; exact z, ← Int.add_assoc] at next; exact next
theorem ticks_loop (I : Iv v) {m : Nat} (hm : v 448 + m ≤ 10000) (k : ∀ h2, Fp (fun x => w ≤ x ∧ x < w + 294) h h2 → Wo T N h2 w (tickN v m) → K (lanN v m) h2) :
    ∀ (n : Nat) (i : Nat) (h3 : PH), i + n = m → Fp (fun x => w ≤ x ∧ x < w + 294) h h3 → Wo T N h3 w (tickN v i) → ZW T N 103 4 [some (vr (some w)), some (vi (J (m : Int))), some (vi (J (lanN v i))), some (vi (J (i : Int))), none, none] [] h3 K := by
  have b := I.b
  have lb : ∀ i : Nat, v 448 + i ≤ 10000 → 0 ≤ lanN v i ∧ lanN v i ≤ 6 * i := by
    intro i
    induction i with
    | zero => intro _; exact ⟨Int.le_refl 0, Int.le_refl 0⟩
    | succ i ih =>
      intro hi
      have := ih (by omega)
      have sb := sumI_b (f := lan1 (tickN v i)) (fun n => lanE_b) (tickN v i 117).toNat
      have e := (tickN_Iv I i (by omega)).2.2 117 (by omega)
      have e1 : lanN v (i + 1) = lanN v i + sumI (lan1 (tickN v i)) (tickN v i 117).toNat := rfl
      omega
  intro n
  induction n with
  | zero =>
    intro i h3 hi F W3
    have hb := lb i (by omega)
    have e : i = m := by omega
    subst e
    exact z103_4 (by omega) (by omega) (by omega) ⟨fun c => absurd c (by omega), fun c => k h3 F W3⟩
  | succ n ih =>
    intro i h3 hi F W3
    have hb := lb i (by omega)
    obtain ⟨I3, e1, e2⟩ := tickN_Iv I i (by omega)
    have e117 := e2 117 (by omega)
    refine z103_4 (by omega) (by omega) (by omega) ⟨fun c => ?_, fun c => absurd (by omega) c⟩
    have := tick_loop (K := K) W3 I3 (by omega) (x1 := m) (x2 := lanN v i) (x3 := i) (by omega) (by omega) (by omega) (fun h4 F4 W4 => by
      have := ih (i + 1) h4 (by omega) (F.tr F4) W4
      rw [show ((i + 1 : Nat) : Int) = (i : Int) + 1 by omega] at this
      exact this) (tickN v i 117).toNat 0 h3 (by omega) Fp.rf (fun d hd => (W3.o.d (c := d) (by omega)).2) (fun d h1 h2 => by rw [if_neg (by omega)]; exact W3.d h1 h2)
    have e0 : lanN v i + sumI (lan1 (tickN v i)) 0 = lanN v i := Int.add_zero _
    rw [e0] at this
    exact this
theorem d_passTicks (W : Wo T N h w v) (I : Iv v) {m : Nat} (hm : v 448 + m ≤ 10000) (k : ∀ h2, Fp (fun x => w ≤ x ∧ x < w + 294) h h2 → Wo T N h2 w (tickN v m) → K (lanN v m) h2) : ZI T N 103 [vr (some w), vi (J (m : Int))] h K := by
  have b := I.b
  exact z103 (by omega) (ticks_loop I hm k m 0 h (by omega) Fp.rf W)
end TKS
