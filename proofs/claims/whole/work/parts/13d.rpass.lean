/-! THE REFERENCE: ticks of all drones -/
/-- the first n drones by f, else g -/
def mx (f : Int → Int → Int) (g : Int → Int) (n : Int) : Int → Int := fun j => if 118 ≤ j ∧ j < 118 + 55 * n then f ((j - 118) / 55) ((j - 118) % 55) else g j
section RPS
variable {T N : Nat → Nat} {A a b : Nat} {h h2 h3 : PH} {u v e e2 g : Int → Int} {f : Int → Int → Int} {d t n : Int} {K : Int → PH → Prop} {KV : PH → Prop}
theorem mx_lo {j : Int} (hj : j < 118) : mx f g n j = g j := by unfold mx; rw [if_neg (by omega)]
theorem mx_hi {j : Int} (hn : n ≤ 6) (hj : 448 ≤ j) : mx f g n j = g j := by unfold mx; rw [if_neg (by omega)]
theorem mx_at {d k : Int} (hd : 0 ≤ d ∧ d < n) (hk : 0 ≤ k ∧ k < 55) : mx f g n (118 + 55 * d + k) = f d k := by
  unfold mx; rw [if_pos (by omega), show (118 + 55 * d + k - 118) / 55 = d by omega, show (118 + 55 * d + k - 118) % 55 = k by omega]
theorem mx_ge {d k : Int} (hd : n ≤ d) (hk : 0 ≤ k ∧ k < 55) : mx f g n (118 + 55 * d + k) = g (118 + 55 * d + k) := by
  unfold mx; rw [if_neg (by omega)]
theorem mx_put (hn : 0 ≤ n) (he : ∀ k, 0 ≤ k → k < 55 → g (118 + 55 * n + k) = e k) : ∀ j, mx f g n j = putD (mx f g n) n e j := by
  intro j
  by_cases c : 118 + 55 * n ≤ j ∧ j < 118 + 55 * n + 55
  · unfold putD; rw [if_pos c]
    rw [← he _ (by omega) (by omega), show 118 + 55 * n + (j - 118 - 55 * n) = j by omega]
    unfold mx; rw [if_neg (by omega)]
  · unfold putD; rw [if_neg c]
theorem mx_step (hn : 0 ≤ n) (he : ∀ k, 0 ≤ k → k < 55 → e k = f n k) : ∀ j, putD (mx f g n) n e j = mx f g (n + 1) j := by
  intro j
  unfold putD
  by_cases c : 118 + 55 * n ≤ j ∧ j < 118 + 55 * n + 55
  · rw [if_pos c, he _ (by omega) (by omega)]
    unfold mx
    rw [if_pos (by omega), show (j - 118) / 55 = n by omega, show (j - 118) % 55 = j - 118 - 55 * n by omega]
  · rw [if_neg c]
    unfold mx
    by_cases c2 : 118 ≤ j ∧ j < 118 + 55 * n
    · rw [if_pos c2, if_pos (by omega)]
    · rw [if_neg c2, if_neg (by omega)]
def stM (v : Int → Int) (t : Int) : Int → Int → Int := fun d => stE v t (rc v d)
def tkM (v : Int → Int) (t : Int) : Int → Int → Int := fun d => tickE v t (rc v d)
def midV (v : Int → Int) : Int → Int := up (mx (stM v (v 448)) v (v 117)) 448 (v 448 + 1)
theorem stE_b (c : e 0 < 2 ∧ 0 < e 5 ∧ e 13 / 128 = t) : stE v t e = stB v e := by unfold stE stB; rw [if_pos c]
theorem stE_n (c : ¬ (e 0 < 2 ∧ 0 < e 5 ∧ e 13 / 128 = t)) : stE v t e = e := by unfold stE; rw [if_neg c]
theorem mid_end (I : Iv v) : ∀ j, 0 ≤ j → j < 449 → mx (tkM v (v 448)) (midV v) (v 117) j = tick1 v j := by
  have b := I.b
  intro j h1 h2
  unfold mx tick1
  by_cases c : j = 448
  · rw [if_neg (by omega), if_pos c]; subst c; rfl
  · rw [if_neg c]
    by_cases c2 : 118 ≤ j ∧ j < 118 + 55 * v 117
    · rw [if_pos c2, if_pos c2]; rfl
    · rw [if_neg c2, if_neg c2]
      unfold midV up
      rw [if_neg c]
      unfold mx; rw [if_neg c2]
theorem r_fin_loop (I : Iv v) (ht : v 448 < 10000) {x1 x2 L : Int} (hx1 : In x1) (hx2 : In x2) (hL : 0 ≤ L ∧ L ≤ 90000)
    (k : ∀ h2, RT T N A h2 → FR (Tw A) h h2 → Rv A h2 (tick1 v) → ai h2 A 23 = L + sumI (lan1 v) (v 117).toNat → WV T N 231 7 [some (vr (some A)), some (vi (J x1)), some (vi (J (x2 + 1))), none] [] h2 KV) :
    ∀ (n : Nat) (i : Nat) (h3 : PH), (i : Int) = v 117 - n → RT T N A h3 → FR (Tw A) h h3 → Rv A h3 (mx (tkM v (v 448)) (midV v) i) → ai h3 A 23 = L + sumI (lan1 v) i → WV T N 231 89 [some (vr (some A)), some (vi (J x1)), some (vi (J x2)), some (vi (J (i : Int)))] [] h3 KV := by
  have b := I.b
  intro n
  induction n with
  | zero =>
    intro i h3 hi R F V L3
    have n1 := R.a1.2.1
    have e117 : ai h3 (A + 1) 117 = v 117 := by rw [V _ (by omega) (by omega), mx_lo (by omega)]; unfold midV; rw [up_ne (by omega), mx_lo (by omega)]
    refine z231_89 R.t hx1 hx2 (by omega) ⟨A + 1, R.a1.2.2, R.a1.1, by omega, fun c => by omega, fun c => ?_⟩
    refine k h3 R F (V.cg fun j a1 a2 => by rw [hi, ← mid_end I j a1 a2]; simp) ?_
    rw [L3, show i = (v 117).toNat by omega]
  | succ n ih =>
    intro i h3 hi R F V L3
    have sb := sumI_b (f := lan1 v) (fun n => lanE_b) i
    have n1 := R.a1.2.1
    have e117 : ai h3 (A + 1) 117 = v 117 := by rw [V _ (by omega) (by omega), mx_lo (by omega)]; unfold midV; rw [up_ne (by omega), mx_lo (by omega)]
    have hd : 0 ≤ (i : Int) ∧ (i : Int) < 6 := by omega
    have O := stE_OK I (I.d (n := i) (by omega) (by omega)) (t := v 448) (by omega)
    have V2 : Rv A h3 (putD (mx (tkM v (v 448)) (midV v) i) i (stM v (v 448) i)) := V.cg fun j a1 a2 => mx_put (by omega) (fun k h1 h2 => by
      unfold midV; rw [up_ne (by omega), mx_at ⟨by omega, by omega⟩ ⟨h1, h2⟩]) j
    have st : ∀ j, 0 ≤ j → j < 118 → mx (tkM v (v 448)) (midV v) i j = v j := fun j a1 a2 => by rw [mx_lo a2]; unfold midV; rw [up_ne (by omega), mx_lo a2]
    have m448 : mx (tkM v (v 448)) (midV v) i 448 = v 448 + 1 := by rw [mx_hi (by omega) (by omega)]; unfold midV; rw [up_eq rfl]
    have sI : sumI (lan1 v) (i + 1) = sumI (lan1 v) i + lanE v (v 448 + 1) (stM v (v 448) i) := rfl
    have tk : tkM v (v 448) i = finE v (v 448 + 1) (stM v (v 448) i) := rfl
    have next : ∀ h4, RT T N A h4 → FR (Tw A) h3 h4 → Rv A h4 (putD (mx (tkM v (v 448)) (midV v) i) i (finE v (v 448 + 1) (stM v (v 448) i))) → ai h4 A 23 = ai h3 A 23 + lanE v (v 448 + 1) (stM v (v 448) i) → WV T N 231 89 [some (vr (some A)), some (vi (J x1)), some (vi (J x2)), some (vi (J ((i : Int) + 1)))] [] h4 KV := by
      intro h4 R4 F4 V4 L4
      have := ih (i + 1) h4 (by omega) R4 (F.tr F4) (V4.cg fun j a1 a2 => by
        have q := mx_step (f := tkM v (v 448)) (g := midV v) (n := (i : Int)) (e := finE v (v 448 + 1) (stM v (v 448) i)) (by omega) (fun k _ _ => by rw [tk]) j
        rw [show ((i + 1 : Nat) : Int) = (i : Int) + 1 by omega]; exact q) (by rw [sI, L4, L3]; omega)
      rw [show ((i + 1 : Nat) : Int) = (i : Int) + 1 by omega] at this
      exact this
    have hO : drOK v (v 448) (stM v (v 448) i) := O
    generalize stM v (v 448) i = f at *
    refine z231_89 R.t hx1 hx2 (by omega) ⟨A + 1, R.a1.2.2, R.a1.1, by omega, fun c => ?_, fun c => absurd (by omega) c⟩
    refine r_ofD R V2 hd (by omega) ⟨fun c0 => ?_, fun c0 => ⟨fun c1 => ?_, fun c1 => ⟨fun c2 => ?_, fun c2 => ?_⟩⟩⟩
    · refine r_charges R V2 hd hO (by omega) fun h4 R4 F4 V4 => next h4 R4 F4.tw ?_ ?_
      · unfold finE; rw [if_pos c0]; exact V4
      · rw [frA F4]; unfold lanE; rw [if_neg (fun z => by have := z.1; omega)]; omega
    · refine r_hovers R V2 hd hO (by omega) fun h4 R4 F4 V4 => next h4 R4 F4.tw ?_ ?_
      · unfold finE; rw [if_neg c0, if_pos c1]; exact V4
      · rw [frA F4]; unfold lanE; rw [if_neg (fun z => by have := z.1; omega)]; omega
    · exact r_ends R V2 I st hd hO (by omega) c2 (by omega) m448 fun h4 R4 F4 V4 L4 => next h4 R4 F4 V4 L4
    · refine next h3 R FR.rf ?_ ?_
      · unfold finE; rw [if_neg c0, if_neg c1, if_neg c2]; exact V2
      · unfold lanE; rw [if_neg (fun z => c2 z.1)]; omega
theorem r_st_loop (I : Iv v) (ht : v 448 < 10000) {x1 x2 : Int} (hx1 : In x1) (hx2 : In x2)
    (k : ∀ h2, RT T N A h2 → FR (Vw A) h h2 → Rv A h2 (midV v) → WV T N 231 89 [some (vr (some A)), some (vi (J x1)), some (vi (J x2)), some (vi (J 0))] [] h2 KV) :
    ∀ (n : Nat) (i : Nat) (h3 : PH), (i : Int) = v 117 - n → RT T N A h3 → FR (Vw A) h h3 → Rv A h3 (mx (stM v (v 448)) v i) → WV T N 231 14 [some (vr (some A)), some (vi (J x1)), some (vi (J x2)), some (vi (J (i : Int)))] [] h3 KV := by
  have b := I.b
  intro n
  induction n with
  | zero =>
    intro i h3 hi R F V
    have n1 := R.a1.2.1
    have e117 : ai h3 (A + 1) 117 = v 117 := by rw [V _ (by omega) (by omega), mx_lo (by omega)]
    have e448 : ai h3 (A + 1) 448 = v 448 := by rw [V _ (by omega) (by omega), mx_hi (by omega) (by omega)]
    refine z231_14 R.t hx1 hx2 (by omega) ⟨A + 1, R.a1.2.2, R.a1.1, by omega, fun c => by omega, fun c => ⟨A + 1, R.a1.2.2, R.a1.1, by omega, ?_⟩⟩
    intro h4 z4
    rw [e448] at z4
    subst z4
    refine k _ (R.to rfl) (F.tr (FR.pw rfl)) ?_
    have := V.w (i := 448) (x := v 448 + 1) (by omega) (by omega)
    unfold midV
    rw [show v 117 = (i : Int) by omega]; exact this
  | succ n ih =>
    intro i h3 hi R F V
    have n1 := R.a1.2.1
    have e117 : ai h3 (A + 1) 117 = v 117 := by rw [V _ (by omega) (by omega), mx_lo (by omega)]
    have e448 : ai h3 (A + 1) 448 = v 448 := by rw [V _ (by omega) (by omega), mx_hi (by omega) (by omega)]
    have hd : 0 ≤ (i : Int) ∧ (i : Int) < 6 := by omega
    have O := I.d (n := i) (by omega) (by omega)
    have V2 : Rv A h3 (putD (mx (stM v (v 448)) v i) i (rc v i)) := V.cg fun j a1 a2 => mx_put (by omega) (fun k h1 h2 => rfl) j
    have st : ∀ j, 0 ≤ j → j < 118 → mx (stM v (v 448)) v i j = v j := fun j a1 a2 => mx_lo a2
    have next : ∀ h4, RT T N A h4 → FR (Vw A) h3 h4 → Rv A h4 (putD (mx (stM v (v 448)) v i) i (stM v (v 448) i)) → WV T N 231 14 [some (vr (some A)), some (vi (J x1)), some (vi (J x2)), some (vi (J ((i : Int) + 1)))] [] h4 KV := by
      intro h4 R4 F4 V4
      have := ih (i + 1) h4 (by omega) R4 (F.tr F4) (V4.cg fun j a1 a2 => by
        have q := mx_step (f := stM v (v 448)) (g := v) (n := (i : Int)) (e := stM v (v 448) i) (by omega) (fun k _ _ => rfl) j
        rw [show ((i + 1 : Nat) : Int) = (i : Int) + 1 by omega]; exact q)
      rw [show ((i + 1 : Nat) : Int) = (i : Int) + 1 by omega] at this
      exact this
    have no : ¬ (rc v i 0 < 2 ∧ 0 < rc v i 5 ∧ rc v i 13 / 128 = v 448) → WV T N 231 14 [some (vr (some A)), some (vi (J x1)), some (vi (J x2)), some (vi (J ((i : Int) + 1)))] [] h3 KV := fun c =>
      next h3 R FR.rf (by unfold stM; rw [stE_n c]; exact V2)
    refine z231_14 R.t hx1 hx2 (by omega) ⟨A + 1, R.a1.2.2, R.a1.1, by omega, fun c => ?_, fun c => absurd (by omega) c⟩
    refine r_ofD R V2 hd (by omega) ⟨fun c0 => r_ofD R V2 hd (by omega) ⟨fun c1 => r_legD R V2 hd (by omega) ?_, fun c1 => no fun z => c1 z.2.1⟩, fun c0 => no fun z => c0 z.1⟩
    rw [show (13 : Int) + 0 = 13 from rfl]
    have L2 : legOK v (rc v i 13) := O.2.2.2.2.2.2.2.2.2.2.2.2.2.2.2.2.2 0 (by omega) c1
    unfold legOK at L2
    refine r_sOf (by omega) ⟨A + 1, R.a1.2.2, R.a1.1, by omega, fun c2 => ?_, fun c2 => no fun z => c2 (by rw [e448]; exact z.2.2)⟩
    rw [e448] at c2
    refine r_starts R V2 I st hd O (by omega) c1 fun h4 R4 F4 V4 => next h4 R4 F4 ?_
    unfold stM
    rw [stE_b ⟨c0, c1, c2⟩]; exact V4
end RPS
