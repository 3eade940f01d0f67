/-! PAIRS -/
def apV (v : Int → Int) (x y : Int) : Int := if x / 16 % 2 = y / 16 % 2 then (if -2 < x / 128 - y / 128 ∧ x / 128 - y / 128 < 2 then 0 else 1) else if y / 128 < endV v x ∧ x / 128 < endV v y then 0 else 1
def prL (v : Int → Int) (p x y : Int) : Int := if (x % 16 = y % 16 ∧ x / 32 % 4 = y / 32 % 4) ∧ apV v x y = p then 1 else 0
def prJ (v : Int → Int) (p d o j : Int) : Int → Int := fun k => prL v p (rc v d (13 + j)) (rc v o (13 + k))
def prR (v : Int → Int) (p d o : Int) : Int → Int := fun j => sumI (prJ v p d o j) (rc v o 5).toNat
def prB (v : Int → Int) (p d : Int) : Int → Int := fun o => sumI (prR v p d o) (rc v d 5).toNat
def prD (v : Int → Int) (p : Int) : Int → Int := fun d => sumI (prB v p d) d.toNat
/-! sums of sums -/
section SMS
variable {f g : Int → Int} {F : Int → Int → Int}
theorem sumI_cg : ∀ n : Nat, (∀ j : Nat, j < n → f j = g j) → sumI f n = sumI g n
  | 0, _ => rfl
  | n + 1, e => by
    show sumI f n + f n = sumI g n + g n
    rw [sumI_cg n fun j hj => e j (by omega), e n (by omega)]
theorem sumI_0 : ∀ n : Nat, (∀ j : Nat, j < n → f j = 0) → sumI f n = 0
  | 0, _ => rfl
  | n + 1, e => by
    show sumI f n + f n = 0
    rw [sumI_0 n fun j hj => e j (by omega), e n (by omega)]; rfl
theorem sumI_add : ∀ n : Nat, sumI (fun j => f j + g j) n = sumI f n + sumI g n
  | 0 => rfl
  | n + 1 => by
    show sumI (fun j => f j + g j) n + (f n + g n) = (sumI f n + f n) + (sumI g n + g n)
    rw [sumI_add n]; omega
theorem sumI_sw (m : Nat) : ∀ n : Nat, sumI (fun i => sumI (F i) m) n = sumI (fun j => sumI (fun i => F i j) n) m
  | 0 => (sumI_0 m fun _ _ => rfl).symm
  | n + 1 => by
    show sumI (fun i => sumI (F i) m) n + sumI (F n) m = _
    rw [sumI_sw m n, ← sumI_add]
    rfl
theorem sumI_lt (d : Nat) : ∀ n : Nat, d ≤ n → sumI (fun o => if o < d then f o else 0) n = sumI f d
  | 0, hd => by
    rw [show d = 0 by omega]; rfl
  | n + 1, hd => by
    show sumI (fun o => if o < (d : Int) then f o else 0) n + (if (n : Int) < d then f n else 0) = _
    by_cases c : d = n + 1
    · rw [if_pos (by omega), c]
      show _ = sumI f n + f n
      rw [sumI_cg (g := f) n fun j hj => if_pos (by omega)]
    · rw [if_neg (by omega), Int.add_zero, sumI_lt d n (by omega)]
end SMS
section PRS
variable {T N : Nat → Nat} {bs A q w : Nat} {h h1 h2 h3 h7 h10 : PH} {v u sv tx e e2 : Int → Int} {hs hs2 : Int → Int → Int} {iss n tn re er d o p t a b l m c x y : Int} {i : Nat} {K : Int → PH → Prop} {KV : PH → Prop} {KP : PR → PH → Prop} {Q : Int → Int → Int → PH → Prop} {f g : Int → Int}
theorem prL_b : 0 ≤ prL v p x y ∧ prL v p x y ≤ 1 := by unfold prL; split <;> omega
theorem prJ_s (n : Nat) : 0 ≤ sumI (prJ v p d o a) n ∧ sumI (prJ v p d o a) n ≤ 1 * n := sumI_bd2 (by decide) n fun j hj => prL_b
theorem prR_b (I : Iv v) (ho : 0 ≤ o ∧ o < v 117) : 0 ≤ prR v p d o a ∧ prR v p d o a ≤ 41 := by
  have := rc_5 I ho
  have := prJ_s (v := v) (p := p) (d := d) (o := o) (a := a) (rc v o 5).toNat
  unfold prR; omega
theorem prR_s (I : Iv v) (ho : 0 ≤ o ∧ o < v 117) (n : Nat) : 0 ≤ sumI (prR v p d o) n ∧ sumI (prR v p d o) n ≤ 41 * n := sumI_bd2 (by decide) n fun j hj => prR_b I ho
theorem prB_b (I : Iv v) (hd : 0 ≤ d ∧ d < v 117) (ho : 0 ≤ o ∧ o < v 117) : 0 ≤ prB v p d o ∧ prB v p d o ≤ 1681 := by
  have := rc_5 I hd
  have := prR_s (v := v) (p := p) (d := d) I ho (rc v d 5).toNat
  unfold prB; omega
theorem prB_s (I : Iv v) (hd : 0 ≤ d ∧ d < v 117) (n : Nat) (hn : (n : Int) ≤ v 117) : 0 ≤ sumI (prB v p d) n ∧ sumI (prB v p d) n ≤ 1681 * n := sumI_bd2 (by decide) n fun j hj => prB_b I hd (by omega)
theorem prD_b (I : Iv v) (hd : 0 ≤ d ∧ d < v 117) : 0 ≤ prD v p d ∧ prD v p d ≤ 10086 := by
  have b := I.b
  have := prB_s (v := v) (p := p) I hd d.toNat (by omega)
  unfold prD; omega
theorem prD_s (I : Iv v) (n : Nat) (hn : (n : Int) ≤ v 117) : 0 ≤ sumI (prD v p) n ∧ sumI (prD v p) n ≤ 10086 * n := sumI_bd2 (by decide) n fun j hj => prD_b I (by omega)
/-- the class's order of the sums -/
def prC (v : Int → Int) (p : Int) (i : Int) : Int → Int := fun j => if i < j then prB v p j i else 0
theorem prC_sum (I : Iv v) : sumI (fun i => sumI (prC v p i) (v 117).toNat) (v 117).toNat = sumI (prD v p) (v 117).toNat := by
  have b := I.b
  rw [sumI_sw]
  refine sumI_cg _ fun j hj => ?_
  have := sumI_lt (f := prB v p (j : Int)) j (v 117).toNat (by omega)
  exact this
/-! reference -/
theorem r_apart (R : RT T N A h) (V : Rv A h v) (I : Iv v) (hx : legOK v x) (hy : legOK v y) (k : K (apV v x y) h) : ZI T N 203 [vr (some A), vi (J x), vi (J y)] h K := by
  have gx := endV_b I hx
  have gy := endV_b I hy
  have lx := hx
  have ly := hy
  unfold legOK at lx ly
  unfold apV at k
  refine z203 R.t (by omega) (by omega) (r_wOf (by omega) (r_wOf (by omega) ⟨fun c1 => r_sOf (by omega) (r_sOf (by omega) (r_abs (by omega) ?_)), fun c1 => s_eOf R I V hx (r_sOf (by omega) ⟨fun c2 => s_eOf R I V hy (r_sOf (by omega) ⟨fun c3 => ?_, fun c3 => ?_⟩), fun c2 => ?_⟩)⟩))
  · rw [if_pos c1] at k
    refine ⟨fun c => ?_, fun c => ?_⟩
    · rw [if_pos (by split at c <;> omega)] at k; exact k
    · rw [if_neg (by split at c <;> omega)] at k; exact k
  · rw [if_neg c1, if_pos ⟨c2, c3⟩] at k; exact k
  · rw [if_neg c1, if_neg fun z => c3 z.2] at k; exact k
  · rw [if_neg c1, if_neg fun z => c2 z.1] at k; exact k
theorem r_pk (R : RT T N A h) (V : Rv A h v) (I : Iv v) (hd : 0 ≤ d ∧ d < v 117) (ho : 0 ≤ o ∧ o < v 117) (ha : 0 ≤ a ∧ a < rc v d 5) (hp : In p) (hm : 0 ≤ m ∧ m ≤ 1000000) (k : ZW T N 234 32 [some (vr (some A)), some (vi (J p)), some (vi (J (m + prR v p d o a))), some (vi (J d)), some (vi (J o)), some (vi (J (a + 1))), none] [] h K) : ∀ (q j : Nat), (j : Int) + q = rc v o 5 → ZW T N 234 46 [some (vr (some A)), some (vi (J p)), some (vi (J (m + sumI (prJ v p d o a) j))), some (vi (J d)), some (vi (J o)), some (vi (J a)), some (vi (J (j : Int)))] [] h K := by
  have b := I.b
  have hd5 := rc_5 I hd
  have ho5 := rc_5 I ho
  intro q
  induction q with
  | zero =>
    intro j hj
    have sb := prJ_s (v := v) (p := p) (d := d) (o := o) (a := a) j
    refine z234_46 R.t hp (by omega) (by omega) (by omega) (by omega) (by omega) (r_of R (by omega) (by omega) ?_)
    rw [V _ (by omega) (by omega)]
    refine ⟨fun z => absurd z (show ¬ (j : Int) < rc v o 5 by omega), fun _ => ?_⟩
    unfold prR at k
    rw [show j = (rc v o 5).toNat by omega]; exact k
  | succ q ih =>
    intro j hj
    have sb := prJ_s (v := v) (p := p) (d := d) (o := o) (a := a) j
    have nxt := ih (j + 1) (by omega)
    rw [show ((j + 1 : Nat) : Int) = (j : Int) + 1 by omega] at nxt
    have es : m + sumI (prJ v p d o a) (j + 1) = m + sumI (prJ v p d o a) j + prL v p (rc v d (13 + a)) (rc v o (13 + j)) := by
      show m + (sumI (prJ v p d o a) j + prL v p (rc v d (13 + a)) (rc v o (13 + j))) = _; omega
    rw [es] at nxt
    have Lx := rc_leg I hd (j := a) (by omega)
    have Ly := rc_leg I ho (j := (j : Int)) (by omega)
    have ex := endV_b I Lx
    have ey := endV_b I Ly
    have lx := Lx
    have ly := Ly
    unfold legOK at lx ly
    have vx : ai h (A + 1) (118 + 55 * d + (13 + a)) = rc v d (13 + a) := V _ (by omega) (by omega)
    have vy : ai h (A + 1) (118 + 55 * o + (13 + (j : Int))) = rc v o (13 + j) := V _ (by omega) (by omega)
    refine z234_46 R.t hp (by omega) (by omega) (by omega) (by omega) (by omega) (r_of R (by omega) (by omega) ?_)
    rw [V _ (by omega) (by omega)]
    refine ⟨fun _ => r_leg R (by omega) (by omega) (r_leg R (by omega) (by omega) ?_), fun z => absurd (show (j : Int) < rc v o 5 by omega) z⟩
    rw [vx, vy]
    generalize rc v d (13 + a) = x at *
    generalize rc v o (13 + (j : Int)) = y at *
    have no : ¬ ((x % 16 = y % 16 ∧ x / 32 % 4 = y / 32 % 4) ∧ apV v x y = p) → ZW T N 234 46 [some (vr (some A)), some (vi (J p)), some (vi (J (m + sumI (prJ v p d o a) j + 0))), some (vi (J d)), some (vi (J o)), some (vi (J a)), some (vi (J ((j : Int) + 1)))] [] h K := fun z => by
      rw [show prL v p x y = 0 from if_neg z] at nxt; exact nxt
    refine z202 (by omega) (by omega) (r_cOf (by omega) (r_cOf (by omega) ⟨fun c1 => r_lOf (by omega) (r_lOf (by omega) ⟨fun c2 => ⟨(fun z => absurd z (by decide)), fun _ => r_leg R (by omega) (by omega) (r_leg R (by omega) (by omega) ?_)⟩, fun c2 => ⟨fun _ => no fun z => c2 z.1.2, (fun z => absurd rfl z)⟩⟩), fun c1 => ⟨fun _ => no fun z => c1 z.1.1, (fun z => absurd rfl z)⟩⟩))
    rw [vx, vy]
    refine r_apart R V I Lx Ly ⟨fun c3 => ?_, fun c3 => no fun z => c3 z.2⟩
    rw [show prL v p x y = 1 from if_pos ⟨⟨c1, c2⟩, c3⟩] at nxt; exact nxt
theorem r_pj (R : RT T N A h) (V : Rv A h v) (I : Iv v) (hd : 0 ≤ d ∧ d < v 117) (ho : 0 ≤ o ∧ o < v 117) (hp : In p) (hm : 0 ≤ m ∧ m ≤ 900000) (k : ZW T N 234 23 [some (vr (some A)), some (vi (J p)), some (vi (J (m + prB v p d o))), some (vi (J d)), some (vi (J (o + 1))), none, none] [] h K) : ∀ (q j : Nat), (j : Int) + q = rc v d 5 → ZW T N 234 32 [some (vr (some A)), some (vi (J p)), some (vi (J (m + sumI (prR v p d o) j))), some (vi (J d)), some (vi (J o)), some (vi (J (j : Int))), none] [] h K := by
  have b := I.b
  have hd5 := rc_5 I hd
  have ho5 := rc_5 I ho
  intro q
  induction q with
  | zero =>
    intro j hj
    have sb := prR_s (v := v) (p := p) (d := d) I ho j
    refine z234_32 R.t hp (by omega) (by omega) (by omega) (by omega) (r_of R (by omega) (by omega) ?_)
    rw [V _ (by omega) (by omega)]
    refine ⟨fun z => absurd z (show ¬ (j : Int) < rc v d 5 by omega), fun _ => ?_⟩
    unfold prB at k
    rw [show j = (rc v d 5).toNat by omega]; exact k
  | succ q ih =>
    intro j hj
    have sb := prR_s (v := v) (p := p) (d := d) I ho j
    have nxt := ih (j + 1) (by omega)
    rw [show ((j + 1 : Nat) : Int) = (j : Int) + 1 by omega] at nxt
    have es : m + sumI (prR v p d o) (j + 1) = m + sumI (prR v p d o) j + prR v p d o j := by
      show m + (sumI (prR v p d o) j + prR v p d o j) = _; omega
    rw [es] at nxt
    refine z234_32 R.t hp (by omega) (by omega) (by omega) (by omega) (r_of R (by omega) (by omega) ?_)
    rw [V _ (by omega) (by omega)]
    refine ⟨fun _ => ?_, fun z => absurd (show (j : Int) < rc v d 5 by omega) z⟩
    have kk := r_pk (a := (j : Int)) (m := m + sumI (prR v p d o) j) R V I hd ho (by omega) hp (by omega) nxt (rc v o 5).toNat 0 (by omega)
    rw [show sumI (prJ v p d o j) 0 = 0 from rfl, Int.add_zero] at kk
    exact kk
theorem r_po (R : RT T N A h) (V : Rv A h v) (I : Iv v) (hd : 0 ≤ d ∧ d < v 117) (hp : In p) (hm : 0 ≤ m ∧ m ≤ 800000) (k : ZW T N 234 9 [some (vr (some A)), some (vi (J p)), some (vi (J (m + prD v p d))), some (vi (J (d + 1))), none, none, none] [] h K) : ∀ (q j : Nat), (j : Int) + q = d → ZW T N 234 23 [some (vr (some A)), some (vi (J p)), some (vi (J (m + sumI (prB v p d) j))), some (vi (J d)), some (vi (J (j : Int))), none, none] [] h K := by
  have b := I.b
  intro q
  induction q with
  | zero =>
    intro j hj
    have sb := prB_s (v := v) (p := p) I hd j (by omega)
    refine z234_23 hp (by omega) (by omega) (by omega) ⟨fun z => by omega, fun _ => ?_⟩
    unfold prD at k
    rw [show j = d.toNat by omega]; exact k
  | succ q ih =>
    intro j hj
    have sb := prB_s (v := v) (p := p) I hd j (by omega)
    have nxt := ih (j + 1) (by omega)
    rw [show ((j + 1 : Nat) : Int) = (j : Int) + 1 by omega] at nxt
    have es : m + sumI (prB v p d) (j + 1) = m + sumI (prB v p d) j + prB v p d j := by
      show m + (sumI (prB v p d) j + prB v p d j) = _; omega
    rw [es] at nxt
    have h5 := rc_5 I hd
    refine z234_23 hp (by omega) (by omega) (by omega) ⟨fun z => ?_, fun z => absurd (by omega) z⟩
    have kk := r_pj (o := (j : Int)) (m := m + sumI (prB v p d) j) R V I hd (by omega) hp (by omega) nxt (rc v d 5).toNat 0 (by omega)
    rw [show sumI (prR v p d j) 0 = 0 from rfl, Int.add_zero] at kk
    exact kk
theorem r_pd (R : RT T N A h) (V : Rv A h v) (I : Iv v) (hp : In p) (k : K (sumI (prD v p) (v 117).toNat) h) : ∀ (q j : Nat), (j : Int) + q = v 117 → ZW T N 234 9 [some (vr (some A)), some (vi (J p)), some (vi (J (sumI (prD v p) j))), some (vi (J (j : Int))), none, none, none] [] h K := by
  have b := I.b
  have n1 := R.a1.2.1
  have e117 := V 117 (by omega) (by omega)
  intro q
  induction q with
  | zero =>
    intro j hj
    have sb := prD_s (v := v) (p := p) I j (by omega)
    refine z234_9 R.t hp (by omega) (by omega) ⟨A + 1, R.a1.2.2, R.a1.1, by omega, fun z => by omega, fun _ => ?_⟩
    rw [show j = (v 117).toNat by omega]; exact k
  | succ q ih =>
    intro j hj
    have sb := prD_s (v := v) (p := p) I j (by omega)
    have nxt := ih (j + 1) (by omega)
    rw [show ((j + 1 : Nat) : Int) = (j : Int) + 1 by omega] at nxt
    refine z234_9 R.t hp (by omega) (by omega) ⟨A + 1, R.a1.2.2, R.a1.1, by omega, fun z => ?_, fun z => absurd (by omega) z⟩
    have kk := r_po (d := (j : Int)) (m := sumI (prD v p) j) R V I (by omega) hp (by omega) nxt j 0 (by omega)
    rw [show sumI (prB v p j) 0 = 0 from rfl, Int.add_zero] at kk
    exact kk
/-! class -/
theorem d_apart {a b : Nat} (ta : T a = 7) (tb : T b = 7) (I : Iv v) (hx : legOK v x) (hy : legOK v y) (La : LegD v h a x) (Lb : LegD v h b y) (k : K (apV v x y) h) : ZI T N 56 [vr (some a), vr (some b)] h K := by
  have gx := endV_b I hx
  have gy := endV_b I hy
  have lx := hx
  have ly := hy
  unfold legOK at lx ly
  unfold apV at k
  obtain ⟨a0, a1, a2, a3, a4⟩ := La
  obtain ⟨b0, b1, b2, b3, b4⟩ := Lb
  refine z56 ta tb ?_
  rw [a1, a3, a4, b1, b3, b4]
  refine ⟨fun c1 => ⟨by omega, by split <;> omega, fun c => ?_, fun c => ?_⟩, fun c1 => ⟨fun c2 => ⟨fun c3 => ?_, fun c3 => ?_⟩, fun c2 => ?_⟩⟩
  · rw [if_pos c1, if_pos (by split at c <;> omega)] at k; exact k
  · rw [if_pos c1, if_neg (by split at c <;> omega)] at k; exact k
  · rw [if_neg c1, if_pos ⟨c2, c3⟩] at k; exact k
  · rw [if_neg c1, if_neg fun z => c3 z.2] at k; exact k
  · rw [if_neg c1, if_neg fun z => c2 z.1] at k; exact k
theorem d_pw {a r : Nat} (Dt : DT T N h r) (I : Iv v) (ho : 0 ≤ o ∧ o < v 117) (G : DrD v h r (rc v o)) (ta : T a = 7) (hy : legOK v y) (La : LegD v h a y) (hp : In p) (k : K (sumI (fun j => prL v p (rc v o (13 + j)) y) (rc v o 5).toNat) h) : ∀ (m j : Nat), (j : Int) + m = rc v o 5 → ZW T N 26 5 [some (vr (some r)), some (vr (some a)), some (vi (J p)), some (vi (J (sumI (fun j => prL v p (rc v o (13 + j)) y) j))), some (vi (J (j : Int))), none] [] h K := by
  have h5 := rc_5 I ho
  have g8 := G.1.2.2.2.2.2.2.2
  intro m
  induction m with
  | zero =>
    intro j hj
    have sb := sumI_bd2 (f := fun j => prL v p (rc v o (13 + j)) y) (B := 1) (by decide) j fun _ _ => prL_b
    refine z26_5 Dt.t hp (by omega) (by omega) ⟨fun z => by omega, fun _ => ?_⟩
    rw [show j = (rc v o 5).toNat by omega]; exact k
  | succ m ih =>
    intro j hj
    have sb := sumI_bd2 (f := fun j => prL v p (rc v o (13 + j)) y) (B := 1) (by decide) j fun _ _ => prL_b
    have nxt := ih (j + 1) (by omega)
    rw [show ((j + 1 : Nat) : Int) = (j : Int) + 1 by omega] at nxt
    have es : sumI (fun j => prL v p (rc v o (13 + j)) y) (j + 1) = sumI (fun j => prL v p (rc v o (13 + j)) y) j + prL v p (rc v o (13 + j)) y := rfl
    rw [es] at nxt
    refine z26_5 Dt.t hp (by omega) (by omega) ⟨fun z => d_legAt Dt (n := (j : Int)) (by omega) (by omega) (fun c1 x hx q1 q2 tx => ⟨fun z => by (cases z), fun a' ea => ?_⟩) (fun c1 => absurd (by omega) c1), fun z => absurd (by omega) z⟩
    cases ea
    have Lb := G.2.2 (j : Int) (by omega) (by omega) x hx
    have Lx := rc_leg I ho (j := (j : Int)) (by omega)
    refine ⟨tx, z55 tx ta ?_⟩
    rw [Lb.1, Lb.2.2.1, La.1, La.2.2.1]
    generalize rc v o (13 + (j : Int)) = x at *
    have no : ¬ ((x % 16 = y % 16 ∧ x / 32 % 4 = y / 32 % 4) ∧ apV v x y = p) → ZW T N 26 5 [some (vr (some r)), some (vr (some a)), some (vi (J p)), some (vi (J (sumI (fun j => prL v p (rc v o (13 + j)) y) j))), some (vi (J ((j : Int) + 1))), none] [] h K := fun z => by
      rw [show prL v p x y = 0 from if_neg z, Int.add_zero] at nxt; exact nxt
    refine ⟨fun c1 => ⟨fun c2 => ⟨(fun z => absurd z (by decide)), fun _ => d_apart tx ta I Lx hy Lb La ⟨fun c3 => ?_, fun c3 => no fun z => c3 z.2⟩⟩, fun c2 => ⟨fun _ => no fun z => c2 z.1.2, (fun z => absurd rfl z)⟩⟩, fun c1 => ⟨fun _ => no fun z => c1 z.1.1, (fun z => absurd rfl z)⟩⟩
    rw [show prL v p x y = 1 from if_pos ⟨⟨c1, c2⟩, c3⟩] at nxt; exact nxt
/-- what the class counts for two drones -/
def prX (v : Int → Int) (p a o : Int) : Int → Int := fun i => sumI (fun j => prL v p (rc v o (13 + j)) (rc v a (13 + i))) (rc v o 5).toNat
theorem prX_b (I : Iv v) (ho : 0 ≤ o ∧ o < v 117) : 0 ≤ prX v p a o x ∧ prX v p a o x ≤ 41 := by
  have := rc_5 I ho
  have sb := sumI_bd2 (f := fun j => prL v p (rc v o (13 + j)) (rc v a (13 + x))) (B := 1) (by decide) (rc v o 5).toNat fun _ _ => prL_b
  unfold prX; omega
theorem prX_s : sumI (prX v p a o) (rc v a 5).toNat = prB v p o a := by
  unfold prB
  show sumI (fun i => sumI (fun j => prL v p (rc v o (13 + j)) (rc v a (13 + i))) (rc v o 5).toNat) (rc v a 5).toNat = _
  rw [sumI_sw]
  rfl
theorem d_pb {r s : Nat} (Ds : DT T N h s) (Dt : DT T N h r) (I : Iv v) (ha : 0 ≤ a ∧ a < v 117) (ho : 0 ≤ o ∧ o < v 117) (Ga : DrD v h s (rc v a)) (G : DrD v h r (rc v o)) (hp : In p) (k : K (prB v p o a) h) : ∀ (m j : Nat), (j : Int) + m = rc v a 5 → ZW T N 148 15 [some (vr (some s)), some (vr (some r)), some (vi (J p)), some (vi (J (sumI (prX v p a o) j))), some (vi (J (j : Int))), none] [] h K := by
  have h5 := rc_5 I ha
  have g8 := Ga.1.2.2.2.2.2.2.2
  intro m
  induction m with
  | zero =>
    intro j hj
    have sb := sumI_bd2 (f := prX v p a o) (B := 41) (by decide) j fun _ _ => prX_b I ho
    refine z148_15 Ds.t Dt.t hp (by omega) (by omega) ⟨fun z => by omega, fun _ => ?_⟩
    rw [← prX_s] at k
    rw [show j = (rc v a 5).toNat by omega]; exact k
  | succ m ih =>
    intro j hj
    have sb := sumI_bd2 (f := prX v p a o) (B := 41) (by decide) j fun _ _ => prX_b I ho
    have nxt := ih (j + 1) (by omega)
    rw [show ((j + 1 : Nat) : Int) = (j : Int) + 1 by omega] at nxt
    have es : sumI (prX v p a o) (j + 1) = sumI (prX v p a o) j + prX v p a o j := rfl
    rw [es] at nxt
    refine z148_15 Ds.t Dt.t hp (by omega) (by omega) ⟨fun z => d_legAt Ds (n := (j : Int)) (by omega) (by omega) (fun c1 x hx q1 q2 tx => ⟨fun z => by (cases z), fun a' ea => ?_⟩) (fun c1 => absurd (by omega) c1), fun z => absurd (by omega) z⟩
    cases ea
    have Lb := Ga.2.2 (j : Int) (by omega) (by omega) x hx
    have Lx := rc_leg I ha (j := (j : Int)) (by omega)
    have ho5 := rc_5 I ho
    exact z26 hp (d_pw Dt I ho G tx Lx Lb hp nxt (rc v o 5).toNat 0 (by omega))
theorem prC_b (I : Iv v) (ha : 0 ≤ a ∧ a < v 117) (n : Nat) (hn : (n : Int) ≤ v 117) : 0 ≤ sumI (prC v p a) n ∧ sumI (prC v p a) n ≤ 1681 * n := sumI_bd2 (by decide) n fun j hj => by
  unfold prC; split
  · exact prB_b I (by omega) ha
  · omega
theorem prC_0 (n : Nat) (hn : (n : Int) ≤ a + 1) : sumI (prC v p a) n = 0 := sumI_0 n fun j hj => if_neg (by omega)
theorem d_pj (C : Com T N bs h i) (I : IvS v iss sv n hs tn tx re er) (D : SD T N bs h v iss sv n hs tn tx re er) (hp : In p) (ha : 0 ≤ a ∧ a < v 117) (hm : 0 ≤ m ∧ m ≤ 1000000) (k : ZW T N 132 4 [some (vr (some bs)), some (vi (J p)), some (vi (J (m + sumI (prC v p a) (v 117).toNat))), some (vi (J (a + 1))), none] [] h K) : ∀ (q j : Nat), (j : Int) + q = v 117 → a < j → ZW T N 132 20 [some (vr (some bs)), some (vi (J p)), some (vi (J (m + sumI (prC v p a) j))), some (vi (J a)), some (vi (J (j : Int)))] [] h K := by
  have b := I.1.b
  have o := C.o
  have eb := D.1.b
  intro q
  induction q with
  | zero =>
    intro j hj ja
    have sb := prC_b (v := v) (p := p) I.1 ha j (by omega)
    refine z132_20 o.1 hp (by omega) (by omega) (by omega) ⟨bs + 1, o.2.1, C.2.1.1.t, fun z => by omega, fun _ => ?_⟩
    rw [show j = (v 117).toNat by omega]; exact k
  | succ q ih =>
    intro j hj ja
    have sb := prC_b (v := v) (p := p) I.1 ha j (by omega)
    have nxt := ih (j + 1) (by omega) (by omega)
    rw [show ((j + 1 : Nat) : Int) = (j : Int) + 1 by omega] at nxt
    have es : m + sumI (prC v p a) (j + 1) = m + sumI (prC v p a) j + prB v p j a := by
      show m + (sumI (prC v p a) j + (if a < (j : Int) then prB v p j a else 0)) = _
      rw [if_pos ja]; omega
    rw [es] at nxt
    refine z132_20 o.1 hp (by omega) (by omega) (by omega) ⟨bs + 1, o.2.1, C.2.1.1.t, fun z => ⟨bs + 1, o.2.1, C.2.1.1.t, d_dro (n := a) C.2.1.1 (by omega) (by omega) (fun c1 => ⟨bs + 1, o.2.1, C.2.1.1.t, d_dro (n := (j : Int)) C.2.1.1 (by omega) (by omega) (fun c2 => ?_) (fun c2 => absurd (by omega) c2)⟩) (fun c1 => absurd (by omega) c1)⟩, fun z => absurd (by omega) z⟩
    have h5 := rc_5 I.1 ha
    exact z148 hp (d_pb (o := (j : Int)) (C.2.1.1.d (c := a) (by omega)).2 (C.2.1.1.d (c := (j : Int)) (by omega)).2 I.1 ha (by omega) (D.1.d ha.1 ha.2) (D.1.d (d := (j : Int)) (by omega) (by omega)) hp nxt (rc v a 5).toNat 0 (by omega))
theorem d_pi (C : Com T N bs h i) (I : IvS v iss sv n hs tn tx re er) (D : SD T N bs h v iss sv n hs tn tx re er) (hp : In p) (k : K (sumI (prD v p) (v 117).toNat) h) : ∀ (q j : Nat), (j : Int) + q = v 117 → ZW T N 132 4 [some (vr (some bs)), some (vi (J p)), some (vi (J (sumI (fun i => sumI (prC v p i) (v 117).toNat) j))), some (vi (J (j : Int))), none] [] h K := by
  have b := I.1.b
  have o := C.o
  have eb := D.1.b
  have bd : ∀ j : Nat, (j : Int) ≤ v 117 → 0 ≤ sumI (fun i => sumI (prC v p i) (v 117).toNat) j ∧ sumI (fun i => sumI (prC v p i) (v 117).toNat) j ≤ 10086 * j := fun j hj => sumI_bd2 (by decide) j fun k hk => by
    have := prC_b (v := v) (p := p) (a := (k : Int)) I.1 (by omega) (v 117).toNat (by omega)
    omega
  intro q
  induction q with
  | zero =>
    intro j hj
    have sb := bd j (by omega)
    refine z132_4 o.1 hp (by omega) (by omega) ⟨bs + 1, o.2.1, C.2.1.1.t, fun z => by omega, fun _ => ?_⟩
    rw [← prC_sum I.1] at k
    rw [show j = (v 117).toNat by omega]; exact k
  | succ q ih =>
    intro j hj
    have sb := bd j (by omega)
    have nxt := ih (j + 1) (by omega)
    rw [show ((j + 1 : Nat) : Int) = (j : Int) + 1 by omega] at nxt
    refine z132_4 o.1 hp (by omega) (by omega) ⟨bs + 1, o.2.1, C.2.1.1.t, fun z => ?_, fun z => absurd (by omega) z⟩
    have kk := d_pj (a := (j : Int)) (m := sumI (fun i => sumI (prC v p i) (v 117).toNat) j) C I D hp (by omega) (by omega) nxt (q) (j + 1) (by omega) (by omega)
    rw [prC_0 (v := v) (p := p) (a := (j : Int)) (j + 1) (by omega), Int.add_zero] at kk
    rw [show ((j + 1 : Nat) : Int) = (j : Int) + 1 by omega] at kk
    exact kk
theorem P_pairs (S : Sim T N bs h i) (hp : In p) {K : Int → PH → Prop} {Q2 : Int → Int → PH → Prop} (hK : ∀ c h1, Scp bs h h1 → ZI T N 234 [vr (some (bs + 3296)), vi (J p)] h1 (fun b h2 => Q2 c b h2) → K c h1) (k : ∀ x h3, Sim T N bs h3 (i + 1) → Scp bs h h3 → Q2 x x h3) : ZI T N 132 [vr (some bs), vi (J p)] h K := by
  obtain ⟨v, iss, sv, n, hs, tn, tx, re, er, C, I, D, R⟩ := S; have b := I.1.b; have o := C.o; have out := C.out
  refine z132 hp (d_pi C I D hp (hK _ h (fun _ _ => sm.rf) ?_) (v 117).toNat 0 (by omega))
  have T7 := C.rt
  have R7 := R
  refine z234 T7.t hp ?_
  intro h8 z8
  obtain ⟨R8, F8⟩ := R7.th (x := 0)
  rw [← z8] at R8 F8
  refine r_pd (T7.fr F8) R8.1 I.1 hp ?_ (v 117).toNat 0 (by omega)
  obtain ⟨S10, s10, _⟩ := Sim.mk' C.up I D F8.sk RKw_in R8
  exact k _ h8 S10 s10
end PRS
