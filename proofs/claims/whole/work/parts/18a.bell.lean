/-! WAYS: rounds of a search for the least sums come to rest -/
def rx (a b c : Int) (f : Int → Int) : Int → Int := if f b + c < f a then up f a (f b + c) else f
def rdE (A B C : Nat → Int) (f : Int → Int) : Nat → Int → Int
  | 0 => f
  | e + 1 => rx (A e) (B e) (C e) (rdE A B C f e)
def itE (A B C : Nat → Int) (M : Nat) (f : Int → Int) : Nat → Int → Int
  | 0 => f
  | k + 1 => rdE A B C (itE A B C M f k) M
def cntF (F : Int → Int) (y : Int) : Nat → Int
  | 0 => 0
  | n + 1 => cntF F y n + (if F n < y then 1 else 0)
section BEL
variable {A B C : Nat → Int} {M n : Nat} {f g F f0 : Int → Int} {a b c x y : Int}
theorem rx_le : rx a b c f x ≤ f x := by
  unfold rx
  by_cases h : f b + c < f a
  · rw [if_pos h]
    by_cases e : x = a
    · rw [up_eq e, e]; omega
    · rw [up_ne e]; exact Int.le_refl _
  · rw [if_neg h]; exact Int.le_refl _
theorem rx_at : rx a b c f a ≤ f b + c := by
  unfold rx
  by_cases h : f b + c < f a
  · rw [if_pos h, up_eq rfl]; exact Int.le_refl _
  · rw [if_neg h]; omega
theorem rdE_le (x : Int) : ∀ e : Nat, rdE A B C f e x ≤ f x
  | 0 => Int.le_refl _
  | e + 1 => Int.le_trans rx_le (rdE_le x e)
theorem rdE_mo (x : Int) {i : Nat} : ∀ e : Nat, i ≤ e → rdE A B C f e x ≤ rdE A B C f i x
  | 0, h => by rw [show i = 0 by omega]; exact Int.le_refl _
  | e + 1, h => by
    by_cases z : i = e + 1
    · rw [z]; exact Int.le_refl _
    · exact Int.le_trans rx_le (rdE_mo x e (by omega))
theorem rdE_at {i : Nat} (h : i < M) : rdE A B C f M (A i) ≤ f (B i) + C i := by
  have h1 : rdE A B C f M (A i) ≤ rdE A B C f (i + 1) (A i) := rdE_mo _ M (by omega)
  have h2 : rdE A B C f (i + 1) (A i) ≤ rdE A B C f i (B i) + C i := rx_at
  have h3 := rdE_le (A := A) (B := B) (C := C) (f := f) (B i) i
  omega
theorem itE_mo (x : Int) {i : Nat} : ∀ k : Nat, i ≤ k → itE A B C M f k x ≤ itE A B C M f i x
  | 0, h => by rw [show i = 0 by omega]; exact Int.le_refl _
  | k + 1, h => by
    by_cases z : i = k + 1
    · rw [z]; exact Int.le_refl _
    · exact Int.le_trans (rdE_le x M) (itE_mo x k (by omega))
theorem itE_fix {r : Nat} (e : itE A B C M f (r + 1) = itE A B C M f r) : ∀ k : Nat, r ≤ k → itE A B C M f k = itE A B C M f r
  | 0, h => by rw [show r = 0 by omega]
  | k + 1, h => by
    by_cases z : r = k + 1
    · rw [z]
    · show rdE A B C (itE A B C M f k) M = _
      rw [itE_fix e k (by omega)]; exact e
theorem itE_sh {r : Nat} : ∀ k : Nat, itE A B C M f (k + r) = itE A B C M (itE A B C M f r) k
  | 0 => by rw [Nat.zero_add]; rfl
  | k + 1 => by
    rw [show k + 1 + r = (k + r) + 1 by omega]
    show rdE A B C (itE A B C M f (k + r)) M = _
    rw [itE_sh k]; rfl
/-- only nodes in range are touched -/
theorem rx_out (h : x ≠ a) : rx a b c f x = f x := by
  unfold rx
  split
  · exact up_ne h
  · rfl
theorem rdE_out (h : ∀ e : Nat, e < M → x ≠ A e) : ∀ e : Nat, e ≤ M → rdE A B C f e x = f x
  | 0, _ => rfl
  | e + 1, he => by
    show rx (A e) (B e) (C e) (rdE A B C f e) x = _
    rw [rx_out (h e (by omega))]; exact rdE_out h e (by omega)
theorem itE_out (h : ∀ e : Nat, e < M → x ≠ A e) : ∀ k : Nat, itE A B C M f k x = f x
  | 0 => rfl
  | k + 1 => by
    show rdE A B C (itE A B C M f k) M x = _
    rw [rdE_out h M (Nat.le_refl _)]; exact itE_out h k
theorem rdE_lo {L : Int} (hB : ∀ e : Nat, e < M → 0 ≤ C e) (hf : ∀ x, L ≤ f x) : ∀ e : Nat, e ≤ M → ∀ x, L ≤ rdE A B C f e x
  | 0, _ => hf
  | e + 1, he => fun x => by
    have ih := rdE_lo hB hf e (by omega)
    show L ≤ rx (A e) (B e) (C e) (rdE A B C f e) x
    unfold rx
    by_cases h : rdE A B C f e (B e) + C e < rdE A B C f e (A e)
    · rw [if_pos h]
      by_cases z : x = A e
      · rw [up_eq z]
        have := ih (B e)
        have := hB e (by omega)
        omega
      · rw [up_ne z]; exact ih x
    · rw [if_neg h]; exact ih x
theorem itE_lo {L : Int} (hB : ∀ e : Nat, e < M → 0 ≤ C e) (hf : ∀ x, L ≤ f x) : ∀ k : Nat, ∀ x, L ≤ itE A B C M f k x
  | 0 => hf
  | k + 1 => rdE_lo hB (itE_lo hB hf k) M (Nat.le_refl _)
/-! sums grow less until they rest -/
theorem sumI_le {f g : Int → Int} : ∀ n : Nat, (∀ j : Nat, j < n → f j ≤ g j) → sumI f n ≤ sumI g n
  | 0, _ => Int.le_refl _
  | n + 1, h => by
    have h1 := sumI_le n fun j hj => h j (by omega)
    have h2 := h n (by omega)
    show sumI f n + f n ≤ sumI g n + g n
    omega
theorem sumI_ls {f g : Int → Int} {j : Nat} : ∀ n : Nat, (∀ j : Nat, j < n → f j ≤ g j) → j < n → f j < g j → sumI f n < sumI g n
  | 0, _, hj, _ => by omega
  | n + 1, h, hj, hl => by
    have h2 := h n (by omega)
    show sumI f n + f n < sumI g n + g n
    by_cases z : j = n
    · subst z
      have h1 := sumI_le j fun i hi => h i (by omega)
      omega
    · have h1 := sumI_ls (f := f) (g := g) (j := j) n (fun i hi => h i (by omega)) (by omega) hl
      omega
theorem rest_ex (hA : ∀ e : Nat, e < M → 0 ≤ A e ∧ A e < n) (hC : ∀ e : Nat, e < M → 0 ≤ C e) : ∀ (m : Nat) (f : Int → Int), (∀ x, 0 ≤ f x) → sumI f n ≤ m → ∃ r : Nat, itE A B C M f (r + 1) = itE A B C M f r := by
  intro m
  induction m with
  | zero =>
    intro f hf hs
    refine ⟨0, funext fun x => ?_⟩
    show rdE A B C f M x = f x
    by_cases hx : 0 ≤ x ∧ x < n
    · have h1 := rdE_le (A := A) (B := B) (C := C) (f := f) x M
      have h2 := rdE_lo (A := A) (B := B) (C := C) (f := f) (M := M) (L := 0) hC hf M (Nat.le_refl _) x
      by_cases z : rdE A B C f M x = f x
      · exact z
      · have := sumI_ls (f := fun _ => 0) (g := f) (j := x.toNat) n (fun j _ => hf j) (by omega) (by rw [show ((x.toNat : Nat) : Int) = x by omega]; show (0 : Int) < f x; omega)
        rw [sumI_0 n fun _ _ => rfl] at this
        omega
    · exact rdE_out (fun e he z => hx (by rw [z]; exact hA e he)) M (Nat.le_refl _)
  | succ m ih =>
    intro f hf hs
    by_cases z : rdE A B C f M = f
    · exact ⟨0, z⟩
    · have hne : ∃ x, rdE A B C f M x ≠ f x := Classical.byContradiction fun h => z (funext fun x => Classical.byContradiction fun g => h ⟨x, g⟩)
      obtain ⟨x, hx⟩ := hne
      have hx2 : 0 ≤ x ∧ x < n := Classical.byContradiction fun h => hx (rdE_out (fun e he z => h (by rw [z]; exact hA e he)) M (Nat.le_refl _))
      have h1 := rdE_le (A := A) (B := B) (C := C) (f := f) x M
      have ls := sumI_ls (f := rdE A B C f M) (g := f) (j := x.toNat) n (fun j _ => rdE_le _ M) (by omega) (by rw [show ((x.toNat : Nat) : Int) = x by omega]; omega)
      obtain ⟨r, hr⟩ := ih (rdE A B C f M) (rdE_lo hC hf M (Nat.le_refl _)) (by omega)
      refine ⟨r + 1, ?_⟩
      have e1 : itE A B C M f (r + 1) = itE A B C M (rdE A B C f M) r := itE_sh (r := 1) r
      have e2 : itE A B C M f (r + 1 + 1) = itE A B C M (rdE A B C f M) (r + 1) := itE_sh (r := 1) (r + 1)
      rw [e1, e2]; exact hr
theorem cnt_le : ∀ n : Nat, 0 ≤ cntF F y n ∧ cntF F y n ≤ n
  | 0 => ⟨Int.le_refl 0, Int.le_refl 0⟩
  | n + 1 => by
    have := cnt_le n
    show 0 ≤ cntF F y n + (if F n < y then 1 else 0) ∧ cntF F y n + (if F n < y then 1 else 0) ≤ _
    split <;> omega
theorem cnt_mo (h : x ≤ y) : ∀ n : Nat, cntF F x n ≤ cntF F y n
  | 0 => Int.le_refl _
  | n + 1 => by
    have := cnt_mo h n
    show cntF F x n + (if F n < x then 1 else 0) ≤ cntF F y n + (if F n < y then 1 else 0)
    by_cases c1 : F n < x
    · rw [if_pos c1, if_pos (by omega)]; omega
    · rw [if_neg c1]; split <;> omega
theorem cnt_ls {j : Nat} (h : F j < y) : ∀ n : Nat, j < n → cntF F (F j) n + 1 ≤ cntF F y n
  | 0, hj => by omega
  | n + 1, hj => by
    show cntF F (F j) n + (if F n < F j then 1 else 0) + 1 ≤ cntF F y n + (if F n < y then 1 else 0)
    by_cases z : j = n
    · subst z
      have := cnt_mo (F := F) (x := F j) (y := y) (by omega) j
      rw [if_neg (by omega), if_pos h]; omega
    · have := cnt_ls h n (by omega)
      by_cases c1 : F n < F j
      · rw [if_pos c1, if_pos (by omega)]; omega
      · rw [if_neg c1]; split <;> omega
theorem cnt_self {j : Nat} : ∀ n : Nat, j < n → cntF F (F j) n + 1 ≤ n
  | 0, hj => by omega
  | n + 1, hj => by
    show cntF F (F j) n + (if F n < F j then 1 else 0) + 1 ≤ _
    by_cases z : j = n
    · subst z
      have := cnt_le (F := F) (y := F j) j
      rw [if_neg (by omega)]; omega
    · have := cnt_self (j := j) n (by omega)
      split <;> omega
/-- a value is the first one, or a neighbour's and the way between -/
def Wit (A B C : Nat → Int) (M : Nat) (F f0 g : Int → Int) : Prop := ∀ x, g x = f0 x ∨ ∃ e : Nat, e < M ∧ x = A e ∧ F (B e) + C e ≤ g x
theorem wit_rd (g : Int → Int) (W : Wit A B C M F f0 g) : ∀ e : Nat, e ≤ M → (∀ i : Nat, i ≤ e → ∀ x, F x ≤ rdE A B C g i x) → Wit A B C M F f0 (rdE A B C g e)
  | 0, _, _ => W
  | e + 1, he, hF => fun x => by
    have ih := wit_rd g W e (by omega) fun i hi => hF i (by omega)
    show rx (A e) (B e) (C e) (rdE A B C g e) x = f0 x ∨ ∃ i : Nat, i < M ∧ x = A i ∧ F (B i) + C i ≤ rx (A e) (B e) (C e) (rdE A B C g e) x
    unfold rx
    by_cases h : rdE A B C g e (B e) + C e < rdE A B C g e (A e)
    · rw [if_pos h]
      by_cases z : x = A e
      · rw [up_eq z]
        have := hF e (by omega) (B e)
        exact Or.inr ⟨e, by omega, z, by omega⟩
      · rw [up_ne z]; exact ih x
    · rw [if_neg h]; exact ih x
theorem wit_it {r : Nat} (hF : F = itE A B C M f0 r) : ∀ k : Nat, k ≤ r → Wit A B C M F f0 (itE A B C M f0 k)
  | 0, _ => fun x => Or.inl rfl
  | k + 1, hk => by
    refine wit_rd _ (wit_it hF k (by omega)) M (Nat.le_refl _) fun i hi x => ?_
    rw [hF]
    have h1 : itE A B C M f0 r x ≤ itE A B C M f0 (k + 1) x := itE_mo x r hk
    exact Int.le_trans h1 (rdE_mo x M hi)
theorem rest_n (hA : ∀ e : Nat, e < M → 0 ≤ A e ∧ A e < n) (hB : ∀ e : Nat, e < M → 0 ≤ B e ∧ B e < n) (hC : ∀ e : Nat, e < M → 1 ≤ C e) (hf : ∀ x, 0 ≤ f0 x) {k : Nat} (hk : n ≤ k) : itE A B C M f0 k = itE A B C M f0 n := by
  obtain ⟨r, hr⟩ := rest_ex (A := A) (B := B) (C := C) (M := M) (n := n) hA (fun e he => by have := hC e he; omega) (sumI f0 n).toNat f0 hf (by omega)
  generalize hF : itE A B C M f0 r = F at hr
  have fix : ∀ j : Nat, r ≤ j → itE A B C M f0 j = F := fun j hj => by rw [← hF]; exact itE_fix (by rw [hr, hF]) j hj
  have W : Wit A B C M F f0 F := by
    have := wit_it (A := A) (B := B) (C := C) (M := M) (f0 := f0) hF.symm r (Nat.le_refl _)
    rw [hF] at this; exact this
  have low : ∀ (j : Nat) (x : Int), F x ≤ itE A B C M f0 j x := fun j x => by
    by_cases c : r ≤ j
    · rw [fix j c]; exact Int.le_refl _
    · rw [← hF]; exact itE_mo x r (by omega)
  have key : ∀ (j : Nat) (x : Int), (F x ≠ f0 x → cntF F (F x) n ≤ j) → itE A B C M f0 j x = F x := by
    intro j
    induction j with
    | zero =>
      intro x hx
      rcases W x with z | ⟨e, he, ex, hl⟩
      · exact z.symm
      · by_cases z : F x = f0 x
        · exact z.symm
        · have b1 := hB e he
          have c1 := hC e he
          have := cnt_ls (F := F) (j := (B e).toNat) (y := F x) (by rw [show (((B e).toNat : Nat) : Int) = B e by omega]; omega) n (by omega)
          have := cnt_le (F := F) (y := F ((B e).toNat : Int)) n
          have := hx z
          omega
    | succ j ih =>
      intro x hx
      have l1 := low (j + 1) x
      by_cases z : F x = f0 x
      · have : itE A B C M f0 (j + 1) x ≤ f0 x := itE_mo (i := 0) x (j + 1) (by omega)
        omega
      · rcases W x with z2 | ⟨e, he, ex, hl⟩
        · exact absurd z2 z
        · have b1 := hB e he
          have c1 := hC e he
          have q1 := cnt_ls (F := F) (j := (B e).toNat) (y := F x) (by rw [show (((B e).toNat : Nat) : Int) = B e by omega]; omega) n (by omega)
          rw [show (((B e).toNat : Nat) : Int) = B e by omega] at q1
          have q2 := hx z
          have q3 := ih (B e) (fun _ => by omega)
          have q4 : rdE A B C (itE A B C M f0 j) M (A e) ≤ itE A B C M f0 j (B e) + C e := rdE_at he
          have q5 : itE A B C M f0 (j + 1) x ≤ itE A B C M f0 j (B e) + C e := by rw [ex]; exact q4
          omega
  have all : ∀ j : Nat, n ≤ j → itE A B C M f0 j = F := fun j hj => funext fun x => key j x fun z => by
    have := cnt_le (F := F) (y := F x) n
    omega
  rw [all k hk, all n (Nat.le_refl _)]
end BEL
