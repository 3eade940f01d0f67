/-! SEARCH: what both sides find, as sums and ways -/
def orgV (v : Int → Int) (d : Int) : Int := if rc v d 0 = 2 then endV v (rc v d 13) else v 448
def limV (v : Int → Int) (d : Int) : Int := v 448 + 40 - orgV v d
def fnV (v : Int → Int) (e : Int) : Int := v (12 + 4 * (e / 6) + e / 3 % 2)
def tnV (v : Int → Int) (e : Int) : Int := v (12 + 4 * (e / 6) + (1 - e / 3 % 2))
def lnV (v : Int → Int) (e : Int) : Int := v (12 + 4 * (e / 6) + 2)
def csV (v : Int → Int) (e : Int) : Int := costV v (e / 6) (e / 3 % 2)
def lgA (e t : Int) : Int := e / 6 + 16 * (e / 3 % 2) + 32 * (e % 3) + 128 * t
def ab (x : Int) : Int := if x < 0 then -x else x
def sepV (v : Int → Int) (d y : Int) : Prop := ∀ o, 0 ≤ o → o < v 117 → o ≠ d → ∀ i, 0 ≤ i → i < rc v o 5 → (y % 16 = rc v o (13 + i) % 16 ∧ y / 32 % 4 = rc v o (13 + i) / 32 % 4) → apV v y (rc v o (13 + i)) = 1
def clP (v : Int → Int) (d q y : Int) : Prop := (1 ≤ q ∧ legS v y) ∨ (2 ≤ q ∧ ¬ sepV v d y)
def b0 (v : Int → Int) (d n l s : Int) : Int := if n = rc v d 3 then (if rc v d 0 = 0 then 0 else s) + ab (l - rc v d 2) else -1
def bs1 (W : (Int → Int) × (Int → Int)) (n l s j : Int) (p : Int × Int) : Int × Int := if W.1 (3 * n + j) < 0 then p else if 0 ≤ p.1 ∧ p.1 ≤ W.2 (3 * n + j) + s + ab (l - j) then p else (W.2 (3 * n + j) + s + ab (l - j), W.1 (3 * n + j))
def bsN (W : (Int → Int) × (Int → Int)) (n l s : Int) (p : Int × Int) : Nat → Int × Int
  | 0 => p
  | j + 1 => bs1 W n l s j (bsN W n l s p j)
def bsV (v : Int → Int) (d : Int) (W : (Int → Int) × (Int → Int)) (n l s : Int) : Int × Int := bsN W n l s (b0 v d n l s, -1) 3
def tryC (v : Int → Int) (d q s e b : Int) : Prop := resV v (tnV v e) < 1000000 ∧ 0 ≤ b ∧ resV v (tnV v e) ≤ rc v d 1 - b - csV v e ∧ ¬ clP v d q (lgA e (orgV v d + s))
noncomputable def tvV (v : Int → Int) (d q : Int) (W : (Int → Int) × (Int → Int)) (s e : Int) : Int := @ite Int (tryC v d q s e (bsV v d W (fnV v e) (e % 3) s).1) (Classical.propDecidable _) ((bsV v d W (fnV v e) (e % 3) s).1 + csV v e) (-1)
abbrev btr (k k2 : Int) : Prop := k % 96 / 6 < k2 % 96 / 6 ∨ (k % 96 / 6 = k2 % 96 / 6 ∧ k2 / 96 < k / 96)
def ar2 (a k w : Int) (W : (Int → Int) × (Int → Int)) : (Int → Int) × (Int → Int) := if W.1 a < 0 ∨ w < W.2 a ∨ (w = W.2 a ∧ btr k (W.1 a)) then (up W.1 a k, up W.2 a w) else W
def ar1 (v tk : Int → Int) (s e : Int) (W : (Int → Int) × (Int → Int)) : (Int → Int) × (Int → Int) := if lnV v e ≤ s ∧ 0 ≤ tk (96 * (s - lnV v e) + e) then ar2 (3 * tnV v e + e % 3) (96 * (s - lnV v e) + e) (tk (96 * (s - lnV v e) + e) - s) W else W
def arN (v tk : Int → Int) (s : Int) : Nat → (Int → Int) × (Int → Int) → (Int → Int) × (Int → Int)
  | 0, W => W
  | e + 1, W => ar1 v tk s e (arN v tk s e W)
def wpF (v tk : Int → Int) : Nat → (Int → Int) × (Int → Int)
  | 0 => (fun _ => -1, fun _ => 0)
  | s + 1 => arN v tk s (6 * (v 11).toNat) (wpF v tk s)
abbrev okK (v : Int → Int) (d : Int) (s : Nat) (k : Int) : Prop := 96 * (s : Int) ≤ k ∧ k < 96 * (s : Int) + 96 ∧ k % 96 < 6 * v 11 ∧ (s : Int) + lnV v (k % 96) ≤ limV v d
noncomputable def TKs (v : Int → Int) (d q : Int) : Nat → (Int → Int) × (Int → Int)
  | 0 => (fun _ => -1, fun _ => -1)
  | s + 1 => (fun k => if okK v d s k then tvV v d q (wpF v (TKs v d q s).1 (s + 1)) s (k % 96) else (TKs v d q s).1 k,
    fun k => if okK v d s k then (bsV v d (wpF v (TKs v d q s).1 (s + 1)) (fnV v (k % 96)) (k % 96 % 3) s).2 else (TKs v d q s).2 k)
/-- hidden: nothing that compares terms is to unfold it -/
theorem TK_ex (v : Int → Int) (d q : Int) : ∃ f : (Int → Int) × (Int → Int), f = TKs v d q 40 := ⟨_, rfl⟩
noncomputable def TKf (v : Int → Int) (d q : Int) : (Int → Int) × (Int → Int) := Classical.choose (TK_ex v d q)
theorem TKf_eq (v : Int → Int) (d q : Int) : TKf v d q = TKs v d q 40 := Classical.choose_spec (TK_ex v d q)
noncomputable def TK (v : Int → Int) (d q : Int) : Int → Int := (TKf v d q).1
noncomputable def BF (v : Int → Int) (d q : Int) : Int → Int := (TKf v d q).2
theorem TK_eq (v : Int → Int) (d q : Int) : TK v d q = (TKs v d q 40).1 := by unfold TK; rw [TKf_eq]
theorem BF_eq (v : Int → Int) (d q : Int) : BF v d q = (TKs v d q 40).2 := by unfold BF; rw [TKf_eq]
noncomputable def wsF (v : Int → Int) (d q : Int) (s : Nat) : (Int → Int) × (Int → Int) := wpF v (TK v d q) s
def enK (v : Int → Int) (k : Int) : Int := k / 96 + lnV v (k % 96)
section SDF
variable {v tk tk2 : Int → Int} {d q e k l m n s t x y a b : Int} {W : (Int → Int) × (Int → Int)} {p : Int × Int}
/-- a way of a leg -/
theorem ln_b (I : Iv v) (he : 0 ≤ e ∧ e < 6 * v 11) : 1 ≤ lnV v e ∧ lnV v e ≤ 9 := by
  have g := I.c (n := e / 6) (by omega) (by omega)
  unfold corOK at g; unfold lnV; exact g.2.2.2.1
theorem fn_b (I : Iv v) (he : 0 ≤ e ∧ e < 6 * v 11) : 0 ≤ fnV v e ∧ fnV v e < v 0 := (cor_e (d := e / 3 % 2) I (by omega) (by omega)).1
theorem tn_b (I : Iv v) (he : 0 ≤ e ∧ e < 6 * v 11) : 0 ≤ tnV v e ∧ tnV v e < v 0 := (cor_e (d := e / 3 % 2) I (by omega) (by omega)).2.1
theorem cs_b (I : Iv v) (he : 0 ≤ e ∧ e < 6 * v 11) : 1 ≤ csV v e ∧ csV v e ≤ 27 := (cor_e (d := e / 3 % 2) I (by omega) (by omega)).2.2.2
theorem org_b (I : Iv v) (hd : 0 ≤ d ∧ d < v 117) : v 448 ≤ orgV v d ∧ orgV v d ≤ v 448 + 40 ∧ (rc v d 0 = 2 → v 448 + 1 ≤ orgV v d) := by
  have O := I.d hd.1 hd.2
  have g := O.2.2.2.2.2.2.2.2.2.2.2.2.2.2.2.2.1
  unfold orgV
  by_cases c : rc v d 0 = 2
  · rw [if_pos c]; have := g c; omega
  · rw [if_neg c]; omega
theorem lim_b (I : Iv v) (hd : 0 ≤ d ∧ d < v 117) : 0 ≤ limV v d ∧ limV v d ≤ 40 ∧ (rc v d 0 = 2 → limV v d ≤ 39) := by
  have := org_b I hd
  unfold limV; omega
theorem ab_b (hx : -2 ≤ x ∧ x ≤ 2) : 0 ≤ ab x ∧ ab x ≤ 2 := by unfold ab; split <;> omega
theorem ab_alt : (if 0 ≤ x then x else 0 - x) = ab x := by unfold ab; split <;> split <;> omega
theorem ar1_cg (hl : 1 ≤ lnV v e) (he : 0 ≤ e ∧ e < 96) (g : ∀ k, 0 ≤ k → k < 96 * s → tk k = tk2 k) : ar1 v tk s e W = ar1 v tk2 s e W := by
  unfold ar1
  by_cases c : lnV v e ≤ s
  · rw [g (96 * (s - lnV v e) + e) (by omega) (by omega)]
  · rw [if_neg fun z => c z.1, if_neg fun z => c z.1]
theorem arN_cg (I : Iv v) (g : ∀ k, 0 ≤ k → k < 96 * s → tk k = tk2 k) : ∀ m : Nat, (m : Int) ≤ 6 * v 11 → arN v tk s m W = arN v tk2 s m W
  | 0, _ => rfl
  | m + 1, h => by
    have b := I.b
    show ar1 v tk s m (arN v tk s m W) = ar1 v tk2 s m (arN v tk2 s m W)
    rw [arN_cg I g m (by omega), ar1_cg (ln_b I (by omega)).1 (by omega) g]
theorem wpF_cg (I : Iv v) : ∀ s : Nat, (∀ k, 0 ≤ k → k < 96 * (s : Int) → tk k = tk2 k) → wpF v tk (s + 1) = wpF v tk2 (s + 1)
  | 0, g => by
    have b := I.b
    exact arN_cg I g _ (by omega)
  | s + 1, g => by
    have b := I.b
    show arN v tk (s + 1 : Nat) (6 * (v 11).toNat) (wpF v tk (s + 1)) = arN v tk2 (s + 1 : Nat) (6 * (v 11).toNat) (wpF v tk2 (s + 1))
    rw [wpF_cg I s fun k h1 h2 => g k h1 (by omega), arN_cg I g _ (by omega)]
theorem TKs_st {s : Nat} (hk : k < 96 * (s : Int)) : ∀ s2 : Nat, s ≤ s2 → (TKs v d q s2).1 k = (TKs v d q s).1 k ∧ (TKs v d q s2).2 k = (TKs v d q s).2 k
  | 0, h => by rw [show s = 0 by omega]; exact ⟨rfl, rfl⟩
  | s2 + 1, h => by
    by_cases c : s = s2 + 1
    · rw [c]; exact ⟨rfl, rfl⟩
    · have ih := TKs_st hk s2 (by omega)
      have c2 : ¬ okK v d s2 k := fun z => by have := z.1; omega
      exact ⟨(if_neg c2).trans ih.1, (if_neg c2).trans ih.2⟩
theorem TKs_hi : ∀ s : Nat, 96 * (s : Int) ≤ k → (TKs v d q s).1 k = -1
  | 0, _ => rfl
  | s + 1, h => by
    have c2 : ¬ okK v d s k := fun z => by have := z.2.1; omega
    exact (if_neg c2).trans (TKs_hi s (by omega))
theorem wsF_s (I : Iv v) {s : Nat} (hs : s ≤ 40) : wpF v (TKs v d q s).1 (s + 1) = wsF v d q (s + 1) := wpF_cg I s fun k _ h2 => by rw [TK_eq]; exact ((TKs_st h2 40 hs).1).symm
theorem okK_iff {s : Nat} (he : 0 ≤ e ∧ e < 96) : okK v d s (96 * s + e) ↔ (e < 6 * v 11 ∧ s + lnV v e ≤ limV v d) := by
  show (96 * (s : Int) ≤ 96 * s + e ∧ 96 * (s : Int) + e < 96 * s + 96 ∧ (96 * (s : Int) + e) % 96 < 6 * v 11 ∧ s + lnV v ((96 * (s : Int) + e) % 96) ≤ limV v d) ↔ _
  rw [show (96 * (s : Int) + e) % 96 = e by omega]
  exact ⟨fun z => z.2.2, fun z => ⟨by omega, by omega, z⟩⟩
theorem TK_at (I : Iv v) {s : Nat} (hs : s < 40) (he : 0 ≤ e ∧ e < 96) : TK v d q (96 * s + e) = if e < 6 * v 11 ∧ s + lnV v e ≤ limV v d then tvV v d q (wsF v d q (s + 1)) s e else -1 := by
  have h1 : TK v d q (96 * s + e) = (TKs v d q (s + 1)).1 (96 * s + e) := by rw [TK_eq]; exact (TKs_st (s := s + 1) (by omega) 40 (by omega)).1
  rw [h1]
  by_cases c : e < 6 * v 11 ∧ s + lnV v e ≤ limV v d
  · rw [if_pos c]
    refine (if_pos ((okK_iff he).mpr c)).trans ?_
    rw [wsF_s I (by omega), show (96 * (s : Int) + e) % 96 = e by omega]
  · rw [if_neg c]
    exact (if_neg fun z => c ((okK_iff he).mp z)).trans (TKs_hi _ (by omega))
theorem BF_at (I : Iv v) {s : Nat} (hs : s < 40) (he : 0 ≤ e ∧ e < 96) (c : e < 6 * v 11 ∧ s + lnV v e ≤ limV v d) : BF v d q (96 * s + e) = (bsV v d (wsF v d q (s + 1)) (fnV v e) (e % 3) s).2 := by
  have h1 : BF v d q (96 * s + e) = (TKs v d q (s + 1)).2 (96 * s + e) := by rw [BF_eq]; exact (TKs_st (s := s + 1) (by omega) 40 (by omega)).2
  rw [h1]
  refine (if_pos ((okK_iff he).mpr c)).trans ?_
  rw [wsF_s I (by omega), show (96 * (s : Int) + e) % 96 = e by omega]
theorem TK_hi (hk : 3840 ≤ k) : TK v d q k = -1 := by rw [TK_eq]; exact TKs_hi 40 (by omega)
theorem tv_pos (g : 0 ≤ tvV v d q W s e) : tryC v d q s e (bsV v d W (fnV v e) (e % 3) s).1 ∧ tvV v d q W s e = (bsV v d W (fnV v e) (e % 3) s).1 + csV v e := by
  by_cases c : tryC v d q s e (bsV v d W (fnV v e) (e % 3) s).1
  · exact ⟨c, if_pos c⟩
  · have z : tvV v d q W s e = -1 := if_neg c
    rw [z] at g; omega
theorem tv_neg (g : ¬ tryC v d q s e (bsV v d W (fnV v e) (e % 3) s).1) : tvV v d q W s e = -1 := if_neg g
theorem tv_yes (g : tryC v d q s e (bsV v d W (fnV v e) (e % 3) s).1) : tvV v d q W s e = (bsV v d W (fnV v e) (e % 3) s).1 + csV v e := if_pos g
/-- a leg that can be taken -/
theorem TK_pos (I : Iv v) (hd : 0 ≤ d ∧ d < v 117) (hk : 0 ≤ k) (g : 0 ≤ TK v d q k) : k < 3840 ∧ (0 ≤ k % 96 ∧ k % 96 < 6 * v 11) ∧ enK v k ≤ limV v d ∧ (1 ≤ TK v d q k ∧ TK v d q k ≤ 200) ∧ tryC v d q (k / 96) (k % 96) (bsV v d (wsF v d q ((k / 96).toNat + 1)) (fnV v (k % 96)) (k % 96 % 3) (k / 96)).1 ∧ TK v d q k = (bsV v d (wsF v d q ((k / 96).toNat + 1)) (fnV v (k % 96)) (k % 96 % 3) (k / 96)).1 + csV v (k % 96) ∧ BF v d q k = (bsV v d (wsF v d q ((k / 96).toNat + 1)) (fnV v (k % 96)) (k % 96 % 3) (k / 96)).2 := by
  have h1 : k < 3840 := by
    by_cases c : 3840 ≤ k
    · rw [TK_hi c] at g; omega
    · omega
  have e1 := TK_at (d := d) (q := q) (s := (k / 96).toNat) (e := k % 96) I (by omega) (by omega)
  have es : (((k / 96).toNat : Nat) : Int) = k / 96 := by omega
  have ek : 96 * (((k / 96).toNat : Nat) : Int) + k % 96 = k := by omega
  rw [ek, es] at e1
  by_cases c : k % 96 < 6 * v 11 ∧ k / 96 + lnV v (k % 96) ≤ limV v d
  · rw [if_pos c] at e1
    have e2 := BF_at (d := d) (q := q) (s := (k / 96).toNat) (e := k % 96) I (by omega) (by omega) (by rw [es]; exact c)
    rw [ek, es] at e2
    rw [e1] at g ⊢
    obtain ⟨t1, t2⟩ := tv_pos g
    have cb := cs_b I (e := k % 96) (by omega)
    have rb := resV_b I (tnV v (k % 96))
    have O := (I.d hd.1 hd.2).2.1
    have t3 := t1.2
    exact ⟨h1, ⟨by omega, c.1⟩, c.2, by omega, t1, t2, e2⟩
  · rw [if_neg c] at e1; omega
end SDF
