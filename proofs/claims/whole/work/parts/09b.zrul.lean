/-! INTS AS NUMBERS: the rules once more, with Int in place of Int32 -/
abbrev In (x : Int) : Prop := -2147483648 ≤ x ∧ x < 2147483648
theorem J_bd (X : Int32) : In X.toInt := ⟨Int32.le_toInt X, Int32.toInt_lt X⟩
theorem J_ti {x : Int} (h : In x) : (J x).toInt = x := J_toInt h.1 h.2
theorem J_ez {x z : Int} (h : In x) (g : In z) : J x = J z ↔ x = z := J_eq h.1 h.2 g.1 g.2
theorem J_lz {x z : Int} (h : In x) (g : In z) : J x < J z ↔ x < z := J_lt h.1 h.2 g.1 g.2
theorem J_lez {x z : Int} (h : In x) (g : In z) : J x ≤ J z ↔ x ≤ z := by rw [Int32.le_iff_toInt_le, J_ti h, J_ti g]
theorem J_add' {X Z : Int32} {x z : Int} (h : X = J x) (g : Z = J z) : X + Z = J (x + z) := by rw [h, g, J_add]
theorem J_sub' {X Z : Int32} {x z : Int} (h : X = J x) (g : Z = J z) : X - Z = J (x - z) := by rw [h, g, J_sub]
theorem J_mul' {X Z : Int32} {x z : Int} (h : X = J x) (g : Z = J z) : X * Z = J (x * z) := by rw [h, g, J_mul]
theorem J_neg' {X : Int32} {x : Int} (h : X = J x) : -X = J (-x) := by rw [h, J_neg]
def zand (x z : Int) : Int := (J x &&& J z).toInt
def zor (x z : Int) : Int := (J x ||| J z).toInt
def zshl (x z : Int) : Int := (J x <<< (J z &&& 31)).toInt
def zshr (x z : Int) : Int := (J x >>> (J z &&& 31)).toInt
def zchr (x : Int) : Int := ((J x).toUInt32 % 65536).toInt32.toInt
def zlc (x z : Int64) : Int := (lg_cmp x z).toInt
theorem J_and' {X Z : Int32} {x z : Int} (h : X = J x) (g : Z = J z) : X &&& Z = J (zand x z) := by rw [h, g]; exact J_of _
theorem J_or' {X Z : Int32} {x z : Int} (h : X = J x) (g : Z = J z) : X ||| Z = J (zor x z) := by rw [h, g]; exact J_of _
theorem J_shl' {X Z : Int32} {x z : Int} (h : X = J x) (g : Z = J z) : X <<< (Z &&& 31) = J (zshl x z) := by rw [h, g]; exact J_of _
theorem J_shr' {X Z : Int32} {x z : Int} (h : X = J x) (g : Z = J z) : X >>> (Z &&& 31) = J (zshr x z) := by rw [h, g]; exact J_of _
theorem J_chr' {X : Int32} {x : Int} (h : X = J x) : (X.toUInt32 % 65536).toInt32 = J (zchr x) := by rw [h]; exact J_of _
theorem J_lc' {x z : Int64} : lg_cmp x z = J (zlc x z) := J_of _
theorem J_min' {x z : Int} (h : In x) (g : In z) : (if J z < J x then J z else J x) = J (if z < x then z else x) := by
  by_cases c : z < x
  · rw [if_pos c, if_pos ((J_lz g h).mpr c)]
  · rw [if_neg c, if_neg (fun e => c ((J_lz g h).mp e))]
theorem J_abs' {x : Int} (h : In x) : (if (0 : Int32) ≤ J x then J x else 0 - J x) = J (if 0 ≤ x then x else 0 - x) := by
  have e : (0 : Int32) ≤ J x ↔ (0 : Int) ≤ x := J_lez (x := 0) (by decide) h
  by_cases c : (0 : Int) ≤ x
  · rw [if_pos c, if_pos (e.mpr c)]
  · rw [if_neg c, if_neg (fun z => c (e.mp z))]
    exact J_sub 0 x
theorem zand_in (x z : Int) : In (zand x z) := J_bd _
theorem zor_in (x z : Int) : In (zor x z) := J_bd _
theorem zshl_in (x z : Int) : In (zshl x z) := J_bd _
theorem zshr_in (x z : Int) : In (zshr x z) := J_bd _
theorem zchr_in (x : Int) : In (zchr x) := J_bd _
theorem zlc_in (x z : Int64) : In (zlc x z) := J_bd _
/-- what lies in the heap, as a number -/
def ai (h : PH) (a : Nat) (k : Int) : Int := (gi h a k.toNat).toInt
def wi (h : PH) (a : Nat) (k : Int) (x : Int) : PH := si h a k.toNat (J x)
theorem ai_in (h : PH) (a : Nat) (k : Int) : In (ai h a k) := J_bd _
theorem ai_J (h : PH) (a : Nat) (k : Int) : gi h a k.toNat = J (ai h a k) := J_of _
theorem ai_wi (h : PH) (a b : Nat) (k j x : Int) (hk : 0 ≤ k) (hj : 0 ≤ j) (hx : In x) : ai (wi h a k x) b j = if b = a ∧ j = k then x else ai h b j := by
  show (if b = a ∧ j.toNat = k.toNat then J x else gi h b j.toNat).toInt = _
  by_cases c : b = a ∧ j = k
  · rw [if_pos c, if_pos ⟨c.1, by rw [c.2]⟩, J_ti hx]
  · rw [if_neg c, if_neg (fun z => c ⟨z.1, by omega⟩)]; rfl
def txl (j : Nat) : Int := ((txt j).length : Int)
def txc (j : Nat) (i : Int) : Int := ((txt j).getD i.toNat 0).toInt
def cmpZ : ClassFile.Cond → Int → Int → Prop := fun c x z => match c with
  | .eq => x = z
  | .ne => ¬ x = z
  | .lt => x < z
  | .ge => ¬ x < z
  | .gt => z < x
  | .le => ¬ z < x
theorem cmpZ_iff {c : ClassFile.Cond} {x z : Int} (h : In x) (g : In z) : cmpC c (J x) (J z) ↔ cmpZ c x z := by
  cases c
  · exact J_ez h g
  · exact not_congr (J_ez h g)
  · exact J_lz h g
  · show J z ≤ J x ↔ ¬ x < z
    rw [J_lez g h]; omega
  · exact J_lz g h
  · show J x ≤ J z ↔ ¬ z < x
    rw [J_lez h g]; omega
def SWZ (P : Nat → Prop) (x : Int) : List (Int32 × Nat) → Nat → Prop
  | [], d => P d
  | q :: r, d => (x = q.1.toInt → P q.2) ∧ (¬ x = q.1.toInt → SWZ P x r d)
theorem SWZ.to {P : Nat → Prop} {x : Int} (h : In x) : ∀ {l : List (Int32 × Nat)} {d : Nat}, SWZ P x l d → SW P (J x) l d
  | [], _, k => k
  | q :: r, d, k => ⟨fun e => k.1 (by rw [← e, J_ti h]), fun e => SWZ.to h (k.2 fun z => e (by rw [z]; exact (J_of _).symm))⟩
abbrev ZI (T N : Nat → Nat) (M : Nat) (as : List PV) (h : PH) (K : Int → PH → Prop) : Prop := CI T N M as h (fun x h2 => K x.toInt h2)
abbrev ZW (T N : Nat → Nat) (M pc : Nat) (L : PL) (st : List PV) (h : PH) (K : Int → PH → Prop) : Prop := WI T N M pc L st h (fun x h2 => K x.toInt h2)
section ZR
variable {T N : Nat → Nat} {M pc : Nat} {L : PL} {st : List PV} {h : PH} {Q : PR → PH → Prop}
theorem R_zif {c : ClassFile.Cond} {off : Int} {len p q r w y : Nat} {x z : Int} (hk : cod M pc = some (.if_icmp c off, len, p, q, r, w, y)) (hx : In x) (hz : In z) (kt : cmpZ c x z → WP T N M p L st h Q) (kf : ¬ cmpZ c x z → WP T N M (pc + 3) L st h Q) : WP T N M pc L (vi (J z) :: vi (J x) :: st) h Q :=
  R_if hk (fun g => kt ((cmpZ_iff hx hz).mp g)) (fun g => kf fun e => g ((cmpZ_iff hx hz).mpr e))
theorem R_zif0 {c : ClassFile.Cond} {off : Int} {len p q r w y : Nat} {x : Int} (hk : cod M pc = some (.ifCond c off, len, p, q, r, w, y)) (hx : In x) (kt : cmpZ c x 0 → WP T N M p L st h Q) (kf : ¬ cmpZ c x 0 → WP T N M (pc + 3) L st h Q) : WP T N M pc L (vi (J x) :: st) h Q :=
  R_if0 hk (fun g => kt ((cmpZ_iff (z := 0) hx (by decide)).mp g)) (fun g => kf fun e => g ((cmpZ_iff (z := 0) hx (by decide)).mpr e))
theorem R_ztsw {d lo hi : Int} {offs : Array Int} {len p q r w y : Nat} {x : Int} (hk : cod M pc = some (.tableswitch d lo hi offs, len, p, q, r, w, y)) {l : List (Int32 × Nat)} {t : Nat} (hl : swl pc (.tableswitch d lo hi offs) = (l, t)) (hx : In x) (k : SWZ (fun t => WP T N M t L st h Q) x l t) : WP T N M pc L (vi (J x) :: st) h Q := R_tsw hk hl (SWZ.to hx k)
theorem R_zlsw {d : Int} {ps : Array (Int × Int)} {len p q r w y : Nat} {x : Int} (hk : cod M pc = some (.lookupswitch d ps, len, p, q, r, w, y)) {l : List (Int32 × Nat)} {t : Nat} (hl : swl pc (.lookupswitch d ps) = (l, t)) (hx : In x) (k : SWZ (fun t => WP T N M t L st h Q) x l t) : WP T N M pc L (vi (J x) :: st) h Q := R_lsw hk hl (SWZ.to hx k)
theorem J_div {x z : Int} (hx : 0 ≤ x ∧ x < 2147483648) (hz : 0 < z ∧ z < 2147483648) : J x / J z = J (x / z) := by
  have hq : x.tdiv z = x / z := Int.tdiv_eq_ediv_of_nonneg hx.1
  have h1 : 0 ≤ x / z := Int.ediv_nonneg hx.1 (by omega)
  have h2 : x / z ≤ x := Int.ediv_le_self z hx.1
  rw [← Int32.toInt_inj, Int32.toInt_div, J_ti (x := x) (by omega), J_ti (x := z) (by omega), J_ti (x := x / z) (by omega), hq]
  exact Int.bmod_eq_of_le (by omega) (by omega)
theorem J_rem {x z : Int} (hx : 0 ≤ x ∧ x < 2147483648) (hz : 0 < z ∧ z < 2147483648) : J x - J x / J z * J z = J (x % z) := by
  rw [J_div hx hz, J_mul, J_sub]
  congr 1
  rw [Int.emod_def, Int.mul_comm]
theorem R_zdiv {len p q r w y : Nat} {x z : Int} (hk : cod M pc = some (.idiv, len, p, q, r, w, y)) (hz : 0 < z ∧ z < 2147483648) (hx : 0 ≤ x ∧ x < 2147483648) (k : WP T N M (pc + 1) L (vi (J (x / z)) :: st) h Q) : WP T N M pc L (vi (J z) :: vi (J x) :: st) h Q :=
  R_div hk (fun e => by have := congrArg Int32.toInt e; rw [J_ti (by omega)] at this; have : z = 0 := this; omega) (by rw [J_div hx hz]; exact k)
theorem R_zrem {len p q r w y : Nat} {x z : Int} (hk : cod M pc = some (.irem, len, p, q, r, w, y)) (hz : 0 < z ∧ z < 2147483648) (hx : 0 ≤ x ∧ x < 2147483648) (k : WP T N M (pc + 1) L (vi (J (x % z)) :: st) h Q) : WP T N M pc L (vi (J z) :: vi (J x) :: st) h Q :=
  R_rem hk (fun e => by have := congrArg Int32.toInt e; rw [J_ti (by omega)] at this; have : z = 0 := this; omega) (by rw [J_rem hx hz]; exact k)
theorem R_zgetI {i len p q w y a : Nat} {z : Int} (hk : cod M pc = some (.getfield i, len, p, q, 0, w, y)) (ht : T a = p) (hz : z.toNat = q) (k : WP T N M (pc + 3) L (vi (J (ai h a z)) :: st) h Q) : WP T N M pc L (vr (some a) :: st) h Q :=
  R_getI hk ht (by rw [← hz, ai_J]; exact k)
theorem R_zgetZ {i len p q w y a : Nat} {z : Int} (hk : cod M pc = some (.getfield i, len, p, q, 2, w, y)) (ht : T a = p) (hz : z.toNat = q) (k : WP T N M (pc + 3) L (vi (J (ai h a z)) :: st) h Q) : WP T N M pc L (vr (some a) :: st) h Q :=
  R_getZ hk ht (by rw [← hz, ai_J]; exact k)
theorem R_zputI {i len p q w y a : Nat} {x z : Int} (hk : cod M pc = some (.putfield i, len, p, q, 0, w, y)) (ht : T a = p) (hz : z.toNat = q) (k : WP T N M (pc + 3) L st (wi h a z x) Q) : WP T N M pc L (vi (J x) :: vr (some a) :: st) h Q :=
  R_putI hk ht (by rw [← hz]; exact k)
theorem R_zputZ {i len p q w y a : Nat} {x z : Int} (hk : cod M pc = some (.putfield i, len, p, q, 2, w, y)) (ht : T a = p) (hx : x = 0 ∨ x = 1) (hz : z.toNat = q) (k : WP T N M (pc + 3) L st (wi h a z x) Q) : WP T N M pc L (vi (J x) :: vr (some a) :: st) h Q :=
  R_putZ hk ht (by rcases hx with rfl | rfl; exact Or.inl rfl; exact Or.inr rfl) (by rw [← hz]; exact k)
theorem J_ix {i : Int} (h : 0 ≤ i ∧ i < 2147483648) : (J i).toNatClampNeg = i.toNat := by
  show (J i).toInt.toNat = i.toNat
  rw [J_ti (by omega)]
theorem J_ib {i : Int} {n : Nat} (h : 0 ≤ i ∧ i < (n : Int) ∧ i < 2147483648) : inb (J i) n := by
  unfold inb; rw [J_ti (by omega)]; omega
theorem R_ziald {len p q r w y a : Nat} {i : Int} (hk : cod M pc = some (.iaload, len, p, q, r, w, y)) (ht : T a = 22 ∨ T a = 21) (hi : 0 ≤ i ∧ i < (N a : Int) ∧ i < 2147483648) (k : WP T N M (pc + 1) L (vi (J (ai h a i)) :: st) h Q) : WP T N M pc L (vi (J i) :: vr (some a) :: st) h Q :=
  R_iald hk ht (J_ib hi) (by rw [J_ix ⟨hi.1, hi.2.2⟩, ai_J]; exact k)
theorem R_zcald {len p q r w y a : Nat} {i : Int} (hk : cod M pc = some (.caload, len, p, q, r, w, y)) (ht : T a = 23) (hi : 0 ≤ i ∧ i < (N a : Int) ∧ i < 2147483648) (k : WP T N M (pc + 1) L (vi (J (ai h a i)) :: st) h Q) : WP T N M pc L (vi (J i) :: vr (some a) :: st) h Q :=
  R_cald hk ht (J_ib hi) (by rw [J_ix ⟨hi.1, hi.2.2⟩, ai_J]; exact k)
theorem R_zlald {len p q r w y a : Nat} {i : Int} (hk : cod M pc = some (.laload, len, p, q, r, w, y)) (ht : T a = 24) (hi : 0 ≤ i ∧ i < (N a : Int) ∧ i < 2147483648) (k : WP T N M (pc + 1) L (vl (gl h a i.toNat) :: st) h Q) : WP T N M pc L (vi (J i) :: vr (some a) :: st) h Q :=
  R_lald hk ht (J_ib hi) (by rw [J_ix ⟨hi.1, hi.2.2⟩]; exact k)
theorem R_zdald {len p q r w y a : Nat} {i : Int} (hk : cod M pc = some (.daload, len, p, q, r, w, y)) (ht : T a = 25) (hi : 0 ≤ i ∧ i < (N a : Int) ∧ i < 2147483648) (k : WP T N M (pc + 1) L (vd (gd h a i.toNat) :: st) h Q) : WP T N M pc L (vi (J i) :: vr (some a) :: st) h Q :=
  R_dald hk ht (J_ib hi) (by rw [J_ix ⟨hi.1, hi.2.2⟩]; exact k)
theorem R_zaald {len p q r w y a : Nat} {i : Int} (hk : cod M pc = some (.aaload, len, p, q, r, w, y)) (ht : 30 ≤ T a) (hi : 0 ≤ i ∧ i < (N a : Int) ∧ i < 2147483648) (k : WP T N M (pc + 1) L (vr (gr h a i.toNat) :: st) h Q) : WP T N M pc L (vi (J i) :: vr (some a) :: st) h Q :=
  R_aald hk ht (J_ib hi) (by rw [J_ix ⟨hi.1, hi.2.2⟩]; exact k)
theorem R_zalen {len p q r w y a : Nat} (hk : cod M pc = some (.arraylength, len, p, q, r, w, y)) (ht : 21 ≤ T a) (k : WP T N M (pc + 1) L (vi (J (N a : Int)) :: st) h Q) : WP T N M pc L (vr (some a) :: st) h Q :=
  R_alen hk ht (by rw [show Int32.ofNat (N a) = J (N a : Int) from Int32.ofInt_eq_ofNat.symm]; exact k)
theorem R_ziast {len p q r w y a : Nat} {i x : Int} (hk : cod M pc = some (.iastore, len, p, q, r, w, y)) (ht : T a = 22) (hi : 0 ≤ i ∧ i < (N a : Int) ∧ i < 2147483648) (k : WP T N M (pc + 1) L st (wi h a i x) Q) : WP T N M pc L (vi (J x) :: vi (J i) :: vr (some a) :: st) h Q :=
  R_iast hk ht (J_ib hi) (by rw [J_ix ⟨hi.1, hi.2.2⟩]; exact k)
theorem R_zcast {len p q r w y a : Nat} {i x : Int} (hk : cod M pc = some (.castore, len, p, q, r, w, y)) (ht : T a = 23) (hi : 0 ≤ i ∧ i < (N a : Int) ∧ i < 2147483648) (hx : 0 ≤ x ∧ x < 65536) (k : WP T N M (pc + 1) L st (wi h a i x) Q) : WP T N M pc L (vi (J x) :: vi (J i) :: vr (some a) :: st) h Q :=
  R_cast hk ht (J_ib hi) (by rw [J_ti (by omega)]; exact hx) (by rw [J_ix ⟨hi.1, hi.2.2⟩]; exact k)
theorem R_zlast {len p q r w y a : Nat} {i : Int} {x : Int64} (hk : cod M pc = some (.lastore, len, p, q, r, w, y)) (ht : T a = 24) (hi : 0 ≤ i ∧ i < (N a : Int) ∧ i < 2147483648) (k : WP T N M (pc + 1) L st (sL h a i.toNat x) Q) : WP T N M pc L (vl x :: vi (J i) :: vr (some a) :: st) h Q :=
  R_last hk ht (J_ib hi) (by rw [J_ix ⟨hi.1, hi.2.2⟩]; exact k)
theorem R_zdast {len p q r w y a : Nat} {i : Int} {x : UInt64} (hk : cod M pc = some (.dastore, len, p, q, r, w, y)) (ht : T a = 25) (hi : 0 ≤ i ∧ i < (N a : Int) ∧ i < 2147483648) (k : WP T N M (pc + 1) L st (sd h a i.toNat x) Q) : WP T N M pc L (vd x :: vi (J i) :: vr (some a) :: st) h Q :=
  R_dast hk ht (J_ib hi) (by rw [J_ix ⟨hi.1, hi.2.2⟩]; exact k)
theorem R_zaast {len p q r w y a b : Nat} {i : Int} (hk : cod M pc = some (.aastore, len, p, q, r, w, y)) (ht : 1 ≤ T b ∧ T b ≤ 12 ∧ T b + 30 = T a) (hi : 0 ≤ i ∧ i < (N a : Int) ∧ i < 2147483648) (k : WP T N M (pc + 1) L st (sr h a i.toNat (some b)) Q) : WP T N M pc L (vr (some b) :: vi (J i) :: vr (some a) :: st) h Q :=
  R_aast hk ht (J_ib hi) (by rw [J_ix ⟨hi.1, hi.2.2⟩]; exact k)
theorem R_znewa {t : ArrayType} {len p q r w y : Nat} {n : Int} (hk : cod M pc = some (.newarray t, len, p, q, r, w, y)) (ht : T (nx h) = p ∧ n = (N (nx h) : Int) ∧ N (nx h) ≤ 65536) (k : WP T N M (pc + 2) L (vr (some (nx h)) :: st) (grow h (N (nx h))) Q) : WP T N M pc L (vi (J n) :: st) h Q :=
  R_newa hk ⟨ht.1, by rw [J_ti (by omega)]; omega, by rw [J_ti (by omega)]; omega, ht.2.2⟩ k
theorem R_zanew {i len p q r w y : Nat} {n : Int} (hk : cod M pc = some (.anewarray i, len, p, q, r, w, y)) (ht : T (nx h) = 30 + p ∧ n = (N (nx h) : Int) ∧ N (nx h) ≤ 65536) (k : WP T N M (pc + 3) L (vr (some (nx h)) :: st) (grow h (N (nx h))) Q) : WP T N M pc L (vi (J n) :: st) h Q :=
  R_anew hk ⟨ht.1, by rw [J_ti (by omega)]; omega, by rw [J_ti (by omega)]; omega, ht.2.2⟩ k
theorem R_zzret {len p q r w y : Nat} {x : Int} (hk : cod M pc = some (.ireturn, len, p, q, r, w, y)) (hr : rk M = 2) (hx : x = 0 ∨ x = 1) (k : Q (.inl (some (vi (J x)))) h) : WP T N M pc L [vi (J x)] h Q :=
  R_zret hk hr (by rcases hx with rfl | rfl; exact Or.inl rfl; exact Or.inr rfl) k
theorem R_zcret {len p q r w y : Nat} {x : Int} (hk : cod M pc = some (.ireturn, len, p, q, r, w, y)) (hr : rk M = 3) (hx : 0 ≤ x ∧ x < 65536) (k : Q (.inl (some (vi (J x)))) h) : WP T N M pc L [vi (J x)] h Q :=
  R_cret hk hr (by rw [J_ti (by omega)]; exact hx) k
theorem R_zr {x : Int} {K : Int → PH → Prop} (hx : In x) (k : K x h) : QI (fun x h2 => K x.toInt h2) (.inl (some (vi (J x)))) h := ⟨_, rfl, by show K (J x).toInt h; rw [J_ti hx]; exact k⟩
theorem R_zcI {e : PE} {as rest : List PV} {K : Int → PH → Prop} (hk : cod M pc = some e) (hi : (isInv e.1 && !(Nat.ble 1000 e.2.2.1)) = true) (hs : cOK loc rt T e st) (ha : (st.take e.2.2.2.1).reverse = as) (hr : st.drop e.2.2.2.1 = rest) (k : ZI T N e.2.2.1 as h K) (kk : ∀ (x : Int) h2, In x → K x h2 → WP T N M (pc + 3) L (vi (J x) :: rest) h2 Q) : WP T N M pc L st h Q :=
  R_cI hk hi hs ha hr k fun X h2 g => by rw [J_of X]; exact kk _ h2 (J_bd X) g
theorem R_jdkz {e : PE} {st2 st3 : List PV} (hk : cod M pc = some e) (hi : isInv e.1 = true) (h1 : pstep e pc L st = none) (h2 : hstep T N csz e pc st h = none) (h3 : rets e.1 (rk M) st = none) (hp : Nat.ble 1000 e.2.2.1 = true) (hj : jstep txt e.2.2.1 st = some st2) (hw : Nat.ble (wsum st2) 8 = true) (hz : st2 = st3) (k : WP T N M (pc + 3) L st3 h Q) : WP T N M pc L st h Q := by
  subst hz; exact R_jdk hk hi h1 h2 h3 hp hj hw k
end ZR
theorem J_max' {x z : Int} (h : In x) (g : In z) : (if J x < J z then J z else J x) = J (if x < z then z else x) := by
  by_cases c : x < z
  · rw [if_pos c, if_pos ((J_lz h g).mpr c)]
  · rw [if_neg c, if_neg (fun e => c ((J_lz h g).mp e))]
theorem zemp (j : Nat) : (if (txt j).length = 0 then (1 : Int32) else 0) = J (if txl j = 0 then (1 : Int) else 0) := by
  unfold txl
  by_cases c : (txt j).length = 0
  · rw [if_pos c, if_pos (by omega)]; rfl
  · rw [if_neg c, if_neg (by omega)]; rfl
theorem zti {j : Nat} {i : Int} (h : j < 5 ∧ 0 ≤ i ∧ i < txl j ∧ i < 2147483648) : j < 5 ∧ inb (J i) (txt j).length := ⟨h.1, J_ib ⟨h.2.1, h.2.2.1, h.2.2.2⟩⟩
theorem ztc {j : Nat} {i : Int} (h : j < 5 ∧ 0 ≤ i ∧ i < txl j ∧ i < 2147483648) : (txt j).getD (J i).toNatClampNeg 0 = J (txc j i) := by
  rw [J_ix ⟨h.2.1, h.2.2.2⟩]; exact J_of _
