/-! rows on bits, shifts and unsigned numbers, to paste: each family out of a closed proof of our own, whole with what it rests on; each by itself clean at Lean in its own claim (generation 39, form 5). Take a family whole -/
/-! ===== Int32 by its bits: bt x i ===== -/
def bt (x : Int32) (i : Nat) : Bool := x.toBitVec.getLsbD i
theorem b_ext {x y : Int32} (h : ∀ i, i < 32 → bt x i = bt y i) : x = y := Int32.toBitVec_inj.mp (BitVec.eq_of_getLsbD_eq (fun i hi => h i hi))
theorem b_or (x y : Int32) (i : Nat) : bt (x ||| y) i = (bt x i || bt y i) := by unfold bt; rw [Int32.toBitVec_or, BitVec.getLsbD_or]
theorem b_and (x y : Int32) (i : Nat) : bt (x &&& y) i = (bt x i && bt y i) := by unfold bt; rw [Int32.toBitVec_and, BitVec.getLsbD_and]
theorem b_xor (x y : Int32) (i : Nat) : bt (x ^^^ y) i = (bt x i ^^ bt y i) := by unfold bt; rw [Int32.toBitVec_xor, BitVec.getLsbD_xor]
theorem b_big {x : Int32} {i : Nat} (h : 32 ≤ i) : bt x i = false := BitVec.getLsbD_of_ge _ _ h
theorem b_255 (i : Nat) : bt 255 i = decide (i < 8) := by
  rcases Nat.lt_or_ge i 32 with h | h
  · exact (by decide +kernel : ∀ i, i < 32 → bt 255 i = decide (i < 8)) i h
  · rw [b_big h, decide_eq_false (by omega)]
theorem b_65535 (i : Nat) : bt 65535 i = decide (i < 16) := by
  rcases Nat.lt_or_ge i 32 with h | h
  · exact (by decide +kernel : ∀ i, i < 32 → bt 65535 i = decide (i < 16)) i h
  · rw [b_big h, decide_eq_false (by omega)]
theorem b_m1 : ∀ i, i < 32 → bt (-1) i = true := by decide +kernel
theorem b_0 (i : Nat) : bt 0 i = false := BitVec.getLsbD_zero
theorem s_l : ∀ n, n < 32 → ((nI n &&& 31).toBitVec.smod 32).toNat = n := by decide +kernel
theorem s_u : ∀ n, n < 32 → (((nI n).toUInt32 &&& Int32.toUInt32 31).toBitVec % 32).toNat = n := by decide +kernel
theorem b_shl (n : Nat) (hn : n < 32) (x : Int32) {i : Nat} (hi : i < 32) : bt (x <<< (nI n &&& 31)) i = (decide (n ≤ i) && bt x (i - n)) := by
  unfold bt
  rw [Int32.toBitVec_shiftLeft]
  show (x.toBitVec <<< ((nI n &&& 31).toBitVec.smod 32).toNat).getLsbD i = _
  rw [s_l n hn, BitVec.getLsbD_shiftLeft]
  rcases Nat.lt_or_ge i n with h | h
  · simp [h, Nat.not_le.mpr h]
  · simp [hi, h, Nat.not_lt.mpr h]
theorem b_ushr (n : Nat) (hn : n < 32) (x : Int32) (i : Nat) : bt ((x.toUInt32 >>> ((nI n).toUInt32 &&& Int32.toUInt32 31)).toInt32) i = bt x (n + i) := by
  show (x.toUInt32 >>> ((nI n).toUInt32 &&& Int32.toUInt32 31)).toBitVec.getLsbD i = x.toUInt32.toBitVec.getLsbD (n + i)
  rw [UInt32.toBitVec_shiftRight]
  show (x.toUInt32.toBitVec >>> (((nI n).toUInt32 &&& Int32.toUInt32 31).toBitVec % 32).toNat).getLsbD i = _
  rw [s_u n hn, BitVec.getLsbD_ushiftRight]
theorem b_sshr (n : Nat) (hn : n < 32) (x : Int32) {i : Nat} (hi : i < 32) : bt (x >>> (nI n &&& 31)) i = if n + i < 32 then bt x (n + i) else bt x 31 := by
  unfold bt
  rw [Int32.toBitVec_shiftRight]
  show (x.toBitVec.sshiftRight ((nI n &&& 31).toBitVec.smod 32).toNat).getLsbD i = _
  rw [s_l n hn, BitVec.getLsbD_sshiftRight, BitVec.msb_eq_getLsbD_last]
  simp [hi]
theorem b_shl8 (x : Int32) {i : Nat} (hi : i < 32) : bt (x <<< ((8 : Int32) &&& 31)) i = (decide (8 ≤ i) && bt x (i - 8)) := b_shl 8 (by omega) x hi
theorem b_shl16 (x : Int32) {i : Nat} (hi : i < 32) : bt (x <<< ((16 : Int32) &&& 31)) i = (decide (16 ≤ i) && bt x (i - 16)) := b_shl 16 (by omega) x hi
theorem b_shl24 (x : Int32) {i : Nat} (hi : i < 32) : bt (x <<< ((24 : Int32) &&& 31)) i = (decide (24 ≤ i) && bt x (i - 24)) := b_shl 24 (by omega) x hi
theorem b_sshr8 (x : Int32) {i : Nat} (hi : i < 32) : bt (x >>> ((8 : Int32) &&& 31)) i = if 8 + i < 32 then bt x (8 + i) else bt x 31 := b_sshr 8 (by omega) x hi
/-! masks, as numbers -/
def mb (m : Int) (n : Nat) : Bool := bt (J m) n
theorem nI_J (n : Nat) : nI n = J (n : Int) := Int32.ofInt_eq_ofNat.symm
theorem mb_or (a b : Int) (n : Nat) : mb (zor a b) n = (mb a n || mb b n) := by
  unfold mb; rw [show J (zor a b) = J a ||| J b from (J_of _).symm, b_or]
theorem mb_and (a b : Int) (n : Nat) : mb (zand a b) n = (mb a n && mb b n) := by
  unfold mb; rw [show J (zand a b) = J a &&& J b from (J_of _).symm, b_and]
theorem mb_0 (n : Nat) : mb 0 n = false := b_0 n
theorem mb_ext {a b : Int} (ha : In a) (hb : In b) (h : ∀ i, i < 32 → mb a i = mb b i) : a = b := (J_ez ha hb).mp (b_ext h)
theorem mb_one {i : Nat} (hi : i < 32) : mb 1 i = decide (i = 0) := by
  have : ∀ i, i < 32 → bt (J 1) i = decide (i = 0) := by decide +kernel
  exact this i hi
theorem mb_shl {k : Int} (hk : 0 ≤ k ∧ k < 32) {i : Nat} (hi : i < 32) : mb (zshl 1 k) i = decide ((i : Int) = k) := by
  unfold mb
  rw [show J (zshl 1 k) = J 1 <<< (J k &&& 31) from (J_of _).symm]
  obtain ⟨n, rfl⟩ : ∃ n : Nat, k = (n : Int) := ⟨k.toNat, by omega⟩
  rw [← nI_J n, b_shl n (by omega) (J 1) hi]
  by_cases c : n ≤ i
  · rw [show bt (J 1) (i - n) = mb 1 (i - n) from rfl, mb_one (by omega)]
    by_cases e : i = n
    · subst e; simp
    · have h1 : ¬ i - n = 0 := by omega
      have h2 : ¬ (i : Int) = (n : Int) := by omega
      simp [h1, h2]
  · have h2 : ¬ (i : Int) = (n : Int) := by omega
    simp [c, h2]
theorem hold_z {m k : Int} (hk : 0 ≤ k ∧ k < 32) : zand (zshr m k) 1 = if mb m k.toNat = true then 1 else 0 := by
  obtain ⟨n, rfl⟩ : ∃ n : Nat, k = (n : Int) := ⟨k.toNat, by omega⟩
  have e : zand (zshr m n) 1 = if mb (zshr m n) 0 = true then 1 else 0 := by
    refine mb_ext (zand_in _ _) (by split <;> decide) (fun i hi => ?_)
    rw [mb_and, mb_one hi]
    by_cases c : i = 0
    · subst c
      cases g : mb (zshr m n) 0
      · rw [if_neg (by decide), mb_0]; rfl
      · rw [if_pos rfl, mb_one hi]; rfl
    · have : decide (i = 0) = false := by simpa using c
      rw [this, Bool.and_false]
      split
      · rw [mb_one hi, this]
      · rw [mb_0]
  rw [e]
  have : mb (zshr m n) 0 = mb m n := by
    unfold mb
    rw [show J (zshr m n) = J m >>> (J n &&& 31) from (J_of _).symm, ← nI_J n, b_sshr n (by omega) (J m) (by omega), if_pos (by omega), Nat.add_zero]
  rw [this]; rfl
