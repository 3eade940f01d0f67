/-! THE START: the table of tags and lengths -/
def dT (k : Nat) : Nat := if k = 0 then 3 else if k = 1 then 22 else if k = 2 then 37 else 7
def dN (k : Nat) : Nat := if k = 1 then 5 else if k = 2 then 41 else 0
def wT (k : Nat) : Nat := if k < 4 then ([10, 32, 34, 33] : List Nat).getD k 0 else if k < 20 then 2 else if k < 30 then 4 else dT ((k - 30) % 44)
def wN (k : Nat) : Nat := if k < 4 then ([0, 16, 10, 6] : List Nat).getD k 0 else if k < 30 then 0 else dN ((k - 30) % 44)
def tabT (k : Nat) : Nat := if k = 0 then 11 else if k < 589 then wT ((k - 1) % 294) else if k < 591 then (if k = 589 then 5 else 40) else if k < 3237 then wT ((k - 591) % 294) else if k < 3252 then ([8, 9, 22, 1, 24, 22, 22, 22, 22, 22, 22, 9, 22, 6, 23] : List Nat).getD (k - 3237) 0 else if k < 3296 then dT (k - 3252) else if k < 3311 then ([12, 22, 22, 22, 22, 22, 23, 22, 22, 22, 22, 22, 22, 24, 25] : List Nat).getD (k - 3296) 0 else 0
def tabN (k : Nat) : Nat := if k = 0 then 0 else if k < 589 then wN ((k - 1) % 294) else if k < 591 then (if k = 589 then 0 else 9) else if k < 3237 then wN ((k - 591) % 294) else if k < 3252 then ([0, 0, 10, 0, 96, 3840, 3840, 30, 30, 30, 30, 0, 10, 0, 60] : List Nat).getD (k - 3237) 0 else if k < 3296 then dN (k - 3252) else if k < 3311 then ([0, 449, 449, 449, 449, 3592, 60, 10, 10, 3936, 3936, 30, 30, 1, 1] : List Nat).getD (k - 3296) 0 else 0
def stT (bs b : Nat) : Nat → Nat := fun a => if a < bs then (if a = b then 21 else 0) else tabT (a - bs)
def stN (bs b L : Nat) : Nat → Nat := fun a => if a < bs then (if a = b then L else 0) else tabN (a - bs)
theorem wt_0 : (wT 0 = 10 ∧ (wT 1 = 32 ∧ wN 1 = 16) ∧ (wT 2 = 34 ∧ wN 2 = 10) ∧ (wT 3 = 33 ∧ wN 3 = 6)) ∧ (∀ c, c < 16 → wT (4 + c) = 2) ∧ (∀ c, c < 10 → wT (20 + c) = 4) ∧ ∀ d, d < 6 → wT (30 + 44 * d) = 3 ∧ (wT (30 + 44 * d + 1) = 22 ∧ wN (30 + 44 * d + 1) = 5) ∧ (wT (30 + 44 * d + 2) = 37 ∧ wN (30 + 44 * d + 2) = 41) ∧ ∀ j, j < 41 → wT (30 + 44 * d + 3 + j) = 7 := by decide +kernel
section TAB
variable {T N : Nat → Nat} {bs b L w a : Nat}
theorem TW.of (g : ∀ o, o < 294 → T (w + o) = wT o ∧ N (w + o) = wN o) : TW T N w := by
  obtain ⟨⟨q0, ⟨q1, q2⟩, ⟨q3, q4⟩, q5, q6⟩, q7, q8, q9⟩ := wt_0
  refine ⟨(g 0 (by decide)).1.trans q0, ⟨(g 1 (by decide)).1.trans q1, (g 1 (by decide)).2.trans q2⟩, ⟨(g 2 (by decide)).1.trans q3, (g 2 (by decide)).2.trans q4⟩, ⟨(g 3 (by decide)).1.trans q5, (g 3 (by decide)).2.trans q6⟩, fun c hc => ?_, fun c hc => ?_, fun d hd => ?_⟩
  · rw [Nat.add_assoc]; exact (g (4 + c) (by omega)).1.trans (q7 c hc)
  · rw [Nat.add_assoc]; exact (g (20 + c) (by omega)).1.trans (q8 c hc)
  · obtain ⟨r1, ⟨r2, r3⟩, ⟨r4, r5⟩, r6⟩ := q9 d hd
    refine ⟨?_, ⟨?_, ?_⟩, ⟨?_, ?_⟩, fun j hj => ?_⟩
    · rw [Nat.add_assoc]; exact (g _ (by omega)).1.trans r1
    · rw [Nat.add_assoc, Nat.add_assoc, ← Nat.add_assoc 30]; exact (g _ (by omega)).1.trans r2
    · rw [Nat.add_assoc, Nat.add_assoc, ← Nat.add_assoc 30]; exact (g _ (by omega)).2.trans r3
    · rw [Nat.add_assoc, Nat.add_assoc, ← Nat.add_assoc 30]; exact (g _ (by omega)).1.trans r4
    · rw [Nat.add_assoc, Nat.add_assoc, ← Nat.add_assoc 30]; exact (g _ (by omega)).2.trans r5
    · rw [show w + 30 + 44 * d + 3 + j = w + (30 + 44 * d + 3 + j) by omega]; exact (g _ (by omega)).1.trans (r6 j hj)
theorem st_T (k : Nat) : stT bs b (bs + k) = tabT k := by
  unfold stT
  rw [if_neg (by omega), show bs + k - bs = k by omega]
theorem st_N (k : Nat) : stN bs b L (bs + k) = tabN k := by
  unfold stN
  rw [if_neg (by omega), show bs + k - bs = k by omega]
theorem tb_w (k c : Nat) (hk : (k = 1 ∧ c < 2) ∨ (k = 591 ∧ c < 9)) : TW (stT bs b) (stN bs b L) (bs + (k + 294 * c)) := by
  refine TW.of fun o ho => ?_
  rw [Nat.add_assoc, st_T, st_N]
  rcases hk with ⟨h1, h2⟩ | ⟨h1, h2⟩
  · subst h1
    have e : (1 + 294 * c + o - 1) % 294 = o := by omega
    unfold tabT tabN
    rw [if_neg (by omega), if_pos (by omega), if_neg (by omega), if_pos (by omega), e]
    exact ⟨rfl, rfl⟩
  · subst h1
    have e : (591 + 294 * c + o - 591) % 294 = o := by omega
    unfold tabT tabN
    rw [if_neg (by omega), if_neg (by omega), if_neg (by omega), if_pos (by omega), if_neg (by omega), if_neg (by omega), if_neg (by omega), if_pos (by omega), e]
    exact ⟨rfl, rfl⟩
theorem td_l : ∀ j, j < 41 → tabT (3252 + 3 + j) = 7 := by decide +kernel
theorem st_TB (hb : b < bs) (hL : L ≤ 2560) : TB (stT bs b) (stN bs b L) bs b := by
  have t := fun k => st_T (bs := bs) (b := b) k
  have n := fun k => st_N (bs := bs) (b := b) (L := L) k
  have ww := fun k c h => tb_w (bs := bs) (b := b) (L := L) k c h
  refine ⟨⟨?_, hb, ?_⟩, ⟨t 0, ww 1 0 (by omega), ww 1 1 (by omega), ⟨t 589, t 590, n 590, fun j hj => ?_⟩, ⟨t 3237, ⟨t 3238, t 3239, n 3239⟩, ⟨t 3240, t 3241, n 3241⟩, t 3242, n 3242, t 3243, n 3243, t 3244, n 3244, t 3245, n 3245, t 3246, n 3246, t 3247, n 3247⟩, ⟨t 3248, t 3249, n 3249⟩, ⟨t 3250, t 3251, n 3251⟩, t 3252, ⟨t 3253, n 3253⟩, ⟨t 3254, n 3254⟩, fun j hj => ?_⟩, ⟨t 3296, ⟨t 3297, n 3297⟩, ⟨t 3298, n 3298⟩, ⟨t 3299, n 3299⟩, ⟨t 3300, n 3300⟩, ⟨t 3301, n 3301⟩, ⟨t 3302, n 3302⟩, ⟨t 3303, n 3303⟩, ⟨t 3304, n 3304⟩, ⟨t 3305, n 3305⟩, ⟨t 3306, n 3306⟩, ⟨t 3307, n 3307⟩, ⟨t 3308, n 3308⟩⟩, ⟨t 3309, n 3309, t 3310, n 3310⟩, fun a ha => ?_⟩
  · unfold stT; rw [if_pos hb, if_pos rfl]
  · unfold stN; rw [if_pos hb, if_pos rfl]; exact hL
  · rw [Nat.add_assoc]; exact ww 591 j (by omega)
  · rw [show bs + 3252 + 3 + j = bs + (3252 + 3 + j) by omega]; exact (t _).trans (td_l j hj)
  · rw [show a = bs + (a - bs) by omega, t]
    unfold tabT
    rw [if_neg (by omega), if_neg (by omega), if_neg (by omega), if_neg (by omega), if_neg (by omega), if_neg (by omega), if_neg (by omega)]
end TAB
