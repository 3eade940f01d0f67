/-! THE LAW'S TABLE STANDS -/
def rwb (M pc : Nat) : Bool := match cod M pc with
  | none => true
  | some e => chkR M pc e
set_option maxRecDepth 100000 in
theorem lk_0 : ((List.range 96).all fun i => rwb 288 (0 + i)) = true := by decide +kernel
set_option maxRecDepth 100000 in
theorem lk_96 : ((List.range 96).all fun i => rwb 288 (96 + i)) = true := by decide +kernel
set_option maxRecDepth 100000 in
theorem lk_192 : ((List.range 96).all fun i => rwb 288 (192 + i)) = true := by decide +kernel
set_option maxRecDepth 100000 in
theorem lk_288 : ((List.range 96).all fun i => rwb 288 (288 + i)) = true := by decide +kernel
set_option maxRecDepth 100000 in
theorem lk_384 : ((List.range 96).all fun i => rwb 288 (384 + i)) = true := by decide +kernel
set_option maxRecDepth 100000 in
theorem lk_480 : ((List.range 96).all fun i => rwb 288 (480 + i)) = true := by decide +kernel
set_option maxRecDepth 100000 in
theorem lk_576 : ((List.range 96).all fun i => rwb 288 (576 + i)) = true := by decide +kernel
set_option maxRecDepth 100000 in
theorem lk_672 : ((List.range 96).all fun i => rwb 288 (672 + i)) = true := by decide +kernel
set_option maxRecDepth 100000 in
theorem lk_768 : ((List.range 96).all fun i => rwb 288 (768 + i)) = true := by decide +kernel
set_option maxRecDepth 100000 in
theorem lk_864 : ((List.range 96).all fun i => rwb 288 (864 + i)) = true := by decide +kernel
set_option maxRecDepth 100000 in
theorem lk_960 : ((List.range 96).all fun i => rwb 288 (960 + i)) = true := by decide +kernel
set_option maxRecDepth 100000 in
theorem lk_1056 : ((List.range 96).all fun i => rwb 288 (1056 + i)) = true := by decide +kernel
set_option maxRecDepth 100000 in
theorem lk_1152 : ((List.range 96).all fun i => rwb 288 (1152 + i)) = true := by decide +kernel
set_option maxRecDepth 100000 in
theorem lk_1248 : ((List.range 96).all fun i => rwb 288 (1248 + i)) = true := by decide +kernel
set_option maxRecDepth 100000 in
theorem lk_1344 : ((List.range 96).all fun i => rwb 288 (1344 + i)) = true := by decide +kernel
set_option maxRecDepth 100000 in
theorem lk_1440 : ((List.range 96).all fun i => rwb 288 (1440 + i)) = true := by decide +kernel
set_option maxRecDepth 100000 in
theorem lk_1536 : ((List.range 96).all fun i => rwb 288 (1536 + i)) = true := by decide +kernel
set_option maxRecDepth 100000 in
theorem lk_1632 : ((List.range 96).all fun i => rwb 288 (1632 + i)) = true := by decide +kernel
set_option maxRecDepth 100000 in
theorem lk_1728 : ((List.range 96).all fun i => rwb 288 (1728 + i)) = true := by decide +kernel
set_option maxRecDepth 100000 in
theorem lk_1824 : ((List.range 96).all fun i => rwb 288 (1824 + i)) = true := by decide +kernel
set_option maxRecDepth 100000 in
theorem lk_1920 : ((List.range 96).all fun i => rwb 288 (1920 + i)) = true := by decide +kernel
set_option maxRecDepth 100000 in
theorem lk_2016 : ((List.range 96).all fun i => rwb 288 (2016 + i)) = true := by decide +kernel
set_option maxRecDepth 100000 in
theorem lk_2112 : ((List.range 96).all fun i => rwb 288 (2112 + i)) = true := by decide +kernel
set_option maxRecDepth 100000 in
theorem lk_2208 : ((List.range 96).all fun i => rwb 288 (2208 + i)) = true := by decide +kernel
set_option maxRecDepth 100000 in
theorem lk_2304 : ((List.range 96).all fun i => rwb 288 (2304 + i)) = true := by decide +kernel
set_option maxRecDepth 100000 in
theorem lk_2400 : ((List.range 36).all fun i => rwb 288 (2400 + i)) = true := by decide +kernel
theorem mln_law : mln 288 = 2436 := by decide +kernel
theorem tab_law : tabOK 288 = true := by
  unfold tabOK
  rw [mln_law]
  refine List.all_eq_true.mpr fun pc hpc => ?_
  have hM := List.mem_range.mp hpc
  show rwb 288 pc = true
  rcases Nat.lt_or_ge pc 96 with g0 | g0
  · exact chunk (f := rwb 288) lk_0 (by omega) g0
  rcases Nat.lt_or_ge pc 192 with g96 | g96
  · exact chunk (f := rwb 288) lk_96 (by omega) g96
  rcases Nat.lt_or_ge pc 288 with g192 | g192
  · exact chunk (f := rwb 288) lk_192 (by omega) g192
  rcases Nat.lt_or_ge pc 384 with g288 | g288
  · exact chunk (f := rwb 288) lk_288 (by omega) g288
  rcases Nat.lt_or_ge pc 480 with g384 | g384
  · exact chunk (f := rwb 288) lk_384 (by omega) g384
  rcases Nat.lt_or_ge pc 576 with g480 | g480
  · exact chunk (f := rwb 288) lk_480 (by omega) g480
  rcases Nat.lt_or_ge pc 672 with g576 | g576
  · exact chunk (f := rwb 288) lk_576 (by omega) g576
  rcases Nat.lt_or_ge pc 768 with g672 | g672
  · exact chunk (f := rwb 288) lk_672 (by omega) g672
  rcases Nat.lt_or_ge pc 864 with g768 | g768
  · exact chunk (f := rwb 288) lk_768 (by omega) g768
  rcases Nat.lt_or_ge pc 960 with g864 | g864
  · exact chunk (f := rwb 288) lk_864 (by omega) g864
  rcases Nat.lt_or_ge pc 1056 with g960 | g960
  · exact chunk (f := rwb 288) lk_960 (by omega) g960
  rcases Nat.lt_or_ge pc 1152 with g1056 | g1056
  · exact chunk (f := rwb 288) lk_1056 (by omega) g1056
  rcases Nat.lt_or_ge pc 1248 with g1152 | g1152
  · exact chunk (f := rwb 288) lk_1152 (by omega) g1152
  rcases Nat.lt_or_ge pc 1344 with g1248 | g1248
  · exact chunk (f := rwb 288) lk_1248 (by omega) g1248
  rcases Nat.lt_or_ge pc 1440 with g1344 | g1344
  · exact chunk (f := rwb 288) lk_1344 (by omega) g1344
  rcases Nat.lt_or_ge pc 1536 with g1440 | g1440
  · exact chunk (f := rwb 288) lk_1440 (by omega) g1440
  rcases Nat.lt_or_ge pc 1632 with g1536 | g1536
  · exact chunk (f := rwb 288) lk_1536 (by omega) g1536
  rcases Nat.lt_or_ge pc 1728 with g1632 | g1632
  · exact chunk (f := rwb 288) lk_1632 (by omega) g1632
  rcases Nat.lt_or_ge pc 1824 with g1728 | g1728
  · exact chunk (f := rwb 288) lk_1728 (by omega) g1728
  rcases Nat.lt_or_ge pc 1920 with g1824 | g1824
  · exact chunk (f := rwb 288) lk_1824 (by omega) g1824
  rcases Nat.lt_or_ge pc 2016 with g1920 | g1920
  · exact chunk (f := rwb 288) lk_1920 (by omega) g1920
  rcases Nat.lt_or_ge pc 2112 with g2016 | g2016
  · exact chunk (f := rwb 288) lk_2016 (by omega) g2016
  rcases Nat.lt_or_ge pc 2208 with g2112 | g2112
  · exact chunk (f := rwb 288) lk_2112 (by omega) g2112
  rcases Nat.lt_or_ge pc 2304 with g2208 | g2208
  · exact chunk (f := rwb 288) lk_2208 (by omega) g2208
  rcases Nat.lt_or_ge pc 2400 with g2304 | g2304
  · exact chunk (f := rwb 288) lk_2304 (by omega) g2304
  rcases Nat.lt_or_ge pc 2436 with g2400 | g2400
  · exact chunk (f := rwb 288) lk_2400 (by omega) g2400
  omega
theorem tab_all : ∀ M, M < 289 → tabOK M = true := fun M h => by
  rcases Nat.lt_or_ge M 288 with g | g
  · exact tab_m M g
  · rw [show M = 288 by omega]; exact tab_law
