/-! WHAT IS KNOWN OF EACH METHOD STANDS -/
set_option maxRecDepth 100000 in
theorem mk_0 : ((List.range 16).all fun i => mchk (0 + i)) = true := by decide +kernel
set_option maxRecDepth 100000 in
theorem mk_16 : ((List.range 16).all fun i => mchk (16 + i)) = true := by decide +kernel
set_option maxRecDepth 100000 in
theorem mk_32 : ((List.range 16).all fun i => mchk (32 + i)) = true := by decide +kernel
set_option maxRecDepth 100000 in
theorem mk_48 : ((List.range 16).all fun i => mchk (48 + i)) = true := by decide +kernel
set_option maxRecDepth 100000 in
theorem mk_64 : ((List.range 16).all fun i => mchk (64 + i)) = true := by decide +kernel
set_option maxRecDepth 100000 in
theorem mk_80 : ((List.range 16).all fun i => mchk (80 + i)) = true := by decide +kernel
set_option maxRecDepth 100000 in
theorem mk_96 : ((List.range 16).all fun i => mchk (96 + i)) = true := by decide +kernel
set_option maxRecDepth 100000 in
theorem mk_112 : ((List.range 16).all fun i => mchk (112 + i)) = true := by decide +kernel
set_option maxRecDepth 100000 in
theorem mk_128 : ((List.range 16).all fun i => mchk (128 + i)) = true := by decide +kernel
set_option maxRecDepth 100000 in
theorem mk_144 : ((List.range 16).all fun i => mchk (144 + i)) = true := by decide +kernel
set_option maxRecDepth 100000 in
theorem mk_160 : ((List.range 16).all fun i => mchk (160 + i)) = true := by decide +kernel
set_option maxRecDepth 100000 in
theorem mk_176 : ((List.range 16).all fun i => mchk (176 + i)) = true := by decide +kernel
set_option maxRecDepth 100000 in
theorem mk_192 : ((List.range 16).all fun i => mchk (192 + i)) = true := by decide +kernel
set_option maxRecDepth 100000 in
theorem mk_208 : ((List.range 16).all fun i => mchk (208 + i)) = true := by decide +kernel
set_option maxRecDepth 100000 in
theorem mk_224 : ((List.range 16).all fun i => mchk (224 + i)) = true := by decide +kernel
set_option maxRecDepth 100000 in
theorem mk_240 : ((List.range 16).all fun i => mchk (240 + i)) = true := by decide +kernel
set_option maxRecDepth 100000 in
theorem mk_256 : ((List.range 16).all fun i => mchk (256 + i)) = true := by decide +kernel
set_option maxRecDepth 100000 in
theorem mk_272 : ((List.range 16).all fun i => mchk (272 + i)) = true := by decide +kernel
theorem mchk_all : ∀ M, M < 288 → mchk M = true := by
  intro M hM
  rcases Nat.lt_or_ge M 16 with g0 | g0
  · exact chunk mk_0 (by omega) g0
  rcases Nat.lt_or_ge M 32 with g16 | g16
  · exact chunk mk_16 (by omega) g16
  rcases Nat.lt_or_ge M 48 with g32 | g32
  · exact chunk mk_32 (by omega) g32
  rcases Nat.lt_or_ge M 64 with g48 | g48
  · exact chunk mk_48 (by omega) g48
  rcases Nat.lt_or_ge M 80 with g64 | g64
  · exact chunk mk_64 (by omega) g64
  rcases Nat.lt_or_ge M 96 with g80 | g80
  · exact chunk mk_80 (by omega) g80
  rcases Nat.lt_or_ge M 112 with g96 | g96
  · exact chunk mk_96 (by omega) g96
  rcases Nat.lt_or_ge M 128 with g112 | g112
  · exact chunk mk_112 (by omega) g112
  rcases Nat.lt_or_ge M 144 with g128 | g128
  · exact chunk mk_128 (by omega) g128
  rcases Nat.lt_or_ge M 160 with g144 | g144
  · exact chunk mk_144 (by omega) g144
  rcases Nat.lt_or_ge M 176 with g160 | g160
  · exact chunk mk_160 (by omega) g160
  rcases Nat.lt_or_ge M 192 with g176 | g176
  · exact chunk mk_176 (by omega) g176
  rcases Nat.lt_or_ge M 208 with g192 | g192
  · exact chunk mk_192 (by omega) g192
  rcases Nat.lt_or_ge M 224 with g208 | g208
  · exact chunk mk_208 (by omega) g208
  rcases Nat.lt_or_ge M 240 with g224 | g224
  · exact chunk mk_224 (by omega) g224
  rcases Nat.lt_or_ge M 256 with g240 | g240
  · exact chunk mk_240 (by omega) g240
  rcases Nat.lt_or_ge M 272 with g256 | g256
  · exact chunk mk_256 (by omega) g256
  rcases Nat.lt_or_ge M 288 with g272 | g272
  · exact chunk mk_272 (by omega) g272
  omega
theorem loc_all0 : ((List.range 288).all fun i => Nat.ble (loc i) 81) = true := by decide +kernel
theorem loc_all : ∀ M, M < 288 → loc M ≤ 81 := fun M h => Nat.le_of_ble_eq_true (List.all_eq_true.mp loc_all0 M (List.mem_range.mpr h))
theorem hnd_law : hnd 288 = [] := rfl
/-- every run is one of the machine -/
theorem sound {T N : Nat → Nat} : ∀ n, Snd T N n := snd tab_all mchk_all loc_all hnd_law
