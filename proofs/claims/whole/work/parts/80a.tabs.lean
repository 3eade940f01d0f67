/-! THE TABLES STAND: each row of each method, checked -/
theorem chunk {f : Nat → Bool} {a n M : Nat} (h : ((List.range n).all fun i => f (a + i)) = true) (h1 : a ≤ M) (h2 : M < a + n) : f M = true := by
  have g := List.all_eq_true.mp h (M - a) (List.mem_range.mpr (by omega))
  rw [show a + (M - a) = M by omega] at g
  exact g
set_option maxRecDepth 100000 in
theorem tk_0 : ((List.range 8).all fun i => tabOK (0 + i)) = true := by decide +kernel
set_option maxRecDepth 100000 in
theorem tk_8 : ((List.range 8).all fun i => tabOK (8 + i)) = true := by decide +kernel
set_option maxRecDepth 100000 in
theorem tk_16 : ((List.range 8).all fun i => tabOK (16 + i)) = true := by decide +kernel
set_option maxRecDepth 100000 in
theorem tk_24 : ((List.range 8).all fun i => tabOK (24 + i)) = true := by decide +kernel
set_option maxRecDepth 100000 in
theorem tk_32 : ((List.range 8).all fun i => tabOK (32 + i)) = true := by decide +kernel
set_option maxRecDepth 100000 in
theorem tk_40 : ((List.range 8).all fun i => tabOK (40 + i)) = true := by decide +kernel
set_option maxRecDepth 100000 in
theorem tk_48 : ((List.range 8).all fun i => tabOK (48 + i)) = true := by decide +kernel
set_option maxRecDepth 100000 in
theorem tk_56 : ((List.range 8).all fun i => tabOK (56 + i)) = true := by decide +kernel
set_option maxRecDepth 100000 in
theorem tk_64 : ((List.range 8).all fun i => tabOK (64 + i)) = true := by decide +kernel
set_option maxRecDepth 100000 in
theorem tk_72 : ((List.range 8).all fun i => tabOK (72 + i)) = true := by decide +kernel
set_option maxRecDepth 100000 in
theorem tk_80 : ((List.range 8).all fun i => tabOK (80 + i)) = true := by decide +kernel
set_option maxRecDepth 100000 in
theorem tk_88 : ((List.range 8).all fun i => tabOK (88 + i)) = true := by decide +kernel
set_option maxRecDepth 100000 in
theorem tk_96 : ((List.range 8).all fun i => tabOK (96 + i)) = true := by decide +kernel
set_option maxRecDepth 100000 in
theorem tk_104 : ((List.range 8).all fun i => tabOK (104 + i)) = true := by decide +kernel
set_option maxRecDepth 100000 in
theorem tk_112 : ((List.range 8).all fun i => tabOK (112 + i)) = true := by decide +kernel
set_option maxRecDepth 100000 in
theorem tk_120 : ((List.range 8).all fun i => tabOK (120 + i)) = true := by decide +kernel
set_option maxRecDepth 100000 in
theorem tk_128 : ((List.range 8).all fun i => tabOK (128 + i)) = true := by decide +kernel
set_option maxRecDepth 100000 in
theorem tk_136 : ((List.range 8).all fun i => tabOK (136 + i)) = true := by decide +kernel
set_option maxRecDepth 100000 in
theorem tk_144 : ((List.range 8).all fun i => tabOK (144 + i)) = true := by decide +kernel
set_option maxRecDepth 100000 in
theorem tk_152 : ((List.range 8).all fun i => tabOK (152 + i)) = true := by decide +kernel
set_option maxRecDepth 100000 in
theorem tk_160 : ((List.range 8).all fun i => tabOK (160 + i)) = true := by decide +kernel
set_option maxRecDepth 100000 in
theorem tk_168 : ((List.range 8).all fun i => tabOK (168 + i)) = true := by decide +kernel
set_option maxRecDepth 100000 in
theorem tk_176 : ((List.range 8).all fun i => tabOK (176 + i)) = true := by decide +kernel
set_option maxRecDepth 100000 in
theorem tk_184 : ((List.range 8).all fun i => tabOK (184 + i)) = true := by decide +kernel
set_option maxRecDepth 100000 in
theorem tk_192 : ((List.range 8).all fun i => tabOK (192 + i)) = true := by decide +kernel
set_option maxRecDepth 100000 in
theorem tk_200 : ((List.range 8).all fun i => tabOK (200 + i)) = true := by decide +kernel
set_option maxRecDepth 100000 in
theorem tk_208 : ((List.range 8).all fun i => tabOK (208 + i)) = true := by decide +kernel
set_option maxRecDepth 100000 in
theorem tk_216 : ((List.range 8).all fun i => tabOK (216 + i)) = true := by decide +kernel
set_option maxRecDepth 100000 in
theorem tk_224 : ((List.range 8).all fun i => tabOK (224 + i)) = true := by decide +kernel
set_option maxRecDepth 100000 in
theorem tk_232 : ((List.range 8).all fun i => tabOK (232 + i)) = true := by decide +kernel
set_option maxRecDepth 100000 in
theorem tk_240 : ((List.range 8).all fun i => tabOK (240 + i)) = true := by decide +kernel
set_option maxRecDepth 100000 in
theorem tk_248 : ((List.range 8).all fun i => tabOK (248 + i)) = true := by decide +kernel
set_option maxRecDepth 100000 in
theorem tk_256 : ((List.range 8).all fun i => tabOK (256 + i)) = true := by decide +kernel
set_option maxRecDepth 100000 in
theorem tk_264 : ((List.range 8).all fun i => tabOK (264 + i)) = true := by decide +kernel
set_option maxRecDepth 100000 in
theorem tk_272 : ((List.range 8).all fun i => tabOK (272 + i)) = true := by decide +kernel
set_option maxRecDepth 100000 in
theorem tk_280 : ((List.range 8).all fun i => tabOK (280 + i)) = true := by decide +kernel
theorem tab_m : ∀ M, M < 288 → tabOK M = true := by
  intro M hM
  rcases Nat.lt_or_ge M 8 with g0 | g0
  · exact chunk tk_0 (by omega) g0
  rcases Nat.lt_or_ge M 16 with g8 | g8
  · exact chunk tk_8 (by omega) g8
  rcases Nat.lt_or_ge M 24 with g16 | g16
  · exact chunk tk_16 (by omega) g16
  rcases Nat.lt_or_ge M 32 with g24 | g24
  · exact chunk tk_24 (by omega) g24
  rcases Nat.lt_or_ge M 40 with g32 | g32
  · exact chunk tk_32 (by omega) g32
  rcases Nat.lt_or_ge M 48 with g40 | g40
  · exact chunk tk_40 (by omega) g40
  rcases Nat.lt_or_ge M 56 with g48 | g48
  · exact chunk tk_48 (by omega) g48
  rcases Nat.lt_or_ge M 64 with g56 | g56
  · exact chunk tk_56 (by omega) g56
  rcases Nat.lt_or_ge M 72 with g64 | g64
  · exact chunk tk_64 (by omega) g64
  rcases Nat.lt_or_ge M 80 with g72 | g72
  · exact chunk tk_72 (by omega) g72
  rcases Nat.lt_or_ge M 88 with g80 | g80
  · exact chunk tk_80 (by omega) g80
  rcases Nat.lt_or_ge M 96 with g88 | g88
  · exact chunk tk_88 (by omega) g88
  rcases Nat.lt_or_ge M 104 with g96 | g96
  · exact chunk tk_96 (by omega) g96
  rcases Nat.lt_or_ge M 112 with g104 | g104
  · exact chunk tk_104 (by omega) g104
  rcases Nat.lt_or_ge M 120 with g112 | g112
  · exact chunk tk_112 (by omega) g112
  rcases Nat.lt_or_ge M 128 with g120 | g120
  · exact chunk tk_120 (by omega) g120
  rcases Nat.lt_or_ge M 136 with g128 | g128
  · exact chunk tk_128 (by omega) g128
  rcases Nat.lt_or_ge M 144 with g136 | g136
  · exact chunk tk_136 (by omega) g136
  rcases Nat.lt_or_ge M 152 with g144 | g144
  · exact chunk tk_144 (by omega) g144
  rcases Nat.lt_or_ge M 160 with g152 | g152
  · exact chunk tk_152 (by omega) g152
  rcases Nat.lt_or_ge M 168 with g160 | g160
  · exact chunk tk_160 (by omega) g160
  rcases Nat.lt_or_ge M 176 with g168 | g168
  · exact chunk tk_168 (by omega) g168
  rcases Nat.lt_or_ge M 184 with g176 | g176
  · exact chunk tk_176 (by omega) g176
  rcases Nat.lt_or_ge M 192 with g184 | g184
  · exact chunk tk_184 (by omega) g184
  rcases Nat.lt_or_ge M 200 with g192 | g192
  · exact chunk tk_192 (by omega) g192
  rcases Nat.lt_or_ge M 208 with g200 | g200
  · exact chunk tk_200 (by omega) g200
  rcases Nat.lt_or_ge M 216 with g208 | g208
  · exact chunk tk_208 (by omega) g208
  rcases Nat.lt_or_ge M 224 with g216 | g216
  · exact chunk tk_216 (by omega) g216
  rcases Nat.lt_or_ge M 232 with g224 | g224
  · exact chunk tk_224 (by omega) g224
  rcases Nat.lt_or_ge M 240 with g232 | g232
  · exact chunk tk_232 (by omega) g232
  rcases Nat.lt_or_ge M 248 with g240 | g240
  · exact chunk tk_240 (by omega) g240
  rcases Nat.lt_or_ge M 256 with g248 | g248
  · exact chunk tk_248 (by omega) g248
  rcases Nat.lt_or_ge M 264 with g256 | g256
  · exact chunk tk_256 (by omega) g256
  rcases Nat.lt_or_ge M 272 with g264 | g264
  · exact chunk tk_264 (by omega) g264
  rcases Nat.lt_or_ge M 280 with g272 | g272
  · exact chunk tk_272 (by omega) g272
  rcases Nat.lt_or_ge M 288 with g280 | g280
  · exact chunk tk_280 (by omega) g280
  omega
