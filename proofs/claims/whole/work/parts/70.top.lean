/-! THE TOP: from the law's entry to a run of the pure machine -/
section TOP
/-- the words of the start -/
def sFL : List Jvm.Cond := flatC (Jvm.Cond.and given_1 narrow_1)
set_option maxRecDepth 100000 in
theorem s_ex : (lw_tbl.all fun w => match w with | .stringRef own k _ => decide (Jvm.Cond.exactly (.string own k) "java/lang/String" ∈ sFL) | _ => true) = true := by decide +kernel
set_option maxRecDepth 100000 in
theorem s_nc : ((List.range 6).all fun i => (List.range 6).all fun j => Nat.beq i j || decide (Jvm.Cond.not (.castable (exn i) (exn j)) ∈ sFL)) = true := by decide +kernel
/-- the words of the start, by their places -/
def fat (i : Nat) (w : Jvm.Cond) : Bool := decide (sFL[i]? = some w)
theorem fat_mem {i : Nat} {w : Jvm.Cond} (h : fat i w = true) : w ∈ sFL := List.mem_of_getElem? (of_decide_eq_true h)
def tbase : Nat → Nat := fun j => ([954, 959, 969, 975, 981] : List Nat).getD j 0
set_option maxRecDepth 100000 in
theorem s_tx0 : (wat 1367 (.stringRef (tloc 0).1 (tloc 0).2.1 (tloc 0).2.2) && decide ((txt 0).length < 2 ^ 31) && fat (tbase 0) (.exactly (.string (tloc 0).1 (tloc 0).2.1) "java/lang/String") && fat (tbase 0 + 1) (.eq (.field (.string (tloc 0).1 (tloc 0).2.1) "java/lang/String" "coder" "B") (.int 0)) &&
    fat (tbase 0 + 2) (.arrayOf (.field (.string (tloc 0).1 (tloc 0).2.1) "java/lang/String" "value" "[B") .byte) && fat (tbase 0 + 3) (.eq (.length (.field (.string (tloc 0).1 (tloc 0).2.1) "java/lang/String" "value" "[B")) (.int (Int32.ofNat (txt 0).length))) &&
    (List.range (txt 0).length).all fun i => fat (tbase 0 + 4 + i) (.eq (.elem (.field (.string (tloc 0).1 (tloc 0).2.1) "java/lang/String" "value" "[B") (.int (Int32.ofNat i))) (.int ((txt 0).getD i 0)))) = true := by decide +kernel
set_option maxRecDepth 100000 in
theorem s_tx1 : (wat 1368 (.stringRef (tloc 1).1 (tloc 1).2.1 (tloc 1).2.2) && decide ((txt 1).length < 2 ^ 31) && fat (tbase 1) (.exactly (.string (tloc 1).1 (tloc 1).2.1) "java/lang/String") && fat (tbase 1 + 1) (.eq (.field (.string (tloc 1).1 (tloc 1).2.1) "java/lang/String" "coder" "B") (.int 0)) &&
    fat (tbase 1 + 2) (.arrayOf (.field (.string (tloc 1).1 (tloc 1).2.1) "java/lang/String" "value" "[B") .byte) && fat (tbase 1 + 3) (.eq (.length (.field (.string (tloc 1).1 (tloc 1).2.1) "java/lang/String" "value" "[B")) (.int (Int32.ofNat (txt 1).length))) &&
    (List.range (txt 1).length).all fun i => fat (tbase 1 + 4 + i) (.eq (.elem (.field (.string (tloc 1).1 (tloc 1).2.1) "java/lang/String" "value" "[B") (.int (Int32.ofNat i))) (.int ((txt 1).getD i 0)))) = true := by decide +kernel
set_option maxRecDepth 100000 in
theorem s_tx2 : (wat 1369 (.stringRef (tloc 2).1 (tloc 2).2.1 (tloc 2).2.2) && decide ((txt 2).length < 2 ^ 31) && fat (tbase 2) (.exactly (.string (tloc 2).1 (tloc 2).2.1) "java/lang/String") && fat (tbase 2 + 1) (.eq (.field (.string (tloc 2).1 (tloc 2).2.1) "java/lang/String" "coder" "B") (.int 0)) &&
    fat (tbase 2 + 2) (.arrayOf (.field (.string (tloc 2).1 (tloc 2).2.1) "java/lang/String" "value" "[B") .byte) && fat (tbase 2 + 3) (.eq (.length (.field (.string (tloc 2).1 (tloc 2).2.1) "java/lang/String" "value" "[B")) (.int (Int32.ofNat (txt 2).length))) &&
    (List.range (txt 2).length).all fun i => fat (tbase 2 + 4 + i) (.eq (.elem (.field (.string (tloc 2).1 (tloc 2).2.1) "java/lang/String" "value" "[B") (.int (Int32.ofNat i))) (.int ((txt 2).getD i 0)))) = true := by decide +kernel
set_option maxRecDepth 100000 in
theorem s_tx3 : (wat 1370 (.stringRef (tloc 3).1 (tloc 3).2.1 (tloc 3).2.2) && decide ((txt 3).length < 2 ^ 31) && fat (tbase 3) (.exactly (.string (tloc 3).1 (tloc 3).2.1) "java/lang/String") && fat (tbase 3 + 1) (.eq (.field (.string (tloc 3).1 (tloc 3).2.1) "java/lang/String" "coder" "B") (.int 0)) &&
    fat (tbase 3 + 2) (.arrayOf (.field (.string (tloc 3).1 (tloc 3).2.1) "java/lang/String" "value" "[B") .byte) && fat (tbase 3 + 3) (.eq (.length (.field (.string (tloc 3).1 (tloc 3).2.1) "java/lang/String" "value" "[B")) (.int (Int32.ofNat (txt 3).length))) &&
    (List.range (txt 3).length).all fun i => fat (tbase 3 + 4 + i) (.eq (.elem (.field (.string (tloc 3).1 (tloc 3).2.1) "java/lang/String" "value" "[B") (.int (Int32.ofNat i))) (.int ((txt 3).getD i 0)))) = true := by decide +kernel
set_option maxRecDepth 100000 in
theorem s_tx4 : (wat 1371 (.stringRef (tloc 4).1 (tloc 4).2.1 (tloc 4).2.2) && decide ((txt 4).length < 2 ^ 31) && fat (tbase 4) (.exactly (.string (tloc 4).1 (tloc 4).2.1) "java/lang/String") && fat (tbase 4 + 1) (.eq (.field (.string (tloc 4).1 (tloc 4).2.1) "java/lang/String" "coder" "B") (.int 0)) &&
    fat (tbase 4 + 2) (.arrayOf (.field (.string (tloc 4).1 (tloc 4).2.1) "java/lang/String" "value" "[B") .byte) && fat (tbase 4 + 3) (.eq (.length (.field (.string (tloc 4).1 (tloc 4).2.1) "java/lang/String" "value" "[B")) (.int (Int32.ofNat (txt 4).length))) &&
    (List.range (txt 4).length).all fun i => fat (tbase 4 + 4 + i) (.eq (.elem (.field (.string (tloc 4).1 (tloc 4).2.1) "java/lang/String" "value" "[B") (.int (Int32.ofNat i))) (.int ((txt 4).getD i 0)))) = true := by decide +kernel
theorem s_tx {j : Nat} (hj : j < 5) : Jvm.Cond.stringRef (tloc j).1 (tloc j).2.1 (tloc j).2.2 ∈ lw_tbl ∧ (txt j).length < 2 ^ 31 ∧ Jvm.Cond.exactly (.string (tloc j).1 (tloc j).2.1) "java/lang/String" ∈ sFL ∧ Jvm.Cond.eq (.field (.string (tloc j).1 (tloc j).2.1) "java/lang/String" "coder" "B") (.int 0) ∈ sFL ∧
    Jvm.Cond.arrayOf (.field (.string (tloc j).1 (tloc j).2.1) "java/lang/String" "value" "[B") .byte ∈ sFL ∧ Jvm.Cond.eq (.length (.field (.string (tloc j).1 (tloc j).2.1) "java/lang/String" "value" "[B")) (.int (Int32.ofNat (txt j).length)) ∈ sFL ∧
    (∀ i, i < (txt j).length → Jvm.Cond.eq (.elem (.field (.string (tloc j).1 (tloc j).2.1) "java/lang/String" "value" "[B") (.int (Int32.ofNat i))) (.int ((txt j).getD i 0)) ∈ sFL) := by
  rcases (show j = 0 ∨ j = 1 ∨ j = 2 ∨ j = 3 ∨ j = 4 by omega) with z | z | z | z | z <;> subst z
  · have g := s_tx0
    simp only [Bool.and_eq_true, List.all_eq_true, List.mem_range] at g
    obtain ⟨⟨⟨⟨⟨⟨g0, g1⟩, g2⟩, g3⟩, g4⟩, g5⟩, g6⟩ := g
    exact ⟨wat_mem g0, of_decide_eq_true g1, fat_mem g2, fat_mem g3, fat_mem g4, fat_mem g5, fun i hi => fat_mem (g6 i hi)⟩
  · have g := s_tx1
    simp only [Bool.and_eq_true, List.all_eq_true, List.mem_range] at g
    obtain ⟨⟨⟨⟨⟨⟨g0, g1⟩, g2⟩, g3⟩, g4⟩, g5⟩, g6⟩ := g
    exact ⟨wat_mem g0, of_decide_eq_true g1, fat_mem g2, fat_mem g3, fat_mem g4, fat_mem g5, fun i hi => fat_mem (g6 i hi)⟩
  · have g := s_tx2
    simp only [Bool.and_eq_true, List.all_eq_true, List.mem_range] at g
    obtain ⟨⟨⟨⟨⟨⟨g0, g1⟩, g2⟩, g3⟩, g4⟩, g5⟩, g6⟩ := g
    exact ⟨wat_mem g0, of_decide_eq_true g1, fat_mem g2, fat_mem g3, fat_mem g4, fat_mem g5, fun i hi => fat_mem (g6 i hi)⟩
  · have g := s_tx3
    simp only [Bool.and_eq_true, List.all_eq_true, List.mem_range] at g
    obtain ⟨⟨⟨⟨⟨⟨g0, g1⟩, g2⟩, g3⟩, g4⟩, g5⟩, g6⟩ := g
    exact ⟨wat_mem g0, of_decide_eq_true g1, fat_mem g2, fat_mem g3, fat_mem g4, fat_mem g5, fun i hi => fat_mem (g6 i hi)⟩
  · have g := s_tx4
    simp only [Bool.and_eq_true, List.all_eq_true, List.mem_range] at g
    obtain ⟨⟨⟨⟨⟨⟨g0, g1⟩, g2⟩, g3⟩, g4⟩, g5⟩, g6⟩ := g
    exact ⟨wat_mem g0, of_decide_eq_true g1, fat_mem g2, fat_mem g3, fat_mem g4, fat_mem g5, fun i hi => fat_mem (g6 i hi)⟩
set_option maxRecDepth 100000 in
theorem s_st : (wat 861 (.laysStatic Bundle.tN "UNASSIGNED_STACK" Bundle.steD) && wat 863 (.laysStatic Bundle.tN "SUPPRESSED_SENTINEL" Bundle.listD) && wat 1385 (.laysStatic RJ0 "COMPACT_STRINGS" "Z") && wat 1401 (.laysStatic RJ3 "SIOOBE_FORMATTER" "Ljava/util/function/BiFunction;") &&
    wat 95 (.initialized Bundle.tN) && wat 101 (.initialized RJ0) && wat 109 (.initialized RJ3) &&
    fat 4 (.isRef (.static Bundle.tN "UNASSIGNED_STACK" Bundle.steD)) && fat 5 (.isRef (.static Bundle.tN "SUPPRESSED_SENTINEL" Bundle.listD)) && fat 6 (.eq (.static RJ0 "COMPACT_STRINGS" "Z") (.int 1)) && fat 7 (.isRef (.static RJ3 "SIOOBE_FORMATTER" "Ljava/util/function/BiFunction;"))) = true := by decide +kernel
/-- the pure heap at the start: the script alone -/
def h00 (bs b : Nat) (xs : Nat → Int32) : PH := (fun a k => if a = b then xs k else 0, fun _ _ => 0, fun _ _ => 0, fun _ _ => none, bs, 0, 0)
theorem s_K {s : State} {args : Array Value} (hg : ∀ w ∈ goods, w.before args s = true) : ∃ D : va_G, va_K D cls12 [] s := by
  have h0 : ∀ c : Nat, ∃ q : ClassId × (Nat → Nat), ∀ r, cls12[c]? = some r → u_Kn s r.1 r.2.1 r.2.2 q.1 q.2 := by
    intro c
    by_cases hc : c < 12
    · have h1 := cls_at (t := c + 1) (by omega) (by omega)
      obtain ⟨cC, iS, g⟩ := u_known hg (cls_ws (t := c + 1) (by omega) (by omega)) (hg _ (cls_in (t := c + 1) (by omega) (by omega)).1)
      refine ⟨(cC, iS), fun r hr => ?_⟩
      rw [show c + 1 - 1 = c by omega] at h1
      rw [h1] at hr
      cases hr
      exact g
    · refine ⟨(0, fun _ => 0), fun r hr => ?_⟩
      have := (List.getElem?_eq_some_iff.mp hr).1
      exact absurd this (by show ¬ c < 12; exact hc)
  obtain ⟨f, hf⟩ := Classical.axiomOfChoice h0
  exact ⟨(fun c => (f c).1, fun c => (f c).2), fun c q hq => hf c q hq, fun k q hk => by cases hk⟩
theorem s_txt {s : State} {args : Array Value} {bs : Nat} (hs : ∀ w ∈ sFL, w.before args s = true) (hA : ∀ a : Nat, a < s.heap.size → ¬ bs ≤ a) (sad : String → Nat → Nat) (hsad : ∀ own k tx, Jvm.Cond.stringRef own k tx ∈ lw_tbl → (Term.string own k).eval args s none [] s = some (.ref (sad own k))) :
    ∀ j, j < 5 → ∃ v, vk_S 1 [(txt j).length] [txt j] (fun _ => sav sad j) (fun _ => v) (fun q => bs ≤ q) s s.heap := by
  intro j hj
  obtain ⟨g0, g1, g2, g3, g4, g5, g6⟩ := s_tx hj
  obtain ⟨adK, adV, hS, hev⟩ := vk_Sof (args := args) (s := s) (N := 1) (tm := fun _ => .string (tloc j).1 (tloc j).2.1) (len := [(txt j).length]) (byt := [txt j]) (A := fun q => bs ≤ q)
    (fun i hi => by rw [show i = 0 by omega]; exact g1) (fun i hi => hs _ g2) (fun i hi => hs _ g3) (fun i hi => hs _ g4) (fun i hi => by rw [show i = 0 by omega]; exact hs _ g5) (fun i hi k hk => by rw [show i = 0 by omega] at hk ⊢; exact hs _ (g6 k hk)) (fun i k hi hk hne => absurd (show i = k by omega) hne) hA
  have h0 := hev 0 (by decide)
  have h1 := hsad _ _ _ g0
  rw [h0] at h1
  have h2 : adK 0 = sav sad j := by injection h1 with h1; injection h1 with h1
  refine ⟨adV 0, fun i hi => ?_, fun i k hi hk _ => by omega⟩
  rw [show i = 0 by omega]
  have := hS.1 0 (by decide)
  rw [h2] at this
  exact this
theorem rets_i {i : Instr} {x : Int32} {r : Option PV} (h : rets i 2 [vi x] = some r) : i = .ireturn := by
  unfold rets at h
  split at h
  · split at h
    · rename_i g; cases g
    · cases h
  · rfl
  · split at h
    · rename_i g; cases g
    · cases h
  · split at h
    · rename_i g; cases g
    · cases h
  · split at h
    · rename_i g; cases g
    · rename_i g; cases g
    · cases h
  · cases h
/-- the claim's walk, out of a run of the pure machine -/
theorem start_of {p : Program} {e : Env} {s : State} {m : MethodId} {below : List Frame} {meth : Method} {c : Code} (l : Launch) (hflags : l.flags = flags0) {b L : Nat} {xs : Nat → Int32} (C0 : lw_At p s m meth c b L xs) (snd0 : ∀ {T N : Nat → Nat} (n : Nat), Snd T N n)
    {T N : Nat → Nat} (hT0 : ∀ a, a < s.heap.size → T a = if a = b then 21 else 0) (hN0 : N b = L) {n : Nat} {h2 : PH} (ex : exec T N n 288 0 (ent [vr (some b)] (loc 288)) [] (h00 s.heap.size b xs) = some (.inl (some (vi 1)), h2)) (hce : ce h2 ≤ 603072) (hsl : sl h2 ≤ 7194730) :
    W p l e room_1 s m #[Value.ref b] below meth c s.heap [] 0 0 (lw_Z below #[Value.ref b] s) (entryFrame m ([Value.ref b] : List Value).toArray 9) := by
  obtain ⟨hx, hb, hr, hml, hown, hts, hX, hbl, hlk, hgv⟩ := C0
  have hg : ∀ w ∈ goods, w.before #[Value.ref b] s = true := fun w hw => hts w (List.mem_filter.mp hw).1
  have hs : ∀ w ∈ sFL, w.before #[Value.ref b] s = true := flat_of_before _ hgv
  have hA : ∀ a : Nat, a < s.heap.size → ¬ s.heap.size ≤ a := fun a h => Nat.not_le.mpr h
  obtain ⟨D, hK⟩ := s_K hg
  have hsad0 : ∀ q : String × Nat, ∃ a : Nat, ∀ tx, Jvm.Cond.stringRef q.1 q.2 tx ∈ lw_tbl → (Term.string q.1 q.2).eval #[Value.ref b] s none [] s = some (.ref a) := by
    intro q
    by_cases h : ∃ tx, Jvm.Cond.stringRef q.1 q.2 tx ∈ lw_tbl
    · obtain ⟨tx, h⟩ := h
      have g := List.all_eq_true.mp s_ex _ h
      have g := of_decide_eq_true g
      obtain ⟨a, c, cA, kA, q1, -⟩ := Cond.exactly_spec (args := #[Value.ref b]) (first := s) (o := none) (s := s) (idx := []) (hs _ g)
      exact ⟨a, fun _ _ => q1⟩
    · exact ⟨0, fun tx g => absurd ⟨tx, g⟩ h⟩
  obtain ⟨f, hf⟩ := Classical.axiomOfChoice hsad0
  have hsad : ∀ own k tx, Jvm.Cond.stringRef own k tx ∈ lw_tbl → (Term.string own k).eval #[Value.ref b] s none [] s = some (.ref ((fun own k => f (own, k)) own k)) := fun own k tx g => hf (own, k) tx g
  have hTab : Tab D (fun own k => f (own, k)) s := by
    refine ⟨hK, fun a i x hst g => va_Nw.of rfl (hts _ g), fun C X g => va_Nw.of rfl (hts _ g), fun C g => va_AO.of (hts _ g), fun own k tx g => vk_R.of (hts _ g) (hsad own k tx g), fun i j hi hj hne => ?_, fun x g => va_Nw.of rfl (hts _ g)⟩
    have g := List.all_eq_true.mp s_nc i (List.mem_range.mpr hi)
    have g := List.all_eq_true.mp g j (List.mem_range.mpr hj)
    simp only [Bool.or_eq_true, decide_eq_true_eq] at g
    rcases g with g | g
    · exact absurd (Nat.eq_of_beq_eq_true g) hne
    · exact va_Nc.of (hs _ g)
  have hst := s_st
  simp only [Bool.and_eq_true] at hst
  obtain ⟨⟨⟨⟨⟨⟨⟨⟨⟨⟨b1, b2⟩, b3⟩, b4⟩, b5⟩, b6⟩, b7⟩, b8⟩, b9⟩, b10⟩, b11⟩ := hst
  have a1 := wat_mem b1; have a2 := wat_mem b2; have a3 := wat_mem b3; have a4 := wat_mem b4; have a5 := wat_mem b5; have a6 := wat_mem b6; have a7 := wat_mem b7; have a8 := fat_mem b8; have a9 := fat_mem b9; have a10 := fat_mem b10; have a11 := fat_mem b11
  have hF : HF (fun q => s.heap.size ≤ q) (sav (fun own k => f (own, k))) s s.heap :=
    ⟨vx_Zqof (hts _ a1) (hts _ a5) (hs _ a8) hA, vx_Zqof (hts _ a2) (hts _ a5) (hs _ a9) hA, va_Zof (hts _ a3) (hts _ a6) (va_eqt (hs _ a10)) hA, va_Zqof (hts _ a4) (hts _ a7) (hs _ a11) hA, s_txt hs hA _ hsad⟩
  have hC : Ctx D (fun own k => f (own, k)) s.heap.size 288 p l room_1 s m #[Value.ref b] meth c :=
    ⟨hx, hb, hml, hown, hg, hlk, fun z => absurd z (by decide), fun z => absurd z (by decide +kernel), by unfold Launch.stackTraces; rw [hflags]; decide, hTab, hF, by decide +kernel, by decide +kernel⟩
  have hR : Rel D s.heap.size T N s (h00 s.heap.size b xs) s.heap := by
    refine ⟨⟨Nat.le_refl _, Or.inl rfl⟩, fun a ha => ?_, fun a ha k => ⟨if_neg (fun z => by subst z; exact absurd hbl (Nat.not_lt.mpr ha)), rfl, rfl, rfl⟩⟩
    have hta := hT0 a ha
    by_cases hab : a = b
    · subst hab
      rw [if_pos rfl] at hta
      refine ⟨fun z1 z2 => by omega, fun _ => ?_, fun z => by omega⟩
      have e1 : gi (h00 s.heap.size a xs) a = xs := funext fun k => if_pos rfl
      rw [e1, hN0]
      exact hX
    · rw [if_neg hab] at hta
      exact ⟨fun z => by omega, fun z => by omega, fun z => by omega⟩
  have hEnd : End D (fun own k => f (own, k)) s.heap.size T N 288 p l e room_1 s m #[Value.ref b] below meth c (lw_Z below #[Value.ref b] s) (.inl (some (vi 1))) h2 := by
    intro i pc ls H locs cells slots hd hre hR2 hS hc hsl9
    have hi : i = .ireturn := rets_i (x := 1) hre
    subst hi
    refine W.widen (k := 603072) (n := 7194730) hc hsl9 (va_forget hS.2.2 (W.base ?_))
    exact lw_ret (Drawn.sameBut.refl s.drawn lw_cs) hx hb hr hlk hd
  have hlen : (ent [vr (some b)] (loc 288)).length = loc 288 := rfl
  have hv0 : VS (nx (h00 s.heap.size b xs)) [vr (some b)] := fun v hv => by
    have hv := List.mem_singleton.mp hv
    subst hv
    intro a ha
    cases ha
    exact hbl
  have := snd0 n ex (by decide) hC hEnd (ent_LR (sa := sav (fun own k => f (own, k))) hlen) hlen (ent_VL hv0) (fun v hv => by cases hv) (fun a k q hq => by cases hq) (Nat.le_refl _) hR va_S.rf (by show 0 + ce h2 ≤ 603072 + 0; omega) (by show 0 + sl h2 ≤ 7194730 + 0; omega)
  rw [lg_entry_eq]
  exact this
end TOP
