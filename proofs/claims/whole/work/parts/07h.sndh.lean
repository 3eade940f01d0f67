/-! THE PURE MACHINE IS TRUE OF THE MACHINE, seventh part: how a method ends -/
theorem mchk_at {M : Nat} (h : mchk M = true) : plainName (mnm M).cls = true ∧ ((mnm M).cls ≠ "java/lang/invoke/MethodHandle" ∧ (mnm M).cls ≠ "java/lang/invoke/VarHandle" ∧ (parseMethodDescriptor (mnm M).desc).map (fun d => d.parameters.length) = some (mnr M)) ∧ rkOf (mre M) = rk M ∧ Jvm.Cond.initialized (mnm M).cls ∈ goods ∧
    (rt M = 0 → Jvm.Cond.static (mnm M) ∈ goods) ∧ (rt M ≠ 0 → Jvm.Cond.instanceMethod (mnm M) ∈ goods ∧ 1 ≤ rt M ∧ rt M ≤ 12 ∧ (mnm M).cls = Rc (rt M) ∧ ((mnm M).name = "<init>" → mre M = none) ∧ ((mnm M).name ≠ "<init>" → Jvm.Cond.selects (mnm M).cls (mnm M) (mnm M) ∈ goods)) ∧ hhc (mnm M).cls (mby M) (loc M) (mhh M) (hnd M) = true := by
  unfold mchk at h
  simp only [Bool.and_eq_true, decide_eq_true_eq] at h
  obtain ⟨⟨⟨⟨⟨⟨⟨⟨h1, h2⟩, h3⟩, h4⟩, h5⟩, h6⟩, h7⟩, h8⟩, h9⟩ := h
  refine ⟨h2, ⟨h3, h4, h5⟩, h6, List.mem_filter.mpr ⟨h7, rfl⟩, fun z => ?_, fun z => ?_, h9⟩
  · have g : Nat.beq (rt M) 0 = true := by rw [z]; rfl
    rw [g] at h8
    simp only [cond_true, decide_eq_true_eq] at h8
    exact List.mem_filter.mpr ⟨h8, rfl⟩
  · cases g : Nat.beq (rt M) 0 with
    | true => exact absurd (Nat.eq_of_beq_eq_true g) z
    | false =>
      rw [g] at h8
      simp only [cond_false, Bool.and_eq_true, decide_eq_true_eq] at h8
      obtain ⟨⟨⟨a1, a2⟩, a3⟩, a4⟩ := h8
      refine ⟨List.mem_filter.mpr ⟨a1, rfl⟩, by omega, Nat.le_of_ble_eq_true a2, a3, fun q => ?_, fun q => ?_⟩
      · rw [if_pos q] at a4; exact of_decide_eq_true a4
      · rw [if_neg q] at a4; exact List.mem_filter.mpr ⟨of_decide_eq_true a4, rfl⟩
theorem hh_nil {own : String} {b : ByteArray} {nl : Nat} : ∀ {hs : List (Nat × Nat × Nat × Nat)} {zs : List (Nat × Nat × Nat × Nat × Nat)}, hhc own b nl hs zs = true → zs = [] → hs = []
  | [], _, _, _ => rfl
  | _ :: _, [], h, _ => by unfold hhc at h; cases h
  | _ :: _, _ :: _, _, z => by cases z
theorem hhc_c {own : String} {b : ByteArray} {nl : Nat} {q : Nat × Nat × Nat × Nat} {r : List (Nat × Nat × Nat × Nat)} {z : Nat × Nat × Nat × Nat × Nat} {y : List (Nat × Nat × Nat × Nat × Nat)} (h : hhc own b nl (q :: r) (z :: y) = true) :
    q.1 = z.1 ∧ q.2.1 = z.2.1 ∧ q.2.2.2 ≠ 0 ∧ z.2.2.2.1 < 6 ∧ z.2.2.2.2 < nl ∧ Jvm.Cond.classLink own q.2.2.2 (exn z.2.2.2.1) ∈ lw_tbl ∧ Jvm.Cond.castable (exn z.2.2.2.1) (exn z.2.2.2.1) ∈ lw_tbl ∧
    ((z.2.2.2.2 < 4 ∧ z.2.2.1 = q.2.2.1 + 1 ∧ decode b q.2.2.1 = .ok (.astore_n (Fin.ofNat 4 z.2.2.2.2), 1)) ∨ (z.2.2.1 = q.2.2.1 + 2 ∧ decode b q.2.2.1 = .ok (.astore z.2.2.2.2, 2))) ∧ hhc own b nl r y = true := by
  rw [hhc] at h
  simp only [Bool.and_eq_true, decide_eq_true_eq, Bool.or_eq_true, Bool.not_eq_true'] at h
  obtain ⟨⟨⟨⟨⟨⟨⟨⟨h1, h2⟩, h3⟩, h4⟩, h5⟩, h6⟩, h7⟩, h8⟩, h9⟩ := h
  refine ⟨Nat.eq_of_beq_eq_true h1, Nat.eq_of_beq_eq_true h2, fun z => (by rw [z] at h3; cases h3), by simpa using h4, by simpa using h5, h6, h7, ?_, h9⟩
  rcases h8 with ⟨⟨g1, g2⟩, g3⟩ | ⟨g1, g2⟩
  · exact Or.inl ⟨by simpa using g1, Nat.eq_of_beq_eq_true g2, g3⟩
  · exact Or.inr ⟨Nat.eq_of_beq_eq_true g1, g2⟩
/-- a row of the table that doesn't take E -/
def hPass (own : String) (pc E : Nat) (z : ExceptionTableEntry) : Prop := covers z pc = false ∨ ∃ i, i < 6 ∧ i ≠ E ∧ z.catchType ≠ 0 ∧ Jvm.Cond.classLink own z.catchType (exn i) ∈ lw_tbl
theorem hfind_c {pc E : Nat} {z : Nat × Nat × Nat × Nat × Nat} {y : List (Nat × Nat × Nat × Nat × Nat)} {q : Nat × Nat × Nat × Nat} (h1 : q.1 = z.1) (h2 : q.2.1 = z.2.1) : (covers ⟨q.1, q.2.1, q.2.2.1, q.2.2.2⟩ pc = true ∧ z.2.2.2.1 = E ∧ hfind pc E (z :: y) = some (z.2.2.1, z.2.2.2.2)) ∨ ((covers ⟨q.1, q.2.1, q.2.2.1, q.2.2.2⟩ pc = false ∨ z.2.2.2.1 ≠ E) ∧ hfind pc E (z :: y) = hfind pc E y) := by
  rw [hfind]
  cases g1 : Nat.ble z.1 pc with
  | false =>
    refine Or.inr ⟨Or.inl ?_, rfl⟩
    have : ¬ q.1 ≤ pc := fun w => by rw [h1] at w; rw [Nat.ble_eq_true_of_le w] at g1; cases g1
    simp [covers, this]
  | true =>
    cases g2 : Nat.blt pc z.2.1 with
    | false =>
      refine Or.inr ⟨Or.inl ?_, rfl⟩
      have : ¬ pc < q.2.1 := fun w => by
        rw [h2] at w
        have : Nat.blt pc z.2.1 = true := by simpa using w
        rw [this] at g2; cases g2
      simp [covers, this]
    | true =>
      cases g3 : Nat.beq z.2.2.2.1 E with
      | false => exact Or.inr ⟨Or.inr (fun w => by rw [w] at g3; simp at g3), rfl⟩
      | true =>
        refine Or.inl ⟨?_, Nat.eq_of_beq_eq_true g3, rfl⟩
        have a1 : q.1 ≤ pc := by rw [h1]; exact Nat.le_of_ble_eq_true g1
        have a2 : pc < q.2.1 := by rw [h2]; simpa using g2
        simp [covers, a1, a2]
theorem hh_none {own : String} {b : ByteArray} {nl pc E : Nat} : ∀ {hs : List (Nat × Nat × Nat × Nat)} {zs : List (Nat × Nat × Nat × Nat × Nat)}, hhc own b nl hs zs = true → hfind pc E zs = none → ∀ z ∈ tableOf hs, hPass own pc E z
  | [], _, _, _ => fun z hz => by cases hz
  | _ :: _, [], h, _ => by unfold hhc at h; cases h
  | q :: r, z :: y, h, f => by
    obtain ⟨a1, a2, a3, a4, a5, a6, a7, a8, a9⟩ := hhc_c h
    intro w hw
    rcases hfind_c (pc := pc) (E := E) (y := y) a1 a2 with ⟨-, -, c3⟩ | ⟨c1, c2⟩
    · rw [c3] at f; cases f
    · rw [c2] at f
      rcases List.mem_cons.mp (show w ∈ (⟨q.1, q.2.1, q.2.2.1, q.2.2.2⟩ : ExceptionTableEntry) :: tableOf r from hw) with rfl | hw
      · rcases c1 with c1 | c1
        · exact Or.inl c1
        · exact Or.inr ⟨_, a4, c1, a3, a6⟩
      · exact hh_none a9 f w hw
theorem hh_some {own : String} {b : ByteArray} {nl pc E : Nat} {g : Nat × Nat} : ∀ {hs : List (Nat × Nat × Nat × Nat)} {zs : List (Nat × Nat × Nat × Nat × Nat)}, hhc own b nl hs zs = true → hfind pc E zs = some g → ∃ pre x suf, tableOf hs = pre ++ x :: suf ∧ (∀ z ∈ pre, hPass own pc E z) ∧ covers x pc = true ∧ x.catchType ≠ 0 ∧ g.2 < nl ∧ Jvm.Cond.classLink own x.catchType (exn E) ∈ lw_tbl ∧ Jvm.Cond.castable (exn E) (exn E) ∈ lw_tbl ∧
    ((g.2 < 4 ∧ g.1 = x.handlerPc + 1 ∧ decode b x.handlerPc = .ok (.astore_n (Fin.ofNat 4 g.2), 1)) ∨ (g.1 = x.handlerPc + 2 ∧ decode b x.handlerPc = .ok (.astore g.2, 2)))
  | [], [], _, f => by cases f
  | [], _ :: _, h, _ => by unfold hhc at h; cases h
  | _ :: _, [], h, _ => by unfold hhc at h; cases h
  | q :: r, z :: y, h, f => by
    obtain ⟨a1, a2, a3, a4, a5, a6, a7, a8, a9⟩ := hhc_c h
    rcases hfind_c (pc := pc) (E := E) (y := y) a1 a2 with ⟨c1, c2, c3⟩ | ⟨c1, c2⟩
    · rw [c3] at f
      cases f
      subst c2
      exact ⟨[], ⟨q.1, q.2.1, q.2.2.1, q.2.2.2⟩, tableOf r, rfl, (fun z hz => by cases hz), c1, a3, a5, a6, a7, a8⟩
    · rw [c2] at f
      obtain ⟨pre, x, suf, e1, e2, e3⟩ := hh_some a9 f
      refine ⟨⟨q.1, q.2.1, q.2.2.1, q.2.2.2⟩ :: pre, x, suf, by show _ :: tableOf r = _; rw [e1]; rfl, fun w hw => ?_, e3⟩
      rcases List.mem_cons.mp hw with rfl | hw
      · rcases c1 with c1 | c1
        · exact Or.inl c1
        · exact Or.inr ⟨_, a4, c1, a3, a6⟩
      · exact e2 w hw
/-- how an exception's own constructor goes on -/
def cthK (i : Nat) : Nat := if i = 5 then 13 else 7
def cthB (i : Nat) : ByteArray := if i = 5 then b13 else Bundle.six
set_option maxRecDepth 100000 in
theorem thr_ok0 : ((List.range 6).all fun i => ((thrL RX10 (exc i) (exn i) (cthK i) (cthB i)).filter vx_no).all fun w => decide (w ∈ lw_tbl) && (goodWord w || (match w with | .castable _ _ => true | .declares _ => true | _ => false)) && vx_ot w) = true := by decide +kernel
theorem thr_ok1 : ((List.range 6).all fun i => Bundle.fit (exn i) && decide (Jvm.Cond.initialized (exn i) ∈ lw_tbl)) = true := by decide +kernel
theorem thr_ok2 : ((List.range 6).all fun i => decide (decode (cthB i) 0 = .ok (.aload_n 0, 1)) && decide (decode (cthB i) 1 = .ok (.aload_n 1, 1)) && decide (decode (cthB i) 2 = .ok (.invokespecial (cthK i), 3)) && decide (decode (cthB i) 5 = .ok (.return_, 1))) = true := by decide +kernel
theorem thr_ok {i : Nat} (h : i < 6) : Bundle.fit (exn i) = true ∧ Jvm.Cond.initialized (exn i) ∈ goods ∧ (∀ w ∈ (thrL RX10 (exc i) (exn i) (cthK i) (cthB i)).filter vx_no, vx_ot w = true ∧ (w ∈ goods ∨ (∃ C X, w = .castable C X ∧ w ∈ lw_tbl) ∨ ∃ x, w = .declares x ∧ w ∈ lw_tbl)) ∧
    decode (cthB i) 0 = .ok (.aload_n 0, 1) ∧ decode (cthB i) 1 = .ok (.aload_n 1, 1) ∧ decode (cthB i) 2 = .ok (.invokespecial (cthK i), 3) ∧ decode (cthB i) 5 = .ok (.return_, 1) := by
  have g1 := List.all_eq_true.mp thr_ok1 i (List.mem_range.mpr h)
  have g0 := List.all_eq_true.mp thr_ok0 i (List.mem_range.mpr h)
  have q := List.all_eq_true.mp thr_ok2 i (List.mem_range.mpr h)
  simp only [Bool.and_eq_true, decide_eq_true_eq] at g1 q
  refine ⟨g1.1, List.mem_filter.mpr ⟨g1.2, rfl⟩, fun w hw => ?_, q.1.1.1, q.1.1.2, q.1.2, q.2⟩
  have g2 := List.all_eq_true.mp g0 w hw
  simp only [Bool.and_eq_true, decide_eq_true_eq, Bool.or_eq_true] at g2
  obtain ⟨⟨g3, g4⟩, g5⟩ := g2
  refine ⟨g5, ?_⟩
  rcases g4 with g4 | g4
  · exact Or.inl (List.mem_filter.mpr ⟨g3, g4⟩)
  · split at g4
    · exact Or.inr (Or.inl ⟨_, _, rfl, g3⟩)
    · exact Or.inr (Or.inr ⟨_, rfl, g3⟩)
    · cases g4
theorem Rel.grown {D : va_G} {bs : Nat} {T N : Nat → Nat} {U : State} {h : PH} {H H2 : Heap} (g : Rel D bs T N U h H) (ht : ∀ a, nx h ≤ a → T a = 0) (hz : H.size ≤ H2.size) (ho : ∀ q, q < H.size → H2[q]? = H[q]?) : Rel D bs T N U (bump h) H2 :=
  ⟨⟨Nat.le_trans g.1.1 hz, Or.inr ht⟩, fun a ha => (g.2.1 a ha).kept (h2 := bump h) (ho a (Nat.lt_of_lt_of_le ha g.1.1)) rfl rfl rfl rfl, g.2.2⟩
theorem rk_ret {r : Option FieldType} {k : Nat} (h : rkOf r = k) : (k = 0 → r = none) ∧ (k = 1 → r = some .int) ∧ (k = 2 → r = some .boolean) ∧ (k = 3 → r = some .char) ∧ (k = 4 → r = some .long) ∧ (k = 5 → r = some .double) ∧ (k = 6 ∨ k = 7 → ∃ t, r = some t ∧ ((∃ n, t = .object n) ∨ ∃ u, t = .array u)) := by
  subst h
  rcases r with _ | t
  · exact ⟨fun _ => rfl, fun z => by simp [rkOf] at z, fun z => by simp [rkOf] at z, fun z => by simp [rkOf] at z, fun z => by simp [rkOf] at z, fun z => by simp [rkOf] at z, fun z => by simp [rkOf] at z⟩
  · cases t
    case object n =>
      have : rkOf (some (.object n)) = 7 ∨ rkOf (some (.object n)) = 6 := by
        by_cases q : n = "java/lang/String"
        · exact Or.inl (by simp [rkOf, q])
        · exact Or.inr (by simp [rkOf, q])
      refine ⟨fun z => by omega, fun z => by omega, fun z => by omega, fun z => by omega, fun z => by omega, fun z => by omega, fun _ => ⟨_, rfl, Or.inl ⟨n, rfl⟩⟩⟩
    case array u => exact ⟨fun z => by simp [rkOf] at z, fun z => by simp [rkOf] at z, fun z => by simp [rkOf] at z, fun z => by simp [rkOf] at z, fun z => by simp [rkOf] at z, fun z => by simp [rkOf] at z, fun _ => ⟨_, rfl, Or.inr ⟨u, rfl⟩⟩⟩
    all_goals (exact ⟨fun z => by simp [rkOf] at z, fun z => by first | rfl | simp [rkOf] at z, fun z => by first | rfl | simp [rkOf] at z, fun z => by first | rfl | simp [rkOf] at z, fun z => by first | rfl | simp [rkOf] at z, fun z => by first | rfl | simp [rkOf] at z, fun z => by simp [rkOf] at z⟩)
theorem bool_nar {x : Int32} (h : x = 0 ∨ x = 1) : narrow .boolean (.int x) = .int x := by rcases h with rfl | rfl <;> decide
section SNDH
variable {p : Program} {l : Launch} {e : Env} {R : Room} {s : State} {m : MethodId} {args : Array Value} {below : List Frame} {meth : Method} {c : Code} {D : va_G} {sad : String → Nat → Nat} {bs : Nat} {T N : Nat → Nat} {M : Nat}
/-- the ends of a method, over the machine -/
theorem end_of (hM8 : M < 288) (hM : tabOK M = true) (hm : mchk M = true) (hC : Ctx D sad bs M p l R s m args meth c) (hr : meth.sig.returnType = mre M) {o : PR} {h2 : PH} : End D sad bs T N M p l e R s m args below meth c (vx_MQ below (QcO D sad bs T N o h2) (XcO D bs T N o h2) args s R.cells R.slots (fun q => bs ≤ q)) o h2 := by
  obtain ⟨hx, hb, hml, hown, hts, hlk, htab, hini, hl, hT, hF, hfr, hlo⟩ := hC
  have htab := htab hM8
  obtain ⟨k1, k2, k3, k4, k5, k6, k7⟩ := mchk_at hm
  have hmv : ∀ {h : PH} {H : Heap} {t : State}, Rel D bs T N s h H → t.heap = H → s.vm.Alike t.vm → Rel D bs T N t h t.heap := fun g e1 e2 => by rw [e1]; exact g.moved e2
  have hFr : ∀ {H : Heap} {locs : List Loc} {t : State}, va_S (fun q => bs ≤ q) s.heap H locs → t.heap = H → va_F (fun q => bs ≤ q) s t := fun g e1 => ⟨by rw [e1]; exact g.1, fun q h1 h2 => by rw [e1]; exact g.2.1 q h1 h2⟩
  cases o with
  | inl v =>
    intro i pc ls H locs cells slots hd hre hR hS hc hs
    refine W.widen hc hs (vx_ret ?_)
    have hq : ∀ t : State, t.heap = H → s.WarmedH t.vm → QcO D sad bs T N (.inl v) h2 args s (.returned (v.map (cv (sav sad)))) t := fun t e1 e2 => ⟨⟨v, rfl, rfl, hmv hR e1 e2.alike⟩, hFr hS e1⟩
    obtain ⟨r0, r1, r2, r3, r4, r5, r6⟩ := rk_ret k3
    unfold rets at hre
    split at hre
    · split at hre
      · rename_i g
        obtain ⟨z, hre⟩ := pif_some hre
        cases hre
        exact W.vret hx hb (hr.trans (r0 z)) hq hS.2.2 hd
      · cases hre
    · unfold retI at hre
      split at hre
      · rename_i x g
        obtain ⟨z, hre⟩ := pif_some hre
        cases hre
        rcases z with z | ⟨z, z2⟩ | ⟨z, z2⟩
        · exact W.iret (v := x) hx hb (hr.trans (r1 z)) hq hS.2.2 hd
        · exact W.zret (v := x) hx hb (hr.trans (r2 z)) (bool_nar z2) hq hS.2.2 hd
        · exact W.zret (v := x) hx hb (hr.trans (r3 z)) (char_nar z2) hq hS.2.2 hd
      · cases hre
    · split at hre
      · rename_i x g
        obtain ⟨z, hre⟩ := pif_some hre
        cases hre
        exact W.lret (v := x) hx hb (hr.trans (r4 z)) hq hS.2.2 hd
      · cases hre
    · split at hre
      · rename_i x g
        obtain ⟨z, hre⟩ := pif_some hre
        cases hre
        exact W.dret (v := x) hx hb (hr.trans (r5 z)) hq hS.2.2 hd
      · cases hre
    · split at hre
      · rename_i x g
        obtain ⟨z, hre⟩ := pif_some hre
        cases hre
        obtain ⟨t, ht, ht2⟩ := r6 (Or.inl z)
        exact W.aret (v := va_rf x) hx hb (hr.trans ht) ht2 (by cases x; exact Or.inl rfl; exact Or.inr ⟨_, rfl⟩) hq hS.2.2 hd
      · rename_i x g
        obtain ⟨z, hre⟩ := pif_some hre
        cases hre
        obtain ⟨t, ht, ht2⟩ := r6 (Or.inr z)
        exact W.aret (v := .ref (sav sad x)) hx hb (hr.trans ht) ht2 (Or.inr ⟨_, rfl⟩) hq hS.2.2 hd
      · cases hre
    · cases hre
  | inr E =>
    refine ⟨fun e0 i pc ls H locs cells slots st h hk hi hp hE hh ht hw hR hS hsz hc hs => ?_, fun pc ls H locs cells slots rest q ce hE hf hce hcv hcl hR hS hc hs => ?_⟩
    · obtain ⟨ei, elen, ep, eq, er, ew, ey⟩ := e0
      dsimp only at hi hp hE
      subst hi
      obtain ⟨d1, d2, -, -, d5⟩ := row_at hM hk
      unfold chkC at d5
      dsimp only at d1 d2 d5
      rw [hp] at d5
      simp only [cond_true, Bool.and_eq_true, decide_eq_true_eq] at d5
      obtain ⟨⟨⟨⟨⟨⟨⟨c1, c2⟩, c3⟩, c4⟩, c5⟩, c6⟩, c7⟩, c8⟩ := d5
      rw [hE] at c1 c4 c5
      have c1 : E < 6 := by simpa using c1
      have c5 : er = exc E := Nat.eq_of_beq_eq_true c5
      subst c5
      obtain ⟨t1, t2, t3, q0, q1, q2, q5⟩ := thr_ok c1
      have hnil : mhh M = [] := hh_nil k7 (List.isEmpty_iff.mp c3)
      have hlen : elen = 3 := d2 rfl
      subst hlen
      rw [c2] at hown
      obtain ⟨tx, htx⟩ : ∃ tx, lw_tbl[ey]? = some (.stringRef RX10 eq tx) := by
        split at c6
        · rename_i a b tx g
          simp only [Bool.and_eq_true, decide_eq_true_eq] at c6
          obtain ⟨rfl, c6⟩ := c6
          have : b = eq := Nat.eq_of_beq_eq_true c6
          subst this
          exact ⟨tx, g⟩
        · cases c6
      have hstr := hT.2.2.2.2.1 _ _ _ (List.mem_of_getElem? htx)
      have hout : ∀ (n : Nat), ∀ x ∈ c.exceptionTable.toList, covers x n = false := fun n x hx => by rw [htab, hnil] at hx; cases hx
      have hat : ∀ w ∈ (thrL RX10 (exc E) (exn E) (cthK E) (cthB E)).filter vx_no, w.before args s = true := fun w hw => by
        rcases (t3 w hw).2 with g | ⟨C, X, rfl, g⟩ | ⟨x, rfl, g⟩
        · exact hts w g
        · exact va_Nw.use rfl (hT.2.2.1 _ _ g)
        · exact va_Nw.use rfl (hT.2.2.2.2.2.2 _ g)
      have hgood : ∀ w ∈ Jvm.Cond.classLink RX10 i (exn E) :: Jvm.Cond.initialized (exn E) :: (thrL RX10 (exc E) (exn E) (cthK E) (cthB E)).filter vx_no, vx_ot w = true := fun w hw => by
        rcases List.mem_cons.mp hw with rfl | hw
        · rfl
        · rcases List.mem_cons.mp hw with rfl | hw
          · rfl
          · exact (t3 w hw).1
      have hend : ∀ (z : Nat), decode (mby M) (pc + 4 + z + 3) = .ok (.athrow, 1) → ∀ (q : Nat) (H1 : Heap) (ce : Cell), H1[q]? = some ce → ce.vm = .none → s.vm.findClass (exn E) = some ce.cls → H.size ≤ H1.size → (∀ q : Nat, q < H.size → H1[q]? = H[q]?) → va_S (fun q => bs ≤ q) s.heap H1 locs →
          W p l e R s m args below meth c H1 locs (cells + 1) (slots + 6) (vx_MQ below (QcO D sad bs T N (.inr E) h2) (XcO D bs T N (.inr E) h2) args s R.cells R.slots (fun q => bs ≤ q)) (F0 m (pc + 4 + z + 3) ls (.ref q :: st.map (cv (sav sad)))) := by
        intro z dz q H1 ce g1 g2 g3 g4 g5 hS1
        refine vx_athrow hx hb dz (vx_outP (own := RX10) (E := exn E) hown hlk (fun z hz => absurd hz (by rw [htab, hnil]; exact List.not_mem_nil)) g1 g2 g3 (fun t e1 e2 => ?_) hS1.2.2 hc hs)
        refine ⟨⟨E, rfl, c1, rfl, ?_⟩, ?_, fun q y1 y2 => ?_⟩
        · rw [hh, e1]
          exact (hR.grown ht g4 g5).moved e2
        · rw [e1]; exact hS1.1
        · rw [e1]; exact hS1.2.1 q y1 y2
      have hrl : ((st.map (cv (sav sad))).map fun v => v.category).sum + 82 ≤ R.locals := by
        rw [cv_sum]
        omega
      cases g : Nat.beq (ep / 100) 1 with
      | true =>
        rw [g] at c8
        simp only [cond_true, Bool.and_eq_true, decide_eq_true_eq] at c8
        obtain ⟨⟨e4, e6⟩, e9⟩ := c8
        exact thr_make (A := fun q => bs ≤ q) (z := 2) hx hb hl hown t1 q0 q1 q2 q5 (hts _ (wat_good c4 rfl)) (hts _ t2) hstr hat hgood hF.1 hF.2.1 hS (by rw [hsz, hml]) d1 c7 (Or.inl ⟨rfl, e4⟩) e6 (by omega) hrl hc hs (hend 2 e9)
      | false =>
        rw [g] at c8
        simp only [cond_false, Bool.and_eq_true, decide_eq_true_eq] at c8
        obtain ⟨⟨e4, e6⟩, e9⟩ := c8
        exact thr_make (A := fun q => bs ≤ q) (z := 3) hx hb hl hown t1 q0 q1 q2 q5 (hts _ (wat_good c4 rfl)) (hts _ t2) hstr hat hgood hF.1 hF.2.1 hS (by rw [hsz, hml]) d1 c7 (Or.inr ⟨rfl, e4⟩) e6 (by omega) hrl hc hs (hend 3 e9)
    · refine vx_outP (own := (mnm M).cls) (E := exn E) hown hlk (fun z hz => ?_) hce hcv hcl (fun t g1 g2 => ⟨⟨E, rfl, hE, rfl, hmv hR g1 g2⟩, hFr hS g1⟩) hS.2.2 hc hs
      rw [htab] at hz
      rcases hh_none k7 hf z hz with g | ⟨j, g1, g2, g3, g4⟩
      · exact Or.inl g
      · exact Or.inr ⟨g3, _, hts _ (List.mem_filter.mpr ⟨g4, rfl⟩), hT.2.2.2.2.2.1 E j hE g1 (fun z => g2 z.symm)⟩
end SNDH
