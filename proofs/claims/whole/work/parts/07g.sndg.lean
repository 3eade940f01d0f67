/-! THE PURE MACHINE IS TRUE OF THE MACHINE, sixth part: what is checked of each method and row, what holds at each of its entries -/
def nms : List String := ["java/lang/RuntimeException", "java/lang/Exception"]
def sav (sad : String → Nat → Nat) : Nat → Nat := fun j => sad (tloc j).1 (tloc j).2.1
/-- what the tables say, in any state of the run -/
def Tab (D : va_G) (sad : String → Nat → Nat) (U : State) : Prop :=
  va_K D cls12 [] U ∧ (∀ a i x hst, Jvm.Cond.methodLinkNest a i x hst ∈ lw_tbl → va_Nw (.methodLinkNest a i x hst) U) ∧ (∀ C X, Jvm.Cond.castable C X ∈ lw_tbl → va_Nw (.castable C X) U) ∧ (∀ C, Jvm.Cond.arrayOver (.object C) ∈ lw_tbl → va_AO C U) ∧ (∀ own k tx, Jvm.Cond.stringRef own k tx ∈ lw_tbl → vk_R own k tx (sad own k) U) ∧ (∀ i j, i < 6 → j < 6 → i ≠ j → va_Nc (exn i) (exn j) U) ∧ (∀ x, Jvm.Cond.declares x ∈ lw_tbl → va_Nw (.declares x) U)
theorem Tab.warm {D : va_G} {sad : String → Nat → Nat} {s U : State} (hW : s.WarmedH U.vm) (h : Tab D sad s) : Tab D sad U :=
  ⟨va_K.moved hW.alike h.1, fun a i x hst g => (h.2.1 a i x hst g).warmM hW, fun C X g => (h.2.2.1 C X g).warmC hW, fun C g => (h.2.2.2.1 C g).moved hW.alike, fun own k tx g => (h.2.2.2.2.1 own k tx g).warm hW, fun i j hi hj e => (h.2.2.2.2.2.1 i j hi hj e).moved hW.alike, fun x g => (h.2.2.2.2.2.2 x g).warmD hW⟩
/-- what holds when a method is called -/
def PreU (D : va_G) (sad : String → Nat → Nat) (bs : Nat) (T N : Nat → Nat) (h : PH) (U : State) : Prop := Tab D sad U ∧ HF (fun q => bs ≤ q) (sav sad) U U.heap ∧ Rel D bs T N U h U.heap
theorem PreU.warm {D : va_G} {sad : String → Nat → Nat} {bs : Nat} {T N : Nat → Nat} {h : PH} {s U : State} (hW : s.WarmedH U.vm) (hT : Tab D sad s) (hF : HF (fun q => bs ≤ q) (sav sad) s U.heap) (hR : Rel D bs T N s h U.heap) : PreU D sad bs T N h U :=
  ⟨hT.warm hW, hF.moved hW.alike, hR.moved hW.alike⟩
theorem PreU.same {D : va_G} {sad : String → Nat → Nat} {bs : Nat} {T N : Nat → Nat} {h : PH} (U V : State) (e1 : V.heap = U.heap) (e2 : V.vm = U.vm) (g : PreU D sad bs T N h U) : PreU D sad bs T N h V := by
  refine PreU.warm (s := U) (by rw [e2]; exact State.WarmedH.refl U) g.1 (by rw [e1]; exact g.2.1) (by rw [e1]; exact g.2.2)
/-- a method's own word -/
def cdw (M : Nat) : Jvm.Cond := match hnd M with
  | [] => .code (mnm M) (mby M) (loc M) (mre M)
  | _ :: _ => .codeWith (mnm M) (mby M) (loc M) (mre M) (mhh M)
abbrev wsm (M : Nat) : List Jvm.Cond := cdw M :: goods
def rmm (M k n : Nat) : Room := { frames := dep M + 9, cells := k, slots := n, locals := 300 + 100 * dep M }
def rkOf : Option FieldType → Nat
  | none => 0
  | some .int => 1
  | some .boolean => 2
  | some .char => 3
  | some .long => 4
  | some .double => 5
  | some (.object n) => if n = "java/lang/String" then 7 else 6
  | some (.array _) => 6
  | some _ => 9
/-- a handler's row against the table's -/
def hhc (own : String) (b : ByteArray) (nl : Nat) : List (Nat × Nat × Nat × Nat) → List (Nat × Nat × Nat × Nat × Nat) → Bool
  | [], [] => true
  | q :: r, z :: y => Nat.beq q.1 z.1 && Nat.beq q.2.1 z.2.1 && !(Nat.beq q.2.2.2 0) && Nat.blt z.2.2.2.1 6 && Nat.blt z.2.2.2.2 nl && decide (Jvm.Cond.classLink own q.2.2.2 (exn z.2.2.2.1) ∈ lw_tbl) && decide (Jvm.Cond.castable (exn z.2.2.2.1) (exn z.2.2.2.1) ∈ lw_tbl) &&
      ((Nat.blt z.2.2.2.2 4 && Nat.beq z.2.2.1 (q.2.2.1 + 1) && decide (decode b q.2.2.1 = .ok (.astore_n (Fin.ofNat 4 z.2.2.2.2), 1))) || (Nat.beq z.2.2.1 (q.2.2.1 + 2) && decide (decode b q.2.2.1 = .ok (.astore z.2.2.2.2, 2)))) && hhc own b nl r y
  | _, _ => false
/-- a method's facts -/
def mchk (M : Nat) : Bool :=
  wat (mps M) (cdw M) && plainName (mnm M).cls && decide ((mnm M).cls ≠ "java/lang/invoke/MethodHandle") && decide ((mnm M).cls ≠ "java/lang/invoke/VarHandle") && decide ((parseMethodDescriptor (mnm M).desc).map (fun d => d.parameters.length) = some (mnr M)) && decide (rkOf (mre M) = rk M) && decide (Jvm.Cond.initialized (mnm M).cls ∈ lw_tbl) &&
  (bif Nat.beq (rt M) 0 then decide (Jvm.Cond.static (mnm M) ∈ lw_tbl) else decide (Jvm.Cond.instanceMethod (mnm M) ∈ lw_tbl) && Nat.ble (rt M) 12 && decide ((mnm M).cls = Rc (rt M)) && (if (mnm M).name = "<init>" then decide (mre M = none) else decide (Jvm.Cond.selects (mnm M).cls (mnm M) (mnm M) ∈ lw_tbl))) && hhc (mnm M).cls (mby M) (loc M) (mhh M) (hnd M)
/-- a row that calls or throws -/
def chkC (M pc : Nat) (e : PE) : Bool := match e.1 with
  | .invokevirtual i => bif Nat.ble 1000 e.2.2.1 then
      (match e.2.2.1 with
      | 1004 => wat e.2.2.2.2.2.1 (.methodLink (mnm M).cls i yJ0_length_8abf5)
      | 1005 => wat e.2.2.2.2.2.1 (.methodLink (mnm M).cls i yJ0_isEmpty_aae02)
      | 1006 => wat e.2.2.2.2.2.1 (.methodLink (mnm M).cls i yJ0_charAt_5068e)
      | _ => false)
    else Nat.blt e.2.2.1 288 && Nat.blt (dep e.2.2.1) (dep M) && Nat.beq e.2.2.2.1 (mnr e.2.2.1 + 1) && !(Nat.beq (rt e.2.2.1) 0) && decide ((mnm e.2.2.1).name ≠ "<init>") && (hnd e.2.2.1).isEmpty &&
      (bif Nat.beq e.2.2.2.2.1 0 then wat e.2.2.2.2.2.1 (.methodLink (mnm M).cls i (mnm e.2.2.1)) else Nat.beq e.2.2.2.2.1 3 && wat e.2.2.2.2.2.1 (.methodLinkNest (mnm M).cls i (mnm e.2.2.1) RX10))
  | .invokestatic i => bif Nat.ble 1000 e.2.2.1 then
      (match e.2.2.1 with
      | 1001 => wat e.2.2.2.2.2.1 (.methodLink (mnm M).cls i Lib.Math.max.name)
      | 1002 => wat e.2.2.2.2.2.1 (.methodLink (mnm M).cls i Lib.Math.min.name)
      | 1003 => wat e.2.2.2.2.2.1 (.methodLink (mnm M).cls i Lib.Math.abs.name)
      | _ => false)
    else Nat.blt e.2.2.1 288 && Nat.blt (dep e.2.2.1) (dep M) && Nat.beq e.2.2.2.1 (mnr e.2.2.1) && Nat.beq (rt e.2.2.1) 0 &&
      (bif Nat.beq e.2.2.2.2.1 1 then wat e.2.2.2.2.2.1 (.methodLink (mnm M).cls i (mnm e.2.2.1)) else Nat.beq e.2.2.2.2.1 4 && wat e.2.2.2.2.2.1 (.methodLinkNest (mnm M).cls i (mnm e.2.2.1) RX10) && (hnd e.2.2.1).isEmpty)
  | .invokespecial i => bif Nat.ble 1000 e.2.2.1 then Nat.beq e.2.2.1 1000 && wat e.2.2.2.2.2.1 (.methodLink (mnm M).cls i Lib.objectInit)
    else Nat.blt e.2.2.1 288 && Nat.blt (dep e.2.2.1) (dep M) && Nat.beq e.2.2.2.1 (mnr e.2.2.1 + 1) && !(Nat.beq (rt e.2.2.1) 0) && decide ((mnm e.2.2.1).name = "<init>") && (hnd e.2.2.1).isEmpty &&
      (bif Nat.beq e.2.2.2.2.1 2 then wat e.2.2.2.2.2.1 (.methodLink (mnm M).cls i (mnm e.2.2.1)) else Nat.beq e.2.2.2.2.1 5 && wat e.2.2.2.2.2.1 (.methodLinkNest (mnm M).cls i (mnm e.2.2.1) RX10))
  | .new i => bif Nat.ble 100 e.2.2.1 then
      Nat.blt (e.2.2.1 % 100) 6 && decide ((mnm M).cls = RX10) && (hnd M).isEmpty && wat e.2.2.2.2.2.1 (.classLink RX10 i (exn (e.2.2.1 % 100))) && Nat.beq e.2.2.2.2.1 (exc (e.2.2.1 % 100)) &&
      (match lw_tbl[e.2.2.2.2.2.2]? with
      | some (.stringRef a b _) => decide (a = RX10) && Nat.beq b e.2.2.2.1
      | _ => false) && decide (decode (mby M) (pc + 3) = .ok (.dup, 1)) &&
      (bif Nat.beq (e.2.2.1 / 100) 1 then decide (decode (mby M) (pc + 4) = .ok (.ldc e.2.2.2.1, 2)) && decide (decode (mby M) (pc + 6) = .ok (.invokespecial e.2.2.2.2.1, 3)) && decide (decode (mby M) (pc + 9) = .ok (.athrow, 1))
       else decide (decode (mby M) (pc + 4) = .ok (.ldc_w e.2.2.2.1, 3)) && decide (decode (mby M) (pc + 7) = .ok (.invokespecial e.2.2.2.2.1, 3)) && decide (decode (mby M) (pc + 10) = .ok (.athrow, 1)))
    else true
  | _ => true
def isIni (M : Nat) : Bool := decide ((mnm M).name = "<init>")
def chkR (M pc : Nat) (e : PE) : Bool := decide (decode (mby M) pc = .ok (e.1, e.2.1)) && (isSw e.1 || Nat.beq e.2.1 (ilen e.1)) && chkP (mnm M).cls pc e && chkH (mnm M).cls (isIni M) e && chkC M pc e
/-- all rows of a method -/
def tabOK (M : Nat) : Bool := (List.range (mln M)).all fun pc => match cod M pc with
  | none => true
  | some e => chkR M pc e
theorem cod_lt {M pc : Nat} {e : PE} (h : cod M pc = some e) : pc < mln M := by
  unfold cod at h
  cases g : Nat.blt pc (mln M) with
  | false => rw [g] at h; cases h
  | true => simpa using g
theorem row_ok {M pc : Nat} {e : PE} (hM : tabOK M = true) (h : cod M pc = some e) : chkR M pc e = true := by
  have g := List.all_eq_true.mp hM pc (List.mem_range.mpr (cod_lt h))
  rw [h] at g
  exact g
theorem row_at {M pc : Nat} {e : PE} (hM : tabOK M = true) (h : cod M pc = some e) : decode (mby M) pc = .ok (e.1, e.2.1) ∧ (isSw e.1 = false → e.2.1 = ilen e.1) ∧ chkP (mnm M).cls pc e = true ∧ chkH (mnm M).cls (isIni M) e = true ∧ chkC M pc e = true := by
  have g := row_ok hM h
  unfold chkR at g
  simp only [Bool.and_eq_true, decide_eq_true_eq, Bool.or_eq_true] at g
  obtain ⟨⟨⟨⟨g1, g2⟩, g3⟩, g4⟩, g5⟩ := g
  refine ⟨g1, fun z => ?_, g3, g4, g5⟩
  rcases g2 with g2 | g2
  · rw [z] at g2; cases g2
  · exact Nat.eq_of_beq_eq_true g2
theorem good_code {M : Nat} (h : mchk M = true) : cdw M ∈ goods := by
  unfold mchk at h
  simp only [Bool.and_eq_true] at h
  refine wat_good h.1.1.1.1.1.1.1.1 ?_
  unfold cdw
  split <;> rfl
/-- what is fixed while a method runs -/
def Ctx (D : va_G) (sad : String → Nat → Nat) (bs M : Nat) (p : Program) (l : Launch) (R : Room) (s : State) (m : MethodId) (args : Array Value) (meth : Method) (c : Code) : Prop :=
  p.tables.exec = Jvm.exec ∧ c.code = mby M ∧ c.maxLocals = loc M ∧ s.vm.findClass (mnm M).cls = some m.cls ∧ (∀ w ∈ goods, w.before args s = true) ∧ meth.locks = false ∧ (M < 288 → c.exceptionTable.toList = tableOf (mhh M)) ∧ (isIni M = true → meth.name = "<init>") ∧ l.stackTraces = false ∧ Tab D sad s ∧ HF (fun q => bs ≤ q) (sav sad) s s.heap ∧ dep M + 9 ≤ R.frames ∧ 300 + 100 * dep M ≤ R.locals
/-- what is to be shown at the end of a run, once -/
def End (D : va_G) (sad : String → Nat → Nat) (bs : Nat) (T N : Nat → Nat) (M : Nat) (p : Program) (l : Launch) (e : Env) (R : Room) (s : State) (m : MethodId) (args : Array Value) (below : List Frame) (meth : Method) (c : Code) (Q : State → Prop) (o : PR) (h2 : PH) : Prop := match o with
  | .inl v => ∀ (i : Instr) (pc : Nat) (ls : Array Slot) (H : Heap) (locs : List Loc) (cells slots : Nat), decode (mby M) pc = .ok (i, 1) → rets i (rk M) v.toList = some v → Rel D bs T N s h2 H → va_S (fun q => bs ≤ q) s.heap H locs → cells ≤ R.cells → slots ≤ R.slots → W p l e R s m args below meth c H locs cells slots Q (F0 m pc ls (v.toList.map (cv (sav sad))))
  | .inr E => (∀ (e0 : PE) (i pc : Nat) (ls : Array Slot) (H : Heap) (locs : List Loc) (cells slots : Nat) (st : List PV) (h : PH), cod M pc = some e0 → e0.1 = .new i → Nat.ble 100 e0.2.2.1 = true → e0.2.2.1 % 100 = E → h2 = bump h → (∀ a, nx h ≤ a → T a = 0) → wsum st ≤ 8 → Rel D bs T N s h H → va_S (fun q => bs ≤ q) s.heap H locs → ls.size = loc M → cells + 1 ≤ R.cells → slots + 6 ≤ R.slots → W p l e R s m args below meth c H locs cells slots Q (F0 m pc ls (st.map (cv (sav sad))))) ∧
    (∀ (pc : Nat) (ls : Array Slot) (H : Heap) (locs : List Loc) (cells slots : Nat) (rest : List Value) (q : Addr) (ce : Cell), E < 6 → hfind pc E (hnd M) = none → H[q]? = some ce → ce.vm = .none → s.vm.findClass (exn E) = some ce.cls → Rel D bs T N s h2 H → va_S (fun q => bs ≤ q) s.heap H locs → cells ≤ R.cells → slots ≤ R.slots → vx_W p l e R s m args below meth c H locs cells slots Q (F0 m pc ls rest) q)
/-- a run of at most n instructions is one of the machine -/
def Snd (T N : Nat → Nat) (n : Nat) : Prop := ∀ {M pc : Nat} {L : PL} {st : List PV} {h : PH} {o : PR} {h2 : PH}, exec T N n M pc L st h = some (o, h2) → M < 289 →
  ∀ {D : va_G} {sad : String → Nat → Nat} {bs : Nat} {p : Program} {l : Launch} {e : Env} {R : Room} {s : State} {m : MethodId} {args : Array Value} {below : List Frame} {meth : Method} {c : Code} {Q : State → Prop}, Ctx D sad bs M p l R s m args meth c → End D sad bs T N M p l e R s m args below meth c Q o h2 →
  ∀ {ls : Array Slot} {H : Heap} {locs : List Loc} {cells slots : Nat}, LR (sav sad) L ls → L.length = loc M → VL (nx h) L → VS (nx h) st → VH h → bs ≤ nx h → Rel D bs T N s h H → va_S (fun q => bs ≤ q) s.heap H locs → cells + ce h2 ≤ R.cells + ce h → slots + sl h2 ≤ R.slots + sl h → W p l e R s m args below meth c H locs cells slots Q (F0 m pc ls (st.map (cv (sav sad))))
/-- how a callee ends, for its caller -/
def QcO (D : va_G) (sad : String → Nat → Nat) (bs : Nat) (T N : Nat → Nat) (o : PR) (h2 : PH) : Array Value → State → Outcome → State → Prop := fun _ st oc t => (∃ v, o = .inl v ∧ oc = .returned (v.map (cv (sav sad))) ∧ Rel D bs T N t h2 t.heap) ∧ va_F (fun q => bs ≤ q) st t
def XcO (D : va_G) (bs : Nat) (T N : Nat → Nat) (o : PR) (h2 : PH) : String → State → State → Prop := fun En st t => (∃ E, o = .inr E ∧ E < 6 ∧ En = exn E ∧ Rel D bs T N t h2 t.heap) ∧ va_F (fun q => bs ≤ q) st t
/-- the entry's locals -/
theorem ent_sl (sa : Nat → Nat) : ∀ as : List PV, lg_sl (as.map (cv sa)) = (as.flatMap (fun v => bif iw v then [some v, none] else [some v])).map (fun x => match x with | some v => Slot.val (cv sa v) | none => Slot.second)
  | [] => rfl
  | v :: as => by
    have ih := ent_sl sa as
    unfold lg_sl at ih ⊢
    rw [List.map_cons, List.flatMap_cons, List.flatMap_cons, List.map_append, ih]
    congr 1
    cases g : iw v with
    | false => rw [if_neg (by rw [cv_one g]; decide)]; rfl
    | true => rw [if_pos (cv_two g)]; rfl
theorem ent_LR {sa : Nat → Nat} {as : List PV} {n : Nat} (h : (ent as n).length = n) : LR sa (ent as n) (lg_sl (as.map (cv sa)) ++ List.replicate (n - (lg_sl (as.map (cv sa))).length) Slot.unset).toArray := by
  have e1 := ent_sl sa as
  have e2 : (lg_sl (as.map (cv sa))).length = (as.flatMap (fun v => bif iw v then [some v, none] else [some v])).length := by rw [e1, List.length_map]
  have hle : (lg_sl (as.map (cv sa))).length ≤ n := by
    rw [e2]
    unfold ent at h
    dsimp only at h
    rw [List.length_append, List.length_replicate] at h
    omega
  have g := lv_entry (as.map (cv sa)) hle
  refine ⟨by rw [g.1, h], g.2.1, fun i v hv => ?_⟩
  unfold lget at hv
  cases q : (ent as n)[i]? with
  | none => rw [q] at hv; cases hv
  | some x =>
    rw [q] at hv
    cases x with
    | none => cases hv
    | some w =>
      cases hv
      unfold ent at q
      dsimp only at q
      have hi : i < (as.flatMap (fun v => bif iw v then [some v, none] else [some v])).length := by
        rcases Nat.lt_or_ge i (as.flatMap (fun v => bif iw v then [some v, none] else [some v])).length with z | z
        · exact z
        · rw [List.getElem?_append_right z] at q
          exact absurd (List.eq_of_mem_replicate (List.mem_of_getElem? q)) (by simp)
      rw [List.getElem?_append_left hi] at q
      rw [List.getElem?_toArray, List.getElem?_append_left (by rw [e2]; exact hi), e1, List.getElem?_map, q]
      rfl
