/-! THE PURE MACHINE IS TRUE OF THE MACHINE, first part: locals, and what the heap has no part in -/
/-- a value as the machine has it; sa: where the texts lie -/
def cv (sa : Nat → Nat) (v : PV) : Value := match v with
  | .inl x => .int x
  | .inr (.inl r) => va_rf r
  | .inr (.inr (.inl x)) => .long x
  | .inr (.inr (.inr (.inl x))) => .double x
  | .inr (.inr (.inr (.inr j))) => .ref (sa j)
theorem cv_cat (sa : Nat → Nat) (v : PV) : (cv sa v).category = (bif iw v then 2 else 1) := by
  rcases v with x | (_ | a) | x | x | j <;> rfl
theorem cv_one {sa : Nat → Nat} {v : PV} (h : iw v = false) : (cv sa v).category = 1 := by rw [cv_cat, h]; rfl
theorem cv_two {sa : Nat → Nat} {v : PV} (h : iw v = true) : (cv sa v).category = 2 := by rw [cv_cat, h]; rfl
theorem cv_sum (sa : Nat → Nat) (st : List PV) : ((st.map (cv sa)).map fun v => v.category).sum = wsum st := by
  unfold wsum
  rw [List.map_map]
  congr 1
  exact List.map_congr_left fun v _ => cv_cat sa v
/-- the locals are those -/
def LR (sa : Nat → Nat) (L : PL) (ls : Array Slot) : Prop := ls.size = L.length ∧ lv_wf ls ∧ ∀ (i : Nat) (v : PV), lget L i = some v → ls[i]? = some (.val (cv sa v))
def prs (sa : Nat → Nat) (L : PL) : List (Nat × Value) := (List.range L.length).filterMap (fun i => (lget L i).map (fun v => (i, cv sa v)))
theorem lget_lt {L : PL} {i : Nat} {v : PV} (h : lget L i = some v) : i < L.length := by
  unfold lget at h
  cases g : L[i]? with
  | none => rw [g] at h; cases h
  | some x => exact (List.getElem?_eq_some_iff.mp g).1
theorem prs_mem {sa : Nat → Nat} {L : PL} {i : Nat} {v : PV} (h : lget L i = some v) : (i, cv sa v) ∈ prs sa L :=
  List.mem_filterMap.mpr ⟨i, List.mem_range.mpr (lget_lt h), by rw [h]; rfl⟩
theorem LR.has {sa : Nat → Nat} {L : PL} {ls : Array Slot} (h : LR sa L ls) : lv_has ls L.length (prs sa L) := by
  refine ⟨h.1, h.2.1, fun q hq => ?_⟩
  obtain ⟨i, -, hi⟩ := List.mem_filterMap.mp hq
  obtain ⟨v, hv, rfl⟩ := Option.map_eq_some_iff.mp hi
  exact h.2.2 i v hv
theorem lget_set_ne {L : PL} {i j : Nat} {x : Option PV} (h : j ≠ i) : lget (L.set i x) j = lget L j := by
  unfold lget
  rw [List.getElem?_set_ne (fun e => h e.symm)]
theorem lget_set_eq {L : PL} {i : Nat} {v : PV} (h : i < L.length) : lget (L.set i (some v)) i = some v := by
  unfold lget
  rw [List.getElem?_set_self h]
theorem lget_set_none {L : PL} {i : Nat} : lget (L.set i none) i = none := by
  unfold lget
  by_cases h : i < L.length
  · rw [List.getElem?_set_self h]
  · rw [List.getElem?_eq_none (by rw [List.length_set]; omega)]
theorem lclr_len (L : PL) (i : Nat) : (lclr L i).length = L.length := by
  cases i with
  | zero => rfl
  | succ j =>
    unfold lclr
    dsimp only
    cases lget L j with
    | none => rfl
    | some w => cases hw : iw w <;> simp [hw]
theorem lclr_get {L : PL} {i j : Nat} {w : PV} (h : lget (lclr L i) j = some w) : lget L j = some w ∧ (j + 1 = i → iw w = false) := by
  cases i with
  | zero => exact ⟨h, fun e => by omega⟩
  | succ k =>
    unfold lclr at h
    dsimp only at h
    cases g : lget L k with
    | none =>
      rw [g] at h
      refine ⟨h, fun e => ?_⟩
      rw [show j = k by omega, g] at h; cases h
    | some u =>
      rw [g] at h
      dsimp only at h
      cases hu : iw u with
      | false =>
        rw [hu] at h
        refine ⟨h, fun e => ?_⟩
        have h2 : lget L k = some w := by rw [← show j = k by omega]; exact h
        rw [g] at h2; cases h2; exact hu
      | true =>
        rw [hu] at h
        have h : lget (L.set k none) j = some w := h
        by_cases e : j = k
        · subst e; rw [lget_set_none] at h; cases h
        · rw [lget_set_ne e] at h
          exact ⟨h, fun e2 => absurd (by omega) e⟩
theorem lput_one {L L2 : PL} {i : Nat} {v : PV} (hv : iw v = false) (h : lput L i v = some L2) : i < L.length ∧ L2 = (lclr L i).set i (some v) := by
  unfold lput at h
  rw [hv] at h
  dsimp only [cond_false] at h
  cases g : Nat.blt i L.length with
  | false => rw [g] at h; cases h
  | true => rw [g] at h; cases h; exact ⟨by simpa using g, rfl⟩
theorem lput_two {L L2 : PL} {i : Nat} {v : PV} (hv : iw v = true) (h : lput L i v = some L2) : i + 1 < L.length ∧ L2 = ((lclr L i).set i (some v)).set (i + 1) none := by
  unfold lput at h
  rw [hv] at h
  dsimp only [cond_true] at h
  cases g : Nat.blt (i + 1) L.length with
  | false => rw [g] at h; cases h
  | true => rw [g] at h; cases h; exact ⟨by simpa using g, rfl⟩
theorem lput_len {L L2 : PL} {i : Nat} {v : PV} (h : lput L i v = some L2) : L2.length = L.length := by
  cases hv : iw v with
  | false => rw [(lput_one hv h).2]; simp [lclr_len]
  | true => rw [(lput_two hv h).2]; simp [lclr_len]
theorem LR_st1 {sa : Nat → Nat} {L L2 : PL} {i : Nat} {v : PV} {ls' : Array Slot} (hv : iw v = false) (h : lput L i v = some L2) (g : lv_has ls' L.length ((i, cv sa v) :: (prs sa L).filter (fun q => !(q.1 == i) && !(q.1 + 1 == i && q.2.category == 2)))) : LR sa L2 ls' := by
  obtain ⟨hi, rfl⟩ := lput_one hv h
  refine ⟨by rw [g.1]; simp [lclr_len], g.2.1, fun j w hw => ?_⟩
  by_cases e : j = i
  · subst e
    rw [lget_set_eq (by rw [lclr_len]; exact hi)] at hw
    cases hw
    exact g.2.2 (j, cv sa v) List.mem_cons_self
  · rw [lget_set_ne e] at hw
    obtain ⟨h1, h2⟩ := lclr_get hw
    refine g.2.2 (j, cv sa w) (List.mem_cons_of_mem _ (List.mem_filter.mpr ⟨prs_mem h1, ?_⟩))
    have e1 : (j == i) = false := by simpa using e
    by_cases e2 : j + 1 = i
    · have := cv_one (sa := sa) (h2 e2)
      simp [e1, this]
    · have e3 : (j + 1 == i) = false := by simpa using e2
      simp [e1, e3]
theorem LR_st2 {sa : Nat → Nat} {L L2 : PL} {i : Nat} {v : PV} {ls' : Array Slot} (hv : iw v = true) (h : lput L i v = some L2) (g : lv_has ls' L.length ((i, cv sa v) :: (prs sa L).filter (fun q => !(q.1 == i) && (!(q.1 == i + 1) && !(q.1 + 1 == i && q.2.category == 2))))) : LR sa L2 ls' := by
  obtain ⟨hi, rfl⟩ := lput_two hv h
  refine ⟨by rw [g.1]; simp [lclr_len], g.2.1, fun j w hw => ?_⟩
  by_cases e0 : j = i + 1
  · subst e0; rw [lget_set_none] at hw; cases hw
  · rw [lget_set_ne e0] at hw
    by_cases e : j = i
    · subst e
      rw [lget_set_eq (by rw [lclr_len]; omega)] at hw
      cases hw
      exact g.2.2 (j, cv sa v) List.mem_cons_self
    · rw [lget_set_ne e] at hw
      obtain ⟨h1, h2⟩ := lclr_get hw
      refine g.2.2 (j, cv sa w) (List.mem_cons_of_mem _ (List.mem_filter.mpr ⟨prs_mem h1, ?_⟩))
      have e1 : (j == i) = false := by simpa using e
      have e4 : (j == i + 1) = false := by simpa using e0
      by_cases e2 : j + 1 = i
      · have := cv_one (sa := sa) (h2 e2)
        simp [e1, e4, this]
      · have e3 : (j + 1 == i) = false := by simpa using e2
        simp [e1, e3, e4]
/-! ===== the checks of a row against the class file ===== -/
def isSw : Instr → Bool
  | .tableswitch _ _ _ _ => true
  | .lookupswitch _ _ => true
  | _ => false
def ilen : Instr → Nat
  | .bipush _ | .ldc _ | .iload _ | .lload _ | .dload _ | .aload _ | .istore _ | .lstore _ | .dstore _ | .astore _ | .newarray _ => 2
  | .sipush _ | .iinc _ _ | .goto _ | .if_icmp _ _ | .ifCond _ _ | .ifnull _ | .ifnonnull _ | .getfield _ | .putfield _ | .new _ | .anewarray _ | .invokevirtual _ | .invokestatic _ | .invokespecial _ => 3
  | _ => 1
/-- where the texts stand: class, place in its constant pool, text -/
def tloc : Nat → String × Nat × String := fun j => match j with
  | 0 => (RX5, 23, ";")
  | 1 => (RX5, 25, "#-#*+;")
  | 2 => (RX5, 27, "#;")
  | 3 => (RX5, 29, "+;")
  | _ => (RX5, 31, "")
/-- the words that stay true -/
def goods : List Jvm.Cond := lw_tbl.filter goodWord
def wat (i : Nat) (w : Jvm.Cond) : Bool := decide (lw_tbl[i]? = some w)
theorem wat_mem {i : Nat} {w : Jvm.Cond} (h : wat i w = true) : w ∈ lw_tbl := List.mem_of_getElem? (of_decide_eq_true h)
theorem wat_good {i : Nat} {w : Jvm.Cond} (h : wat i w = true) (g : goodWord w = true) : w ∈ goods := List.mem_filter.mpr ⟨wat_mem h, g⟩
/-- a row of the pure steps -/
def chkP (own : String) (pc : Nat) (e : PE) : Bool := match e.1 with
  | .ldc i => bif Nat.beq e.2.2.1 0 then wat e.2.2.2.2.2.1 (.constant own i (Int32.ofNat e.2.2.2.1)) else wat e.2.2.2.2.2.1 (.stringRef own i (tloc e.2.2.2.1).2.2) && decide (tloc e.2.2.2.1 = (own, i, (tloc e.2.2.2.1).2.2))
  | .goto o => decide ((pc : Int) + o = (e.2.2.1 : Int))
  | .if_icmp _ o => decide ((pc : Int) + o = (e.2.2.1 : Int))
  | .ifCond _ o => decide ((pc : Int) + o = (e.2.2.1 : Int))
  | .ifnull o => decide ((pc : Int) + o = (e.2.2.1 : Int))
  | .ifnonnull o => decide ((pc : Int) + o = (e.2.2.1 : Int))
  | .tableswitch d lo hi offs => decide (hi - lo + 1 = (offs.size : Int)) && decide (0 ≤ (pc : Int) + d) && decide (-2147483648 ≤ lo) && decide (hi < 2147483648) && decide (∀ i, i < offs.size → 0 ≤ (pc : Int) + offs.getD i 0)
  | .lookupswitch d ps => decide (0 ≤ (pc : Int) + d) && ps.toList.all (fun q => decide (0 ≤ (pc : Int) + q.2) && decide (-2147483648 ≤ q.1) && decide (q.1 < 2147483648)) && (ps.toList.zip (ps.toList.drop 1)).all (fun (a, next) => a.1 < next.1)
  | _ => true
section SNDA
variable {p : Program} {l : Launch} {e : Env} {R : Room} {s : State} {m : MethodId} {args : Array Value} {below : List Frame} {meth : Method} {c : Code} {H : Heap} {locs : List Loc} {cells slots : Nat} {Q : State → Prop}
variable {cc : ByteArray} {pc : Nat} {ls : Array Slot} {rest : List Value}
theorem lv_aloadq_n (hexec : p.tables.exec = Jvm.exec) (hb : c.code = cc) {k : Fin 4} {i : Nat} {x : Option Nat} (hdg : decode cc pc = .ok (.aload_n k, 1)) (hi : (k : Nat) = i) (hl : ls[i]? = some (.val (va_rf x)))
    (kk : W p l e R s m args below meth c H locs cells slots Q (F0 m (pc + 1) ls (va_rf x :: rest))) : W p l e R s m args below meth c H locs cells slots Q (F0 m pc ls rest) := by
  cases x with
  | none => exact lv_aload_nN hexec hb hdg hi hl kk
  | some a => exact lv_aload_n hexec hb hdg hi hl kk
theorem lv_aloadq (hexec : p.tables.exec = Jvm.exec) (hb : c.code = cc) {i : Nat} {x : Option Nat} (hdg : decode cc pc = .ok (.aload i, 2)) (hl : ls[i]? = some (.val (va_rf x)))
    (kk : W p l e R s m args below meth c H locs cells slots Q (F0 m (pc + 2) ls (va_rf x :: rest))) : W p l e R s m args below meth c H locs cells slots Q (F0 m pc ls rest) := by
  cases x with
  | none => exact lv_aloadN hexec hb hdg hl kk
  | some a => exact lv_aload hexec hb hdg hl kk
theorem lv_astoreq_n (hexec : p.tables.exec = Jvm.exec) (hb : c.code = cc) {k : Fin 4} {i nL : Nat} {x : Option Nat} {lv : List (Nat × Value)} (hdg : decode cc pc = .ok (.astore_n k, 1)) (hi : (k : Nat) = i) (h : lv_has ls nL lv) (hn : i < nL)
    (kk : ∀ ls' : Array Slot, lv_has ls' nL ((i, va_rf x) :: lv.filter (fun q => !(q.1 == i) && !(q.1 + 1 == i && q.2.category == 2))) → W p l e R s m args below meth c H locs cells slots Q (F0 m (pc + 1) ls' rest)) : W p l e R s m args below meth c H locs cells slots Q (F0 m pc ls (va_rf x :: rest)) := by
  cases x with
  | none => exact lv_astore_nN hexec hb hdg hi h hn rfl kk
  | some a => exact lv_astore_n hexec hb hdg hi h hn rfl kk
theorem lv_astoreq (hexec : p.tables.exec = Jvm.exec) (hb : c.code = cc) {i nL : Nat} {x : Option Nat} {lv : List (Nat × Value)} (hdg : decode cc pc = .ok (.astore i, 2)) (h : lv_has ls nL lv) (hn : i < nL)
    (kk : ∀ ls' : Array Slot, lv_has ls' nL ((i, va_rf x) :: lv.filter (fun q => !(q.1 == i) && !(q.1 + 1 == i && q.2.category == 2))) → W p l e R s m args below meth c H locs cells slots Q (F0 m (pc + 2) ls' rest)) : W p l e R s m args below meth c H locs cells slots Q (F0 m pc ls (va_rf x :: rest)) := by
  cases x with
  | none => exact lv_astoreN hexec hb hdg h hn rfl kk
  | some a => exact lv_astore hexec hb hdg h hn rfl kk
theorem i32_of {a : Int} (h1 : -2147483648 ≤ a) (h2 : a < 2147483648) : (Int32.ofInt a).toInt = a := Int32.toInt_ofInt_of_le h1 h2
theorem swf_tab {pc : Nat} {lo : Int} {offs : Array Int} {d : Nat} {x : Int32} (h1 : -2147483648 ≤ lo) : ∀ (k n : Nat), k + n = offs.size → lo + (offs.size : Int) ≤ 2147483648 →
    swf ((List.range' k n).map (fun (i : Nat) => (Int32.ofInt (lo + (i : Int)), ((pc : Int) + offs.getD i 0).toNat))) d x = if lo + k ≤ x.toInt ∧ x.toInt < lo + offs.size then ((pc : Int) + offs.getD (x.toInt - lo).toNat 0).toNat else d := by
  intro k n
  induction n generalizing k with
  | zero =>
    intro hk _
    rw [if_neg (by omega)]
    rfl
  | succ n ih =>
    intro hk hb
    rw [List.range'_succ, List.map_cons, swf, ih (k + 1) (by omega) hb]
    have e : (Int32.ofInt (lo + (k : Int))).toInt = lo + k := i32_of (by omega) (by omega)
    by_cases g : x = Int32.ofInt (lo + (k : Int))
    · rw [if_pos g, g, e, if_pos (by omega), show (lo + (k : Int) - lo).toNat = k by omega]
    · rw [if_neg g]
      have g2 : x.toInt ≠ lo + k := fun z => g (Int32.toInt_inj.mp (z.trans e.symm))
      by_cases g3 : lo + (k : Int) ≤ x.toInt ∧ x.toInt < lo + offs.size
      · rw [if_pos g3, if_pos (by omega)]
      · rw [if_neg g3, if_neg (by omega)]
theorem swf_look {pc : Nat} {d : Int} {x : Int32} : ∀ (ps : List (Int × Int)), ps.all (fun q => decide (0 ≤ (pc : Int) + q.2) && decide (-2147483648 ≤ q.1) && decide (q.1 < 2147483648)) = true → 0 ≤ (pc : Int) + d →
    (pc : Int) + Op.lookupswitch.offset ps d x.toInt = (swf (ps.map (fun q => (Int32.ofInt q.1, ((pc : Int) + q.2).toNat))) ((pc : Int) + d).toNat x : Int)
  | [], _, h => by
    show (pc : Int) + d = _
    rw [List.map_nil, swf]; omega
  | q :: r, h, hd => by
    obtain ⟨a, o⟩ := q
    simp only [List.all_cons, Bool.and_eq_true, decide_eq_true_eq] at h
    obtain ⟨⟨⟨h1, h2⟩, h3⟩, h4⟩ := h
    have e : (Int32.ofInt a).toInt = a := i32_of h2 h3
    rw [List.map_cons, swf]
    dsimp only
    by_cases g : x = Int32.ofInt a
    · rw [if_pos g, g, e]
      have : Op.lookupswitch.offset ((a, o) :: r) d a = o := by simp [Op.lookupswitch.offset]
      rw [this]; omega
    · rw [if_neg g]
      rw [lv_osw (k := Int32.ofInt a) g e]
      exact swf_look r (by simpa using h4) hd
end SNDA
