/-! THE PURE MACHINE IS TRUE OF THE MACHINE, fifth part: a step of the heap -/
/-- the checks of a row that speaks of the heap; ini: the method is a constructor -/
def chkH (own : String) (ini : Bool) (e : PE) : Bool := match e.1 with
  | .getfield i => decide (1 ≤ e.2.2.1) && decide (e.2.2.1 ≤ 12) && decide (e.2.2.2.1 < csz e.2.2.1) && decide (e.2.2.2.2.1 = frk e.2.2.1 e.2.2.2.1) && wat e.2.2.2.2.2.1 (.fieldLink own i (TFc e.2.2.1 e.2.2.2.1).1 (TFc e.2.2.1 e.2.2.2.1).2.1 (TFc e.2.2.1 e.2.2.2.1).2.2.1)
  | .putfield i => decide (1 ≤ e.2.2.1) && decide (e.2.2.1 ≤ 12) && decide (e.2.2.2.1 < csz e.2.2.1) && decide (e.2.2.2.2.1 = frk e.2.2.1 e.2.2.2.1) && wat e.2.2.2.2.2.1 (.fieldLink own i (TFc e.2.2.1 e.2.2.2.1).1 (TFc e.2.2.1 e.2.2.2.1).2.1 (TFc e.2.2.1 e.2.2.2.1).2.2.1) && (!(TFc e.2.2.1 e.2.2.2.1).2.2.2 || (ini && decide ((TFc e.2.2.1 e.2.2.2.1).1 = own)))
  | .new i => bif Nat.blt e.2.2.1 50 then decide (1 ≤ e.2.2.1) && decide (e.2.2.1 ≤ 12) && wat e.2.2.2.2.2.1 (.classLink own i (Rc e.2.2.1)) else true
  | .newarray t => decide (22 ≤ e.2.2.1) && decide (e.2.2.1 ≤ 25) && decide (arrTy e.2.2.1 = Op.newarray.typeOf t) && wat e.2.2.2.2.2.1 (.arrayClass (Op.newarray.typeOf t))
  | .anewarray i => decide (1 ≤ e.2.2.1) && decide (e.2.2.1 ≤ 12) && wat e.2.2.2.2.2.1 (.classLink own i (Rc e.2.2.1)) && wat e.2.2.2.2.2.2 (.arrayOver (.object (Rc e.2.2.1)))
  | _ => true
set_option maxRecDepth 100000 in
theorem cls_in0 : ((List.range 12).all fun t => decide (Jvm.Cond.instantiable (Rc (t + 1)) (csz (t + 1)) ∈ lw_tbl) && decide (Jvm.Cond.initialized (Rc (t + 1)) ∈ lw_tbl)) = true := by decide +kernel
theorem cls_in {t : Nat} (a : 1 ≤ t) (b : t ≤ 12) : Jvm.Cond.instantiable (Rc t) (csz t) ∈ goods ∧ Jvm.Cond.initialized (Rc t) ∈ goods := by
  have h := List.all_eq_true.mp cls_in0 (t - 1) (List.mem_range.mpr (by omega))
  rw [show t - 1 + 1 = t by omega] at h
  simp only [Bool.and_eq_true, decide_eq_true_eq] at h
  exact ⟨List.mem_filter.mpr ⟨h.1, rfl⟩, List.mem_filter.mpr ⟨h.2, rfl⟩⟩
theorem fr_csz : ((List.range 12).all fun t => (List.range (csz (t + 1))).all fun k => decide (frk (t + 1) k ≠ 9) && decide (frk (t + 1) k = 0 → tyc (t + 1) k = .int) && decide (frk (t + 1) k = 2 → tyc (t + 1) k = .boolean)) = true := by decide +kernel
theorem fr_at {t k : Nat} (a : 1 ≤ t) (b : t ≤ 12) (hk : k < csz t) : frk t k ≠ 9 ∧ (frk t k = 0 → tyc t k = .int) ∧ (frk t k = 2 → tyc t k = .boolean) := by
  have h := List.all_eq_true.mp fr_csz (t - 1) (List.mem_range.mpr (by omega))
  rw [show t - 1 + 1 = t by omega] at h
  have h := List.all_eq_true.mp h k (List.mem_range.mpr hk)
  simp only [Bool.and_eq_true, decide_eq_true_eq] at h
  exact ⟨h.1.1, h.1.2, h.2⟩
theorem fr_ref {t k : Nat} (h : frk t k = 1) : (∃ C, tyc t k = .object C) ∨ ∃ C, tyc t k = .array C := by
  unfold frk at h
  split at h
  · cases h
  · cases h
  · rename_i C g; exact Or.inl ⟨C, g⟩
  · rename_i C g; exact Or.inr ⟨C, g⟩
  · cases h
theorem ref_nf {ty : FieldType} (h : (∃ C, ty = .object C) ∨ ∃ C, ty = .array C) (r : Option Nat) : narrow ty (va_rf r) = va_rf r ∧ fits ty (va_rf r) = true := by
  rcases h with ⟨C, rfl⟩ | ⟨C, rfl⟩ <;> cases r <;> exact ⟨rfl, rfl⟩
theorem fsL_len (h : PH) (t a : Nat) : (fsL h t a).length = csz t := by unfold fsL; simp
theorem fsL_at {h : PH} {t a k : Nat} (hk : k < csz t) : (fsL h t a)[k]? = some (objV h t a k) := by
  unfold fsL
  rw [List.getElem?_map, List.getElem?_range hk]
  rfl
theorem fsL_set {h h2 : PH} {t a k : Nat} {v : Value} (hv : objV h2 t a k = v) (ho : ∀ j, j ≠ k → objV h2 t a j = objV h t a j) : (fsL h t a).set k v = fsL h2 t a := by
  refine List.ext_getElem? fun j => ?_
  by_cases hj : j < csz t
  · rw [fsL_at hj]
    by_cases e : k = j
    · subst e; rw [List.getElem?_set_self (by rw [fsL_len]; exact hj), hv]
    · rw [List.getElem?_set_ne e, fsL_at hj, ho j (fun z => e z.symm)]
  · rw [List.getElem?_eq_none (by rw [List.length_set, fsL_len]; omega), List.getElem?_eq_none (by rw [fsL_len]; omega)]
theorem char_nar {x : Int32} (h : 0 ≤ x.toInt ∧ x.toInt < 65536) : narrow .char (.int x) = .int x := by
  obtain ⟨j, hj, rfl⟩ := nI_of (x := x) (fun g => by have := Int32.lt_iff_toInt_lt.mp g; simp at this; omega)
  rw [nI_toInt hj] at h
  exact (pk_charN (by omega)).1
theorem nat_clamp {n : Int32} {k : Nat} (h0 : 0 ≤ n.toInt) (h : n.toInt = (k : Int)) : n.toNatClampNeg = k := by
  show n.toInt.toNat = k
  omega
theorem not_neg {n : Int32} (h0 : 0 ≤ n.toInt) : ¬ n < 0 := fun g => by have := Int32.lt_iff_toInt_lt.mp g; simp at this; omega
theorem hGet_some {T : Nat → Nat} {e : PE} {pc : Nat} {st : List PV} {h : PH} {d : HC} (g : hGet T e pc st h = some d) : ∃ a st2, st = vr (some a) :: st2 ∧ T a = e.2.2.1 ∧ d = (pc + 3, (bif Nat.beq e.2.2.2.2.1 1 then vr (gr h a e.2.2.2.1) else vi (gi h a e.2.2.2.1)) :: st2, h) := by
  unfold hGet at g
  split at g
  · obtain ⟨q, g⟩ := pif_some g; cases g; exact ⟨_, _, rfl, q, rfl⟩
  · cases g
theorem hPut_some {T : Nat → Nat} {e : PE} {pc : Nat} {st : List PV} {h : PH} {d : HC} (g : hPut T e pc st h = some d) : (∃ x a st2, st = vi x :: vr (some a) :: st2 ∧ (T a = e.2.2.1 ∧ (e.2.2.2.2.1 = 0 ∨ e.2.2.2.2.1 = 2 ∧ (x = 0 ∨ x = 1))) ∧ d = (pc + 3, st2, si h a e.2.2.2.1 x)) ∨ ∃ r a st2, st = vr r :: vr (some a) :: st2 ∧ (T a = e.2.2.1 ∧ e.2.2.2.2.1 = 1) ∧ d = (pc + 3, st2, sr h a e.2.2.2.1 r) := by
  unfold hPut at g
  split at g
  · obtain ⟨q, g⟩ := pif_some g; cases g; exact Or.inl ⟨_, _, _, rfl, q, rfl⟩
  · obtain ⟨q, g⟩ := pif_some g; cases g; exact Or.inr ⟨_, _, _, rfl, q, rfl⟩
  · cases g
theorem hLd_some {P : Nat → Prop} {N : Nat → Nat} {v : Nat → Nat → PV} {pc : Nat} {st : List PV} {h : PH} {d : HC} (g : hLd P N v pc st h = some d) : ∃ x a st2, st = vi x :: vr (some a) :: st2 ∧ (P a ∧ inb x (N a)) ∧ d = (pc + 1, v a x.toNatClampNeg :: st2, h) := by
  unfold hLd at g
  split at g
  · obtain ⟨q, g⟩ := pif_some g; cases g; exact ⟨_, _, _, rfl, q, rfl⟩
  · cases g
theorem hLen_some {T N : Nat → Nat} {pc : Nat} {st : List PV} {h : PH} {d : HC} (g : hLen T N pc st h = some d) : ∃ a st2, st = vr (some a) :: st2 ∧ 21 ≤ T a ∧ d = (pc + 1, vi (Int32.ofNat (N a)) :: st2, h) := by
  unfold hLen at g
  split at g
  · obtain ⟨q, g⟩ := pif_some g; cases g; exact ⟨_, _, rfl, q, rfl⟩
  · cases g
theorem hStI_some {t : Nat} {T N : Nat → Nat} {ok : Int32 → Prop} {pc : Nat} {st : List PV} {h : PH} {d : HC} (g : hStI t T N ok pc st h = some d) : ∃ x j a st2, st = vi x :: vi j :: vr (some a) :: st2 ∧ (T a = t ∧ inb j (N a) ∧ ok x) ∧ d = (pc + 1, st2, si h a j.toNatClampNeg x) := by
  unfold hStI at g
  split at g
  · obtain ⟨q, g⟩ := pif_some g; cases g; exact ⟨_, _, _, _, rfl, q, rfl⟩
  · cases g
theorem hStL_some {T N : Nat → Nat} {pc : Nat} {st : List PV} {h : PH} {d : HC} (g : hStL T N pc st h = some d) : ∃ x j a st2, st = vl x :: vi j :: vr (some a) :: st2 ∧ (T a = 24 ∧ inb j (N a)) ∧ d = (pc + 1, st2, sL h a j.toNatClampNeg x) := by
  unfold hStL at g
  split at g
  · obtain ⟨q, g⟩ := pif_some g; cases g; exact ⟨_, _, _, _, rfl, q, rfl⟩
  · cases g
theorem hStD_some {T N : Nat → Nat} {pc : Nat} {st : List PV} {h : PH} {d : HC} (g : hStD T N pc st h = some d) : ∃ x j a st2, st = vd x :: vi j :: vr (some a) :: st2 ∧ (T a = 25 ∧ inb j (N a)) ∧ d = (pc + 1, st2, sd h a j.toNatClampNeg x) := by
  unfold hStD at g
  split at g
  · obtain ⟨q, g⟩ := pif_some g; cases g; exact ⟨_, _, _, _, rfl, q, rfl⟩
  · cases g
theorem hStA_some {T N : Nat → Nat} {pc : Nat} {st : List PV} {h : PH} {d : HC} (g : hStA T N pc st h = some d) : ∃ b j a st2, st = vr (some b) :: vi j :: vr (some a) :: st2 ∧ ((1 ≤ T b ∧ T b ≤ 12 ∧ T b + 30 = T a) ∧ inb j (N a)) ∧ d = (pc + 1, st2, sr h a j.toNatClampNeg (some b)) := by
  unfold hStA at g
  split at g
  · obtain ⟨q, g⟩ := pif_some g; cases g; exact ⟨_, _, _, _, rfl, q, rfl⟩
  · cases g
theorem hNewa_some {T N : Nat → Nat} {t pc : Nat} {st : List PV} {h : PH} {d : HC} (g : hNewa T N t pc st h = some d) : ∃ n st2, st = vi n :: st2 ∧ (T (nx h) = t ∧ 0 ≤ n.toInt ∧ n.toInt = N (nx h) ∧ N (nx h) ≤ 65536) ∧ d = (pc, vr (some (nx h)) :: st2, grow h (N (nx h))) := by
  unfold hNewa at g
  split at g
  · obtain ⟨q, g⟩ := pif_some g; cases g; exact ⟨_, _, rfl, q, rfl⟩
  · cases g
section SNDE
variable {p : Program} {l : Launch} {e : Env} {R : Room} {s : State} {m : MethodId} {args : Array Value} {below : List Frame} {meth : Method} {c : Code} {H : Heap} {locs : List Loc} {cells slots : Nat} {Q : State → Prop}
variable {cc : ByteArray} {pc : Nat} {ls : Array Slot} {D : va_G} {bs : Nat} {T N : Nat → Nat} {sa : Nat → Nat}
/-- what a step of the heap leaves to be shown -/
abbrev Next (p : Program) (l : Launch) (e : Env) (R : Room) (s : State) (m : MethodId) (args : Array Value) (below : List Frame) (meth : Method) (c : Code) (Q : State → Prop) (D : va_G) (bs : Nat) (T N sa : Nat → Nat) (ls : Array Slot) (h : PH) (cells slots : Nat) (d : HC) : Prop :=
  ∀ (H2 : Heap) (locs2 : List Loc) (cells2 slots2 : Nat), Rel D bs T N s d.2.2 H2 → va_S (fun q => bs ≤ q) s.heap H2 locs2 → cells2 + ce h = cells + ce d.2.2 → slots2 + sl h = slots + sl d.2.2 → W p l e R s m args below meth c H2 locs2 cells2 slots2 Q (F0 m d.1 ls (d.2.1.map (cv sa)))
theorem newa_rel {h : PH} {H H2 : Heap} {n : Nat} (g : Rel D bs T N s h H) (hq : H.size = nx h) (hz : H2.size = H.size + 1) (ho : ∀ q, q < H.size → H2[q]? = H[q]?) (hc : CellOK D bs T N s (grow h n) H2 (nx h)) : Rel D bs T N s (grow h n) H2 := by
  refine ⟨⟨by rw [hz, hq]; exact Nat.le_refl _, Or.inl (by rw [hz, hq]; rfl)⟩, fun a ha => ?_, fun a ha => g.2.2 a (Nat.le_of_succ_le ha)⟩
  have ha : a < nx h + 1 := ha
  by_cases q : a = nx h
  · subst q; exact hc
  · exact (g.2.1 a (by omega)).kept (h2 := grow h n) (ho a (by rw [hq]; omega)) rfl rfl rfl rfl
theorem zero_row {h : PH} {H : Heap} (g : Rel D bs T N s h H) : gi h (nx h) = (fun _ => 0) ∧ gl h (nx h) = (fun _ => 0) ∧ gd h (nx h) = (fun _ => 0) ∧ gr h (nx h) = (fun _ => none) := by
  have := g.2.2 (nx h) (Nat.le_refl _)
  exact ⟨funext fun k => (this k).1, funext fun k => (this k).2.1, funext fun k => (this k).2.2.1, funext fun k => (this k).2.2.2⟩
/-- an array of ints and the like is read -/
theorem aread {h : PH} {H : Heap} {a : Nat} (g : Rel D bs T N s h H) (ha : a < nx h) (ht : 22 ≤ T a) : ∃ cell : Cell, H[a]? = some cell ∧ s.isArrayOf cell (arrTy (T a)) ∧ cell.vm = .none ∧ cell.slots.size = N a ∧ ∃ cA, cell = vp_cell cA (arrC h (T a) a (N a)) := by
  obtain ⟨-, cA, h2, h3, h4⟩ := (g.2.1 a ha).2.2 ht
  have : ∃ f, vp_cell cA (arrC h (T a) a (N a)) = arrV cA (N a) f := by
    unfold arrC
    split
    · exact ⟨_, vp_cell_i _ _ _⟩
    · exact ⟨_, vp_cell_i _ _ _⟩
    · exact ⟨_, vp_cell_l _ _ _⟩
    · exact ⟨_, vp_cell_d _ _ _⟩
    · exact ⟨_, vp_cell_q _ _ _⟩
  obtain ⟨f, hf⟩ := this
  exact ⟨_, h4, by rw [hf]; exact h2 _ _, by rw [hf]; rfl, by rw [hf]; exact arrV_size _ _ _, cA, rfl⟩
/-- an array is written -/
theorem awrite {h h2 : PH} {H H2 : Heap} {a i : Nat} {v : Value} {cell : Cell} (g : Rel D bs T N s h H) (ha : a < nx h) (ht : 22 ≤ T a) (hcell : H[a]? = some cell) (e1 : H2[a]? = some (cell.setSlot i v)) (hn : nx h2 = nx h) (hz : H2.size = H.size) (ho : ∀ q, q ≠ a → H2[q]? = H[q]?)
    (hi : ∀ b, b ≠ a → gi h2 b = gi h b) (hl : ∀ b, b ≠ a → gl h2 b = gl h b) (hd : ∀ b, b ≠ a → gd h2 b = gd h b) (hr : ∀ b, b ≠ a → gr h2 b = gr h b) (hc : ∀ cA, (vp_cell cA (arrC h (T a) a (N a))).setSlot i v = vp_cell cA (arrC h2 (T a) a (N a))) : Rel D bs T N s h2 H2 ∧ bs ≤ a := by
  obtain ⟨h1, cA, q2, q3, q4⟩ := (g.2.1 a ha).2.2 ht
  refine ⟨g.put ha hn hz ho hi hl hd hr ⟨fun x y => by omega, fun x => by omega, fun _ => ⟨h1, cA, q2, q3, ?_⟩⟩, h1⟩
  rw [e1, ← hc cA]
  cases hcell.symm.trans q4
  rfl
theorem pushS {A : Nat → Prop} {H0 H H1 : Heap} {locs : List Loc} (hS : va_S A H0 H locs) (z : H1.size = H.size + 1) (o : ∀ q, q < H.size → H1[q]? = H[q]?) : va_S A H0 H1 locs :=
  ⟨Nat.le_trans hS.1 (by omega), fun x h1 h2 => (o x (Nat.lt_of_lt_of_le h1 hS.1)).trans (hS.2.1 x h1 h2), hS.2.2⟩
set_option maxHeartbeats 8000000 in
set_option maxRecDepth 20000 in
/-- a step of the heap -/
theorem snd_h (hx : p.tables.exec = Jvm.exec) (hb : c.code = cc) {own : String} (hown : s.vm.findClass own = some m.cls) (hts : ∀ w ∈ goods, w.before args s = true) (hK : va_K D cls12 [] s) (hover : ∀ C, Jvm.Cond.arrayOver (.object C) ∈ lw_tbl → va_AO C s)
    {e0 : PE} {h : PH} {st : List PV} {d : HC} {ini : Bool} (hini : ini = true → meth.name = "<init>") (hdg : decode cc pc = .ok (e0.1, e0.2.1)) (hlen : isSw e0.1 = false → e0.2.1 = ilen e0.1) (hchk : chkH own ini e0 = true) (hp : hstep T N csz e0 pc st h = some d) (hR : Rel D bs T N s h H) (hs : VS (nx h) st) (hS : va_S (fun q => bs ≤ q) s.heap H locs)
    (hc : cells + ce d.2.2 ≤ R.cells + ce h) (hsl : slots + sl d.2.2 ≤ R.slots + sl h) (hbs0 : bs ≤ nx h) (k : Next p l e R s m args below meth c Q D bs T N sa ls h cells slots d) : W p l e R s m args below meth c H locs cells slots Q (F0 m pc ls (st.map (cv sa))) := by
  obtain ⟨i, len, ep, eq, er, ew, ey⟩ := e0
  dsimp only at hdg hlen
  -- an array of a known tag is read
  have inN : ∀ {a : Nat} {x : Int32}, inb x (N a) → ∀ {cell : Cell}, cell.slots.size = N a → ¬ (x < 0 ∨ cell.slots.size ≤ x.toNatClampNeg) := by
    intro a x hi cell hz
    rw [hz]
    exact inb_vp hi
  cases i
  case getfield n =>
    obtain rfl := hlen rfl
    unfold chkH at hchk
    simp only [Bool.and_eq_true, decide_eq_true_eq] at hchk
    obtain ⟨⟨⟨⟨c1, c2⟩, c3⟩, c4⟩, c5⟩ := hchk
    obtain ⟨a, st2, rfl, ht, rfl⟩ := hGet_some hp
    dsimp only at ht
    subst ht
    have ha : a < nx h := hs.h a rfl
    have hat := ((hR.2.1 a ha).1 c1 c2).2
    have k2 := k H locs cells slots hR hS rfl rfl
    refine va_get (C := Rc (T a)) (T := TFc (T a)) (N := csz (T a)) (ci := T a - 1) (cl := cls12) (ws := [(a, .inr (T a - 1, fsL h (T a) a))]) (v := objV h (T a) a eq) hx hb hts (cls_ws c1 c2) hown hK (fun i q hq => ?_) 0 rfl (cls_at c1 c2) eq c3 (hts _ (wat_good c5 rfl)) (fun _ z => z) (fsL_at c3) hdg ?_
    · cases i with
      | zero => cases hq; exact hat
      | succ i => simp at hq
    · have e1 : objV h (T a) a eq = cv sa (bif Nat.beq er 1 then vr (gr h a eq) else vi (gi h a eq)) := by
        unfold objV
        rw [c4]
        cases Nat.beq (frk (T a) eq) 1 <;> rfl
      rw [e1]
      exact k2
  case putfield n =>
    obtain rfl := hlen rfl
    unfold chkH at hchk
    simp only [Bool.and_eq_true, decide_eq_true_eq, Bool.or_eq_true, Bool.not_eq_true'] at hchk
    obtain ⟨⟨⟨⟨⟨c1, c2⟩, c3⟩, c4⟩, c5⟩, c6⟩ := hchk
    have hfin : (TFc ep eq).2.2.2 = true → meth.name = "<init>" ∧ (TFc ep eq).1 = own := fun z => by
      rcases c6 with c6 | c6
      · rw [c6] at z; cases z
      · exact ⟨hini c6.1, c6.2⟩
    rcases hPut_some hp with ⟨x, a, st2, rfl, ⟨ht, hk⟩, rfl⟩ | ⟨r, a, st2, rfl, ⟨ht, hk⟩, rfl⟩
    · dsimp only at ht hk
      subst ht
      have ha : a < nx h := hs.t.h a rfl
      obtain ⟨hba, hat⟩ := (hR.2.1 a ha).1 c1 c2
      have hnf : narrow (tyc (T a) eq) (.int x) = .int x ∧ fits (tyc (T a) eq) (.int x) = true := by
        obtain ⟨-, f0, f2⟩ := fr_at c1 c2 c3
        rcases hk with hk | ⟨hk, hx01⟩
        · rw [f0 (by omega)]; exact ⟨rfl, rfl⟩
        · rw [f2 (by omega)]
          rcases hx01 with rfl | rfl <;> exact ⟨by decide, by decide⟩
      have hk1 : Nat.beq (frk (T a) eq) 1 = false := by
        rcases hk with hk | ⟨hk, -⟩
        · rw [show frk (T a) eq = 0 by omega]; rfl
        · rw [show frk (T a) eq = 2 by omega]; rfl
      refine xa_put (C := Rc (T a)) (T := TFc (T a)) (N := csz (T a)) (ci := T a - 1) (cl := cls12) hx hb hts (cls_ws c1 c2) (tyc (T a)) (cls_ty c1 c2) (cls_nm c1 c2) hown hK hat (cls_at c1 c2) eq c3 (hts _ (wat_good c5 rfl)) hfin hnf.1 hnf.2 (by rw [fsL_len]; exact c3) hdg (fun H1 j g1 g2 g3 => ?_)
      have e1 : (fsL h (T a) a).set eq (.int x) = fsL (si h a eq x) (T a) a := fsL_set (by unfold objV; rw [hk1, gi_si, up2_row]; simp) (fun j hj => by unfold objV; rw [gi_si, up2_row]; simp [hj]; rfl)
      rw [show (fsL h (T a) a).set eq (cv sa (vi x)) = fsL (si h a eq x) (T a) a from e1] at g1
      exact k H1 _ cells slots (hR.put (h2 := si h a eq x) ha rfl g2 g3 (fun b hb => up2_ne hb) (fun _ _ => rfl) (fun _ _ => rfl) (fun _ _ => rfl) ⟨fun _ _ => ⟨hba, g1⟩, fun z => by omega, fun z => by omega⟩) (hS.put g2 g3 hba) rfl rfl
    · dsimp only at ht hk
      subst ht
      have ha : a < nx h := hs.t.h a rfl
      obtain ⟨hba, hat⟩ := (hR.2.1 a ha).1 c1 c2
      have hf1 : frk (T a) eq = 1 := by omega
      have hnf := ref_nf (fr_ref hf1) r
      refine xa_put (C := Rc (T a)) (T := TFc (T a)) (N := csz (T a)) (ci := T a - 1) (cl := cls12) (v := va_rf r) hx hb hts (cls_ws c1 c2) (tyc (T a)) (cls_ty c1 c2) (cls_nm c1 c2) hown hK hat (cls_at c1 c2) eq c3 (hts _ (wat_good c5 rfl)) hfin hnf.1 hnf.2 (by rw [fsL_len]; exact c3) hdg (fun H1 j g1 g2 g3 => ?_)
      have e2 : gr (sr h a eq r) = up2 (gr h) a eq r := rfl
      have e1 : (fsL h (T a) a).set eq (va_rf r) = fsL (sr h a eq r) (T a) a := fsL_set (by unfold objV; rw [hf1, e2, up2_row]; simp) (fun j hj => by unfold objV; rw [e2, up2_row]; simp [hj]; rfl)
      rw [e1] at g1
      exact k H1 _ cells slots (hR.put (h2 := sr h a eq r) ha rfl g2 g3 (fun _ _ => rfl) (fun _ _ => rfl) (fun _ _ => rfl) (fun b hb => up2_ne hb) ⟨fun _ _ => ⟨hba, g1⟩, fun z => by omega, fun z => by omega⟩) (hS.put g2 g3 hba) rfl rfl
  case iaload =>
    obtain rfl := hlen rfl
    obtain ⟨x, a, st2, rfl, ⟨ht, hi⟩, rfl⟩ := hLd_some (P := fun a => T a = 22 ∨ T a = 21) (v := fun a k => vi (gi h a k)) hp
    have ha : a < nx h := hs.t.h a rfl
    have k2 := k H locs cells slots hR hS rfl rfl
    rcases ht with ht | ht
    · obtain ⟨cell, g1, g2, g3, g4, cA, g5⟩ := aread hR ha (by omega)
      rw [ht] at g2 g5
      refine W.iald (v := .int (gi h a x.toNatClampNeg)) hx hb g1 g2 (by rw [g3]; exact fun z => by cases z) (inN hi g4) ?_ rfl rfl hdg k2
      rw [g5]
      show (arrV cA (N a) _).slots[_]? = _
      rw [arrV_read _ _ (inb_lt hi)]
    · obtain ⟨scr, g1, g2, g3, g4, g5⟩ := (hR.2.1 a ha).2.1 ht
      exact W.iald (v := .int (gi h a x.toNatClampNeg)) hx hb g1 g2 g3 (inN hi g4) (g5 _ (inb_lt hi)) rfl rfl hdg k2
  case caload =>
    obtain rfl := hlen rfl
    obtain ⟨x, a, st2, rfl, ⟨ht, hi⟩, rfl⟩ := hLd_some (P := fun a => T a = 23) (v := fun a k => vi (gi h a k)) hp
    have ha : a < nx h := hs.t.h a rfl
    have k2 := k H locs cells slots hR hS rfl rfl
    obtain ⟨cell, g1, g2, g3, g4, cA, g5⟩ := aread hR ha (by omega)
    rw [ht] at g2 g5
    refine W.cald (v := .int (gi h a x.toNatClampNeg)) hx hb g1 g2 (by rw [g3]; exact fun z => by cases z) (inN hi g4) ?_ rfl rfl hdg k2
    rw [g5]
    show (arrV cA (N a) _).slots[_]? = _
    rw [arrV_read _ _ (inb_lt hi)]
  case laload =>
    obtain rfl := hlen rfl
    obtain ⟨x, a, st2, rfl, ⟨ht, hi⟩, rfl⟩ := hLd_some (P := fun a => T a = 24) (v := fun a k => vl (gl h a k)) hp
    have ha : a < nx h := hs.t.h a rfl
    have k2 := k H locs cells slots hR hS rfl rfl
    obtain ⟨cell, g1, g2, g3, g4, cA, g5⟩ := aread hR ha (by omega)
    rw [ht] at g2 g5
    refine W.lald (v := .long (gl h a x.toNatClampNeg)) hx hb g1 g2 (by rw [g3]; exact fun z => by cases z) (inN hi g4) ?_ rfl rfl hdg k2
    rw [g5]
    show (arrV cA (N a) _).slots[_]? = _
    rw [arrV_read _ _ (inb_lt hi)]
  case daload =>
    obtain rfl := hlen rfl
    obtain ⟨x, a, st2, rfl, ⟨ht, hi⟩, rfl⟩ := hLd_some (P := fun a => T a = 25) (v := fun a k => vd (gd h a k)) hp
    have ha : a < nx h := hs.t.h a rfl
    have k2 := k H locs cells slots hR hS rfl rfl
    obtain ⟨cell, g1, g2, g3, g4, cA, g5⟩ := aread hR ha (by omega)
    rw [ht] at g2 g5
    refine W.dald (v := .double (gd h a x.toNatClampNeg)) hx hb g1 g2 (by rw [g3]; exact fun z => by cases z) (inN hi g4) ?_ rfl rfl hdg k2
    rw [g5]
    show (arrV cA (N a) _).slots[_]? = _
    rw [arrV_read _ _ (inb_lt hi)]
  case aaload =>
    obtain rfl := hlen rfl
    obtain ⟨x, a, st2, rfl, ⟨ht, hi⟩, rfl⟩ := hLd_some (P := fun a => 30 ≤ T a) (v := fun a k => vr (gr h a k)) hp
    have ha : a < nx h := hs.t.h a rfl
    have k2 := k H locs cells slots hR hS rfl rfl
    obtain ⟨cell, g1, g2, g3, g4, cA, g5⟩ := aread hR ha (by omega)
    obtain ⟨t, ht2⟩ : ∃ t, T a = t + 26 := ⟨T a - 26, by omega⟩
    rw [ht2] at g2 g5
    refine W.aald (v := va_rf (gr h a x.toNatClampNeg)) (ty := .object (Rc (t + 26 - 30))) hx hb g1 g2 rfl (by rw [g3]; exact fun z => by cases z) (inN hi g4) ?_ rfl rfl hdg k2
    rw [g5]
    show (arrV cA (N a) _).slots[_]? = _
    rw [arrV_read _ _ (inb_lt hi)]
  case arraylength =>
    obtain rfl := hlen rfl
    obtain ⟨a, st2, rfl, ht, rfl⟩ := hLen_some hp
    have ha : a < nx h := hs.h a rfl
    have k2 := k H locs cells slots hR hS rfl rfl
    by_cases ht2 : T a = 21
    · obtain ⟨scr, g1, g2, g3, g4, g5⟩ := (hR.2.1 a ha).2.1 ht2
      exact W.alen (n := Int32.ofNat (N a)) hx hb g1 g2 (by rw [g4]) rfl rfl hdg k2
    · obtain ⟨cell, g1, g2, g3, g4, cA, g5⟩ := aread hR ha (by omega)
      exact W.alen (n := Int32.ofNat (N a)) hx hb g1 g2 (by rw [g4]) rfl rfl hdg k2
  case iastore =>
    obtain rfl := hlen rfl
    obtain ⟨x, j, a, st2, rfl, ⟨ht, hi, -⟩, rfl⟩ := hStI_some (t := 22) (ok := fun _ => True) hp
    have ha : a < nx h := hs.t.t.h a rfl
    obtain ⟨cell, g1, g2, g3, g4, -⟩ := aread hR ha (by omega)
    rw [ht] at g2
    refine W.iast hx hb g1 g2 (by rw [g3]; exact fun z => by cases z) (inN hi g4) rfl rfl hdg (fun H1 e1 z o => ?_)
    obtain ⟨r1, r2⟩ := awrite (h2 := si h a j.toNatClampNeg x) hR ha (by omega) g1 e1 rfl z o (fun b hb => up2_ne hb) (fun _ _ => rfl) (fun _ _ => rfl) (fun _ _ => rfl) (fun cA => by
      rw [ht]
      show (vp_cell cA (N a, .inl (gi h a))).setSlot _ _ = vp_cell cA (N a, .inl (gi (si h a j.toNatClampNeg x) a))
      rw [vp_cell_i, vp_cell_i, arrV_store, gi_si, up2_row]
      congr 2
      funext q
      by_cases hq : q = j.toNatClampNeg
      · subst hq; simp [updV]
      · simp [updV, hq])
    exact k H1 _ cells slots r1 (hS.put z o r2) rfl rfl
  case castore =>
    obtain rfl := hlen rfl
    obtain ⟨x, j, a, st2, rfl, ⟨ht, hi, hx2⟩, rfl⟩ := hStI_some (t := 23) (ok := fun x => 0 ≤ x.toInt ∧ x.toInt < 65536) hp
    have ha : a < nx h := hs.t.t.h a rfl
    obtain ⟨cell, g1, g2, g3, g4, -⟩ := aread hR ha (by omega)
    rw [ht] at g2
    refine W.cast hx hb g1 g2 (by rw [g3]; exact fun z => by cases z) (inN hi g4) rfl rfl hdg (fun H1 e1 z o => ?_)
    rw [char_nar hx2] at e1
    obtain ⟨r1, r2⟩ := awrite (h2 := si h a j.toNatClampNeg x) hR ha (by omega) g1 e1 rfl z o (fun b hb => up2_ne hb) (fun _ _ => rfl) (fun _ _ => rfl) (fun _ _ => rfl) (fun cA => by
      rw [ht]
      show (vp_cell cA (N a, .inl (gi h a))).setSlot _ _ = vp_cell cA (N a, .inl (gi (si h a j.toNatClampNeg x) a))
      rw [vp_cell_i, vp_cell_i, arrV_store, gi_si, up2_row]
      congr 2
      funext q
      by_cases hq : q = j.toNatClampNeg
      · subst hq; simp [updV]
      · simp [updV, hq])
    exact k H1 _ cells slots r1 (hS.put z o r2) rfl rfl
  case lastore =>
    obtain rfl := hlen rfl
    obtain ⟨x, j, a, st2, rfl, ⟨ht, hi⟩, rfl⟩ := hStL_some hp
    have ha : a < nx h := hs.t.t.h a rfl
    obtain ⟨cell, g1, g2, g3, g4, -⟩ := aread hR ha (by omega)
    rw [ht] at g2
    refine W.last hx hb g1 g2 (by rw [g3]; exact fun z => by cases z) (inN hi g4) rfl rfl hdg (fun H1 e1 z o => ?_)
    obtain ⟨r1, r2⟩ := awrite (h2 := sL h a j.toNatClampNeg x) hR ha (by omega) g1 e1 rfl z o (fun _ _ => rfl) (fun b hb => up2_ne hb) (fun _ _ => rfl) (fun _ _ => rfl) (fun cA => by
      rw [ht]
      show (vp_cell cA (N a, .inr (.inl (gl h a)))).setSlot _ _ = vp_cell cA (N a, .inr (.inl (up2 (gl h) a j.toNatClampNeg x a)))
      rw [vp_cell_l, vp_cell_l, arrV_store, up2_row]
      congr 2
      funext q
      by_cases hq : q = j.toNatClampNeg
      · subst hq; simp [updV]
      · simp [updV, hq])
    exact k H1 _ cells slots r1 (hS.put z o r2) rfl rfl
  case dastore =>
    obtain rfl := hlen rfl
    obtain ⟨x, j, a, st2, rfl, ⟨ht, hi⟩, rfl⟩ := hStD_some hp
    have ha : a < nx h := hs.t.t.h a rfl
    obtain ⟨cell, g1, g2, g3, g4, -⟩ := aread hR ha (by omega)
    rw [ht] at g2
    refine W.dast hx hb g1 g2 (by rw [g3]; exact fun z => by cases z) (inN hi g4) rfl rfl hdg (fun H1 e1 z o => ?_)
    obtain ⟨r1, r2⟩ := awrite (h2 := sd h a j.toNatClampNeg x) hR ha (by omega) g1 e1 rfl z o (fun _ _ => rfl) (fun _ _ => rfl) (fun b hb => up2_ne hb) (fun _ _ => rfl) (fun cA => by
      rw [ht]
      show (vp_cell cA (N a, .inr (.inr (.inr (.inl (gd h a)))))).setSlot _ _ = vp_cell cA (N a, .inr (.inr (.inr (.inl (up2 (gd h) a j.toNatClampNeg x a)))))
      rw [vp_cell_d, vp_cell_d, arrV_store, up2_row]
      congr 2
      funext q
      by_cases hq : q = j.toNatClampNeg
      · subst hq; simp [updV]
      · simp [updV, hq])
    exact k H1 _ cells slots r1 (hS.put z o r2) rfl rfl
  case aastore =>
    obtain rfl := hlen rfl
    obtain ⟨b, j, a, st2, rfl, ⟨⟨hb1, hb3, htb⟩, hi⟩, rfl⟩ := hStA_some hp
    have ha : a < nx h := hs.t.t.h a rfl
    have hb2 : b < nx h := hs.h b rfl
    obtain ⟨cell, g1, g2, g3, g4, -⟩ := aread hR ha (by omega)
    obtain ⟨hba, cA, f2, f3, f4⟩ := (hR.2.1 a ha).2.2 (by omega)
    obtain ⟨t, ht2⟩ : ∃ t, T a = t + 26 := ⟨T a - 26, by omega⟩
    have hbt : t + 26 - 30 = T b := by omega
    obtain ⟨r', hr', cellV, v1, v2, v3, -⟩ := ((hR.2.1 b hb2).1 hb1 hb3).2
    cases (hr'.symm.trans (cls_at hb1 hb3))
    have hcls := (hK.1 (T b - 1) _ (cls_at hb1 hb3)).2
    have f3 := f3 (by omega)
    rw [ht2] at f3 f4
    obtain ⟨kA, comp, k1, k3, k4, -⟩ := f3
    rw [hbt] at k4
    have hcomp : comp = D.1 (T b - 1) := Option.some.inj (k4.symm.trans hcls.1)
    subst hcomp
    obtain ⟨kC, hkC, hk9⟩ := hcls.2
    cases f4.symm.trans g1
    refine W.aast hx hb g1 (fun q z => by rw [g3] at z; cases z) (fun z => by rw [g3] at z; cases z) k1 k3 rfl hkC ⟨fun z => inb_vp hi (Or.inl z), by rw [g4]; exact inb_lt hi⟩ v1 (fun q z => by rw [v3] at z; cases z) (by rw [v2]; exact hkC) (by rw [v2]; exact va_assign hcls) rfl rfl hdg (fun H1 e1 z o => ?_)
    obtain ⟨r1, r2⟩ := awrite (h2 := sr h a j.toNatClampNeg (some b)) hR ha (by omega) g1 e1 rfl z o (fun _ _ => rfl) (fun _ _ => rfl) (fun _ _ => rfl) (fun b hb => up2_ne hb) (fun cA => by
      rw [ht2]
      show (vp_cell cA (N a, .inr (.inr (.inr (.inr (gr h a)))))).setSlot _ _ = vp_cell cA (N a, .inr (.inr (.inr (.inr (up2 (gr h) a j.toNatClampNeg (some b) a)))))
      rw [vp_cell_q, vp_cell_q, arrV_store, up2_row]
      congr 2
      funext q
      by_cases hq : q = j.toNatClampNeg
      · subst hq; simp [updV, va_rf]
      · simp [updV, hq])
    exact k H1 _ cells slots r1 (hS.put z o r2) rfl rfl
  case new n =>
    obtain rfl := hlen rfl
    obtain ⟨⟨ht, ht2⟩, hp⟩ := pif_some hp
    unfold chkH at hchk
    dsimp only at hchk ht ht2
    rw [show Nat.blt ep 50 = true by simpa using ht] at hchk
    simp only [cond_true, Bool.and_eq_true, decide_eq_true_eq] at hchk
    obtain ⟨⟨c1, c2⟩, c3⟩ := hchk
    cases hp
    have hKn := hK.1 (ep - 1) _ (cls_at c1 c2)
    have hq : H.size = nx h := hR.sz (by omega)
    have e1 : ce (grow h (csz ep)) = ce h + 1 := rfl
    have e2 : sl (grow h (csz ep)) = sl h + csz ep := rfl
    dsimp only at hc hsl
    refine W.newcK (C := Rc ep) (n := csz ep) hx hb hown (hts _ (wat_good c3 rfl)) (hts _ (cls_in c1 c2).1) (hts _ (cls_in c1 c2).2) rfl hdg (by omega) (by omega) hKn.2.1 hq (fun H1 kC hkC g1 g2 g3 => ?_)
    have o : ∀ q, q < H.size → H1[q]? = H[q]? := fun q hq2 => g3 q (by rw [← hq]; exact hq2)
    have z : H1.size = H.size + 1 := by rw [g2, hq]
    refine k H1 locs (cells + 1) (slots + csz ep) (newa_rel hR hq z o ⟨fun _ _ => ⟨hbs0, _, cls_at (by omega) (by omega), ?_⟩, fun q => by omega, fun q => by omega⟩) (pushS hS z o) (by dsimp only; omega) (by dsimp only; omega)
    rw [ht2]
    refine (u_born (tyc ep) hts (cls_ws c1 c2) hKn hkC g1 (cls_ty c1 c2)).to (fun k hk => ?_)
    obtain ⟨z1, -, -, z4⟩ := zero_row hR
    unfold vp_V
    rw [List.getD_eq_getElem?_getD, fsL_at hk]
    show defaultValue (tyc ep k) = objV _ _ _ _
    unfold objV
    have q1 : gi (grow h (csz ep)) (nx h) k = 0 := by show gi h (nx h) k = 0; rw [z1]
    have q2 : gr (grow h (csz ep)) (nx h) k = none := by show gr h (nx h) k = none; rw [z4]
    rw [q1, q2]
    have f0 := (fr_at c1 c2 hk).1
    unfold frk at f0 ⊢
    cases hty : tyc ep k <;> rw [hty] at f0 <;> first | rfl | exact absurd rfl f0
  case newarray t =>
    obtain rfl := hlen rfl
    obtain ⟨n, st2, rfl, ⟨ht, h0, hn, hm⟩, rfl⟩ := hNewa_some (t := ep) hp
    unfold chkH at hchk
    simp only [Bool.and_eq_true, decide_eq_true_eq] at hchk
    obtain ⟨⟨⟨c1, c2⟩, c3⟩, c4⟩ := hchk
    have hq : H.size = nx h := hR.sz (by omega)
    have e1 : ce (grow h (N (nx h))) = ce h + 1 := rfl
    have e2 : sl (grow h (N (nx h))) = sl h + N (nx h) := rfl
    dsimp only at hc hsl
    have hN := nat_clamp h0 hn
    refine W.newaK hx hb (hts _ (wat_good c4 rfl)) rfl hdg rfl (not_neg h0) hN ?_ (by omega) (by omega) hq (fun H1 cA g1 g2 g3 g4 => ?_)
    · rw [← c3]
      have : componentBytes (arrTy ep) ≤ 8 := by
        rcases (show ep = 22 ∨ ep = 23 ∨ ep = 24 ∨ ep = 25 by omega) with rfl | rfl | rfl | rfl <;> decide
      exact Nat.le_trans (Nat.mul_le_mul hm this) (by decide)
    · have o : ∀ q, q < H.size → H1[q]? = H[q]? := fun q hq2 => g3 q (by rw [← hq]; exact hq2)
      have z : H1.size = H.size + 1 := by rw [g2, hq]
      refine k H1 locs (cells + 1) (slots + N (nx h)) (newa_rel hR hq z o ⟨fun q1 q2 => by omega, fun q => by omega, fun q => ⟨hbs0, cA, by rw [ht, c3]; exact g4, fun q2 => by omega, ?_⟩⟩) (pushS hS z o) (by dsimp only; omega) (by dsimp only; omega)
      obtain ⟨z1, z2, z3, z4⟩ := zero_row hR
      rw [g1, ht, ← c3]
      congr 1
      rcases (show ep = 22 ∨ ep = 23 ∨ ep = 24 ∨ ep = 25 by omega) with rfl | rfl | rfl | rfl
      · show _ = vp_cell cA (N (nx h), .inl (gi h (nx h)))
        rw [vp_cell_i, z1]; rfl
      · show _ = vp_cell cA (N (nx h), .inl (gi h (nx h)))
        rw [vp_cell_i, z1]; rfl
      · show _ = vp_cell cA (N (nx h), .inr (.inl (gl h (nx h))))
        rw [vp_cell_l, z2]; rfl
      · show _ = vp_cell cA (N (nx h), .inr (.inr (.inr (.inl (gd h (nx h))))))
        rw [vp_cell_d, z3]; rfl
  case anewarray i =>
    obtain rfl := hlen rfl
    obtain ⟨n, st2, rfl, ⟨ht, h0, hn, hm⟩, rfl⟩ := hNewa_some (t := 30 + ep) hp
    unfold chkH at hchk
    simp only [Bool.and_eq_true, decide_eq_true_eq] at hchk
    obtain ⟨⟨⟨c1, c2⟩, c3⟩, c4⟩ := hchk
    have hq : H.size = nx h := hR.sz (by omega)
    have e1 : ce (grow h (N (nx h))) = ce h + 1 := rfl
    have e2 : sl (grow h (N (nx h))) = sl h + N (nx h) := rfl
    dsimp only at hc hsl
    have hN := nat_clamp h0 hn
    refine W.anew hx hb hown (hts _ (wat_good c3 rfl)) (va_AO.use (hover _ (wat_mem c4))) rfl hdg rfl (not_neg h0) (by rw [hN]; omega) (by omega) (by rw [hN]; omega) (fun cA kA comp f1 f2 f3 f4 => ?_)
    rw [hN]
    generalize hH1 : H.push ({ cls := cA, slots := Array.replicate (N (nx h)) .null, vm := .none } : Cell) = H1
    have z : H1.size = H.size + 1 := by rw [← hH1, Array.size_push]
    have g1 : H1[H.size]? = some (arrV cA (N (nx h)) (fun _ => .null)) := by rw [← hH1, Array.getElem?_push_size, ← arrV_new]
    have o : ∀ q : Nat, q < H.size → H1[q]? = H[q]? := fun q hq => by rw [← hH1, Array.getElem?_push, if_neg (Nat.ne_of_lt hq)]
    have hAr : ArrOfT s cA (.object (Rc ep)) := fun N z => ⟨(fun k h => by cases h), kA, f2, comp, f3⟩
    rw [hq] at g1 ⊢
    have ht30 : arrTy (T (nx h)) = .object (Rc ep) := by
      rw [ht]
      rcases (show ep = 1 ∨ ep = 2 ∨ ep = 3 ∨ ep = 4 ∨ ep = 5 ∨ ep = 6 ∨ ep = 7 ∨ ep = 8 ∨ ep = 9 ∨ ep = 10 ∨ ep = 11 ∨ ep = 12 by omega) with rfl | rfl | rfl | rfl | rfl | rfl | rfl | rfl | rfl | rfl | rfl | rfl <;> rfl
    refine k H1 locs (cells + 1) (slots + N (nx h)) (newa_rel hR hq z o ⟨fun q1 q2 => by omega, fun q => by omega, fun q => ⟨hbs0, cA, by rw [ht30]; exact hAr, fun q2 => by rw [ht30]; exact ⟨kA, comp, f2, f3, f4, f1⟩, ?_⟩⟩) (pushS hS z o) (by dsimp only; omega) (by dsimp only; omega)
    obtain ⟨z1, z2, z3, z4⟩ := zero_row hR
    rw [g1]
    congr 1
    obtain ⟨t, ht2⟩ : ∃ t, T (nx h) = t + 26 := ⟨T (nx h) - 26, by omega⟩
    rw [ht2]
    show _ = vp_cell cA (N (nx h), .inr (.inr (.inr (.inr (gr h (nx h))))))
    rw [vp_cell_q, z4]; rfl
  all_goals (exact absurd hp (by simp [hstep]))
end SNDE
