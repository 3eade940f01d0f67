/-! THE PURE MACHINE IS TRUE OF THE MACHINE, fourth part: the steps of the heap -/
def TFc : Nat → u_T := fun t => match t with
  | 1 => TX0
  | 2 => TX1
  | 3 => TX2
  | 4 => TX3
  | 5 => TX4
  | 6 => TX5
  | 7 => TX6
  | 8 => TX7
  | 9 => TX8
  | 10 => TX9
  | 11 => TX10
  | _ => TX11
def tyc : Nat → Nat → FieldType := fun t => match t with
  | 1 => tyX0
  | 2 => tyX1
  | 3 => tyX2
  | 4 => tyX3
  | 5 => tyX4
  | 6 => tyX5
  | 7 => tyX6
  | 8 => tyX7
  | 9 => tyX8
  | 10 => tyX9
  | 11 => tyX10
  | _ => tyX11
def Rc : Nat → String := fun t => match t with
  | 1 => RX0
  | 2 => RX1
  | 3 => RX2
  | 4 => RX3
  | 5 => RX4
  | 6 => RX5
  | 7 => RX6
  | 8 => RX7
  | 9 => RX8
  | 10 => RX9
  | 11 => RX10
  | _ => RX11
def cls12 : List vw_C := [(RX0, TX0, 1), (RX1, TX1, 4), (RX2, TX2, 10), (RX3, TX3, 4), (RX4, TX4, 3), (RX5, TX5, 2), (RX6, TX6, 5), (RX7, TX7, 18), (RX8, TX8, 1), (RX9, TX9, 9), (RX10, TX10, 10), (RX11, TX11, 30)]
theorem tag_ind {P : Nat → Prop} (h1 : P 1) (h2 : P 2) (h3 : P 3) (h4 : P 4) (h5 : P 5) (h6 : P 6) (h7 : P 7) (h8 : P 8) (h9 : P 9) (h10 : P 10) (h11 : P 11) (h12 : P 12) {t : Nat} (a : 1 ≤ t) (b : t ≤ 12) : P t := by
  rcases (show t = 1 ∨ t = 2 ∨ t = 3 ∨ t = 4 ∨ t = 5 ∨ t = 6 ∨ t = 7 ∨ t = 8 ∨ t = 9 ∨ t = 10 ∨ t = 11 ∨ t = 12 by omega) with rfl | rfl | rfl | rfl | rfl | rfl | rfl | rfl | rfl | rfl | rfl | rfl <;> assumption
theorem cls_at {t : Nat} (a : 1 ≤ t) (b : t ≤ 12) : cls12[t - 1]? = some (Rc t, TFc t, csz t) := tag_ind (P := fun t => cls12[t - 1]? = some (Rc t, TFc t, csz t)) rfl rfl rfl rfl rfl rfl rfl rfl rfl rfl rfl rfl a b
theorem cls_nm {t : Nat} (a : 1 ≤ t) (b : t ≤ 12) : ∀ x, x < csz t → ∀ y, y < csz t → x ≠ y → (TFc t x).2.1 ≠ (TFc t y).2.1 := tag_ind (P := fun t => ∀ x, x < csz t → ∀ y, y < csz t → x ≠ y → (TFc t x).2.1 ≠ (TFc t y).2.1) nmX0 nmX1 nmX2 nmX3 nmX4 nmX5 nmX6 nmX7 nmX8 nmX9 nmX10 nmX11 a b
theorem cls_ty {t : Nat} (a : 1 ≤ t) (b : t ≤ 12) : ∀ k, k < csz t → parseFieldDescriptor (TFc t k).2.2.1 = some (tyc t k) := tag_ind (P := fun t => ∀ k, k < csz t → parseFieldDescriptor (TFc t k).2.2.1 = some (tyc t k)) tyX0_ok tyX1_ok tyX2_ok tyX3_ok tyX4_ok tyX5_ok tyX6_ok tyX7_ok tyX8_ok tyX9_ok tyX10_ok tyX11_ok a b
set_option maxRecDepth 100000 in
theorem cls_ws0 : ((List.range 12).all fun t => (u_ws (Rc (t + 1)) (TFc (t + 1)) (csz (t + 1))).all fun w => decide (w ∈ lw_tbl) && goodWord w) = true := by decide +kernel
theorem cls_ws {t : Nat} (a : 1 ≤ t) (b : t ≤ 12) : ∀ w ∈ u_ws (Rc t) (TFc t) (csz t), w ∈ goods := by
  intro w hw
  have h := List.all_eq_true.mp cls_ws0 (t - 1) (List.mem_range.mpr (by omega))
  rw [show t - 1 + 1 = t by omega] at h
  have h2 := List.all_eq_true.mp h w hw
  simp only [Bool.and_eq_true, decide_eq_true_eq] at h2
  exact List.mem_filter.mpr ⟨h2.1, h2.2⟩
/-- a field's kind: 0 an int, 1 a reference, 2 a boolean, 9 another -/
def frk (t k : Nat) : Nat := match tyc t k with
  | .int => 0
  | .boolean => 2
  | .object _ => 1
  | .array _ => 1
  | _ => 9
def objV (h : PH) (t a k : Nat) : Value := bif Nat.beq (frk t k) 1 then va_rf (gr h a k) else .int (gi h a k)
def fsL (h : PH) (t a : Nat) : List Value := (List.range (csz t)).map (objV h t a)
def arrTy (t : Nat) : FieldType := match t with
  | 22 => .int
  | 23 => .char
  | 24 => .long
  | 25 => .double
  | t => .object (Rc (t - 30))
def arrC (h : PH) (t a n : Nat) : vp_A := match t with
  | 22 => (n, .inl (gi h a))
  | 23 => (n, .inl (gi h a))
  | 24 => (n, .inr (.inl (gl h a)))
  | 25 => (n, .inr (.inr (.inr (.inl (gd h a)))))
  | _ => (n, .inr (.inr (.inr (.inr (gr h a)))))
/-- what lies at an address -/
def CellOK (D : va_G) (bs : Nat) (T N : Nat → Nat) (U : State) (h : PH) (H : Heap) (a : Nat) : Prop :=
  (1 ≤ T a → T a ≤ 12 → bs ≤ a ∧ va_at D cls12 (a, .inr (T a - 1, fsL h (T a) a)) H) ∧ (T a = 21 → va_X a (N a) (gi h a) U H) ∧
  (22 ≤ T a → bs ≤ a ∧ ∃ cA, ArrOfT U cA (arrTy (T a)) ∧ (30 ≤ T a → va_RA U cA (arrTy (T a))) ∧ H[a]? = some (vp_cell cA (arrC h (T a) a (N a))))
/-- the pure heap is the machine's, from bs on -/
def Rel (D : va_G) (bs : Nat) (T N : Nat → Nat) (U : State) (h : PH) (H : Heap) : Prop :=
  (nx h ≤ H.size ∧ (H.size = nx h ∨ ∀ a, nx h ≤ a → T a = 0)) ∧ (∀ a, a < nx h → CellOK D bs T N U h H a) ∧ (∀ a, nx h ≤ a → ∀ k, gi h a k = 0 ∧ gl h a k = 0 ∧ gd h a k = 0 ∧ gr h a k = none)
theorem CellOK.moved {D : va_G} {bs : Nat} {T N : Nat → Nat} {u U : State} {h : PH} {H : Heap} {a : Nat} (hvm : u.vm.Alike U.vm) (g : CellOK D bs T N u h H a) : CellOK D bs T N U h H a := by
  refine ⟨g.1, fun e => (g.2.1 e).moved hvm, fun e => ?_⟩
  obtain ⟨h1, cA, h2, h3, h4⟩ := g.2.2 e
  exact ⟨h1, cA, arrOfT_moved hvm h2, fun e => (h3 e).moved hvm, h4⟩
theorem Rel.moved {D : va_G} {bs : Nat} {T N : Nat → Nat} {u U : State} {h : PH} {H : Heap} (hvm : u.vm.Alike U.vm) (g : Rel D bs T N u h H) : Rel D bs T N U h H := ⟨g.1, fun a ha => (g.2.1 a ha).moved hvm, g.2.2⟩
theorem Rel.sz {D : va_G} {bs : Nat} {T N : Nat → Nat} {U : State} {h : PH} {H : Heap} (g : Rel D bs T N U h H) (ht : T (nx h) ≠ 0) : H.size = nx h := g.1.2.elim id (fun z => absurd (z _ (Nat.le_refl _)) ht)
/-- a cell that stays, where the pure heap stays -/
theorem CellOK.kept {D : va_G} {bs : Nat} {T N : Nat → Nat} {U : State} {h h2 : PH} {H H2 : Heap} {a : Nat} (g : CellOK D bs T N U h H a) (hH : H2[a]? = H[a]?) (hi : gi h2 a = gi h a) (hl : gl h2 a = gl h a) (hd : gd h2 a = gd h a) (hr : gr h2 a = gr h a) : CellOK D bs T N U h2 H2 a := by
  refine ⟨fun e1 e2 => ?_, fun e => by rw [hi]; exact (g.2.1 e).kept hH, fun e => ?_⟩
  · have : fsL h2 (T a) a = fsL h (T a) a := by
      unfold fsL
      refine List.map_congr_left fun k _ => ?_
      unfold objV
      rw [hi, hr]
    rw [this]
    exact ⟨(g.1 e1 e2).1, (g.1 e1 e2).2.kept hH⟩
  · obtain ⟨h1, cA, q2, q3, q4⟩ := g.2.2 e
    refine ⟨h1, cA, q2, q3, ?_⟩
    have : arrC h2 (T a) a (N a) = arrC h (T a) a (N a) := by
      unfold arrC
      split <;> simp [hi, hl, hd, hr]
    rw [this, hH]
    exact q4
theorem gi_si (h : PH) (a k : Nat) (x : Int32) : gi (si h a k x) = up2 (gi h) a k x := rfl
theorem up2_ne {α : Type} {f : Nat → Nat → α} {a k b : Nat} {x : α} (e : b ≠ a) : up2 f a k x b = f b := by
  funext j
  unfold up2
  rw [if_neg (fun z => e z.1)]
theorem up2_row {α : Type} {f : Nat → Nat → α} {a k : Nat} {x : α} : up2 f a k x a = fun j => if j = k then x else f a j := by
  funext j
  unfold up2
  by_cases e : j = k
  · rw [if_pos ⟨rfl, e⟩, if_pos e]
  · rw [if_neg (fun z => e z.2), if_neg e]
/-- one cell is written -/
theorem Rel.put {D : va_G} {bs : Nat} {T N : Nat → Nat} {U : State} {h h2 : PH} {H H2 : Heap} {a : Nat} (g : Rel D bs T N U h H) (ha : a < nx h) (hn : nx h2 = nx h) (hz : H2.size = H.size) (ho : ∀ q, q ≠ a → H2[q]? = H[q]?)
    (hi : ∀ b, b ≠ a → gi h2 b = gi h b) (hl : ∀ b, b ≠ a → gl h2 b = gl h b) (hd : ∀ b, b ≠ a → gd h2 b = gd h b) (hr : ∀ b, b ≠ a → gr h2 b = gr h b) (hc : CellOK D bs T N U h2 H2 a) : Rel D bs T N U h2 H2 := by
  refine ⟨by rw [hz, hn]; exact g.1, fun b hb => ?_, fun b hb k => ?_⟩
  · rw [hn] at hb
    by_cases e : b = a
    · subst e; exact hc
    · exact (g.2.1 b hb).kept (ho b e) (hi b e) (hl b e) (hd b e) (hr b e)
  · rw [hn] at hb
    have e : b ≠ a := by omega
    rw [hi b e, hl b e, hd b e, hr b e]
    exact g.2.2 b hb k
section SNDD
variable {p : Program} {l : Launch} {e : Env} {R : Room} {s : State} {m : MethodId} {args : Array Value} {below : List Frame} {meth : Method} {c : Code} {H : Heap} {locs : List Loc} {cells slots : Nat} {Q : State → Prop}
variable {cc : ByteArray} {pc : Nat} {ls : Array Slot} {rest : List Value} {D : va_G} {a : Nat}
/-- a field is written: an own form of va_put and va_putF, that tells of all other cells -/
theorem xa_put (hexec : p.tables.exec = Jvm.exec) (hb : c.code = cc) {own C : String} {T : u_T} {N ci index : Nat} {cl : List vw_C} {Ts : List Jvm.Cond} (hts : ∀ w ∈ Ts, w.before args s = true) (hin : ∀ w ∈ u_ws C T N, w ∈ Ts) (ty0 : Nat → FieldType) (hty : ∀ k, k < N → parseFieldDescriptor (T k).2.2.1 = some (ty0 k)) (hnm : ∀ a, a < N → ∀ b, b < N → a ≠ b → (T a).2.1 ≠ (T b).2.1) (hown : s.vm.findClass own = some m.cls) (hK : va_K D cl [] s) {fs : List Value} (hP : va_at D cl (a, .inr (ci, fs)) H) (hc : cl[ci]? = some (C, T, N)) (k : Nat) (hk : k < N) (hlink : (Jvm.Cond.fieldLink own index (T k).1 (T k).2.1 (T k).2.2.1).before args s = true) (hfin : (T k).2.2.2 = true → meth.name = "<init>" ∧ (T k).1 = own) {v : Value} (hn : narrow (ty0 k) v = v) (hfit : fits (ty0 k) v = true) (hl : k < fs.length)
    (hdg : decode cc pc = .ok (.putfield index, 3)) (kk : ∀ (H1 : Heap) (i : Nat), va_at D cl (a, .inr (ci, fs.set k v)) H1 → H1.size = H.size → (∀ q, q ≠ a → H1[q]? = H[q]?) → W p l e R s m args below meth c H1 (locs ++ [⟨a, i⟩]) cells slots Q (F0 m (pc + 3) ls rest)) : W p l e R s m args below meth c H locs cells slots Q (F0 m pc ls (v :: .ref a :: rest)) := by
  have hap := va_apart (own := own) hts hin ty0 hty hnm hK hc
  obtain ⟨r, h1, cell, q1, q2, q3, q4⟩ := hP
  have hr : r = (C, T, N) := Option.some.inj (h1.symm.trans hc)
  subst hr
  obtain ⟨hS, hfc, kC, hkC, hkind⟩ := hK.1 ci _ hc
  obtain ⟨cf, kf, fi, f, hi, hsl⟩ := hS k hk
  have hlay := hts _ (hin _ (u_in_lay hk))
  unfold u_lay at hlay
  have hst := (u_facts hfc hkC (u_lays hts hin hk) hi).1
  cases hf : (T k).2.2.2 with
  | false =>
    rw [if_neg (by rw [hf]; decide)] at hlay
    have h6 := u_store hfc hkC hkind hlay hi (hty k hk) hn hfit
    refine W.putK hexec hb (f := f) ⟨hown, hlink, ⟨_, _, _, hi⟩, hst⟩ (by rw [q2]; exact h6) q1 q3 (by rw [hsl]; exact k2_hasslot (q4 k hk)) rfl rfl hdg fun H' e1 e2 e3 => ?_
    rw [hsl] at e1 ⊢
    exact kk H' _ ⟨_, hc, t_OB.to (V := updV (vp_V fs) k v) ⟨_, e1, q2, q3, t_set q4 hap hk v⟩ (fun j _ => vp_updV_set hl v j)⟩ e2 e3
  | true =>
    obtain ⟨hin2, hdecl⟩ := hfin hf
    rw [if_pos hf] at hlay
    have hcf : m.cls = cf := by
      obtain ⟨_, _, c', _, _, _, -, -, hf', -, -, -, hown2, -⟩ := Cond.laysFinal_spec hlay
      have e1 : c' = cf := by have := hi.symm.trans hf'; simp at this; exact this.1.symm
      rw [hdecl] at hown2
      rw [← e1]; exact Option.some.inj (hown.symm.trans hown2)
    have h6 := u_fits hfc hkC hkind (Or.inr hlay) hi (hty k hk) hn hfit
    refine W.putFinK hexec hb hown hlink hi hst hcf hin2 (by rw [q2]; exact h6) q1 q3 (by rw [hsl]; exact k2_hasslot (q4 k hk)) rfl rfl hdg fun H' e1 e2 e3 => ?_
    rw [hsl] at e1 ⊢
    exact kk H' _ ⟨_, hc, t_OB.to (V := updV (vp_V fs) k v) ⟨_, e1, q2, q3, t_set q4 hap hk v⟩ (fun j _ => vp_updV_set hl v j)⟩ e2 e3
theorem inb_vp {i : Int32} {n : Nat} (h : inb i n) : ¬ (i < 0 ∨ n ≤ i.toNatClampNeg) := vp_in_iff.mpr h
theorem inb_lt {i : Int32} {n : Nat} (h : inb i n) : i.toNatClampNeg < n := Nat.not_le.mp fun q => inb_vp h (Or.inr q)
end SNDD
