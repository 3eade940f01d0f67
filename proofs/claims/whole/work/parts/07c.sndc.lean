/-! THE PURE MACHINE, third part: every reference that it holds lies in the heap; the heap grows -/
def vok (b : Nat) (v : PV) : Prop := ∀ a, v = vr (some a) → a < b
def VS (b : Nat) (st : List PV) : Prop := ∀ v ∈ st, vok b v
def VL (b : Nat) (L : PL) : Prop := ∀ (i : Nat) (v : PV), lget L i = some v → vok b v
def VH (h : PH) : Prop := ∀ (a k b : Nat), gr h a k = some b → b < nx h
theorem vok_i {b : Nat} (x : Int32) : vok b (vi x) := fun _ e => nomatch e
theorem vok_l {b : Nat} (x : Int64) : vok b (vl x) := fun _ e => nomatch e
theorem vok_d {b : Nat} (x : UInt64) : vok b (vd x) := fun _ e => nomatch e
theorem vok_s {b : Nat} (x : Nat) : vok b (vs x) := fun _ e => nomatch e
theorem vok_n {b : Nat} : vok b (vr none) := fun _ e => nomatch e
theorem vok.up {b c : Nat} {v : PV} (h : vok b v) (hb : b ≤ c) : vok c v := fun a e => Nat.lt_of_lt_of_le (h a e) hb
theorem VS.c {b : Nat} {v : PV} {st : List PV} (h : vok b v) (g : VS b st) : VS b (v :: st) := fun w hw => (List.mem_cons.mp hw).elim (fun e => e ▸ h) (g w)
theorem vok.c {b : Nat} {v : PV} {st : List PV} (h : vok b v) (g : VS b st) : VS b (v :: st) := VS.c h g
theorem VS.h {b : Nat} {v : PV} {st : List PV} (g : VS b (v :: st)) : vok b v := g v List.mem_cons_self
theorem VS.t {b : Nat} {v : PV} {st : List PV} (g : VS b (v :: st)) : VS b st := fun w hw => g w (List.mem_cons_of_mem _ hw)
theorem VS.up {b c : Nat} {st : List PV} (h : VS b st) (hb : b ≤ c) : VS c st := fun v hv => (h v hv).up hb
theorem VL.up {b c : Nat} {L : PL} (h : VL b L) (hb : b ≤ c) : VL c L := fun i v hv => (h i v hv).up hb
theorem VL.put {b i : Nat} {L L2 : PL} {v : PV} (h : VL b L) (hv : vok b v) (e : lput L i v = some L2) : VL b L2 := by
  intro j w hw
  cases g : iw v with
  | false =>
    obtain ⟨hi, rfl⟩ := lput_one g e
    by_cases q : j = i
    · subst q; rw [lget_set_eq (by rw [lclr_len]; exact hi)] at hw; cases hw; exact hv
    · rw [lget_set_ne q] at hw; exact h j w (lclr_get hw).1
  | true =>
    obtain ⟨hi, rfl⟩ := lput_two g e
    by_cases q0 : j = i + 1
    · subst q0; rw [lget_set_none] at hw; cases hw
    · rw [lget_set_ne q0] at hw
      by_cases q : j = i
      · subst q; rw [lget_set_eq (by rw [lclr_len]; omega)] at hw; cases hw; exact hv
      · rw [lget_set_ne q] at hw; exact h j w (lclr_get hw).1
theorem VL.set0 {b i : Nat} {L : PL} (h : VL b L) : VL b (L.set i none) := by
  intro j w hw
  by_cases q : j = i
  · subst q; rw [lget_set_none] at hw; cases hw
  · rw [lget_set_ne q] at hw; exact h j w hw
theorem VL.clr {b i : Nat} {L : PL} (h : VL b L) : VL b (lclr L i) := fun j w hw => h j w (lclr_get hw).1
theorem ldA_ok {b pc i : Nat} {L : PL} {st : List PV} {d : PC} (hL : VL b L) (hs : VS b st) (h : ldA pc L st i = some d) : VL b d.2.1 ∧ VS b d.2.2 := by
  unfold ldA at h
  split at h
  · rename_i x g; cases h; exact ⟨hL, (hL _ _ g).c hs⟩
  · rename_i x g; cases h; exact ⟨hL, (vok_s _).c hs⟩
  · cases h
theorem stA_ok {b pc i : Nat} {L : PL} {st : List PV} {d : PC} (hL : VL b L) (hs : VS b st) (h : stA pc L st i = some d) : VL b d.2.1 ∧ VS b d.2.2 := by
  unfold stA at h
  split at h
  · obtain ⟨L2, g, rfl⟩ := Option.map_eq_some_iff.mp h; exact ⟨hL.put hs.h g, hs.t⟩
  · obtain ⟨L2, g, rfl⟩ := Option.map_eq_some_iff.mp h; exact ⟨hL.put hs.h g, hs.t⟩
  · cases h
set_option maxHeartbeats 4000000 in
set_option maxRecDepth 20000 in
theorem pstep_ok {b : Nat} {e0 : PE} {pc : Nat} {L : PL} {st : List PV} {d : PC} (hp : pstep e0 pc L st = some d) (hL : VL b L) (hs : VS b st) : VL b d.2.1 ∧ VS b d.2.2 := by
  obtain ⟨i, len, ep, eq, er, ew, ey⟩ := e0
  cases i
  case iconst n => cases hp; exact ⟨hL, (vok_i _).c hs⟩
  case bipush n => cases hp; exact ⟨hL, (vok_i _).c hs⟩
  case sipush n => cases hp; exact ⟨hL, (vok_i _).c hs⟩
  case ldc n =>
    unfold pstep at hp; dsimp only at hp
    cases hz : Nat.beq ep 0 <;> rw [hz] at hp <;> cases hp
    · exact ⟨hL, (vok_s _).c hs⟩
    · exact ⟨hL, (vok_i _).c hs⟩
  case lconst n => cases hp; exact ⟨hL, (vok_l _).c hs⟩
  case dconst n =>
    unfold pstep at hp; dsimp only at hp
    cases hz : Nat.beq (n : Nat) 0 <;> rw [hz] at hp <;> cases hp
    exact ⟨hL, (vok_d _).c hs⟩
  case aconst_null => cases hp; exact ⟨hL, vok_n.c hs⟩
  case iload_n n => obtain ⟨x, g, rfl⟩ := ldI_some hp; exact ⟨hL, (vok_i _).c hs⟩
  case iload n => obtain ⟨x, g, rfl⟩ := ldI_some hp; exact ⟨hL, (vok_i _).c hs⟩
  case lload_n n => obtain ⟨x, g, rfl⟩ := ldL_some hp; exact ⟨hL, (vok_l _).c hs⟩
  case lload n => obtain ⟨x, g, rfl⟩ := ldL_some hp; exact ⟨hL, (vok_l _).c hs⟩
  case dload n => obtain ⟨x, g, rfl⟩ := ldD_some hp; exact ⟨hL, (vok_d _).c hs⟩
  case aload_n n => exact ldA_ok hL hs hp
  case aload n => exact ldA_ok hL hs hp
  case istore_n n => obtain ⟨x, st2, L2, rfl, g, rfl⟩ := stI_some hp; exact ⟨hL.put hs.h g, hs.t⟩
  case istore n => obtain ⟨x, st2, L2, rfl, g, rfl⟩ := stI_some hp; exact ⟨hL.put hs.h g, hs.t⟩
  case lstore_n n => obtain ⟨x, st2, L2, rfl, g, rfl⟩ := stL_some hp; exact ⟨hL.put hs.h g, hs.t⟩
  case lstore n => obtain ⟨x, st2, L2, rfl, g, rfl⟩ := stL_some hp; exact ⟨hL.put hs.h g, hs.t⟩
  case dstore n => obtain ⟨x, st2, L2, rfl, g, rfl⟩ := stD_some hp; exact ⟨hL.put hs.h g, hs.t⟩
  case astore_n n => exact stA_ok hL hs hp
  case astore n => exact stA_ok hL hs hp
  case iinc n c =>
    unfold pstep at hp; dsimp only at hp
    split at hp
    · obtain ⟨L2, g2, rfl⟩ := Option.map_eq_some_iff.mp hp
      exact ⟨hL.put (vok_i _) g2, hs⟩
    · cases hp
  case iadd => obtain ⟨x, y, st2, rfl, rfl⟩ := bin_some hp; exact ⟨hL, (vok_i _).c hs.t.t⟩
  case isub => obtain ⟨x, y, st2, rfl, rfl⟩ := bin_some hp; exact ⟨hL, (vok_i _).c hs.t.t⟩
  case imul => obtain ⟨x, y, st2, rfl, rfl⟩ := bin_some hp; exact ⟨hL, (vok_i _).c hs.t.t⟩
  case idiv => obtain ⟨x, y, st2, rfl, hz, rfl⟩ := bin0_some hp; exact ⟨hL, (vok_i _).c hs.t.t⟩
  case irem => obtain ⟨x, y, st2, rfl, hz, rfl⟩ := bin0_some hp; exact ⟨hL, (vok_i _).c hs.t.t⟩
  case iand => obtain ⟨x, y, st2, rfl, rfl⟩ := bin_some hp; exact ⟨hL, (vok_i _).c hs.t.t⟩
  case ior => obtain ⟨x, y, st2, rfl, rfl⟩ := bin_some hp; exact ⟨hL, (vok_i _).c hs.t.t⟩
  case ishl => obtain ⟨x, y, st2, rfl, rfl⟩ := bin_some hp; exact ⟨hL, (vok_i _).c hs.t.t⟩
  case ishr => obtain ⟨x, y, st2, rfl, rfl⟩ := bin_some hp; exact ⟨hL, (vok_i _).c hs.t.t⟩
  case ineg => unfold pstep at hp; dsimp only at hp; split at hp <;> cases hp; exact ⟨hL, (vok_i _).c hs.t⟩
  case i2l => unfold pstep at hp; dsimp only at hp; split at hp <;> cases hp; exact ⟨hL, (vok_l _).c hs.t⟩
  case i2d => unfold pstep at hp; dsimp only at hp; split at hp <;> cases hp; exact ⟨hL, (vok_d _).c hs.t⟩
  case i2c => unfold pstep at hp; dsimp only at hp; split at hp <;> cases hp; exact ⟨hL, (vok_i _).c hs.t⟩
  case lsub => unfold pstep at hp; dsimp only at hp; split at hp <;> cases hp; exact ⟨hL, (vok_l _).c hs.t.t⟩
  case land => unfold pstep at hp; dsimp only at hp; split at hp <;> cases hp; exact ⟨hL, (vok_l _).c hs.t.t⟩
  case lor => unfold pstep at hp; dsimp only at hp; split at hp <;> cases hp; exact ⟨hL, (vok_l _).c hs.t.t⟩
  case lshl => unfold pstep at hp; dsimp only at hp; split at hp <;> cases hp; exact ⟨hL, (vok_l _).c hs.t.t⟩
  case lshr => unfold pstep at hp; dsimp only at hp; split at hp <;> cases hp; exact ⟨hL, (vok_l _).c hs.t.t⟩
  case lcmp => unfold pstep at hp; dsimp only at hp; split at hp <;> cases hp; exact ⟨hL, (vok_i _).c hs.t.t⟩
  case dcmp op => unfold pstep at hp; dsimp only at hp; split at hp <;> cases hp; exact ⟨hL, (vok_i _).c hs.t.t⟩
  case ddiv =>
    unfold pstep at hp; dsimp only at hp; split at hp
    · rename_i y x st2
      by_cases g : vf_n64 (FP.ddiv x y)
      · rw [if_pos g] at hp; cases hp; exact ⟨hL, (vok_d _).c hs.t.t⟩
      · rw [if_neg g] at hp; cases hp
    · cases hp
  case dup =>
    unfold pstep at hp; dsimp only at hp; split at hp
    · rename_i v st2
      cases g : iw v <;> rw [g] at hp <;> cases hp
      exact ⟨hL, hs.h.c hs⟩
    · cases hp
  case dup2 =>
    unfold pstep at hp; dsimp only at hp; split at hp
    · rename_i v w st2
      cases g : iw v <;> cases g2 : iw w <;> rw [g, g2] at hp <;> cases hp
      exact ⟨hL, hs.h.c (hs.t.h.c hs)⟩
    · cases hp
  case pop =>
    unfold pstep at hp; dsimp only at hp; split at hp
    · rename_i v st2
      cases g : iw v <;> rw [g] at hp <;> cases hp
      exact ⟨hL, hs.t⟩
    · cases hp
  case goto o => cases hp; exact ⟨hL, hs⟩
  case if_icmp q o => unfold pstep at hp; dsimp only at hp; split at hp <;> cases hp; exact ⟨hL, hs.t.t⟩
  case ifCond q o => unfold pstep at hp; dsimp only at hp; split at hp <;> cases hp; exact ⟨hL, hs.t⟩
  case ifnull o => unfold pstep at hp; dsimp only at hp; split at hp <;> cases hp; exact ⟨hL, hs.t⟩
  case ifnonnull o => unfold pstep at hp; dsimp only at hp; split at hp <;> cases hp; exact ⟨hL, hs.t⟩
  case tableswitch dd lo hi offs => unfold pstep at hp; dsimp only at hp; split at hp <;> cases hp; exact ⟨hL, hs.t⟩
  case lookupswitch dd ps => unfold pstep at hp; dsimp only at hp; split at hp <;> cases hp; exact ⟨hL, hs.t⟩
  all_goals (exact absurd hp (by simp [pstep]))
theorem VH.si {h : PH} {a k : Nat} {x : Int32} (g : VH h) : VH (si h a k x) := g
theorem VH.sL {h : PH} {a k : Nat} {x : Int64} (g : VH h) : VH (sL h a k x) := g
theorem VH.sd {h : PH} {a k : Nat} {x : UInt64} (g : VH h) : VH (sd h a k x) := g
theorem VH.sr {h : PH} {a k : Nat} {x : Option Nat} (g : VH h) (hx : vok (nx h) (vr x)) : VH (sr h a k x) := by
  intro b j c e
  show c < nx h
  have e : up2 (gr h) a k x b j = some c := e
  unfold up2 at e
  by_cases q : b = a ∧ j = k
  · rw [if_pos q] at e; exact hx c (by rw [e])
  · rw [if_neg q] at e; exact g b j c e
theorem VH.bump {h : PH} (g : VH h) : VH (bump h) := g
theorem VH.grow {h : PH} {n : Nat} (g : VH h) : VH (grow h n) := fun a k b e => Nat.lt_succ_of_lt (g a k b e)
/-- what a step of the heap keeps -/
theorem hstep_ok {T N : Nat → Nat} {e0 : PE} {pc : Nat} {st : List PV} {h : PH} {d : HC} (hp : hstep T N csz e0 pc st h = some d) (hs : VS (nx h) st) (hh : VH h) : (nx h ≤ nx d.2.2 ∧ ce h ≤ ce d.2.2) ∧ sl h ≤ sl d.2.2 ∧ VS (nx d.2.2) d.2.1 ∧ VH d.2.2 := by
  have ld : ∀ {P : Nat → Prop} {v : Nat → Nat → PV}, (∀ a k, vok (nx h) (v a k)) → hLd P N v pc st h = some d → (nx h ≤ nx d.2.2 ∧ ce h ≤ ce d.2.2) ∧ sl h ≤ sl d.2.2 ∧ VS (nx d.2.2) d.2.1 ∧ VH d.2.2 := by
    intro P v hv g
    unfold hLd at g
    split at g
    · obtain ⟨-, g⟩ := pif_some g; cases g; exact ⟨⟨Nat.le_refl _, Nat.le_refl _⟩, Nat.le_refl _, (hv _ _).c hs.t.t, hh⟩
    · cases g
  have stI : ∀ {t : Nat} {ok : Int32 → Prop}, hStI t T N ok pc st h = some d → (nx h ≤ nx d.2.2 ∧ ce h ≤ ce d.2.2) ∧ sl h ≤ sl d.2.2 ∧ VS (nx d.2.2) d.2.1 ∧ VH d.2.2 := by
    intro t ok g
    unfold hStI at g
    split at g
    · obtain ⟨-, g⟩ := pif_some g; cases g; exact ⟨⟨Nat.le_refl _, Nat.le_refl _⟩, Nat.le_refl _, hs.t.t.t, hh.si⟩
    · cases g
  have nw : ∀ {t q : Nat}, hNewa T N t q st h = some d → (nx h ≤ nx d.2.2 ∧ ce h ≤ ce d.2.2) ∧ sl h ≤ sl d.2.2 ∧ VS (nx d.2.2) d.2.1 ∧ VH d.2.2 := by
    intro t q g
    unfold hNewa at g
    split at g
    · obtain ⟨-, g⟩ := pif_some g; cases g; exact ⟨⟨Nat.le_succ _, Nat.le_succ _⟩, Nat.le_add_right _ _, VS.c (fun a z => by cases z; exact Nat.lt_succ_self _) (hs.t.up (Nat.le_succ _)), hh.grow⟩
    · cases g
  obtain ⟨i, len, ep, eq, er, ew, ey⟩ := e0
  cases i
  case getfield n =>
    have hp : hGet T _ pc st h = some d := hp
    unfold hGet at hp
    split at hp
    · obtain ⟨-, g⟩ := pif_some hp; cases g
      refine ⟨⟨Nat.le_refl _, Nat.le_refl _⟩, Nat.le_refl _, VS.c ?_ hs.t, hh⟩
      dsimp only
      cases Nat.beq er 1
      · exact vok_i _
      · exact fun b z => hh _ _ b (by injection z with z; injection z)
    · cases hp
  case putfield n =>
    have hp : hPut T _ pc st h = some d := hp
    unfold hPut at hp
    split at hp
    · obtain ⟨-, g⟩ := pif_some hp; cases g; exact ⟨⟨Nat.le_refl _, Nat.le_refl _⟩, Nat.le_refl _, hs.t.t, hh.si⟩
    · obtain ⟨-, g⟩ := pif_some hp; cases g; exact ⟨⟨Nat.le_refl _, Nat.le_refl _⟩, Nat.le_refl _, hs.t.t, hh.sr hs.h⟩
    · cases hp
  case iaload => exact ld (fun _ _ => vok_i _) hp
  case caload => exact ld (fun _ _ => vok_i _) hp
  case laload => exact ld (fun _ _ => vok_l _) hp
  case daload => exact ld (fun _ _ => vok_d _) hp
  case aaload => exact ld (v := fun a k => vr (gr h a k)) (fun a k b z => hh a k b (by injection z with z; injection z)) hp
  case arraylength =>
    have hp : hLen T N pc st h = some d := hp
    unfold hLen at hp
    split at hp
    · obtain ⟨-, g⟩ := pif_some hp; cases g; exact ⟨⟨Nat.le_refl _, Nat.le_refl _⟩, Nat.le_refl _, (vok_i _).c hs.t, hh⟩
    · cases hp
  case iastore => exact stI hp
  case castore => exact stI hp
  case lastore =>
    have hp : hStL T N pc st h = some d := hp
    unfold hStL at hp
    split at hp
    · obtain ⟨-, g⟩ := pif_some hp; cases g; exact ⟨⟨Nat.le_refl _, Nat.le_refl _⟩, Nat.le_refl _, hs.t.t.t, hh.sL⟩
    · cases hp
  case dastore =>
    have hp : hStD T N pc st h = some d := hp
    unfold hStD at hp
    split at hp
    · obtain ⟨-, g⟩ := pif_some hp; cases g; exact ⟨⟨Nat.le_refl _, Nat.le_refl _⟩, Nat.le_refl _, hs.t.t.t, hh.sd⟩
    · cases hp
  case aastore =>
    have hp : hStA T N pc st h = some d := hp
    unfold hStA at hp
    split at hp
    · obtain ⟨-, g⟩ := pif_some hp; cases g; exact ⟨⟨Nat.le_refl _, Nat.le_refl _⟩, Nat.le_refl _, hs.t.t.t, hh.sr hs.h⟩
    · cases hp
  case new n =>
    obtain ⟨-, g⟩ := pif_some hp; cases g
    exact ⟨⟨Nat.le_succ _, Nat.le_succ _⟩, Nat.le_add_right _ _, VS.c (fun a z => by cases z; exact Nat.lt_succ_self _) (hs.up (Nat.le_succ _)), hh.grow⟩
  case newarray n => exact nw hp
  case anewarray n => exact nw hp
  all_goals (exact absurd hp (by simp [hstep]))
theorem jstep_ok {b p : Nat} {st st2 : List PV} (h : jstep txt p st = some st2) (hs : VS b st) : VS b st2 := by
  unfold jstep at h
  split at h
  · split at h <;> cases h; exact hs.t
  · split at h <;> cases h; exact (vok_i _).c hs.t.t
  · split at h <;> cases h; exact (vok_i _).c hs.t.t
  · split at h <;> cases h; exact (vok_i _).c hs.t
  · split at h
    · obtain ⟨-, g⟩ := pif_some h; cases g; exact (vok_i _).c hs.t
    · cases h
  · split at h
    · obtain ⟨-, g⟩ := pif_some h; cases g; exact (vok_i _).c hs.t
    · cases h
  · split at h
    · obtain ⟨-, g⟩ := pif_some h; cases g; exact (vok_i _).c hs.t.t
    · cases h
  · cases h
theorem rets_st {i : Instr} {rk : Nat} {st : List PV} {v : Option PV} (h : rets i rk st = some v) : st = v.toList := by
  unfold rets at h
  split at h
  · split at h
    · obtain ⟨-, g⟩ := pif_some h; cases g; rfl
    · cases h
  · unfold retI at h
    split at h
    · obtain ⟨-, g⟩ := pif_some h; cases g; rfl
    · cases h
  · split at h
    · obtain ⟨-, g⟩ := pif_some h; cases g; rfl
    · cases h
  · split at h
    · obtain ⟨-, g⟩ := pif_some h; cases g; rfl
    · cases h
  · split at h
    · obtain ⟨-, g⟩ := pif_some h; cases g; rfl
    · obtain ⟨-, g⟩ := pif_some h; cases g; rfl
    · cases h
  · cases h
theorem ent_VL {b n : Nat} {as : List PV} (hs : VS b as) : VL b (ent as n) := by
  intro i v hv
  unfold lget at hv
  cases g : (ent as n)[i]? with
  | none => rw [g] at hv; cases hv
  | some x =>
    rw [g] at hv
    cases x with
    | none => cases hv
    | some w =>
      cases hv
      have hm : some v ∈ ent as n := List.mem_of_getElem? g
      unfold ent at hm
      rcases List.mem_append.mp hm with hm | hm
      · obtain ⟨u, hu, hm⟩ := List.mem_flatMap.mp hm
        cases q : iw u <;> rw [q] at hm <;> simp at hm <;> subst hm <;> exact hs _ hu
      · exact absurd (List.eq_of_mem_replicate hm) (by simp)
/-- a run: the heap grows, and what it hands back lies in it -/
theorem exec_ok {T N : Nat → Nat} : ∀ (n : Nat) {M pc : Nat} {L : PL} {st : List PV} {h : PH} {o : PR} {h2 : PH}, exec T N n M pc L st h = some (o, h2) → VL (nx h) L → VS (nx h) st → VH h → (nx h ≤ nx h2 ∧ ce h ≤ ce h2) ∧ sl h ≤ sl h2 ∧ VH h2 ∧ ∀ v, o = .inl (some v) → vok (nx h2) v := by
  intro n
  induction n with
  | zero => intro M pc L st h o h2 e; cases e
  | succ n ih =>
    intro M pc L st h o h2 e hL hs hh
    rw [exec] at e
    cases h1 : cod M pc with
    | none => rw [h1] at e; cases e
    | some c =>
      rw [h1] at e
      dsimp only at e
      cases h2' : pstep c pc L st with
      | some d =>
        rw [h2'] at e; dsimp only at e
        obtain ⟨a1, a2⟩ := pstep_ok h2' hL hs
        exact ih e a1 a2 hh
      | none =>
        rw [h2'] at e; dsimp only at e
        cases h3 : hstep T N csz c pc st h with
        | some d =>
          rw [h3] at e; dsimp only at e
          obtain ⟨a1, a2, a3, a4⟩ := hstep_ok h3 hs hh
          obtain ⟨b1, b2, b3, b4⟩ := ih e (hL.up a1.1) a3 a4
          exact ⟨⟨Nat.le_trans a1.1 b1.1, Nat.le_trans a1.2 b1.2⟩, Nat.le_trans a2 b2, b3, b4⟩
        | none =>
          rw [h3] at e; dsimp only at e
          cases h4 : rets c.1 (rk M) st with
          | some d =>
            rw [h4] at e; cases e
            refine ⟨⟨Nat.le_refl _, Nat.le_refl _⟩, Nat.le_refl _, hh, fun v hv => ?_⟩
            cases hv
            exact hs v (by rw [rets_st h4]; exact List.mem_singleton.mpr rfl)
          | none =>
            rw [h4] at e; dsimp only at e
            cases h5 : isInv c.1 with
            | false =>
              rw [h5] at e; dsimp only [cond_false] at e
              split at e
              · cases g : Nat.ble 100 c.2.2.1 with
                | false => rw [g] at e; cases e
                | true =>
                  rw [g] at e
                  obtain ⟨-, e⟩ := pif_some e
                  cases e
                  exact ⟨⟨Nat.le_refl _, Nat.le_succ _⟩, Nat.le_add_right _ _, hh.bump, fun v hv => nomatch hv⟩
              · cases e
            | true =>
              rw [h5] at e; dsimp only [cond_true] at e
              cases h6 : Nat.ble 1000 c.2.2.1 with
              | true =>
                rw [h6] at e; dsimp only [cond_true] at e
                cases h7 : jstep txt c.2.2.1 st with
                | none => rw [h7] at e; cases e
                | some d =>
                  rw [h7] at e; dsimp only at e
                  cases h8 : Nat.ble (wsum d) 8 with
                  | false => rw [h8] at e; cases e
                  | true => rw [h8] at e; exact ih e hL (jstep_ok h7 hs) hh
              | false =>
                rw [h6] at e; dsimp only [cond_false] at e
                obtain ⟨h7, e⟩ := pif_some e
                cases h8 : exec T N n c.2.2.1 0 (ent (st.take c.2.2.2.1).reverse (loc c.2.2.1)) [] h with
                | none => rw [h8] at e; cases e
                | some d =>
                  rw [h8] at e
                  obtain ⟨r, h9⟩ := d
                  obtain ⟨b1, b2, b3, b4⟩ := ih h8 (ent_VL (fun v hv => hs v (List.mem_of_mem_take (List.mem_reverse.mp hv)))) (fun v hv => nomatch hv) hh
                  cases r with
                  | inl v =>
                    dsimp only at e
                    obtain ⟨c1, c2, c3, c4⟩ := ih e (hL.up b1.1) (fun w hw => by
                      rcases List.mem_append.mp hw with q | q
                      · cases v with
                        | none => cases q
                        | some u => simp at q; subst q; exact b4 _ rfl
                      · exact (hs w (List.mem_of_mem_drop q)).up b1.1) b3
                    exact ⟨⟨Nat.le_trans b1.1 c1.1, Nat.le_trans b1.2 c1.2⟩, Nat.le_trans b2 c2, c3, c4⟩
                  | inr E =>
                    dsimp only at e
                    cases g : hfind pc E (hnd M) with
                    | none => rw [g] at e; cases e; exact ⟨b1, b2, b3, fun v hv => nomatch hv⟩
                    | some q =>
                      rw [g] at e; dsimp only at e
                      obtain ⟨c1, c2, c3, c4⟩ := ih e (hL.up b1.1).clr.set0 (fun v hv => nomatch hv) b3
                      exact ⟨⟨Nat.le_trans b1.1 c1.1, Nat.le_trans b1.2 c1.2⟩, Nat.le_trans b2 c2, c3, c4⟩
