/-! THE PURE MACHINE IS TRUE OF THE MACHINE, second part: the steps that the heap has no part in -/
section SNDB
variable {p : Program} {l : Launch} {e : Env} {R : Room} {s : State} {m : MethodId} {args : Array Value} {below : List Frame} {meth : Method} {c : Code} {H : Heap} {locs : List Loc} {cells slots : Nat} {Q : State → Prop}
variable {cc : ByteArray} {sa : Nat → Nat}
theorem bin_some {pc : Nat} {L : PL} {st : List PV} {f : Int32 → Int32 → Int32} {d : PC} (h : bin pc L st f = some d) : ∃ x y st2, st = vi y :: vi x :: st2 ∧ d = (pc, L, vi (f x y) :: st2) := by
  unfold bin at h
  split at h
  · cases h; exact ⟨_, _, _, rfl, rfl⟩
  · cases h
theorem bin0_some {pc : Nat} {L : PL} {st : List PV} {f : Int32 → Int32 → Int32} {d : PC} (h : bin0 pc L st f = some d) : ∃ x y st2, st = vi y :: vi x :: st2 ∧ ¬ y = 0 ∧ d = (pc, L, vi (f x y) :: st2) := by
  unfold bin0 at h
  split at h
  · rename_i y x st2
    by_cases g : y = 0
    · rw [if_pos g] at h; cases h
    · rw [if_neg g] at h; cases h; exact ⟨_, _, _, rfl, g, rfl⟩
  · cases h
theorem ldI_some {pc i : Nat} {L : PL} {st : List PV} {d : PC} (h : ldI pc L st i = some d) : ∃ x, lget L i = some (vi x) ∧ d = (pc, L, vi x :: st) := by
  unfold ldI at h
  split at h
  · rename_i x g; cases h; exact ⟨x, g, rfl⟩
  · cases h
theorem ldL_some {pc i : Nat} {L : PL} {st : List PV} {d : PC} (h : ldL pc L st i = some d) : ∃ x, lget L i = some (vl x) ∧ d = (pc, L, vl x :: st) := by
  unfold ldL at h
  split at h
  · rename_i x g; cases h; exact ⟨x, g, rfl⟩
  · cases h
theorem ldD_some {pc i : Nat} {L : PL} {st : List PV} {d : PC} (h : ldD pc L st i = some d) : ∃ x, lget L i = some (vd x) ∧ d = (pc, L, vd x :: st) := by
  unfold ldD at h
  split at h
  · rename_i x g; cases h; exact ⟨x, g, rfl⟩
  · cases h
theorem ldA_some {pc i : Nat} {L : PL} {st : List PV} {d : PC} (sa : Nat → Nat) (h : ldA pc L st i = some d) : ∃ (v : PV) (x : Option Nat), lget L i = some v ∧ cv sa v = va_rf x ∧ d = (pc, L, v :: st) := by
  unfold ldA at h
  split at h
  · rename_i x g; cases h; exact ⟨vr x, x, g, rfl, rfl⟩
  · rename_i x g; cases h; exact ⟨vs x, some (sa x), g, rfl, rfl⟩
  · cases h
theorem stI_some {pc i : Nat} {L : PL} {st : List PV} {d : PC} (h : stI pc L st i = some d) : ∃ x st2 L2, st = vi x :: st2 ∧ lput L i (vi x) = some L2 ∧ d = (pc, L2, st2) := by
  unfold stI at h
  split at h
  · obtain ⟨L2, g, rfl⟩ := Option.map_eq_some_iff.mp h; exact ⟨_, _, L2, rfl, g, rfl⟩
  · cases h
theorem stL_some {pc i : Nat} {L : PL} {st : List PV} {d : PC} (h : stL pc L st i = some d) : ∃ x st2 L2, st = vl x :: st2 ∧ lput L i (vl x) = some L2 ∧ d = (pc, L2, st2) := by
  unfold stL at h
  split at h
  · obtain ⟨L2, g, rfl⟩ := Option.map_eq_some_iff.mp h; exact ⟨_, _, L2, rfl, g, rfl⟩
  · cases h
theorem stD_some {pc i : Nat} {L : PL} {st : List PV} {d : PC} (h : stD pc L st i = some d) : ∃ x st2 L2, st = vd x :: st2 ∧ lput L i (vd x) = some L2 ∧ d = (pc, L2, st2) := by
  unfold stD at h
  split at h
  · obtain ⟨L2, g, rfl⟩ := Option.map_eq_some_iff.mp h; exact ⟨_, _, L2, rfl, g, rfl⟩
  · cases h
theorem stA_some {pc i : Nat} {L : PL} {st : List PV} {d : PC} (sa : Nat → Nat) (h : stA pc L st i = some d) : ∃ (v : PV) (x : Option Nat) (st2 : List PV) (L2 : PL), st = v :: st2 ∧ iw v = false ∧ cv sa v = va_rf x ∧ lput L i v = some L2 ∧ d = (pc, L2, st2) := by
  unfold stA at h
  split at h
  · rename_i r st2
    obtain ⟨L2, g, rfl⟩ := Option.map_eq_some_iff.mp h; exact ⟨vr r, r, _, L2, rfl, rfl, rfl, g, rfl⟩
  · rename_i j st2
    obtain ⟨L2, g, rfl⟩ := Option.map_eq_some_iff.mp h; exact ⟨vs j, some (sa j), _, L2, rfl, rfl, rfl, g, rfl⟩
  · cases h
set_option maxHeartbeats 4000000 in
set_option maxRecDepth 20000 in
/-- a step of place, locals and stack -/
theorem snd_p (hx : p.tables.exec = Jvm.exec) (hb : c.code = cc) {own : String} (hown : s.vm.findClass own = some m.cls) (hts : ∀ w ∈ goods, w.before args s = true) (hstr : ∀ j own k tx, tloc j = (own, k, tx) → Jvm.Cond.stringRef own k tx ∈ lw_tbl → vk_R own k tx (sa j) s)
    {e0 : PE} {pc : Nat} {L : PL} {st : List PV} {ls : Array Slot} {d : PC} (hdg : decode cc pc = .ok (e0.1, e0.2.1)) (hlen : isSw e0.1 = false → e0.2.1 = ilen e0.1) (hchk : chkP own pc e0 = true) (hp : pstep e0 pc L st = some d) (hl : LR sa L ls)
    (k : ∀ ls', LR sa d.2.1 ls' → d.2.1.length = L.length → W p l e R s m args below meth c H locs cells slots Q (F0 m d.1 ls' (d.2.2.map (cv sa)))) : W p l e R s m args below meth c H locs cells slots Q (F0 m pc ls (st.map (cv sa))) := by
  obtain ⟨i, len, ep, eq, er, ew, ey⟩ := e0
  dsimp only at hdg hlen
  have hh := hl.has
  cases i
  case iconst n => obtain rfl := hlen rfl; cases hp; exact lv_iconst hx hb hdg rfl (k ls hl rfl)
  case bipush n => obtain rfl := hlen rfl; cases hp; exact lv_bipush hx hb hdg rfl (k ls hl rfl)
  case sipush n => obtain rfl := hlen rfl; cases hp; exact lv_sipush hx hb hdg rfl (k ls hl rfl)
  case ldc n =>
    obtain rfl := hlen rfl
    unfold pstep at hp; unfold chkP at hchk
    dsimp only at hp hchk
    cases hz : Nat.beq ep 0 with
    | true =>
      rw [hz] at hp hchk
      cases hp
      exact lv_ldc hx hb hown (hts _ (wat_good hchk rfl)) hdg (k ls hl rfl)
    | false =>
      rw [hz] at hp hchk
      dsimp only [cond_false] at hp hchk
      cases hp
      simp only [Bool.and_eq_true, decide_eq_true_eq] at hchk
      exact va_ldcS hx hb hown (hstr eq own n _ hchk.2 (wat_mem hchk.1)) hdg (k ls hl rfl)
  case lconst n => obtain rfl := hlen rfl; cases hp; exact lv_lconst hx hb hdg rfl (k ls hl rfl)
  case dconst n =>
    obtain rfl := hlen rfl
    unfold pstep at hp
    dsimp only at hp
    cases hz : Nat.beq (n : Nat) 0 with
    | true =>
      rw [hz] at hp
      cases hp
      have : n = 0 := Fin.ext (by simpa using hz)
      subst this
      exact lv_dconst0 hx hb hdg (k ls hl rfl)
    | false => rw [hz] at hp; cases hp
  case aconst_null => obtain rfl := hlen rfl; cases hp; exact lv_null hx hb hdg (k ls hl rfl)
  case iload_n n => obtain rfl := hlen rfl; obtain ⟨x, g, rfl⟩ := ldI_some hp; exact lv_iload_n hx hb hdg rfl (hl.2.2 _ _ g) (k ls hl rfl)
  case iload n => obtain rfl := hlen rfl; obtain ⟨x, g, rfl⟩ := ldI_some hp; exact lv_iload hx hb hdg (hl.2.2 _ _ g) (k ls hl rfl)
  case lload_n n => obtain rfl := hlen rfl; obtain ⟨x, g, rfl⟩ := ldL_some hp; exact lv_lload_n hx hb hdg rfl (hl.2.2 _ _ g) (k ls hl rfl)
  case lload n => obtain rfl := hlen rfl; obtain ⟨x, g, rfl⟩ := ldL_some hp; exact lv_lload hx hb hdg (hl.2.2 _ _ g) (k ls hl rfl)
  case dload n => obtain rfl := hlen rfl; obtain ⟨x, g, rfl⟩ := ldD_some hp; exact lv_dload hx hb hdg (hl.2.2 _ _ g) (k ls hl rfl)
  case aload_n n =>
    obtain rfl := hlen rfl
    obtain ⟨v, x, g, g2, rfl⟩ := ldA_some sa hp
    have k2 := k ls hl rfl
    have g3 := hl.2.2 _ _ g
    dsimp only at k2
    rw [List.map_cons, g2] at k2
    rw [g2] at g3
    exact lv_aloadq_n hx hb hdg rfl g3 k2
  case aload n =>
    obtain rfl := hlen rfl
    obtain ⟨v, x, g, g2, rfl⟩ := ldA_some sa hp
    have k2 := k ls hl rfl
    have g3 := hl.2.2 _ _ g
    dsimp only at k2
    rw [List.map_cons, g2] at k2
    rw [g2] at g3
    exact lv_aloadq hx hb hdg g3 k2
  case istore_n n => obtain rfl := hlen rfl; obtain ⟨x, st2, L2, rfl, g, rfl⟩ := stI_some hp; exact lv_istore_n hx hb hdg rfl hh (lput_one rfl g).1 rfl (fun ls' h' => k ls' (LR_st1 (v := vi x) rfl g h') (lput_len g))
  case istore n => obtain rfl := hlen rfl; obtain ⟨x, st2, L2, rfl, g, rfl⟩ := stI_some hp; exact lv_istore hx hb hdg hh (lput_one rfl g).1 rfl (fun ls' h' => k ls' (LR_st1 (v := vi x) rfl g h') (lput_len g))
  case lstore_n n => obtain rfl := hlen rfl; obtain ⟨x, st2, L2, rfl, g, rfl⟩ := stL_some hp; exact lv_lstore_n hx hb hdg rfl hh (lput_two rfl g).1 rfl (fun ls' h' => k ls' (LR_st2 (v := vl x) rfl g h') (lput_len g))
  case lstore n => obtain rfl := hlen rfl; obtain ⟨x, st2, L2, rfl, g, rfl⟩ := stL_some hp; exact lv_lstore hx hb hdg hh (lput_two rfl g).1 rfl (fun ls' h' => k ls' (LR_st2 (v := vl x) rfl g h') (lput_len g))
  case dstore n => obtain rfl := hlen rfl; obtain ⟨x, st2, L2, rfl, g, rfl⟩ := stD_some hp; exact lv_dstore hx hb hdg hh (lput_two rfl g).1 rfl (fun ls' h' => k ls' (LR_st2 (v := vd x) rfl g h') (lput_len g))
  case astore_n n =>
    obtain rfl := hlen rfl
    obtain ⟨v, x, st2, L2, rfl, hv, g2, g, rfl⟩ := stA_some sa hp
    rw [List.map_cons, g2]
    exact lv_astoreq_n hx hb hdg rfl hh (lput_one hv g).1 (fun ls' h' => k ls' (LR_st1 (v := v) hv g (by rw [g2]; exact h')) (lput_len g))
  case astore n =>
    obtain rfl := hlen rfl
    obtain ⟨v, x, st2, L2, rfl, hv, g2, g, rfl⟩ := stA_some sa hp
    rw [List.map_cons, g2]
    exact lv_astoreq hx hb hdg hh (lput_one hv g).1 (fun ls' h' => k ls' (LR_st1 (v := v) hv g (by rw [g2]; exact h')) (lput_len g))
  case iinc n b =>
    obtain rfl := hlen rfl
    unfold pstep at hp
    dsimp only at hp
    split at hp
    · rename_i x g
      obtain ⟨L2, g2, rfl⟩ := Option.map_eq_some_iff.mp hp
      obtain ⟨z, hz⟩ := List.getElem?_of_mem (prs_mem (sa := sa) g)
      exact lv_iinc hx hb hdg hh hz rfl (lput_one rfl g2).1 rfl (fun ls' h' => k ls' (LR_st1 (v := vi (x + Int32.ofInt b)) rfl g2 h') (lput_len g2))
    · cases hp
  case iadd => obtain rfl := hlen rfl; obtain ⟨x, y, st2, rfl, rfl⟩ := bin_some hp; exact lv_iadd hx hb hdg (k ls hl rfl)
  case isub => obtain rfl := hlen rfl; obtain ⟨x, y, st2, rfl, rfl⟩ := bin_some hp; exact lv_isub hx hb hdg (k ls hl rfl)
  case imul => obtain rfl := hlen rfl; obtain ⟨x, y, st2, rfl, rfl⟩ := bin_some hp; exact lv_imul hx hb hdg (k ls hl rfl)
  case idiv => obtain rfl := hlen rfl; obtain ⟨x, y, st2, rfl, hz, rfl⟩ := bin0_some hp; exact lv_idiv hx hb hdg hz (k ls hl rfl)
  case irem => obtain rfl := hlen rfl; obtain ⟨x, y, st2, rfl, hz, rfl⟩ := bin0_some hp; exact lv_irem hx hb hdg hz (k ls hl rfl)
  case iand => obtain rfl := hlen rfl; obtain ⟨x, y, st2, rfl, rfl⟩ := bin_some hp; exact lv_iand hx hb hdg (k ls hl rfl)
  case ior => obtain rfl := hlen rfl; obtain ⟨x, y, st2, rfl, rfl⟩ := bin_some hp; exact lv_ior hx hb hdg (k ls hl rfl)
  case ishl => obtain rfl := hlen rfl; obtain ⟨x, y, st2, rfl, rfl⟩ := bin_some hp; exact lv_ishl hx hb hdg (k ls hl rfl)
  case ishr => obtain rfl := hlen rfl; obtain ⟨x, y, st2, rfl, rfl⟩ := bin_some hp; exact lv_ishr hx hb hdg (k ls hl rfl)
  case ineg =>
    obtain rfl := hlen rfl
    unfold pstep at hp; dsimp only at hp; split at hp
    · cases hp; exact lv_ineg hx hb hdg (k ls hl rfl)
    · cases hp
  case i2l =>
    obtain rfl := hlen rfl
    unfold pstep at hp; dsimp only at hp; split at hp
    · cases hp; exact lv_i2l hx hb hdg rfl (k ls hl rfl)
    · cases hp
  case i2d =>
    obtain rfl := hlen rfl
    unfold pstep at hp; dsimp only at hp; split at hp
    · cases hp; exact lv_i2d hx hb hdg (k ls hl rfl)
    · cases hp
  case i2c =>
    obtain rfl := hlen rfl
    unfold pstep at hp; dsimp only at hp; split at hp
    · cases hp; exact lv_i2c hx hb hdg rfl (k ls hl rfl)
    · cases hp
  case lsub =>
    obtain rfl := hlen rfl
    unfold pstep at hp; dsimp only at hp; split at hp
    · cases hp; exact lv_lsub hx hb hdg (k ls hl rfl)
    · cases hp
  case land =>
    obtain rfl := hlen rfl
    unfold pstep at hp; dsimp only at hp; split at hp
    · cases hp; exact lv_land hx hb hdg (k ls hl rfl)
    · cases hp
  case lor =>
    obtain rfl := hlen rfl
    unfold pstep at hp; dsimp only at hp; split at hp
    · cases hp; exact lv_lor hx hb hdg (k ls hl rfl)
    · cases hp
  case lshl =>
    obtain rfl := hlen rfl
    unfold pstep at hp; dsimp only at hp; split at hp
    · cases hp; exact lv_lshl hx hb hdg rfl (k ls hl rfl)
    · cases hp
  case lshr =>
    obtain rfl := hlen rfl
    unfold pstep at hp; dsimp only at hp; split at hp
    · cases hp; exact lv_lshr hx hb hdg rfl (k ls hl rfl)
    · cases hp
  case lcmp =>
    obtain rfl := hlen rfl
    unfold pstep at hp; dsimp only at hp; split at hp
    · cases hp; exact W.lcmp hx hb hdg (k ls hl rfl)
    · cases hp
  case dcmp op =>
    obtain rfl := hlen rfl
    unfold pstep at hp; dsimp only at hp; split at hp
    · cases hp; exact lv_dcmp hx hb hdg (k ls hl rfl)
    · cases hp
  case ddiv =>
    obtain rfl := hlen rfl
    unfold pstep at hp; dsimp only at hp; split at hp
    · rename_i y x st2
      by_cases g : vf_n64 (FP.ddiv x y)
      · rw [if_pos g] at hp; cases hp; exact lv_ddiv hx hb hdg g (k ls hl rfl)
      · rw [if_neg g] at hp; cases hp
    · cases hp
  case dup =>
    obtain rfl := hlen rfl
    unfold pstep at hp; dsimp only at hp; split at hp
    · rename_i v st2
      cases g : iw v with
      | true => rw [g] at hp; cases hp
      | false => rw [g] at hp; cases hp; exact lv_dup hx hb hdg (cv_one g) (k ls hl rfl)
    · cases hp
  case dup2 =>
    obtain rfl := hlen rfl
    unfold pstep at hp; dsimp only at hp; split at hp
    · rename_i v w st2
      cases g : iw v <;> cases g2 : iw w <;> rw [g, g2] at hp <;> cases hp
      exact lv_dup2_11 hx hb hdg (cv_one g) (cv_one g2) (k ls hl rfl)
    · cases hp
  case pop =>
    obtain rfl := hlen rfl
    unfold pstep at hp; dsimp only at hp; split at hp
    · rename_i v st2
      cases g : iw v with
      | true => rw [g] at hp; cases hp
      | false => rw [g] at hp; cases hp; exact lv_pop hx hb hdg (cv_one g) (k ls hl rfl)
    · cases hp
  case goto o => obtain rfl := hlen rfl; cases hp; exact lv_goto hx hb hdg (of_decide_eq_true hchk) (k ls hl rfl)
  case if_icmp q o =>
    obtain rfl := hlen rfl
    have ht : (pc : Int) + o = (ep : Int) := of_decide_eq_true hchk
    unfold pstep at hp; dsimp only at hp; split at hp
    · rename_i y x st2
      cases hp
      have k2 := k ls hl rfl
      dsimp only at k2
      unfold cmpP at k2
      have kt : cmpC q x y → W p l e R s m args below meth c H locs cells slots Q (F0 m ep ls (st2.map (cv sa))) := fun g => by rw [if_pos g] at k2; exact k2
      have kf : ¬ cmpC q x y → W p l e R s m args below meth c H locs cells slots Q (F0 m (pc + 3) ls (st2.map (cv sa))) := fun g => by rw [if_neg g] at k2; exact k2
      cases q
      · exact lv_icmp_eq hx hb hdg ht kt kf
      · exact lv_icmp_ne hx hb hdg ht kt (fun g => kf (fun z => z g))
      · exact lv_icmp_lt hx hb hdg ht kt kf
      · exact lv_icmp_ge hx hb hdg ht kt kf
      · exact lv_icmp_gt hx hb hdg ht kt kf
      · exact lv_icmp_le hx hb hdg ht kt kf
    · cases hp
  case ifCond q o =>
    obtain rfl := hlen rfl
    have ht : (pc : Int) + o = (ep : Int) := of_decide_eq_true hchk
    unfold pstep at hp; dsimp only at hp; split at hp
    · rename_i x st2
      cases hp
      have k2 := k ls hl rfl
      dsimp only at k2
      unfold cmpP at k2
      have kt : cmpC q x 0 → W p l e R s m args below meth c H locs cells slots Q (F0 m ep ls (st2.map (cv sa))) := fun g => by rw [if_pos g] at k2; exact k2
      have kf : ¬ cmpC q x 0 → W p l e R s m args below meth c H locs cells slots Q (F0 m (pc + 3) ls (st2.map (cv sa))) := fun g => by rw [if_neg g] at k2; exact k2
      cases q
      · exact lv_if_eq hx hb hdg ht kt kf
      · exact lv_if_ne hx hb hdg ht kt (fun g => kf (fun z => z g))
      · exact lv_if_lt hx hb hdg ht kt kf
      · exact lv_if_ge hx hb hdg ht kt kf
      · exact lv_if_gt hx hb hdg ht kt kf
      · exact lv_if_le hx hb hdg ht kt kf
    · cases hp
  case ifnull o =>
    obtain rfl := hlen rfl
    have ht : (pc : Int) + o = (ep : Int) := of_decide_eq_true hchk
    unfold pstep at hp; dsimp only at hp; split at hp
    · rename_i r st2
      cases r with
      | none => cases hp; exact lv_ifnullN hx hb hdg ht (k ls hl rfl)
      | some a => cases hp; exact lv_ifnull hx hb hdg (k ls hl rfl)
    · cases hp
  case ifnonnull o =>
    obtain rfl := hlen rfl
    have ht : (pc : Int) + o = (ep : Int) := of_decide_eq_true hchk
    unfold pstep at hp; dsimp only at hp; split at hp
    · rename_i r st2
      cases r with
      | none => cases hp; exact lv_ifnonnullN hx hb hdg (k ls hl rfl)
      | some a => cases hp; exact lv_ifnonnull hx hb hdg ht (k ls hl rfl)
    · cases hp
  case tableswitch dd lo hi offs =>
    unfold pstep at hp; unfold chkP at hchk; dsimp only at hp hchk
    simp only [Bool.and_eq_true, decide_eq_true_eq] at hchk
    obtain ⟨⟨⟨⟨h1, h2⟩, h3⟩, h4⟩, h5⟩ := hchk
    split at hp
    · rename_i x st2
      cases hp
      have k2 := k ls hl rfl
      dsimp only [swl] at k2
      rw [show List.range offs.size = List.range' 0 offs.size from List.range_eq_range', swf_tab h3 0 offs.size (by omega) (by omega)] at k2
      by_cases g : lo + ((0 : Nat) : Int) ≤ x.toInt ∧ x.toInt < lo + offs.size
      · rw [if_pos g] at k2
        have hi5 := h5 (x.toInt - lo).toNat (by omega)
        have hget : offs[(x.toInt - lo).toNat]? = some (offs.getD (x.toInt - lo).toNat 0) := by
          rw [Array.getD_eq_getD_getElem?, Array.getElem?_eq_getElem (by omega)]; rfl
        exact lv_tableIn hx hb hdg (by omega) (by omega) hget (by omega) k2
      · rw [if_neg g] at k2
        refine lv_tableOut hx hb hdg ?_ (tgt := ((pc : Int) + dd).toNat) (by omega) k2
        first | omega | (rcases Int.lt_or_le x.toInt lo with z | z; exact Or.inl z; exact Or.inr (by omega))
    · cases hp
  case lookupswitch dd ps =>
    unfold pstep at hp; unfold chkP at hchk; dsimp only at hp hchk
    simp only [Bool.and_eq_true, decide_eq_true_eq] at hchk
    obtain ⟨⟨h1, h2⟩, h3⟩ := hchk
    split at hp
    · rename_i x st2
      cases hp
      have k2 := k ls hl rfl
      dsimp only [swl] at k2
      exact lv_lookup hx hb hdg h3 rfl (swf_look ps.toList h2 h1) k2
    · cases hp
  all_goals (exact absurd hp (by simp [pstep]))
end SNDB
