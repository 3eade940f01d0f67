/-! THE PURE MACHINE IS TRUE OF THE MACHINE, ninth part: a call -/
section SNDJ
variable {p : Program} {l : Launch} {e : Env} {R : Room} {s : State} {m : MethodId} {args : Array Value} {below : List Frame} {meth : Method} {c : Code} {D : va_G} {sad : String → Nat → Nat} {bs : Nat} {T N : Nat → Nat} {M : Nat}
theorem isInv_cs {i : Instr} (h : isInv i = true) : (∃ k, i = .invokevirtual k) ∨ (∃ k, i = .invokestatic k) ∨ ∃ k, i = .invokespecial k := by
  unfold isInv at h
  split at h
  · exact Or.inl ⟨_, rfl⟩
  · exact Or.inr (Or.inl ⟨_, rfl⟩)
  · exact Or.inr (Or.inr ⟨_, rfl⟩)
  · cases h
theorem blt_lt {a b : Nat} (h : Nat.blt a b = true) : a < b := by simpa using h
theorem not_b {b : Bool} (h : (!b) = true) : b = false := by cases b <;> simp_all
theorem beq_ne {a b : Nat} (h : Nat.beq a b = false) : a ≠ b := fun z => by subst z; simp at h
theorem call_run {n : Nat} (ih : Snd T N n) (aT : ∀ M, M < 289 → tabOK M = true) (aM : ∀ M, M < 288 → mchk M = true) (aL : ∀ M, M < 288 → loc M ≤ 81) {e0 : PE} {pc : Nat} {st : List PV} {h h2 : PH} {o : PR} (hM : M < 289) (hk : cod M pc = some e0) (hi : isInv e0.1 = true) (hp : Nat.ble 1000 e0.2.2.1 = false) (hok : cOK loc rt T e0 st)
    (ex : exec T N n e0.2.2.1 0 (ent (st.take e0.2.2.2.1).reverse (loc e0.2.2.1)) [] h = some (o, h2)) (hC : Ctx D sad bs M p l R s m args meth c) {ls : Array Slot} {H : Heap} {locs : List Loc} {cells slots : Nat} {Q : State → Prop} (hsz : ls.size = loc M) (hv : VS (nx h) st) (hH : VH h) (hb0 : bs ≤ nx h) (hR : Rel D bs T N s h H) (hS : va_S (fun q => bs ≤ q) s.heap H locs) (hcl : cells + (ce h2 - ce h) ≤ R.cells) (hsl : slots + (sl h2 - sl h) ≤ R.slots)
    (kv : ∀ v, o = .inl v → ∀ (H2 : Heap) (L : List Loc), Rel D bs T N s h2 H2 → va_S (fun q => bs ≤ q) s.heap H2 L → W p l e R s m args below meth c H2 L (cells + (ce h2 - ce h)) (slots + (sl h2 - sl h)) Q (F0 m (pc + 3) ls (v.toList.map (cv (sav sad)) ++ (st.drop e0.2.2.2.1).map (cv (sav sad)))))
    (kx : ∀ E, o = .inr E → E < 6 → ∀ (H2 : Heap) (L : List Loc) (q : Addr) (ce0 : Cell), Rel D bs T N s h2 H2 → va_S (fun q => bs ≤ q) s.heap H2 L → H2[q]? = some ce0 → ce0.vm = .none → s.vm.findClass (exn E) = some ce0.cls → vx_W p l e R s m args below meth c H2 L (cells + (ce h2 - ce h)) (slots + (sl h2 - sl h)) Q (F0 m pc ls ((st.drop e0.2.2.2.1).map (cv (sav sad)))) q) :
    W p l e R s m args below meth c H locs cells slots Q (F0 m pc ls (st.map (cv (sav sad)))) := by
  obtain ⟨hx, hb, hml, hown, hts, hlk, htab, hini, hl, hT, hF, hfr, hlo⟩ := hC
  obtain ⟨d1, d2, -, -, d5⟩ := row_at (aT M hM) hk
  obtain ⟨ei, elen, P, q, r, w, y⟩ := e0
  dsimp only at hi hp hok ex kv kx d1 d2 d5
  unfold cOK at hok
  dsimp only at hok
  obtain ⟨ok1, ok2, ok3, ok4⟩ := hok
  obtain ⟨as, has, hal, hst⟩ := st_split ok1
  rw [← has] at ex ok3 ok4
  have hva : VS (nx h) as := fun v hvv => hv v (by rw [hst]; exact List.mem_append_left _ (List.mem_reverse.mpr hvv))
  have hrest : (((st.drop q).map (cv (sav sad))).map fun v => v.category).sum ≤ 8 := by rw [cv_sum]; exact ok2
  have hmap : st.map (cv (sav sad)) = (as.map (cv (sav sad))).reverse ++ (st.drop q).map (cv (sav sad)) := by
    rw [← List.map_reverse, ← List.map_append, ← hst]
  have hFH : HF (fun q => bs ≤ q) (sav sad) s H := hF.kept (fun a ha hn => hS.2.1 a ha hn)
  have hpre : ∀ U : State, U.heap = H → s.WarmedH U.vm → va_Pc (as.map (cv (sav sad))) (PreU D sad bs T N h) (as.map (cv (sav sad))).toArray U := fun U hU hW => ⟨rfl, PreU.warm hW hT (by rw [hU]; exact hFH) (by rw [hU]; exact hR)⟩
  have hbl : FrameBlind (va_Pc (as.map (cv (sav sad))) (PreU D sad bs T N h)) := frame_blind fun U V e1 e2 g => PreU.same U V e1 e2 g
  have hfix : CallFix p m c (mby M) (loc M) s args goods (mnm M).cls := ⟨hx, hb, hml, hown, hts⟩
  have main : P < 288 → dep P < dep M → vx_Met l (mnm P) (wsm P) (rmm P (ce h2 - ce h) (sl h2 - sl h)) (va_Pc (as.map (cv (sav sad))) (PreU D sad bs T N h)) (QcO D sad bs T N o h2) (XcO D bs T N o h2) (ce h2 - ce h) (sl h2 - sl h) (fun q => bs ≤ q) ∧ ((rmm P (ce h2 - ce h) (sl h2 - sl h)).frames + 1 ≤ R.frames ∧ 8 + (loc P + 11) + (rmm P (ce h2 - ce h) (sl h2 - sl h)).locals ≤ R.locals) := fun hP hd => by
    refine ⟨met_of ih hP (aT P (by omega)) (aM P hP) hl ex ok3 hva hH hb0, ?_, ?_⟩
    · show dep P + 9 + 1 ≤ R.frames; omega
    · show 8 + (loc P + 11) + (300 + 100 * dep P) ≤ R.locals
      have := aL P hP
      omega
  unfold chkC at d5
  rcases isInv_cs hi with ⟨i, rfl⟩ | ⟨i, rfl⟩ | ⟨i, rfl⟩
  · dsimp only at d5
    rw [hp] at d5
    simp only [cond_false, Bool.and_eq_true, decide_eq_true_eq] at d5
    obtain ⟨⟨⟨⟨⟨⟨c1, c2⟩, c3⟩, c4⟩, c5⟩, c6⟩, c7⟩ := d5
    have c1 := blt_lt c1
    have c3 := Nat.eq_of_beq_eq_true c3
    have c4 := beq_ne (not_b c4)
    have c6 := List.isEmpty_iff.mp c6
    obtain ⟨hMet, hroom⟩ := main c1 (blt_lt c2)
    obtain ⟨k1, k2, k3, k4, k5, k6, k7⟩ := mchk_at (aM P c1)
    obtain ⟨j1, j2, j3, j4, -, j6⟩ := k6 c4
    have hlen : elen = 3 := d2 rfl
    subst hlen
    have hcw : wsm P = .code (mnm P) (mby P) (loc P) (mre P) :: goods := by unfold wsm cdw; rw [c6]
    rcases ok4 with ok4 | ⟨a, ha, hTa⟩
    · exact absurd ok4 c4
    cases as with
    | nil => cases ha
    | cons v as' =>
      cases ha
      have hlen' : as'.length = mnr P := by simp only [List.length_cons] at hal; omega
      have hrecv := recv_at hT.1 hR (hva (vr (some a)) List.mem_cons_self a rfl) (by omega) (by omega)
      rw [hTa, ← j4] at hrecv
      rw [hmap]
      have hstk : ((vr (some a) :: as').map (cv (sav sad))).reverse ++ (st.drop q).map (cv (sav sad)) = (as'.map (cv (sav sad))).reverse ++ .ref a :: (st.drop q).map (cv (sav sad)) := by
        rw [List.map_cons, List.reverse_cons, List.append_assoc]; rfl
      rw [hstk]
      cases g : Nat.beq r 0 with
      | true =>
        rw [g] at c7
        simp only [cond_true] at c7
        refine call_end (vx_runV (As := as'.map (cv (sav sad))) (C := (mnm P).cls) (n := mnr P) hfix hMet ⟨callB_of (mnr P) hts (gin0 (good_code (aM P c1))) hcw rfl rfl (hts _ k4) (hts _ (wat_good c7 rfl)) k2 hroom, hts _ j1, hts _ (j6 c5)⟩ ⟨hbl, hrecv, hpre⟩ rfl (by rw [List.length_map]; exact hlen') hsz rfl (lv_room hrest) d1 ⟨hcl, hsl⟩) hS kv kx
      | false =>
        rw [g] at c7
        simp only [cond_false, Bool.and_eq_true] at c7
        refine call_end (vx_runVN (As := as'.map (cv (sav sad))) (C := (mnm P).cls) (n := mnr P) hfix hMet ⟨va_cnB (mnr P) hts (gin0 (good_code (aM P c1))) hcw rfl rfl (hT.2.1 _ _ _ _ (wat_mem c7.2)) (hts _ k4) k2 hroom, hts _ j1, hts _ (j6 c5)⟩ ⟨hbl, hrecv, hpre⟩ rfl (by rw [List.length_map]; exact hlen') hsz rfl (lv_room hrest) d1 ⟨hcl, hsl⟩) hS kv kx
  · dsimp only at d5
    rw [hp] at d5
    simp only [cond_false, Bool.and_eq_true, decide_eq_true_eq] at d5
    obtain ⟨⟨⟨⟨c1, c2⟩, c3⟩, c4⟩, c7⟩ := d5
    have c1 := blt_lt c1
    have c3 := Nat.eq_of_beq_eq_true c3
    have c4 := Nat.eq_of_beq_eq_true c4
    obtain ⟨hMet, hroom⟩ := main c1 (blt_lt c2)
    obtain ⟨k1, k2, k3, k4, k5, k6, k7⟩ := mchk_at (aM P c1)
    have hlen : elen = 3 := d2 rfl
    subst hlen
    have hn : (as.map (cv (sav sad))).length = mnr P := by rw [List.length_map]; omega
    rw [hmap]
    cases g : Nat.beq r 1 with
    | true =>
      rw [g] at c7
      simp only [cond_true] at c7
      cases hh : hnd P with
      | nil =>
        have hcw : wsm P = .code (mnm P) (mby P) (loc P) (mre P) :: goods := by unfold wsm cdw; rw [hh]
        refine call_end (vx_runS (As := as.map (cv (sav sad))) (n := mnr P) hfix hMet ⟨callB_of (mnr P) hts (gin0 (good_code (aM P c1))) hcw rfl rfl (hts _ k4) (hts _ (wat_good c7 rfl)) k2 hroom, hts _ (k5 c4)⟩ ⟨hbl, hpre⟩ rfl hn hsz rfl (lv_room hrest) d1 ⟨hcl, hsl⟩) hS kv kx
      | cons z1 z2 =>
        have hcd : cdw P = .codeWith (mnm P) (mby P) (loc P) (mre P) (mhh P) := by unfold cdw; rw [hh]
        have hG : GoodIn goods (wsm P) := gin0 (good_code (aM P c1))
        refine call_end (vx_runSX (As := as.map (cv (sav sad))) (n := mnr P) (hh := mhh P) hfix hMet ⟨⟨rfl, rfl, hroom.1, hroom.2, fun w hw a' U hW => word_at hW (hG w hw).2 (hts w (hG w hw).1), by unfold wsm; rw [hcd]; exact List.mem_cons_self⟩, hts _ (hcd ▸ good_code (aM P c1)), hts _ k4, ⟨k2.1, k2.2.1⟩, fun sig hsig => ?_, hts _ (wat_good c7 rfl), hts _ (k5 c4)⟩ ⟨hbl, hpre⟩ rfl hn hsz rfl (lv_room hrest) d1 ⟨hcl, hsl⟩) hS kv kx
        have := k2.2.2
        rw [hsig] at this
        exact (Option.some.inj this).symm
    | false =>
      rw [g] at c7
      simp only [cond_false, Bool.and_eq_true] at c7
      have hcw : wsm P = .code (mnm P) (mby P) (loc P) (mre P) :: goods := by unfold wsm cdw; rw [List.isEmpty_iff.mp c7.2]
      refine call_end (vx_runSN (As := as.map (cv (sav sad))) (n := mnr P) hfix hMet ⟨va_cnB (mnr P) hts (gin0 (good_code (aM P c1))) hcw rfl rfl (hT.2.1 _ _ _ _ (wat_mem c7.1.2)) (hts _ k4) k2 hroom, hts _ (k5 c4), trivial⟩ ⟨hbl, hpre⟩ rfl hn hsz rfl (lv_room hrest) d1 ⟨hcl, hsl⟩) hS kv kx
  · dsimp only at d5
    rw [hp] at d5
    simp only [cond_false, Bool.and_eq_true, decide_eq_true_eq] at d5
    obtain ⟨⟨⟨⟨⟨⟨c1, c2⟩, c3⟩, c4⟩, c5⟩, c6⟩, c7⟩ := d5
    have c1 := blt_lt c1
    have c3 := Nat.eq_of_beq_eq_true c3
    have c4 := beq_ne (not_b c4)
    have c6 := List.isEmpty_iff.mp c6
    obtain ⟨hMet, hroom⟩ := main c1 (blt_lt c2)
    obtain ⟨k1, k2, k3, k4, k5, k6, k7⟩ := mchk_at (aM P c1)
    obtain ⟨j1, j2, j3, j4, j5, -⟩ := k6 c4
    have hlen : elen = 3 := d2 rfl
    subst hlen
    have hcw : wsm P = .code (mnm P) (mby P) (loc P) none :: goods := by unfold wsm cdw; rw [c6, j5 c5]
    rcases ok4 with ok4 | ⟨a, ha, hTa⟩
    · exact absurd ok4 c4
    cases as with
    | nil => cases ha
    | cons v as' =>
      cases ha
      have hlen' : as'.length = mnr P := by simp only [List.length_cons] at hal; omega
      rw [hmap]
      have hstk : ((vr (some a) :: as').map (cv (sav sad))).reverse ++ (st.drop q).map (cv (sav sad)) = (as'.map (cv (sav sad))).reverse ++ .ref a :: (st.drop q).map (cv (sav sad)) := by
        rw [List.map_cons, List.reverse_cons, List.append_assoc]; rfl
      rw [hstk]
      cases g : Nat.beq r 2 with
      | true =>
        rw [g] at c7
        simp only [cond_true] at c7
        refine call_end (vx_runI (As := as'.map (cv (sav sad))) (n := mnr P) hfix hMet ⟨callB_of (mnr P) hts (gin0 (good_code (aM P c1))) hcw rfl rfl (hts _ k4) (hts _ (wat_good c7 rfl)) k2 hroom, c5, hts _ j1⟩ ⟨hbl, hpre⟩ rfl (by rw [List.length_map]; exact hlen') hsz rfl (lv_room hrest) d1 ⟨hcl, hsl⟩) hS kv kx
      | false =>
        rw [g] at c7
        simp only [cond_false, Bool.and_eq_true] at c7
        refine call_end (vx_runIN (As := as'.map (cv (sav sad))) (n := mnr P) hfix hMet ⟨va_cnB (mnr P) hts (gin0 (good_code (aM P c1))) hcw rfl rfl (hT.2.1 _ _ _ _ (wat_mem c7.2)) (hts _ k4) k2 hroom, c5, hts _ j1⟩ ⟨hbl, hpre⟩ rfl (by rw [List.length_map]; exact hlen') hsz rfl (lv_room hrest) d1 ⟨hcl, hsl⟩) hS kv kx
end SNDJ
