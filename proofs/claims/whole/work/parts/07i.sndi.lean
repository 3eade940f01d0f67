/-! THE PURE MACHINE IS TRUE OF THE MACHINE, eighth part: bodies, and calls -/
section SNDI
variable {p : Program} {l : Launch} {e : Env} {R : Room} {s : State} {m : MethodId} {args : Array Value} {below : List Frame} {meth : Method} {c : Code} {D : va_G} {sad : String → Nat → Nat} {bs : Nat} {T N : Nat → Nat} {M : Nat}
theorem isIni_nm {M : Nat} (h : isIni M = true) : (mnm M).name = "<init>" := of_decide_eq_true h
/-- a body, out of a run -/
theorem body_W {n : Nat} (ih : Snd T N n) (hM : M < 288) (hT : tabOK M = true) (hm : mchk M = true) (hl : l.stackTraces = false) {as : List PV} {h h2 : PH} {o : PR} (ex : exec T N n M 0 (ent as (loc M)) [] h = some (o, h2)) (hlen : (ent as (loc M)).length = loc M) (hv : VS (nx h) as) (hH : VH h) (hb0 : bs ≤ nx h)
    {s₁ : State} (B : BodyLoose p l (mnm M) (headSpec (wsm M) (rmm M (ce h2 - ce h) (sl h2 - sl h))) (mby M) (loc M) (mre M) e s m (as.map (cv (sav sad))).toArray below meth c s₁) (hml : c.maxLocals = loc M) (htab : c.exceptionTable.toList = tableOf (mhh M)) (hP : PreU D sad bs T N h s) :
    W p l e (rmm M (ce h2 - ce h) (sl h2 - sl h)) s m (as.map (cv (sav sad))).toArray below meth c s.heap [] 0 0 (vx_MQ below (QcO D sad bs T N o h2) (XcO D bs T N o h2) (as.map (cv (sav sad))).toArray s (ce h2 - ce h) (sl h2 - sl h) (fun q => bs ≤ q)) (entryFrame m (as.map (cv (sav sad))).toArray (loc M)) := by
  have hVL : VL (nx h) (ent as (loc M)) := ent_VL hv
  obtain ⟨⟨q1, q2⟩, q3, -, -⟩ := exec_ok n ex hVL (fun v hv => by cases hv) hH
  have hts0 := atoms_spec (ws := wsm M) B.pre
  have hts : ∀ w ∈ goods, w.before (as.map (cv (sav sad))).toArray s = true := fun w h => hts0 w (List.mem_cons_of_mem _ h)
  have hown : s.vm.findClass (mnm M).cls = some m.cls := findClass_of_methodNamed B.named
  have hC : Ctx D sad bs M p l (rmm M (ce h2 - ce h) (sl h2 - sl h)) s m (as.map (cv (sav sad))).toArray meth c := ⟨B.exec, B.bytes, hml, hown, hts, B.notSynchronized, fun _ => htab, fun z => (name_of_methodNamed B.named B.method).1.trans (isIni_nm z), hl, hP.1, hP.2.1, Nat.le_refl _, Nat.le_refl _⟩
  rw [lg_entry_eq]
  have hLR := ent_LR (sa := sav sad) hlen
  exact ih ex (by omega) hC (end_of hM hT hm hC B.returns) hLR hlen hVL (fun v hv => by cases hv) hH hb0 hP.2.2 va_S.rf (by show 0 + ce h2 ≤ (ce h2 - ce h) + ce h; omega) (by show 0 + sl h2 ≤ (sl h2 - sl h) + sl h; omega)
/-- a method, out of a run -/
theorem met_of {n : Nat} (ih : Snd T N n) (hM : M < 288) (hT : tabOK M = true) (hm : mchk M = true) (hl : l.stackTraces = false) {as : List PV} {h h2 : PH} {o : PR} (ex : exec T N n M 0 (ent as (loc M)) [] h = some (o, h2)) (hlen : (ent as (loc M)).length = loc M) (hv : VS (nx h) as) (hH : VH h) (hb0 : bs ≤ nx h) :
    vx_Met l (mnm M) (wsm M) (rmm M (ce h2 - ce h) (sl h2 - sl h)) (va_Pc (as.map (cv (sav sad))) (PreU D sad bs T N h)) (QcO D sad bs T N o h2) (XcO D bs T N o h2) (ce h2 - ce h) (sl h2 - sl h) (fun q => bs ≤ q) := by
  obtain ⟨k1, k2, k3, k4, k5, k6, k7⟩ := mchk_at hm
  cases g : hnd M with
  | nil =>
    have hnil : mhh M = [] := hh_nil k7 g
    refine vx_ofW (cc := mby M) (maxL := loc M) (ret := mre M) (ws' := goods) k1 (by unfold wsm cdw; rw [g]) ?_
    intro p e s m args below meth c s₁ B hml htab hv9
    obtain ⟨rfl, hP⟩ := hv9
    refine body_W ih hM hT hm hl ex hlen hv hH hb0 B hml ?_ hP
    rw [hnil]
    exact List.eq_nil_iff_forall_not_mem.mpr htab
  | cons z y =>
    have hcd : cdw M = .codeWith (mnm M) (mby M) (loc M) (mre M) (mhh M) := by unfold cdw; rw [g]
    refine vx_ofWH (cc := mby M) (maxL := loc M) (ret := mre M) (ws' := goods) (hh := mhh M) k1 (by unfold wsm; rw [hcd]) ?_
    intro p e s m args below meth c s₁ B hml hv9
    obtain ⟨rfl, hP⟩ := hv9
    refine body_W ih hM hT hm hl ex hlen hv hH hb0 B hml ?_ hP
    exact vx_table (x := mnm M) B (atoms_spec (ws := wsm M) B.pre _ (by unfold wsm; rw [hcd]; exact List.mem_cons_self))
/-- behind a call -/
theorem call_end {h2 : PH} {o : PR} {a : Array Value} {H : Heap} {locs : List Loc} {cells slots mc ms : Nat} {Q : State → Prop} {pc : Nat} {ls : Array Slot} {st0 rest : List Value}
    (hr : vx_Run p l e R s m args below meth c H locs cells slots mc ms (F0 m pc ls st0) rest (QcO D sad bs T N o h2 a) (XcO D bs T N o h2) (fun q => bs ≤ q)) (hS : va_S (fun q => bs ≤ q) s.heap H locs)
    (kv : ∀ v, o = .inl v → ∀ (H2 : Heap) (L : List Loc), Rel D bs T N s h2 H2 → va_S (fun q => bs ≤ q) s.heap H2 L → W p l e R s m args below meth c H2 L (cells + mc) (slots + ms) Q (F0 m (pc + 3) ls (v.toList.map (cv (sav sad)) ++ rest)))
    (kx : ∀ E, o = .inr E → E < 6 → ∀ (H2 : Heap) (L : List Loc) (q : Addr) (ce : Cell), Rel D bs T N s h2 H2 → va_S (fun q => bs ≤ q) s.heap H2 L → H2[q]? = some ce → ce.vm = .none → s.vm.findClass (exn E) = some ce.cls → vx_W p l e R s m args below meth c H2 L (cells + mc) (slots + ms) Q (F0 m pc ls rest) q) :
    W p l e R s m args below meth c H locs cells slots Q (F0 m pc ls st0) := by
  intro T hT X
  rcases hr T hT X with ⟨v, st₀, t, T', L, h0, X', hL, e1, e2, ⟨⟨v', ho, hv, hR⟩, hF⟩, st⟩ | ⟨q, st₀, t, T', L, E, ce, h0, X', hL, e1, e2, ⟨⟨E', ho, hE, rfl, hR⟩, hF⟩, hce, hcv, hcl, st⟩
  · cases hv
    obtain ⟨k1, k2, k3⟩ := vx_keep (A0 := fun q => bs ≤ q) (A1 := fun q => bs ≤ q) h0 e1 hS (fun _ _ z => z) (fun _ z => z) hL hF
    have hal : t.vm.Alike s.vm := (show s.vm.Alike t.vm by rw [← e2]; exact X'.warmed.alike).symm
    obtain ⟨t2, a1, b1⟩ := kv v' ho T'.heap (locs ++ L) (by rw [e1]; exact hR.moved hal) k3 T' rfl X'
    refine ⟨t2, st t2 ?_, b1⟩
    have : (v'.map (cv (sav sad))).toList = v'.toList.map (cv (sav sad)) := by cases v' <;> rfl
    rw [this]
    exact a1
  · obtain ⟨k1, k2, k3⟩ := vx_keep (A0 := fun q => bs ≤ q) (A1 := fun q => bs ≤ q) h0 e1 hS (fun _ _ z => z) (fun _ z => z) hL hF
    have hal : t.vm.Alike s.vm := (show s.vm.Alike t.vm by rw [← e2]; exact X'.warmed.alike).symm
    obtain ⟨t2, a1, b1⟩ := kx E' ho hE T'.heap (locs ++ L) q ce (by rw [e1]; exact hR.moved hal) k3 (by rw [e1]; exact hce) hcv hcl T' rfl X'
    exact ⟨t2, st.trans a1, b1⟩
theorem st_split {st : List PV} {k : Nat} (hk : k ≤ st.length) : ∃ as : List PV, as = (st.take k).reverse ∧ as.length = k ∧ st = as.reverse ++ st.drop k :=
  ⟨_, rfl, by rw [List.length_reverse, List.length_take]; omega, by rw [List.reverse_reverse, List.take_append_drop]⟩
theorem gin0 {w0 : Jvm.Cond} (h : w0 ∈ goods) : GoodIn goods (w0 :: goods) := fun w hw => (List.mem_cons.mp hw).elim (fun e => ⟨e ▸ h, good_of_word (List.mem_filter.mp (e ▸ h)).2⟩) fun h => ⟨h, good_of_word (List.mem_filter.mp h).2⟩
theorem gin0V {w0 : Jvm.Cond} {own C : String} {i : Nat} {y : MethodName} (h : w0 ∈ goods) (h1 : Jvm.Cond.methodLink own i y ∈ goods) (h2 : Jvm.Cond.instanceMethod y ∈ goods) (h3 : Jvm.Cond.selects C y y ∈ goods) (h4 : Jvm.Cond.initialized C ∈ goods) : GoodIn goods (wsV own i C y (w0 :: goods)) := fun w hw => by
  have hg : ∀ w ∈ goods, w ∈ goods ∧ ((w.onTables && w.keeps) = true ∨ ∃ ty, w = .arrayClass ty) := fun w h => ⟨h, good_of_word (List.mem_filter.mp h).2⟩
  rcases List.mem_append.mp hw with q | q
  · simp only [List.mem_cons, List.not_mem_nil, or_false] at q
    rcases q with rfl | rfl | rfl | rfl
    · exact hg _ h1
    · exact hg _ h2
    · exact hg _ h3
    · exact hg _ h4
  · exact gin0 h w q
/-- the object that a method is called of -/
theorem recv_at {h : PH} {H : Heap} {a : Nat} (hK : va_K D cls12 [] s) (hR : Rel D bs T N s h H) (ha : a < nx h) (h1 : 1 ≤ T a) (h2 : T a ≤ 12) : ∃ cell : Cell, H[a]? = some cell ∧ cell.vm.isStatics = false ∧ s.vm.findClass (Rc (T a)) = some cell.cls := by
  have g := ((hR.2.1 a ha).1 h1 h2).2
  exact va_recv (ws := [(a, .inr (T a - 1, fsL h (T a) a))]) (q0 := 0) hK (fun k q hq => by
    have hz : k < 1 := (List.getElem?_eq_some_iff.mp hq).1
    rw [show k = 0 by omega] at hq
    cases hq
    exact g) (cls_at h1 h2) rfl
end SNDI
