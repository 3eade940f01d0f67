/-! THE PURE MACHINE IS TRUE OF THE MACHINE, tenth part: members of the JDK, and the whole -/
section SNDK
variable {p : Program} {l : Launch} {e : Env} {R : Room} {s : State} {m : MethodId} {args : Array Value} {below : List Frame} {meth : Method} {c : Code} {D : va_G} {sad : String → Nat → Nat} {bs : Nat} {T N : Nat → Nat} {M : Nat}
theorem jstep_cs {p : Nat} {st st2 : List PV} (h : jstep txt p st = some st2) : (p = 1000 ∧ ∃ a, st = vr (some a) :: st2) ∨ (p = 1001 ∧ ∃ x y r, st = vi y :: vi x :: r ∧ st2 = vi (if x < y then y else x) :: r) ∨ (p = 1002 ∧ ∃ x y r, st = vi y :: vi x :: r ∧ st2 = vi (if y < x then y else x) :: r) ∨ (p = 1003 ∧ ∃ x r, st = vi x :: r ∧ st2 = vi (if 0 ≤ x then x else 0 - x) :: r) ∨
    (p = 1004 ∧ ∃ j r, st = vs j :: r ∧ j < 5 ∧ st2 = vi (Int32.ofNat (txt j).length) :: r) ∨ (p = 1005 ∧ ∃ j r, st = vs j :: r ∧ j < 5 ∧ st2 = vi (if (txt j).length = 0 then 1 else 0) :: r) ∨ (p = 1006 ∧ ∃ i j r, st = vi i :: vs j :: r ∧ j < 5 ∧ inb i (txt j).length ∧ st2 = vi ((txt j).getD i.toNatClampNeg 0) :: r) := by
  unfold jstep at h
  split at h
  · split at h <;> cases h; exact Or.inl ⟨rfl, _, rfl⟩
  · split at h <;> cases h; exact Or.inr (Or.inl ⟨rfl, _, _, _, rfl, rfl⟩)
  · split at h <;> cases h; exact Or.inr (Or.inr (Or.inl ⟨rfl, _, _, _, rfl, rfl⟩))
  · split at h <;> cases h; exact Or.inr (Or.inr (Or.inr (Or.inl ⟨rfl, _, _, rfl, rfl⟩)))
  · split at h
    · obtain ⟨g1, g⟩ := pif_some h; cases g; exact Or.inr (Or.inr (Or.inr (Or.inr (Or.inl ⟨rfl, _, _, rfl, g1, rfl⟩))))
    · cases h
  · split at h
    · obtain ⟨g1, g⟩ := pif_some h; cases g; exact Or.inr (Or.inr (Or.inr (Or.inr (Or.inr (Or.inl ⟨rfl, _, _, rfl, g1, rfl⟩)))))
    · cases h
  · split at h
    · obtain ⟨g1, g⟩ := pif_some h; cases g; exact Or.inr (Or.inr (Or.inr (Or.inr (Or.inr (Or.inr ⟨rfl, _, _, _, rfl, g1.1, g1.2, rfl⟩)))))
    · cases h
  · cases h
set_option maxRecDepth 100000 in
theorem jdk_words : (decide (Jvm.Cond.instanceMethod Lib.objectInit ∈ lw_tbl) && decide (Jvm.Cond.code Lib.objectInit ⟨#[0xb1]⟩ 1 none ∈ lw_tbl) && decide (Jvm.Cond.initialized "java/lang/Math" ∈ lw_tbl) && decide (Jvm.Cond.static Lib.Math.max.name ∈ lw_tbl) && decide (Jvm.Cond.code Lib.Math.max.name Lib.Math.max.code 2 (some .int) ∈ lw_tbl) && decide (Jvm.Cond.static Lib.Math.min.name ∈ lw_tbl) && decide (Jvm.Cond.code Lib.Math.min.name Lib.Math.min.code 2 (some .int) ∈ lw_tbl) && decide (Jvm.Cond.static Lib.Math.abs.name ∈ lw_tbl) && decide (Jvm.Cond.code Lib.Math.abs.name Lib.Math.abs.code 1 (some .int) ∈ lw_tbl)) = true := by decide +kernel
theorem jdk_run {e0 : PE} {pc : Nat} {st st2 : List PV} (aT : ∀ M, M < 289 → tabOK M = true) (hM : M < 289) (hk : cod M pc = some e0) (hi : isInv e0.1 = true) (hp : Nat.ble 1000 e0.2.2.1 = true) (hj : jstep txt e0.2.2.1 st = some st2) (hw : Nat.ble (wsum st2) 8 = true) (hC : Ctx D sad bs M p l R s m args meth c) {ls : Array Slot} {H : Heap} {locs : List Loc} {cells slots : Nat} {Q : State → Prop} (hsz : ls.size = loc M) (hS : va_S (fun q => bs ≤ q) s.heap H locs) (hcl : cells ≤ R.cells) (hsl : slots ≤ R.slots)
    (k : W p l e R s m args below meth c H locs cells slots Q (F0 m (pc + 3) ls (st2.map (cv (sav sad))))) : W p l e R s m args below meth c H locs cells slots Q (F0 m pc ls (st.map (cv (sav sad)))) := by
  obtain ⟨hx, hb, hml, hown, hts, hlk, htab, hini, hl, hT, hF, hfr, hlo⟩ := hC
  obtain ⟨d1, d2, -, -, d5⟩ := row_at (aT M hM) hk
  obtain ⟨ei, elen, P, q, r, w, y⟩ := e0
  dsimp only at hi hp hj d1 d2 d5
  have hw2 : wsum st2 ≤ 8 := Nat.le_of_ble_eq_true hw
  have hfix : CallFix p m c (mby M) (loc M) s args goods (mnm M).cls := ⟨hx, hb, hml, hown, hts⟩
  have hFH : HF (fun q => bs ≤ q) (sav sad) s H := hF.kept (fun a ha hn => hS.2.1 a ha hn)
  have hJ := jdk_words
  simp only [Bool.and_eq_true, decide_eq_true_eq] at hJ
  obtain ⟨⟨⟨⟨⟨⟨⟨⟨w1, w2⟩, w3⟩, w4⟩, w5⟩, w6⟩, w7⟩, w8⟩, w9⟩ := hJ
  have good : ∀ {w : Jvm.Cond}, w ∈ lw_tbl → goodWord w = true → w.before args s = true := fun a b => hts _ (List.mem_filter.mpr ⟨a, b⟩)
  have hrest : ∀ {x : Int32} {r : List PV}, st2 = vi x :: r → ((r.map (cv (sav sad))).map fun v => v.category).sum ≤ 8 := fun {x r} e => by
    rw [cv_sum]
    subst e
    have : wsum (vi x :: r) = 1 + wsum r := by unfold wsum; rw [List.map_cons, List.sum_cons]; rfl
    omega
  have strcw : ∀ {y : MethodName} {i rt : Nat} {bytes : ByteArray} {ret : Option FieldType} {nl k : Nat}, Jvm.Cond.code y bytes nl ret ∈ goods → Jvm.Cond.methodLink (mnm M).cls i y ∈ goods → Jvm.Cond.instanceMethod y ∈ goods → Jvm.Cond.selects RJ0 y y ∈ goods → Jvm.Cond.initialized RJ0 ∈ goods → (y.cls = RJ0 ∧ y.cls ≠ "java/lang/invoke/MethodHandle" ∧ y.cls ≠ "java/lang/invoke/VarHandle" ∧ (parseMethodDescriptor y.desc).map (fun d => d.parameters.length) = some k) → rt ≤ 4 → nl ≤ 2 → CallW R s args (mnm M).cls RJ0 i y bytes nl ret (.code y bytes nl ret :: goods) (jR rt) 0 0 k := fun {y i rt bytes ret nl k} a1 a2 a3 a4 a5 a6 a7 a8 => by
    refine cwV k hts (gin0V a1 a2 a3 a4 a5) rfl rfl rfl a6 ⟨?_, ?_⟩
    · show rt + 1 ≤ R.frames; omega
    · show 8 + (nl + 11) + 40 * rt ≤ R.locals; omega
  unfold chkC at d5
  rcases isInv_cs hi with ⟨i, rfl⟩ | ⟨i, rfl⟩ | ⟨i, rfl⟩
  · have hlen : elen = 3 := d2 rfl
    subst hlen
    dsimp only at d5
    rw [hp] at d5
    simp only [cond_true] at d5
    rcases jstep_cs hj with ⟨rfl, -⟩ | ⟨rfl, -⟩ | ⟨rfl, -⟩ | ⟨rfl, -⟩ | ⟨rfl, j, r, rfl, h1, rfl⟩ | ⟨rfl, j, r, rfl, h1, rfl⟩ | ⟨rfl, i2, j, r, rfl, h1, h2, rfl⟩
    · cases d5
    · cases d5
    · cases d5
    · cases d5
    · obtain ⟨v, hv⟩ := hF.2.2.2.2 j h1
      exact j_back (va_runV (As := []) (C := RJ0) (n := 0) hfix (j_length l (A := fun q => bs ≤ q) (sa := sav sad) h1) (strcw (rt := 2) (ing (by decide +kernel) rfl) (wat_good d5 rfl) (ing (by decide +kernel) rfl) (ing (by decide +kernel) rfl) (ing (by decide +kernel) rfl) (by decide +kernel) (by decide) (by decide))
        ⟨frame_blind HF.same, vk_recv (i := 0) hv (by decide) hS, fun U hU hW => ⟨rfl, by dsimp only; rw [hU]; exact hFH.moved hW.alike⟩⟩ rfl rfl hsz rfl (lv_room (hrest rfl)) d1 ⟨hcl, hsl⟩) k
    · obtain ⟨v, hv⟩ := hF.2.2.2.2 j h1
      exact j_back (va_runV (As := []) (C := RJ0) (n := 0) hfix (j_isEmpty l (A := fun q => bs ≤ q) (sa := sav sad) h1) (strcw (rt := 1) (ing (by decide +kernel) rfl) (wat_good d5 rfl) (ing (by decide +kernel) rfl) (ing (by decide +kernel) rfl) (ing (by decide +kernel) rfl) (by decide +kernel) (by decide) (by decide))
        ⟨frame_blind HF.same, vk_recv (i := 0) hv (by decide) hS, fun U hU hW => ⟨rfl, by dsimp only; rw [hU]; exact hFH.moved hW.alike⟩⟩ rfl rfl hsz rfl (lv_room (hrest rfl)) d1 ⟨hcl, hsl⟩) k
    · obtain ⟨v, hv⟩ := hF.2.2.2.2 j h1
      exact j_back (va_runV (As := [.int i2]) (C := RJ0) (n := 1) hfix (j_charAt l (A := fun q => bs ≤ q) (sa := sav sad) h1 h2) (strcw (rt := 4) (ing (by decide +kernel) rfl) (wat_good d5 rfl) (ing (by decide +kernel) rfl) (ing (by decide +kernel) rfl) (ing (by decide +kernel) rfl) (by decide +kernel) (by decide) (by decide))
        ⟨frame_blind HF.same, vk_recv (i := 0) hv (by decide) hS, fun U hU hW => ⟨rfl, by dsimp only; rw [hU]; exact hFH.moved hW.alike⟩⟩ rfl rfl hsz rfl (lv_room (hrest rfl)) d1 ⟨hcl, hsl⟩) k
  · have hlen : elen = 3 := d2 rfl
    subst hlen
    dsimp only at d5
    rw [hp] at d5
    simp only [cond_true] at d5
    rcases jstep_cs hj with ⟨rfl, -⟩ | ⟨rfl, x, y, r, rfl, rfl⟩ | ⟨rfl, x, y, r, rfl, rfl⟩ | ⟨rfl, x, r, rfl, rfl⟩ | ⟨rfl, -⟩ | ⟨rfl, -⟩ | ⟨rfl, -⟩
    · cases d5
    · have := hrest rfl
      exact va_mmax hx hb (hml.trans hsz.symm) hown (hts _ (wat_good d5 rfl)) (good w4 rfl) (good w3 rfl) (good w5 rfl) (by omega) (by omega) hcl hsl d1 k
    · have := hrest rfl
      exact va_mmin hx hb (hml.trans hsz.symm) hown (hts _ (wat_good d5 rfl)) (good w6 rfl) (good w3 rfl) (good w7 rfl) (by omega) (by omega) hcl hsl d1 k
    · have := hrest rfl
      exact va_mabs hx hb (hml.trans hsz.symm) hown (hts _ (wat_good d5 rfl)) (good w8 rfl) (good w3 rfl) (good w9 rfl) (by omega) (by omega) hcl hsl d1 k
    · cases d5
    · cases d5
    · cases d5
  · have hlen : elen = 3 := d2 rfl
    subst hlen
    dsimp only at d5
    rw [hp] at d5
    simp only [cond_true, Bool.and_eq_true] at d5
    obtain ⟨d5, d6⟩ := d5
    have d5 := Nat.eq_of_beq_eq_true d5
    subst d5
    rcases jstep_cs hj with ⟨-, a, rfl⟩ | ⟨z, -⟩ | ⟨z, -⟩ | ⟨z, -⟩ | ⟨z, -⟩ | ⟨z, -⟩ | ⟨z, -⟩
    · have h8 : ((st2.map (cv (sav sad))).map fun v => v.category).sum ≤ 8 := by rw [cv_sum]; exact hw2
      have h9 := lv_room (m := m) (pc := pc) (ls := ls) (rest := .ref a :: st2.map (cv (sav sad))) h8
      exact W.objInit hx hb hown (hts _ (wat_good d6 rfl)) (good w1 rfl) (good w2 rfl) rfl (hsz.trans hml.symm) (g := F0 m pc ls (.ref a :: st2.map (cv (sav sad)))) rfl d1 (by omega) (by omega) k
    all_goals cases z
end SNDK
