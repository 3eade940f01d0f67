/-! LOCALS THAT ARE NO LONGER SPOKEN OF; a method's rest, by the kind of its answer -/
/-- L knows no more than L2 -/
def LE (L L2 : PL) : Prop := L.length = L2.length ∧ ∀ (i : Nat) (v : PV), lget L i = some v → lget L2 i = some v
theorem LE.rf (L : PL) : LE L L := ⟨rfl, fun _ _ h => h⟩
theorem lget_set (L : PL) (i j : Nat) (x : Option PV) : lget (L.set i x) j = if j = i then (if i < L.length then x else none) else lget L j := by
  unfold lget
  by_cases e : j = i
  · subst e
    rw [if_pos rfl]
    by_cases g : j < L.length
    · rw [List.getElem?_set_self g, if_pos g]; cases x <;> rfl
    · rw [List.getElem?_eq_none (by rw [List.length_set]; omega), if_neg g]
  · rw [List.getElem?_set_ne (fun z => e z.symm), if_neg e]
theorem LE.set {L L2 : PL} {i : Nat} {x : Option PV} (h : LE L L2) : LE (L.set i x) (L2.set i x) := by
  refine ⟨by rw [List.length_set, List.length_set]; exact h.1, fun j v hv => ?_⟩
  rw [lget_set] at hv ⊢
  rw [← h.1]
  split
  · rename_i e; rw [if_pos e] at hv; exact hv
  · rename_i e; rw [if_neg e] at hv; exact h.2 j v hv
theorem LE.clr {L L2 : PL} {i : Nat} (h : LE L L2) : LE (lclr L i) (lclr L2 i) := by
  cases i with
  | zero => exact h
  | succ j =>
    unfold lclr
    dsimp only
    cases g : lget L j with
    | some w =>
      rw [h.2 j w g]
      dsimp only
      cases iw w with
      | true => exact h.set
      | false => exact h
    | none =>
      dsimp only
      cases g2 : lget L2 j with
      | none => exact h
      | some w =>
        dsimp only
        cases iw w with
        | false => exact h
        | true =>
          refine ⟨by show L.length = (L2.set j none).length; rw [List.length_set]; exact h.1, fun k v hv => ?_⟩
          show lget (L2.set j none) k = some v
          rw [lget_set]
          by_cases e : k = j
          · subst e; rw [g] at hv; cases hv
          · rw [if_neg e]; exact h.2 k v hv
theorem LE.put {L L2 L3 : PL} {i : Nat} {v : PV} (h : LE L L2) (e : lput L i v = some L3) : ∃ L4, lput L2 i v = some L4 ∧ LE L3 L4 := by
  cases hv : iw v with
  | false =>
    obtain ⟨a, rfl⟩ := lput_one hv e
    refine ⟨(lclr L2 i).set i (some v), ?_, h.clr.set⟩
    unfold lput
    rw [hv]
    have : Nat.blt i L2.length = true := by rw [← h.1]; simpa using a
    dsimp only [cond_false]
    rw [this]; rfl
  | true =>
    obtain ⟨a, rfl⟩ := lput_two hv e
    refine ⟨((lclr L2 i).set i (some v)).set (i + 1) none, ?_, h.clr.set.set⟩
    unfold lput
    rw [hv]
    have : Nat.blt (i + 1) L2.length = true := by rw [← h.1]; simpa using a
    dsimp only [cond_true]
    rw [this]; rfl
/-- the same step, with more locals known -/
def Alk (c d : Option PC) : Prop := ∀ x, c = some x → ∃ L2, d = some (x.1, L2, x.2.2) ∧ LE x.2.1 L2
theorem al_ldI {pc i : Nat} {L L2 : PL} {st : List PV} (h : LE L L2) : Alk (ldI pc L st i) (ldI pc L2 st i) := fun x e => by
  obtain ⟨y, a, rfl⟩ := ldI_some e
  exact ⟨L2, by unfold ldI; rw [h.2 _ _ a], h⟩
theorem al_ldL {pc i : Nat} {L L2 : PL} {st : List PV} (h : LE L L2) : Alk (ldL pc L st i) (ldL pc L2 st i) := fun x e => by
  obtain ⟨y, a, rfl⟩ := ldL_some e
  exact ⟨L2, by unfold ldL; rw [h.2 _ _ a], h⟩
theorem al_ldD {pc i : Nat} {L L2 : PL} {st : List PV} (h : LE L L2) : Alk (ldD pc L st i) (ldD pc L2 st i) := fun x e => by
  obtain ⟨y, a, rfl⟩ := ldD_some e
  exact ⟨L2, by unfold ldD; rw [h.2 _ _ a], h⟩
theorem al_ldA {pc i : Nat} {L L2 : PL} {st : List PV} (h : LE L L2) : Alk (ldA pc L st i) (ldA pc L2 st i) := fun x e => by
  unfold ldA at e ⊢
  split at e
  · rename_i r g; cases e; rw [h.2 _ _ g]; exact ⟨L2, rfl, h⟩
  · rename_i r g; cases e; rw [h.2 _ _ g]; exact ⟨L2, rfl, h⟩
  · cases e
theorem al_put {pc i : Nat} {L L2 : PL} {v : PV} {st : List PV} (h : LE L L2) : Alk ((lput L i v).map (fun L3 => (pc, L3, st))) ((lput L2 i v).map (fun L3 => (pc, L3, st))) := fun x e => by
  obtain ⟨L3, a, rfl⟩ := Option.map_eq_some_iff.mp e
  obtain ⟨L4, b, c⟩ := h.put a
  exact ⟨L4, by rw [b]; rfl, c⟩
theorem al_stI {pc i : Nat} {L L2 : PL} {st : List PV} (h : LE L L2) : Alk (stI pc L st i) (stI pc L2 st i) := fun x e => by
  unfold stI at e ⊢
  split at e
  · exact al_put h x e
  · cases e
theorem al_stL {pc i : Nat} {L L2 : PL} {st : List PV} (h : LE L L2) : Alk (stL pc L st i) (stL pc L2 st i) := fun x e => by
  unfold stL at e ⊢
  split at e
  · exact al_put h x e
  · cases e
theorem al_stD {pc i : Nat} {L L2 : PL} {st : List PV} (h : LE L L2) : Alk (stD pc L st i) (stD pc L2 st i) := fun x e => by
  unfold stD at e ⊢
  split at e
  · exact al_put h x e
  · cases e
theorem al_stA {pc i : Nat} {L L2 : PL} {st : List PV} (h : LE L L2) : Alk (stA pc L st i) (stA pc L2 st i) := fun x e => by
  unfold stA at e ⊢
  split at e
  · exact al_put h x e
  · exact al_put h x e
  · cases e
theorem al_bin {pc : Nat} {L L2 : PL} {st : List PV} {f : Int32 → Int32 → Int32} (h : LE L L2) : Alk (bin pc L st f) (bin pc L2 st f) := fun x e => by
  obtain ⟨a, b, c, rfl, rfl⟩ := bin_some e
  exact ⟨L2, rfl, h⟩
theorem al_bin0 {pc : Nat} {L L2 : PL} {st : List PV} {f : Int32 → Int32 → Int32} (h : LE L L2) : Alk (bin0 pc L st f) (bin0 pc L2 st f) := fun x e => by
  obtain ⟨a, b, c, rfl, g, rfl⟩ := bin0_some e
  exact ⟨L2, by unfold bin0; dsimp only; rw [if_neg g], h⟩
set_option maxHeartbeats 4000000 in
set_option maxRecDepth 20000 in
theorem pstep_mono {e : PE} {pc : Nat} {L L2 : PL} {st : List PV} (h : LE L L2) : Alk (pstep e pc L st) (pstep e pc L2 st) := by
  obtain ⟨i, r⟩ := e
  cases i
  all_goals first
    | exact al_ldI h
    | exact al_ldL h
    | exact al_ldD h
    | exact al_ldA h
    | exact al_stI h
    | exact al_stL h
    | exact al_stD h
    | exact al_stA h
    | exact al_bin h
    | exact al_bin0 h
    | (intro x e; cases e; done)
    | (intro x e; cases e; exact ⟨L2, rfl, h⟩)
    | skip
  all_goals intro x e
  all_goals unfold pstep at e ⊢
  all_goals dsimp only at e ⊢
  case iinc n b =>
    split at e
    · rename_i y g
      rw [h.2 _ _ g]
      exact al_put h x e
    · cases e
  all_goals first
    | (split at e <;> first | (cases e; exact ⟨L2, rfl, h⟩) | cases e)
    | (cases g : Nat.beq r.2.1 0 <;> rw [g] at e <;> cases e <;> exact ⟨L2, rfl, h⟩)
    | skip
  all_goals first
    | (split at e
       · split at e
         · rename_i g; cases e; exact ⟨L2, by rw [if_pos g], h⟩
         · cases e
       · cases e)
    | skip
  case dconst n =>
    cases g : Nat.beq (n : Nat) 0 <;> rw [g] at e <;> dsimp only [cond_true, cond_false] at e ⊢ <;> cases e
    exact ⟨L2, rfl, h⟩
  case dup =>
    cases st with
    | nil => cases e
    | cons v st2 =>
      dsimp only at e ⊢
      cases g : iw v <;> rw [g] at e <;> dsimp only [cond_true, cond_false] at e ⊢ <;> cases e
      exact ⟨L2, rfl, h⟩
  case dup2 =>
    cases st with
    | nil => cases e
    | cons v st2 =>
      cases st2 with
      | nil => cases e
      | cons w st3 =>
        dsimp only at e ⊢
        cases g : (iw v || iw w) <;> rw [g] at e <;> dsimp only [cond_true, cond_false] at e ⊢ <;> cases e
        exact ⟨L2, rfl, h⟩
  case pop =>
    cases st with
    | nil => cases e
    | cons v st2 =>
      dsimp only at e ⊢
      cases g : iw v <;> rw [g] at e <;> dsimp only [cond_true, cond_false] at e ⊢ <;> cases e
      exact ⟨L2, rfl, h⟩
/-- a row that has to do with locals -/
theorem pstep_none {e : PE} {pc : Nat} {L L2 : PL} {st : List PV} (hl : L.length = L2.length) (e1 : pstep e pc L st = none) (e2 : pstep e pc L2 st ≠ none) : ∀ (T N : Nat → Nat) (h : PH) (r : Nat), hstep T N csz e pc st h = none ∧ rets e.1 r st = none ∧ isInv e.1 = false ∧ ∀ i, e.1 ≠ .new i := by
  obtain ⟨i, r⟩ := e
  intro T N h rk
  cases i
  all_goals first
    | exact ⟨rfl, rfl, rfl, fun _ z => by cases z⟩
    | exact absurd e1 e2
    | exact absurd rfl e2
theorem exec_mono {T N : Nat → Nat} : ∀ (n : Nat) {M pc : Nat} {L L2 : PL} {st : List PV} {h : PH} {o : PO}, exec T N n M pc L st h = some o → LE L L2 → exec T N n M pc L2 st h = some o := by
  intro n
  induction n with
  | zero => intro M pc L L2 st h o e; cases e
  | succ n ih =>
    intro M pc L L2 st h o e hl
    rw [exec] at e ⊢
    cases h1 : cod M pc with
    | none => rw [h1] at e; cases e
    | some c =>
      rw [h1] at e
      dsimp only at e ⊢
      cases h2 : pstep c pc L st with
      | some d =>
        rw [h2] at e; dsimp only at e
        obtain ⟨L3, g, gl⟩ := pstep_mono hl d h2
        rw [g]
        exact ih e gl
      | none =>
        rw [h2] at e; dsimp only at e
        cases h2b : pstep c pc L2 st with
        | some d =>
          obtain ⟨a1, a2, a3, a4⟩ := pstep_none hl.1 h2 (by rw [h2b]; exact fun z => nomatch z) T N h (rk M)
          rw [a1] at e; dsimp only at e
          rw [a2] at e; dsimp only at e
          rw [a3] at e; dsimp only [cond_false] at e
          obtain ⟨ci, cr⟩ := c
          dsimp only at e
          split at e
          · rename_i i; exact absurd rfl (a4 i)
          · cases e
        | none =>
          dsimp only
          cases h3 : hstep T N csz c pc st h with
          | some d => rw [h3] at e; dsimp only at e ⊢; exact ih e hl
          | none =>
            rw [h3] at e; dsimp only at e ⊢
            cases h4 : rets c.1 (rk M) st with
            | some d => rw [h4] at e; exact e
            | none =>
              rw [h4] at e; dsimp only at e ⊢
              cases h5 : isInv c.1 with
              | false => rw [h5] at e; exact e
              | true =>
                rw [h5] at e; dsimp only [cond_true] at e ⊢
                cases h6 : Nat.ble 1000 c.2.2.1 with
                | true =>
                  rw [h6] at e; dsimp only [cond_true] at e ⊢
                  cases h7 : jstep txt c.2.2.1 st with
                  | none => rw [h7] at e; cases e
                  | some d =>
                    rw [h7] at e; dsimp only at e ⊢
                    cases h8 : Nat.ble (wsum d) 8 with
                    | false => rw [h8] at e; cases e
                    | true => rw [h8] at e; exact ih e hl
                | false =>
                  rw [h6] at e; dsimp only [cond_false] at e ⊢
                  unfold pif at e ⊢
                  by_cases h7 : cOK loc rt T c st
                  · rw [if_pos h7] at e ⊢
                    cases h8 : exec T N n c.2.2.1 0 (ent (st.take c.2.2.2.1).reverse (loc c.2.2.1)) [] h with
                    | none => rw [h8] at e; cases e
                    | some d =>
                      rw [h8] at e
                      obtain ⟨r, h2'⟩ := d
                      cases r with
                      | inl v => exact ih e hl
                      | inr E =>
                        dsimp only at e ⊢
                        cases h9 : hfind pc E (hnd M) with
                        | none => rw [h9] at e; exact e
                        | some q => rw [h9] at e; exact ih e hl.clr.set
                  · rw [if_neg h7] at e; cases e
section DROP
variable {T N : Nat → Nat} {M pc : Nat} {L : PL} {st : List PV} {h : PH} {Q : PR → PH → Prop}
theorem R_drop {L2 : PL} (w : WP T N M pc L st h Q) (hl : LE L L2) : WP T N M pc L2 st h Q := by
  obtain ⟨n, o, h2, e, q⟩ := w
  exact ⟨n, o, h2, exec_mono n e hl, q⟩
/-- the same, place by place -/
def LEq : PL → PL → Prop
  | [], [] => True
  | none :: L, _ :: L2 => LEq L L2
  | some v :: L, x :: L2 => x = some v ∧ LEq L L2
  | _, _ => False
theorem LE_of : ∀ {L L2 : PL}, LEq L L2 → LE L L2
  | [], [], _ => LE.rf _
  | [], _ :: _, h => by cases h
  | none :: _, [], h => by cases h
  | some _ :: _, [], h => by cases h
  | none :: L, x :: L2, h => by
    have g := LE_of (L := L) (L2 := L2) h
    refine ⟨by rw [List.length_cons, List.length_cons, g.1], fun i v hv => ?_⟩
    cases i with
    | zero => cases hv
    | succ i => exact g.2 i v hv
  | some w :: L, x :: L2, h => by
    have g := LE_of (L := L) (L2 := L2) h.2
    refine ⟨by rw [List.length_cons, List.length_cons, g.1], fun i v hv => ?_⟩
    cases i with
    | zero => rw [h.1]; exact hv
    | succ i => exact g.2 i v hv
def QI (K : Int32 → PH → Prop) : PR → PH → Prop := fun o h2 => ∃ x, o = .inl (some (vi x)) ∧ K x h2
def QV (K : PH → Prop) : PR → PH → Prop := fun o h2 => o = .inl none ∧ K h2
def QR (K : Option Nat → PH → Prop) : PR → PH → Prop := fun o h2 => ∃ x, o = .inl (some (vr x)) ∧ K x h2
def QL (K : Int64 → PH → Prop) : PR → PH → Prop := fun o h2 => ∃ x, o = .inl (some (vl x)) ∧ K x h2
def QD (K : UInt64 → PH → Prop) : PR → PH → Prop := fun o h2 => ∃ x, o = .inl (some (vd x)) ∧ K x h2
def QS (K : Nat → PH → Prop) : PR → PH → Prop := fun o h2 => ∃ x, o = .inl (some (vs x)) ∧ K x h2
abbrev WI (T N : Nat → Nat) (M pc : Nat) (L : PL) (st : List PV) (h : PH) (K : Int32 → PH → Prop) : Prop := WP T N M pc L st h (QI K)
abbrev WV (T N : Nat → Nat) (M pc : Nat) (L : PL) (st : List PV) (h : PH) (K : PH → Prop) : Prop := WP T N M pc L st h (QV K)
abbrev WR (T N : Nat → Nat) (M pc : Nat) (L : PL) (st : List PV) (h : PH) (K : Option Nat → PH → Prop) : Prop := WP T N M pc L st h (QR K)
abbrev WL (T N : Nat → Nat) (M pc : Nat) (L : PL) (st : List PV) (h : PH) (K : Int64 → PH → Prop) : Prop := WP T N M pc L st h (QL K)
abbrev WD (T N : Nat → Nat) (M pc : Nat) (L : PL) (st : List PV) (h : PH) (K : UInt64 → PH → Prop) : Prop := WP T N M pc L st h (QD K)
abbrev WS (T N : Nat → Nat) (M pc : Nat) (L : PL) (st : List PV) (h : PH) (K : Nat → PH → Prop) : Prop := WP T N M pc L st h (QS K)
abbrev WX (T N : Nat → Nat) (M pc : Nat) (L : PL) (st : List PV) (h : PH) (K : PR → PH → Prop) : Prop := WP T N M pc L st h K
theorem null_or (r : Option Nat) : r = none ∨ ∃ a, r = some a := by cases r; exact Or.inl rfl; exact Or.inr ⟨_, rfl⟩
theorem inv_no {i : Instr} (hi : isInv i = true) {r : Nat × Nat × Nat × Nat × Nat × Nat} {pc : Nat} {L : PL} {st : List PV} : pstep (i, r) pc L st = none ∧ (∀ h, hstep T N csz (i, r) pc st h = none) ∧ ∀ k, rets i k st = none := by
  rcases isInv_cs hi with ⟨k, rfl⟩ | ⟨k, rfl⟩ | ⟨k, rfl⟩ <;> exact ⟨rfl, fun _ => rfl, fun _ => rfl⟩
theorem R_cX {e : PE} {as rest : List PV} {K : PR → PH → Prop} (hk : cod M pc = some e) (hi : (isInv e.1 && !(Nat.ble 1000 e.2.2.1)) = true) (hs : cOK loc rt T e st) (ha : (st.take e.2.2.2.1).reverse = as) (hr : st.drop e.2.2.2.1 = rest) (k : CALL T N e.2.2.1 as h K)
    (kk : ∀ o h2, K o h2 → match o with
      | .inl v => WP T N M (pc + 3) L (v.toList ++ rest) h2 Q
      | .inr E => (match hfind pc E (hnd M) with
        | some q => WP T N M q.1 ((lclr L q.2).set q.2 none) [] h2 Q
        | none => Q (.inr E) h2)) : WP T N M pc L st h Q := by
  simp only [Bool.and_eq_true, Bool.not_eq_true'] at hi
  obtain ⟨i, r⟩ := e
  obtain ⟨a1, a2, a3⟩ := inv_no (T := T) (N := N) hi.1 (r := r) (pc := pc) (L := L) (st := st)
  subst ha; subst hr
  exact R_c hk hi.1 a1 (a2 h) (a3 _) hi.2 hs k kk
theorem R_cI {e : PE} {as rest : List PV} {K : Int32 → PH → Prop} (hk : cod M pc = some e) (hi : (isInv e.1 && !(Nat.ble 1000 e.2.2.1)) = true) (hs : cOK loc rt T e st) (ha : (st.take e.2.2.2.1).reverse = as) (hr : st.drop e.2.2.2.1 = rest) (k : CI T N e.2.2.1 as h K) (kk : ∀ x h2, K x h2 → WP T N M (pc + 3) L (vi x :: rest) h2 Q) : WP T N M pc L st h Q :=
  R_cX hk hi hs ha hr k fun o h2 g => by obtain ⟨x, rfl, g⟩ := g; exact kk x h2 g
theorem R_cR {e : PE} {as rest : List PV} {K : Option Nat → PH → Prop} (hk : cod M pc = some e) (hi : (isInv e.1 && !(Nat.ble 1000 e.2.2.1)) = true) (hs : cOK loc rt T e st) (ha : (st.take e.2.2.2.1).reverse = as) (hr : st.drop e.2.2.2.1 = rest) (k : CR T N e.2.2.1 as h K) (kk : ∀ x h2, K x h2 → WP T N M (pc + 3) L (vr x :: rest) h2 Q) : WP T N M pc L st h Q :=
  R_cX hk hi hs ha hr k fun o h2 g => by obtain ⟨x, rfl, g⟩ := g; exact kk x h2 g
theorem R_cL {e : PE} {as rest : List PV} {K : Int64 → PH → Prop} (hk : cod M pc = some e) (hi : (isInv e.1 && !(Nat.ble 1000 e.2.2.1)) = true) (hs : cOK loc rt T e st) (ha : (st.take e.2.2.2.1).reverse = as) (hr : st.drop e.2.2.2.1 = rest) (k : CL T N e.2.2.1 as h K) (kk : ∀ x h2, K x h2 → WP T N M (pc + 3) L (vl x :: rest) h2 Q) : WP T N M pc L st h Q :=
  R_cX hk hi hs ha hr k fun o h2 g => by obtain ⟨x, rfl, g⟩ := g; exact kk x h2 g
theorem R_cD {e : PE} {as rest : List PV} {K : UInt64 → PH → Prop} (hk : cod M pc = some e) (hi : (isInv e.1 && !(Nat.ble 1000 e.2.2.1)) = true) (hs : cOK loc rt T e st) (ha : (st.take e.2.2.2.1).reverse = as) (hr : st.drop e.2.2.2.1 = rest) (k : CD T N e.2.2.1 as h K) (kk : ∀ x h2, K x h2 → WP T N M (pc + 3) L (vd x :: rest) h2 Q) : WP T N M pc L st h Q :=
  R_cX hk hi hs ha hr k fun o h2 g => by obtain ⟨x, rfl, g⟩ := g; exact kk x h2 g
theorem R_cS {e : PE} {as rest : List PV} {K : Nat → PH → Prop} (hk : cod M pc = some e) (hi : (isInv e.1 && !(Nat.ble 1000 e.2.2.1)) = true) (hs : cOK loc rt T e st) (ha : (st.take e.2.2.2.1).reverse = as) (hr : st.drop e.2.2.2.1 = rest) (k : CS T N e.2.2.1 as h K) (kk : ∀ x h2, K x h2 → WP T N M (pc + 3) L (vs x :: rest) h2 Q) : WP T N M pc L st h Q :=
  R_cX hk hi hs ha hr k fun o h2 g => by obtain ⟨x, rfl, g⟩ := g; exact kk x h2 g
theorem R_cV {e : PE} {as rest : List PV} {K : PH → Prop} (hk : cod M pc = some e) (hi : (isInv e.1 && !(Nat.ble 1000 e.2.2.1)) = true) (hs : cOK loc rt T e st) (ha : (st.take e.2.2.2.1).reverse = as) (hr : st.drop e.2.2.2.1 = rest) (k : CV T N e.2.2.1 as h K) (kk : ∀ h2, K h2 → WP T N M (pc + 3) L rest h2 Q) : WP T N M pc L st h Q :=
  R_cX hk hi hs ha hr k fun o h2 g => by obtain ⟨rfl, g⟩ := g; exact kk h2 g
end DROP
theorem i32_nlt {a b : Int32} (h : b ≤ a) : ¬ a < b := Int32.not_lt.mpr h
theorem i32_lt {a b : Int32} (h : ¬ b ≤ a) : a < b := Int32.not_le.mp h
/-! what is read behind a store -/
theorem gi_si' (h : PH) (a k b j : Nat) (x : Int32) : gi (si h a k x) b j = if b = a ∧ j = k then x else gi h b j := rfl
theorem gl_si (h : PH) (a k : Nat) (x : Int32) : gl (si h a k x) = gl h := rfl
theorem gd_si (h : PH) (a k : Nat) (x : Int32) : gd (si h a k x) = gd h := rfl
theorem gr_si (h : PH) (a k : Nat) (x : Int32) : gr (si h a k x) = gr h := rfl
theorem nx_si (h : PH) (a k : Nat) (x : Int32) : nx (si h a k x) = nx h := rfl
theorem gl_sL' (h : PH) (a k b j : Nat) (x : Int64) : gl (sL h a k x) b j = if b = a ∧ j = k then x else gl h b j := rfl
theorem gi_sL (h : PH) (a k : Nat) (x : Int64) : gi (sL h a k x) = gi h := rfl
theorem gd_sL (h : PH) (a k : Nat) (x : Int64) : gd (sL h a k x) = gd h := rfl
theorem gr_sL (h : PH) (a k : Nat) (x : Int64) : gr (sL h a k x) = gr h := rfl
theorem nx_sL (h : PH) (a k : Nat) (x : Int64) : nx (sL h a k x) = nx h := rfl
theorem gd_sd' (h : PH) (a k b j : Nat) (x : UInt64) : gd (sd h a k x) b j = if b = a ∧ j = k then x else gd h b j := rfl
theorem gi_sd (h : PH) (a k : Nat) (x : UInt64) : gi (sd h a k x) = gi h := rfl
theorem gl_sd (h : PH) (a k : Nat) (x : UInt64) : gl (sd h a k x) = gl h := rfl
theorem gr_sd (h : PH) (a k : Nat) (x : UInt64) : gr (sd h a k x) = gr h := rfl
theorem nx_sd (h : PH) (a k : Nat) (x : UInt64) : nx (sd h a k x) = nx h := rfl
theorem gr_sr' (h : PH) (a k b j : Nat) (x : Option Nat) : gr (sr h a k x) b j = if b = a ∧ j = k then x else gr h b j := rfl
theorem gi_sr (h : PH) (a k : Nat) (x : Option Nat) : gi (sr h a k x) = gi h := rfl
theorem gl_sr (h : PH) (a k : Nat) (x : Option Nat) : gl (sr h a k x) = gl h := rfl
theorem gd_sr (h : PH) (a k : Nat) (x : Option Nat) : gd (sr h a k x) = gd h := rfl
theorem nx_sr (h : PH) (a k : Nat) (x : Option Nat) : nx (sr h a k x) = nx h := rfl
/-! numbers: J z is the int that z is, in the ints' bounds -/
def J (z : Int) : Int32 := Int32.ofInt z
theorem J_add (a b : Int) : J a + J b = J (a + b) := by unfold J; exact (Int32.ofInt_add a b).symm
theorem J_sub (a b : Int) : J a - J b = J (a - b) := by unfold J; exact (Int32.ofInt_sub a b).symm
theorem J_mul (a b : Int) : J a * J b = J (a * b) := by unfold J; exact (Int32.ofInt_mul a b).symm
theorem J_neg (a : Int) : -J a = J (-a) := by unfold J; exact (Int32.ofInt_neg a).symm
theorem J_lit (n : Nat) : (OfNat.ofNat n : Int32) = J (n : Int) := by
  show Int32.ofNat n = Int32.ofInt (n : Int)
  exact Int32.ofInt_eq_ofNat.symm
theorem J_toInt {a : Int} (h1 : -2147483648 ≤ a) (h2 : a < 2147483648) : (J a).toInt = a := by unfold J; exact Int32.toInt_ofInt_of_le h1 h2
theorem J_eq {a b : Int} (h1 : -2147483648 ≤ a) (h2 : a < 2147483648) (h3 : -2147483648 ≤ b) (h4 : b < 2147483648) : J a = J b ↔ a = b := by
  rw [← Int32.toInt_inj, J_toInt h1 h2, J_toInt h3 h4]
theorem J_lt {a b : Int} (h1 : -2147483648 ≤ a) (h2 : a < 2147483648) (h3 : -2147483648 ≤ b) (h4 : b < 2147483648) : J a < J b ↔ a < b := by
  rw [Int32.lt_iff_toInt_lt, J_toInt h1 h2, J_toInt h3 h4]
theorem J_nat {a : Int} {n : Nat} (h : a = n) (h2 : n < 2147483648) : (J a).toNatClampNeg = n := by
  subst h
  show (J (n : Int)).toInt.toNat = n
  rw [J_toInt (by omega) (by omega)]; rfl
theorem J_inb {a : Int} {n : Nat} (h : 0 ≤ a) (h2 : a < n) (h3 : n < 2147483648) : inb (J a) n := by
  unfold inb; rw [J_toInt (by omega) (by omega)]; exact ⟨h, h2⟩
theorem J_of (x : Int32) : x = J x.toInt := by unfold J; exact (Int32.ofInt_toInt x).symm
theorem J_bnd (x : Int32) : -2147483648 ≤ x.toInt ∧ x.toInt < 2147483648 := ⟨Int32.le_toInt x, Int32.toInt_lt x⟩
