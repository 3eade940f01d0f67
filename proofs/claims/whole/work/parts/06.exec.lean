/-! THE PURE MACHINE RUNS: exec, and what is to be shown of a run (WP), row by row -/
section EXEC
variable (T N : Nat → Nat)
/-- n instructions at most; none: it doesn't end so, or leaves what is spoken of here -/
noncomputable def exec : Nat → Nat → Nat → PL → List PV → PH → Option PO
  | 0, _, _, _, _, _ => none
  | n + 1, M, pc, L, st, h =>
    match cod M pc with
    | none => none
    | some e =>
      match pstep e pc L st with
      | some c => exec n M c.1 c.2.1 c.2.2 h
      | none =>
        match hstep T N csz e pc st h with
        | some c => exec n M c.1 L c.2.1 c.2.2
        | none =>
          match rets e.1 (rk M) st with
          | some v => some (.inl v, h)
          | none =>
            bif isInv e.1 then
              (bif Nat.ble 1000 e.2.2.1 then
                (match jstep txt e.2.2.1 st with
                | some st2 => bif Nat.ble (wsum st2) 8 then exec n M (pc + 3) L st2 h else none
                | none => none)
              else
                pif (cOK loc rt T e st)
                (match exec n e.2.2.1 0 (ent (st.take e.2.2.2.1).reverse (loc e.2.2.1)) [] h with
                | some (.inl v, h2) => exec n M (pc + 3) L (v.toList ++ st.drop e.2.2.2.1) h2
                | some (.inr E, h2) => (match hfind pc E (hnd M) with
                  | some q => exec n M q.1 ((lclr L q.2).set q.2 none) [] h2
                  | none => some (.inr E, h2))
                | none => none))
            else
              (match e.1 with
              | .new _ => bif Nat.ble 100 e.2.2.1 then pif (wsum st ≤ 8 ∧ ∀ a, nx h ≤ a → T a = 0) (some (.inr (e.2.2.1 % 100), bump h)) else none
              | _ => none)
theorem exec_up {n M pc : Nat} {L : PL} {st : List PV} {h : PH} {o : PO} (e : exec T N n M pc L st h = some o) : exec T N (n + 1) M pc L st h = some o := by
  induction n generalizing M pc L st h o with
  | zero => cases e
  | succ n ih =>
    rw [exec] at e ⊢
    cases h1 : cod M pc with
    | none => rw [h1] at e; cases e
    | some c =>
      rw [h1] at e
      dsimp only at e ⊢
      cases h2 : pstep c pc L st with
      | some d => rw [h2] at e; dsimp only at e ⊢; exact ih e
      | none =>
        rw [h2] at e; dsimp only at e ⊢
        cases h3 : hstep T N csz c pc st h with
        | some d => rw [h3] at e; dsimp only at e ⊢; exact ih e
        | none =>
          rw [h3] at e; dsimp only at e ⊢
          cases h4 : rets c.1 (rk M) st with
          | some d => rw [h4] at e; exact e
          | none =>
            rw [h4] at e; dsimp only at e ⊢
            cases h5 : isInv c.1 with
            | false => rw [h5] at e; exact e
            | true =>
              rw [h5] at e; dsimp only [cond_true] at e ⊢
              cases h6 : Nat.ble 1000 c.2.2.1 with
              | true =>
                rw [h6] at e; dsimp only [cond_true] at e ⊢
                cases h7 : jstep txt c.2.2.1 st with
                | none => rw [h7] at e; cases e
                | some d =>
                  rw [h7] at e; dsimp only at e ⊢
                  cases h8 : Nat.ble (wsum d) 8 with
                  | false => rw [h8] at e; cases e
                  | true => rw [h8] at e; exact ih e
              | false =>
                rw [h6] at e; dsimp only [cond_false] at e ⊢
                unfold pif at e ⊢
                by_cases h7 : cOK loc rt T c st
                · rw [if_pos h7] at e ⊢
                  cases h8 : exec T N n c.2.2.1 0 (ent (st.take c.2.2.2.1).reverse (loc c.2.2.1)) [] h with
                  | none => rw [h8] at e; cases e
                  | some d =>
                    rw [h8] at e
                    rw [ih h8]
                    obtain ⟨r, h2'⟩ := d
                    cases r with
                    | inl v => exact ih e
                    | inr E =>
                      dsimp only at e ⊢
                      cases h9 : hfind pc E (hnd M) with
                      | none => rw [h9] at e; exact e
                      | some q => rw [h9] at e; exact ih e
                · rw [if_neg h7] at e; cases e
theorem exec_le {n m M pc : Nat} {L : PL} {st : List PV} {h : PH} {o : PO} (hm : n ≤ m) (e : exec T N n M pc L st h = some o) : exec T N m M pc L st h = some o := by
  induction m with
  | zero => rw [Nat.le_zero.mp hm] at e; exact e
  | succ m ih =>
    rcases Nat.lt_or_ge m n with q | q
    · rw [show n = m + 1 by omega] at e; exact e
    · exact exec_up T N (ih q)
/-- from here the run ends, and so that Q holds -/
def WP (M pc : Nat) (L : PL) (st : List PV) (h : PH) (Q : PR → PH → Prop) : Prop := ∃ (n : Nat) (o : PR) (h2 : PH), exec T N n M pc L st h = some (o, h2) ∧ Q o h2
/-- a call of the method M -/
def CALL (M : Nat) (as : List PV) (h : PH) (Q : PR → PH → Prop) : Prop := WP T N M 0 (ent as (loc M)) [] h Q
def CI (M : Nat) (as : List PV) (h : PH) (K : Int32 → PH → Prop) : Prop := CALL T N M as h (fun o h2 => ∃ x, o = .inl (some (vi x)) ∧ K x h2)
def CV (M : Nat) (as : List PV) (h : PH) (K : PH → Prop) : Prop := CALL T N M as h (fun o h2 => o = .inl none ∧ K h2)
def CR (M : Nat) (as : List PV) (h : PH) (K : Option Nat → PH → Prop) : Prop := CALL T N M as h (fun o h2 => ∃ x, o = .inl (some (vr x)) ∧ K x h2)
def CL (M : Nat) (as : List PV) (h : PH) (K : Int64 → PH → Prop) : Prop := CALL T N M as h (fun o h2 => ∃ x, o = .inl (some (vl x)) ∧ K x h2)
def CD (M : Nat) (as : List PV) (h : PH) (K : UInt64 → PH → Prop) : Prop := CALL T N M as h (fun o h2 => ∃ x, o = .inl (some (vd x)) ∧ K x h2)
def CS (M : Nat) (as : List PV) (h : PH) (K : Nat → PH → Prop) : Prop := CALL T N M as h (fun o h2 => ∃ x, o = .inl (some (vs x)) ∧ K x h2)
variable {T N}
theorem WP.imp {M pc : Nat} {L : PL} {st : List PV} {h : PH} {Q Q2 : PR → PH → Prop} (w : WP T N M pc L st h Q) (i : ∀ o h2, Q o h2 → Q2 o h2) : WP T N M pc L st h Q2 := by
  obtain ⟨n, o, h2, e, q⟩ := w
  exact ⟨n, o, h2, e, i _ _ q⟩
theorem CALL.imp {M : Nat} {as : List PV} {h : PH} {Q Q2 : PR → PH → Prop} (w : CALL T N M as h Q) (i : ∀ o h2, Q o h2 → Q2 o h2) : CALL T N M as h Q2 := WP.imp w i
theorem CI.imp {M : Nat} {as : List PV} {h : PH} {K K2 : Int32 → PH → Prop} (w : CI T N M as h K) (i : ∀ x h2, K x h2 → K2 x h2) : CI T N M as h K2 := WP.imp w fun _ _ q => by obtain ⟨x, e, k⟩ := q; exact ⟨x, e, i _ _ k⟩
theorem CV.imp {M : Nat} {as : List PV} {h : PH} {K K2 : PH → Prop} (w : CV T N M as h K) (i : ∀ h2, K h2 → K2 h2) : CV T N M as h K2 := WP.imp w fun _ _ q => ⟨q.1, i _ q.2⟩
theorem CR.imp {M : Nat} {as : List PV} {h : PH} {K K2 : Option Nat → PH → Prop} (w : CR T N M as h K) (i : ∀ x h2, K x h2 → K2 x h2) : CR T N M as h K2 := WP.imp w fun _ _ q => by obtain ⟨x, e, k⟩ := q; exact ⟨x, e, i _ _ k⟩
theorem CL.imp {M : Nat} {as : List PV} {h : PH} {K K2 : Int64 → PH → Prop} (w : CL T N M as h K) (i : ∀ x h2, K x h2 → K2 x h2) : CL T N M as h K2 := WP.imp w fun _ _ q => by obtain ⟨x, e, k⟩ := q; exact ⟨x, e, i _ _ k⟩
theorem CD.imp {M : Nat} {as : List PV} {h : PH} {K K2 : UInt64 → PH → Prop} (w : CD T N M as h K) (i : ∀ x h2, K x h2 → K2 x h2) : CD T N M as h K2 := WP.imp w fun _ _ q => by obtain ⟨x, e, k⟩ := q; exact ⟨x, e, i _ _ k⟩
theorem CS.imp {M : Nat} {as : List PV} {h : PH} {K K2 : Nat → PH → Prop} (w : CS T N M as h K) (i : ∀ x h2, K x h2 → K2 x h2) : CS T N M as h K2 := WP.imp w fun _ _ q => by obtain ⟨x, e, k⟩ := q; exact ⟨x, e, i _ _ k⟩
/-- k steps of place, locals and stack alone -/
noncomputable def pss (M : Nat) : Nat → PC → Option PC
  | 0, c => some c
  | k + 1, c => match cod M c.1 with
    | some e => (match pstep e c.1 c.2.1 c.2.2 with
      | some d => pss M k d
      | none => none)
    | none => none
theorem R_ps {M : Nat} (k : Nat) {pc : Nat} {L : PL} {st : List PV} {h : PH} {Q : PR → PH → Prop} {pc2 : Nat} {L2 : PL} {st2 : List PV} (e : pss M k (pc, L, st) = some (pc2, L2, st2)) (w : WP T N M pc2 L2 st2 h Q) : WP T N M pc L st h Q := by
  induction k generalizing pc L st with
  | zero => cases e; exact w
  | succ k ih =>
    rw [pss] at e
    cases h1 : cod M pc with
    | none => rw [h1] at e; cases e
    | some c =>
      rw [h1] at e; dsimp only at e
      cases h2 : pstep c pc L st with
      | none => rw [h2] at e; cases e
      | some d =>
        rw [h2] at e; dsimp only at e
        obtain ⟨n, o, h3, x, q⟩ := ih (pc := d.1) (L := d.2.1) (st := d.2.2) e
        refine ⟨n + 1, o, h3, ?_, q⟩
        rw [exec, h1]; dsimp only; rw [h2]; exact x
theorem R_p {M : Nat} {e : PE} {pc : Nat} {L : PL} {st : List PV} {h : PH} {Q : PR → PH → Prop} {c : PC} (hk : cod M pc = some e) (hp : pstep e pc L st = some c) (w : WP T N M c.1 c.2.1 c.2.2 h Q) : WP T N M pc L st h Q := by
  obtain ⟨n, o, h3, x, q⟩ := w
  refine ⟨n + 1, o, h3, ?_, q⟩
  rw [exec, hk]; dsimp only; rw [hp]; exact x
theorem R_h {M : Nat} {e : PE} {pc : Nat} {L : PL} {st : List PV} {h : PH} {Q : PR → PH → Prop} {c : HC} (hk : cod M pc = some e) (hp : pstep e pc L st = none) (hh : hstep T N csz e pc st h = some c) (w : WP T N M c.1 L c.2.1 c.2.2 Q) : WP T N M pc L st h Q := by
  obtain ⟨n, o, h3, x, q⟩ := w
  refine ⟨n + 1, o, h3, ?_, q⟩
  rw [exec, hk]; dsimp only; rw [hp]; dsimp only; rw [hh]; exact x
theorem pif_pos {α : Type} {c : Prop} {x : Option α} (hc : c) : pif c x = x := by unfold pif; rw [if_pos hc]
theorem pif_some {α : Type} {c : Prop} {x : Option α} {y : α} (e : pif c x = some y) : c ∧ x = some y := by
  unfold pif at e
  by_cases hc : c
  · rw [if_pos hc] at e; exact ⟨hc, e⟩
  · rw [if_neg hc] at e; cases e
section ROWS
variable {M pc : Nat} {L : PL} {st : List PV} {h : PH} {Q : PR → PH → Prop}
theorem R_if {c : ClassFile.Cond} {off : Int} {len p q r w y : Nat} {x z : Int32} (hk : cod M pc = some (.if_icmp c off, len, p, q, r, w, y)) (kt : cmpC c x z → WP T N M p L st h Q) (kf : ¬ cmpC c x z → WP T N M (pc + 3) L st h Q) : WP T N M pc L (vi z :: vi x :: st) h Q := by
  refine R_p hk rfl ?_
  dsimp only
  unfold cmpP
  by_cases g : cmpC c x z
  · rw [if_pos g]; exact kt g
  · rw [if_neg g]; exact kf g
theorem R_if0 {c : ClassFile.Cond} {off : Int} {len p q r w y : Nat} {x : Int32} (hk : cod M pc = some (.ifCond c off, len, p, q, r, w, y)) (kt : cmpC c x 0 → WP T N M p L st h Q) (kf : ¬ cmpC c x 0 → WP T N M (pc + 3) L st h Q) : WP T N M pc L (vi x :: st) h Q := by
  refine R_p hk rfl ?_
  dsimp only
  unfold cmpP
  by_cases g : cmpC c x 0
  · rw [if_pos g]; exact kt g
  · rw [if_neg g]; exact kf g
theorem R_null {off : Int} {len p q r w y : Nat} {x : Option Nat} (hk : cod M pc = some (.ifnull off, len, p, q, r, w, y)) (kt : x = none → WP T N M p L st h Q) (kf : ∀ a, x = some a → WP T N M (pc + 3) L st h Q) : WP T N M pc L (vr x :: st) h Q := by
  refine R_p hk rfl ?_
  cases x with
  | none => exact kt rfl
  | some a => exact kf a rfl
theorem R_nonnull {off : Int} {len p q r w y : Nat} {x : Option Nat} (hk : cod M pc = some (.ifnonnull off, len, p, q, r, w, y)) (kt : x = none → WP T N M (pc + 3) L st h Q) (kf : ∀ a, x = some a → WP T N M p L st h Q) : WP T N M pc L (vr x :: st) h Q := by
  refine R_p hk rfl ?_
  cases x with
  | none => exact kt rfl
  | some a => exact kf a rfl
/-- a switch, as a chain of questions -/
def SW (P : Nat → Prop) (x : Int32) : List (Int32 × Nat) → Nat → Prop
  | [], d => P d
  | q :: r, d => (x = q.1 → P q.2) ∧ (¬ x = q.1 → SW P x r d)
theorem SW.to {P : Nat → Prop} {x : Int32} : ∀ {l : List (Int32 × Nat)} {d : Nat}, SW P x l d → P (swf l d x)
  | [], _, k => k
  | q :: r, d, k => by
    rw [swf]
    by_cases g : x = q.1
    · rw [if_pos g]; exact k.1 g
    · rw [if_neg g]; exact SW.to (k.2 g)
theorem R_tsw {d lo hi : Int} {offs : Array Int} {len p q r w y : Nat} {x : Int32} (hk : cod M pc = some (.tableswitch d lo hi offs, len, p, q, r, w, y)) {l : List (Int32 × Nat)} {t : Nat} (hl : swl pc (.tableswitch d lo hi offs) = (l, t)) (k : SW (fun t => WP T N M t L st h Q) x l t) : WP T N M pc L (vi x :: st) h Q := by
  refine R_p hk rfl ?_
  dsimp only
  rw [hl]
  exact SW.to (P := fun t => WP T N M t L st h Q) k
theorem R_lsw {d : Int} {ps : Array (Int × Int)} {len p q r w y : Nat} {x : Int32} (hk : cod M pc = some (.lookupswitch d ps, len, p, q, r, w, y)) {l : List (Int32 × Nat)} {t : Nat} (hl : swl pc (.lookupswitch d ps) = (l, t)) (k : SW (fun t => WP T N M t L st h Q) x l t) : WP T N M pc L (vi x :: st) h Q := by
  refine R_p hk rfl ?_
  dsimp only
  rw [hl]
  exact SW.to (P := fun t => WP T N M t L st h Q) k
theorem R_div {len p q r w y : Nat} {x z : Int32} (hk : cod M pc = some (.idiv, len, p, q, r, w, y)) (hz : ¬ z = 0) (k : WP T N M (pc + 1) L (vi (x / z) :: st) h Q) : WP T N M pc L (vi z :: vi x :: st) h Q :=
  R_p hk (show bin0 (pc + 1) L (vi z :: vi x :: st) (fun x y => x / y) = _ by rw [bin0, if_neg hz]) k
theorem R_rem {len p q r w y : Nat} {x z : Int32} (hk : cod M pc = some (.irem, len, p, q, r, w, y)) (hz : ¬ z = 0) (k : WP T N M (pc + 1) L (vi (x - x / z * z) :: st) h Q) : WP T N M pc L (vi z :: vi x :: st) h Q :=
  R_p hk (show bin0 (pc + 1) L (vi z :: vi x :: st) (fun x y => x - x / y * y) = _ by rw [bin0, if_neg hz]) k
theorem R_ddiv {len p q r w y : Nat} {x z : UInt64} (hk : cod M pc = some (.ddiv, len, p, q, r, w, y)) (hz : vf_n64 (FP.ddiv x z)) (k : WP T N M (pc + 1) L (vd (FP.ddiv x z) :: st) h Q) : WP T N M pc L (vd z :: vd x :: st) h Q :=
  R_p (c := (pc + 1, L, vd (FP.ddiv x z) :: st)) hk (show @ite _ (vf_n64 (FP.ddiv x z)) (Classical.propDecidable _) (some (pc + 1, L, vd (FP.ddiv x z) :: st)) none = _ by rw [if_pos hz]) k
theorem R_getI {i len p q w y a : Nat} (hk : cod M pc = some (.getfield i, len, p, q, 0, w, y)) (ht : T a = p) (k : WP T N M (pc + 3) L (vi (gi h a q) :: st) h Q) : WP T N M pc L (vr (some a) :: st) h Q :=
  R_h (c := (pc + 3, vi (gi h a q) :: st, h)) hk rfl (pif_pos (x := some (pc + 3, vi (gi h a q) :: st, h)) ht) k
theorem R_getZ {i len p q w y a : Nat} (hk : cod M pc = some (.getfield i, len, p, q, 2, w, y)) (ht : T a = p) (k : WP T N M (pc + 3) L (vi (gi h a q) :: st) h Q) : WP T N M pc L (vr (some a) :: st) h Q :=
  R_h (c := (pc + 3, vi (gi h a q) :: st, h)) hk rfl (pif_pos (x := some (pc + 3, vi (gi h a q) :: st, h)) ht) k
theorem R_getR {i len p q w y a : Nat} (hk : cod M pc = some (.getfield i, len, p, q, 1, w, y)) (ht : T a = p) (k : WP T N M (pc + 3) L (vr (gr h a q) :: st) h Q) : WP T N M pc L (vr (some a) :: st) h Q :=
  R_h (c := (pc + 3, vr (gr h a q) :: st, h)) hk rfl (pif_pos (x := some (pc + 3, vr (gr h a q) :: st, h)) ht) k
theorem R_putI {i len p q w y a : Nat} {x : Int32} (hk : cod M pc = some (.putfield i, len, p, q, 0, w, y)) (ht : T a = p) (k : WP T N M (pc + 3) L st (si h a q x) Q) : WP T N M pc L (vi x :: vr (some a) :: st) h Q :=
  R_h (c := (pc + 3, st, si h a q x)) hk rfl (pif_pos (x := some (pc + 3, st, si h a q x)) ⟨ht, Or.inl rfl⟩) k
theorem R_putZ {i len p q w y a : Nat} {x : Int32} (hk : cod M pc = some (.putfield i, len, p, q, 2, w, y)) (ht : T a = p) (hx : x = 0 ∨ x = 1) (k : WP T N M (pc + 3) L st (si h a q x) Q) : WP T N M pc L (vi x :: vr (some a) :: st) h Q :=
  R_h (c := (pc + 3, st, si h a q x)) hk rfl (pif_pos (x := some (pc + 3, st, si h a q x)) ⟨ht, Or.inr ⟨rfl, hx⟩⟩) k
theorem R_putR {i len p q w y a : Nat} {x : Option Nat} (hk : cod M pc = some (.putfield i, len, p, q, 1, w, y)) (ht : T a = p) (k : WP T N M (pc + 3) L st (sr h a q x) Q) : WP T N M pc L (vr x :: vr (some a) :: st) h Q :=
  R_h (c := (pc + 3, st, sr h a q x)) hk rfl (pif_pos (x := some (pc + 3, st, sr h a q x)) ⟨ht, rfl⟩) k
theorem R_iald {len p q r w y a : Nat} {i : Int32} (hk : cod M pc = some (.iaload, len, p, q, r, w, y)) (ht : T a = 22 ∨ T a = 21) (hi : inb i (N a)) (k : WP T N M (pc + 1) L (vi (gi h a i.toNatClampNeg) :: st) h Q) : WP T N M pc L (vi i :: vr (some a) :: st) h Q :=
  R_h (c := (pc + 1, vi (gi h a i.toNatClampNeg) :: st, h)) hk rfl (pif_pos (x := some (pc + 1, vi (gi h a i.toNatClampNeg) :: st, h)) ⟨ht, hi⟩) k
theorem R_cald {len p q r w y a : Nat} {i : Int32} (hk : cod M pc = some (.caload, len, p, q, r, w, y)) (ht : T a = 23) (hi : inb i (N a)) (k : WP T N M (pc + 1) L (vi (gi h a i.toNatClampNeg) :: st) h Q) : WP T N M pc L (vi i :: vr (some a) :: st) h Q :=
  R_h (c := (pc + 1, vi (gi h a i.toNatClampNeg) :: st, h)) hk rfl (pif_pos (x := some (pc + 1, vi (gi h a i.toNatClampNeg) :: st, h)) ⟨ht, hi⟩) k
theorem R_lald {len p q r w y a : Nat} {i : Int32} (hk : cod M pc = some (.laload, len, p, q, r, w, y)) (ht : T a = 24) (hi : inb i (N a)) (k : WP T N M (pc + 1) L (vl (gl h a i.toNatClampNeg) :: st) h Q) : WP T N M pc L (vi i :: vr (some a) :: st) h Q :=
  R_h (c := (pc + 1, vl (gl h a i.toNatClampNeg) :: st, h)) hk rfl (pif_pos (x := some (pc + 1, vl (gl h a i.toNatClampNeg) :: st, h)) ⟨ht, hi⟩) k
theorem R_dald {len p q r w y a : Nat} {i : Int32} (hk : cod M pc = some (.daload, len, p, q, r, w, y)) (ht : T a = 25) (hi : inb i (N a)) (k : WP T N M (pc + 1) L (vd (gd h a i.toNatClampNeg) :: st) h Q) : WP T N M pc L (vi i :: vr (some a) :: st) h Q :=
  R_h (c := (pc + 1, vd (gd h a i.toNatClampNeg) :: st, h)) hk rfl (pif_pos (x := some (pc + 1, vd (gd h a i.toNatClampNeg) :: st, h)) ⟨ht, hi⟩) k
theorem R_aald {len p q r w y a : Nat} {i : Int32} (hk : cod M pc = some (.aaload, len, p, q, r, w, y)) (ht : 30 ≤ T a) (hi : inb i (N a)) (k : WP T N M (pc + 1) L (vr (gr h a i.toNatClampNeg) :: st) h Q) : WP T N M pc L (vi i :: vr (some a) :: st) h Q :=
  R_h (c := (pc + 1, vr (gr h a i.toNatClampNeg) :: st, h)) hk rfl (pif_pos (x := some (pc + 1, vr (gr h a i.toNatClampNeg) :: st, h)) ⟨ht, hi⟩) k
theorem R_alen {len p q r w y a : Nat} (hk : cod M pc = some (.arraylength, len, p, q, r, w, y)) (ht : 21 ≤ T a) (k : WP T N M (pc + 1) L (vi (Int32.ofNat (N a)) :: st) h Q) : WP T N M pc L (vr (some a) :: st) h Q :=
  R_h (c := (pc + 1, vi (Int32.ofNat (N a)) :: st, h)) hk rfl (pif_pos (x := some (pc + 1, vi (Int32.ofNat (N a)) :: st, h)) ht) k
theorem R_iast {len p q r w y a : Nat} {i x : Int32} (hk : cod M pc = some (.iastore, len, p, q, r, w, y)) (ht : T a = 22) (hi : inb i (N a)) (k : WP T N M (pc + 1) L st (si h a i.toNatClampNeg x) Q) : WP T N M pc L (vi x :: vi i :: vr (some a) :: st) h Q :=
  R_h (c := (pc + 1, st, si h a i.toNatClampNeg x)) hk rfl (pif_pos (x := some (pc + 1, st, si h a i.toNatClampNeg x)) ⟨ht, hi, trivial⟩) k
theorem R_cast {len p q r w y a : Nat} {i x : Int32} (hk : cod M pc = some (.castore, len, p, q, r, w, y)) (ht : T a = 23) (hi : inb i (N a)) (hx : 0 ≤ x.toInt ∧ x.toInt < 65536) (k : WP T N M (pc + 1) L st (si h a i.toNatClampNeg x) Q) : WP T N M pc L (vi x :: vi i :: vr (some a) :: st) h Q :=
  R_h (c := (pc + 1, st, si h a i.toNatClampNeg x)) hk rfl (pif_pos (x := some (pc + 1, st, si h a i.toNatClampNeg x)) ⟨ht, hi, hx⟩) k
theorem R_last {len p q r w y a : Nat} {i : Int32} {x : Int64} (hk : cod M pc = some (.lastore, len, p, q, r, w, y)) (ht : T a = 24) (hi : inb i (N a)) (k : WP T N M (pc + 1) L st (sL h a i.toNatClampNeg x) Q) : WP T N M pc L (vl x :: vi i :: vr (some a) :: st) h Q :=
  R_h (c := (pc + 1, st, sL h a i.toNatClampNeg x)) hk rfl (pif_pos (x := some (pc + 1, st, sL h a i.toNatClampNeg x)) ⟨ht, hi⟩) k
theorem R_dast {len p q r w y a : Nat} {i : Int32} {x : UInt64} (hk : cod M pc = some (.dastore, len, p, q, r, w, y)) (ht : T a = 25) (hi : inb i (N a)) (k : WP T N M (pc + 1) L st (sd h a i.toNatClampNeg x) Q) : WP T N M pc L (vd x :: vi i :: vr (some a) :: st) h Q :=
  R_h (c := (pc + 1, st, sd h a i.toNatClampNeg x)) hk rfl (pif_pos (x := some (pc + 1, st, sd h a i.toNatClampNeg x)) ⟨ht, hi⟩) k
theorem R_aast {len p q r w y a b : Nat} {i : Int32} (hk : cod M pc = some (.aastore, len, p, q, r, w, y)) (ht : 1 ≤ T b ∧ T b ≤ 12 ∧ T b + 30 = T a) (hi : inb i (N a)) (k : WP T N M (pc + 1) L st (sr h a i.toNatClampNeg (some b)) Q) : WP T N M pc L (vr (some b) :: vi i :: vr (some a) :: st) h Q :=
  R_h (c := (pc + 1, st, sr h a i.toNatClampNeg (some b))) hk rfl (pif_pos (x := some (pc + 1, st, sr h a i.toNatClampNeg (some b))) ⟨ht, hi⟩) k
theorem R_new {i len p q r w y : Nat} (hk : cod M pc = some (.new i, len, p, q, r, w, y)) (ht : p < 50 ∧ T (nx h) = p) (k : WP T N M (pc + 3) L (vr (some (nx h)) :: st) (grow h (csz p)) Q) : WP T N M pc L st h Q :=
  R_h (c := (pc + 3, vr (some (nx h)) :: st, grow h (csz p))) hk rfl (pif_pos (x := some (pc + 3, vr (some (nx h)) :: st, grow h (csz p))) ht) k
theorem R_newa {t : ArrayType} {len p q r w y : Nat} {n : Int32} (hk : cod M pc = some (.newarray t, len, p, q, r, w, y)) (ht : T (nx h) = p ∧ 0 ≤ n.toInt ∧ n.toInt = N (nx h) ∧ N (nx h) ≤ 65536) (k : WP T N M (pc + 2) L (vr (some (nx h)) :: st) (grow h (N (nx h))) Q) : WP T N M pc L (vi n :: st) h Q :=
  R_h (c := (pc + 2, vr (some (nx h)) :: st, grow h (N (nx h)))) hk rfl (pif_pos (x := some (pc + 2, vr (some (nx h)) :: st, grow h (N (nx h)))) ht) k
theorem R_anew {i len p q r w y : Nat} {n : Int32} (hk : cod M pc = some (.anewarray i, len, p, q, r, w, y)) (ht : T (nx h) = 30 + p ∧ 0 ≤ n.toInt ∧ n.toInt = N (nx h) ∧ N (nx h) ≤ 65536) (k : WP T N M (pc + 3) L (vr (some (nx h)) :: st) (grow h (N (nx h))) Q) : WP T N M pc L (vi n :: st) h Q :=
  R_h (c := (pc + 3, vr (some (nx h)) :: st, grow h (N (nx h)))) hk rfl (pif_pos (x := some (pc + 3, vr (some (nx h)) :: st, grow h (N (nx h)))) ht) k
theorem R_r {e : PE} {v : Option PV} (hk : cod M pc = some e) (hp : pstep e pc L st = none) (hh : hstep T N csz e pc st h = none) (hr : rets e.1 (rk M) st = some v) (q : Q (.inl v) h) : WP T N M pc L st h Q := by
  refine ⟨1, .inl v, h, ?_, q⟩
  rw [exec, hk]; dsimp only; rw [hp]; dsimp only; rw [hh]; dsimp only; rw [hr]
theorem R_ret {len p q r w y : Nat} (hk : cod M pc = some (.return_, len, p, q, r, w, y)) (hr : rk M = 0) (k : Q (.inl none) h) : WP T N M pc L [] h Q :=
  R_r hk rfl rfl (show pif (rk M = 0) (some none) = _ from pif_pos hr) k
theorem R_iret {len p q r w y : Nat} {x : Int32} (hk : cod M pc = some (.ireturn, len, p, q, r, w, y)) (hr : rk M = 1) (k : Q (.inl (some (vi x))) h) : WP T N M pc L [vi x] h Q :=
  R_r hk rfl rfl (show pif _ (some (some (vi x))) = _ from pif_pos (Or.inl hr)) k
theorem R_zret {len p q r w y : Nat} {x : Int32} (hk : cod M pc = some (.ireturn, len, p, q, r, w, y)) (hr : rk M = 2) (hx : x = 0 ∨ x = 1) (k : Q (.inl (some (vi x))) h) : WP T N M pc L [vi x] h Q :=
  R_r hk rfl rfl (show pif _ (some (some (vi x))) = _ from pif_pos (Or.inr (Or.inl ⟨hr, hx⟩))) k
theorem R_cret {len p q r w y : Nat} {x : Int32} (hk : cod M pc = some (.ireturn, len, p, q, r, w, y)) (hr : rk M = 3) (hx : 0 ≤ x.toInt ∧ x.toInt < 65536) (k : Q (.inl (some (vi x))) h) : WP T N M pc L [vi x] h Q :=
  R_r hk rfl rfl (show pif _ (some (some (vi x))) = _ from pif_pos (Or.inr (Or.inr ⟨hr, hx.1, hx.2⟩))) k
theorem R_lret {len p q r w y : Nat} {x : Int64} (hk : cod M pc = some (.lreturn, len, p, q, r, w, y)) (hr : rk M = 4) (k : Q (.inl (some (vl x))) h) : WP T N M pc L [vl x] h Q :=
  R_r hk rfl rfl (show pif _ (some (some (vl x))) = _ from pif_pos hr) k
theorem R_dret {len p q r w y : Nat} {x : UInt64} (hk : cod M pc = some (.dreturn, len, p, q, r, w, y)) (hr : rk M = 5) (k : Q (.inl (some (vd x))) h) : WP T N M pc L [vd x] h Q :=
  R_r hk rfl rfl (show pif _ (some (some (vd x))) = _ from pif_pos hr) k
theorem R_aret {len p q r w y : Nat} {x : Option Nat} (hk : cod M pc = some (.areturn, len, p, q, r, w, y)) (hr : rk M = 6) (k : Q (.inl (some (vr x))) h) : WP T N M pc L [vr x] h Q :=
  R_r hk rfl rfl (show pif _ (some (some (vr x))) = _ from pif_pos hr) k
theorem R_sret {len p q r w y : Nat} {x : Nat} (hk : cod M pc = some (.areturn, len, p, q, r, w, y)) (hr : rk M = 7) (k : Q (.inl (some (vs x))) h) : WP T N M pc L [vs x] h Q :=
  R_r hk rfl rfl (show pif _ (some (some (vs x))) = _ from pif_pos hr) k
theorem R_throw {i len p q r w y : Nat} (hk : cod M pc = some (.new i, len, p, q, r, w, y)) (hp : Nat.ble 100 p = true) (ht : wsum st ≤ 8 ∧ ∀ a, nx h ≤ a → T a = 0) (k : Q (.inr (p % 100)) (bump h)) : WP T N M pc L st h Q := by
  refine ⟨1, .inr (p % 100), bump h, ?_, k⟩
  have h1 : 100 ≤ p := Nat.le_of_ble_eq_true hp
  rw [exec, hk]; dsimp only; rw [show pstep (.new i, len, p, q, r, w, y) pc L st = none from rfl]; dsimp only
  rw [show hstep T N csz (.new i, len, p, q, r, w, y) pc st h = none from (show pif _ _ = none by unfold pif; rw [if_neg (fun z => by have := z.1; dsimp only at this; omega)])]; dsimp only
  rw [show rets (Instr.new i) (rk M) st = none from rfl]; dsimp only
  rw [show isInv (Instr.new i) = false from rfl, hp]
  exact pif_pos ht
/-- a member of the JDK that has a row of its own -/
theorem R_jdk {e : PE} {st2 : List PV} (hk : cod M pc = some e) (hi : isInv e.1 = true) (h1 : pstep e pc L st = none) (h2 : hstep T N csz e pc st h = none) (h3 : rets e.1 (rk M) st = none) (hp : Nat.ble 1000 e.2.2.1 = true) (hj : jstep txt e.2.2.1 st = some st2) (hw : Nat.ble (wsum st2) 8 = true) (k : WP T N M (pc + 3) L st2 h Q) : WP T N M pc L st h Q := by
  obtain ⟨n, o, h4, x, q⟩ := k
  refine ⟨n + 1, o, h4, ?_, q⟩
  rw [exec, hk]; dsimp only; rw [h1]; dsimp only; rw [h2]; dsimp only; rw [h3]; dsimp only; rw [hi, hp, hj]; dsimp only [cond_true]; rw [hw]; exact x
/-- a call -/
theorem R_c {e : PE} {K : PR → PH → Prop} (hk : cod M pc = some e) (hi : isInv e.1 = true) (h1 : pstep e pc L st = none) (h2 : hstep T N csz e pc st h = none) (h3 : rets e.1 (rk M) st = none) (hp : Nat.ble 1000 e.2.2.1 = false)
    (hs : cOK loc rt T e st) (k : CALL T N e.2.2.1 (st.take e.2.2.2.1).reverse h K)
    (kk : ∀ o h2, K o h2 → match o with
      | .inl v => WP T N M (pc + 3) L (v.toList ++ st.drop e.2.2.2.1) h2 Q
      | .inr E => (match hfind pc E (hnd M) with
        | some q => WP T N M q.1 ((lclr L q.2).set q.2 none) [] h2 Q
        | none => Q (.inr E) h2)) : WP T N M pc L st h Q := by
  obtain ⟨n, o, h4, x, q⟩ := k
  have g := kk o h4 q
  have go : ∀ {m : Nat} {r : PO}, n ≤ m → (match (some (o, h4) : Option PO) with
                | some (.inl v, h2) => exec T N m M (pc + 3) L (v.toList ++ st.drop e.2.2.2.1) h2
                | some (.inr E, h2) => (match hfind pc E (hnd M) with
                  | some q => exec T N m M q.1 ((lclr L q.2).set q.2 none) [] h2
                  | none => some (.inr E, h2))
                | none => none) = some r → exec T N (m + 1) M pc L st h = some r := by
    intro m r hm hr
    rw [exec, hk]; dsimp only; rw [h1]; dsimp only; rw [h2]; dsimp only; rw [h3]; dsimp only; rw [hi, hp]; dsimp only [cond_true, cond_false]
    rw [pif_pos hs, exec_le T N hm x]
    exact hr
  cases o with
  | inl v =>
    obtain ⟨n2, o2, h5, x2, q2⟩ := g
    exact ⟨max n n2 + 1, o2, h5, go (Nat.le_max_left _ _) (exec_le T N (Nat.le_max_right _ _) x2), q2⟩
  | inr E =>
    dsimp only at g
    cases h9 : hfind pc E (hnd M) with
    | none =>
      rw [h9] at g
      exact ⟨n + 1, .inr E, h4, go (Nat.le_refl _) (by dsimp only; rw [h9]), g⟩
    | some w =>
      rw [h9] at g
      obtain ⟨n2, o2, h5, x2, q2⟩ := g
      exact ⟨max n n2 + 1, o2, h5, go (Nat.le_max_left _ _) (by dsimp only; rw [h9]; exact exec_le T N (Nat.le_max_right _ _) x2), q2⟩
end ROWS
end EXEC
