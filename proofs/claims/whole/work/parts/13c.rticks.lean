/-! THE REFERENCE: the start and the end of a leg, ticks -/
def drE (e : Int → Int) (i : Int) : Int → Int := fun j => if j = 5 then e 5 - 1 else if 13 ≤ j ∧ j < 13 + i then e (j + 1) else e j
def stB (v : Int → Int) (e : Int → Int) : Int → Int :=
  if e 1 < chgE e + ownE v e then up (up e 5 0) 4 (-1)
  else up (up (up (up (up (up (up e 1 (e 1 - chgE e - ownE v e)) 7 (e 7 + ownE v e)) 8 (e 8 + chgE e)) 11 (e 11 + 1)) 0 2) 2 (e 13 / 32 % 4)) 3 (v (12 + 4 * (e 13 % 16) + (1 - e 13 / 16 % 2)))
section RTS
variable {T N : Nat → Nat} {A a b : Nat} {h h2 h3 : PH} {u v e e2 : Int → Int} {d t : Int} {K : Int → PH → Prop} {KV : PH → Prop}
theorem costV_cg {c x : Int} (hc : 0 ≤ c ∧ c < 16) (s : ∀ j, 0 ≤ j → j < 118 → u j = v j) : costV u c x = costV v c x := by
  unfold costV; rw [s _ (by omega) (by omega), s _ (by omega) (by omega)]
theorem endV_cg2 {x : Int} (s : ∀ j, 0 ≤ j → j < 118 → u j = v j) : endV u x = endV v x := by
  unfold endV; rw [s _ (by omega) (by omega)]
theorem r_costD (R : RT T N A h) (V : Rv A h (putD u d e)) (I : Iv v) (s : ∀ j, 0 ≤ j → j < 118 → u j = v j) (hd : 0 ≤ d ∧ d < 6) {c x : Int} (hc : 0 ≤ c ∧ c < v 11) (hx : In x) (k : K (costV v c x) h) : ZI T N 167 [vr (some A), vi (J c), vi (J x)] h K := by
  have b := I.b
  have cO := I.c hc.1 hc.2
  have q : ∀ j, 0 ≤ j → j < 118 → ai h (A + 1) j = v j := fun j a1 a2 => by rw [V j a1 (by omega), putD_lo hd.1 a2]; exact s j a1 a2
  have q2 := q (12 + 4 * c + 2) (by omega) (by omega)
  have q3 := q (12 + 4 * c + 3) (by omega) (by omega)
  unfold corOK at cO
  exact r_costs R (by omega) hx (by omega) (by rw [costV_cg (by omega) q]; exact k)
theorem r_endD (R : RT T N A h) (V : Rv A h (putD u d e)) (I : Iv v) (s : ∀ j, 0 ≤ j → j < 118 → u j = v j) (hd : 0 ≤ d ∧ d < 6) {x : Int} (hx : legOK v x) (k : K (endV v x) h) : ZI T N 191 [vr (some A), vi (J x)] h K := by
  have b := I.b
  unfold legOK at hx
  have cO := I.c (n := x % 16) (by omega) (by omega)
  have q : ∀ j, 0 ≤ j → j < 118 → ai h (A + 1) j = v j := fun j a1 a2 => by rw [V j a1 (by omega), putD_lo hd.1 a2]; exact s j a1 a2
  have q2 := q (12 + 4 * (x % 16) + 2) (by omega) (by omega)
  unfold corOK at cO
  exact r_eOf R (by omega) (by omega) (by rw [endV_cg2 q]; exact k)
theorem r_starts (R : RT T N A h) (V : Rv A h (putD u d e)) (I : Iv v) (s : ∀ j, 0 ≤ j → j < 118 → u j = v j) (hd : 0 ≤ d ∧ d < 6) (O : drOK v t e) (ht : t ≤ 10100) (h5 : 0 < e 5) (k : ∀ h2, RT T N A h2 → FR (Vw A) h h2 → Rv A h2 (putD u d (stB v e)) → KV h2) : CV T N 227 [vr (some A), vi (J d)] h KV := by
  have bb := I.b
  obtain ⟨o0, o1, o2, o3, o4, o5, o6, o7, o8, o9, o10, o11, o12, os, oa, ob, oc, ol⟩ := id O
  have LL : legOK v (e 13) := ol 0 (by omega) (by omega)
  have L2 := LL
  unfold legOK at L2
  have cO := I.c (n := e 13 % 16) (by omega) (by omega)
  have hown : 1 ≤ ownE v e ∧ ownE v e ≤ 27 := costV_b (x := e 13 / 16 % 2) cO
  have hchg := chgE_b O LL
  have eH : (if e 13 / 32 % 4 - e 2 < 0 then -(e 13 / 32 % 4 - e 2) else e 13 / 32 % 4 - e 2) = chgE e := rfl
  have e7 : e 7 ≤ 100000 := by omega
  have e8 : e 8 ≤ 100000 := by omega
  clear oa ob oc os
  unfold stB at k
  refine z227 R.t (by omega) (r_legD R V hd (by omega) ?_)
  rw [show (13 : Int) + 0 = 13 from rfl]
  refine r_lOf (by omega) (r_ofD R V hd (by omega) (r_abs (by omega) ?_))
  rw [eH]
  refine r_cOf (by omega) (r_wOf (by omega) (r_costD R V I s hd (by omega) (by omega) (r_ofD R V hd (by omega) ?_)))
  rw [show costV v (e 13 % 16) (e 13 / 16 % 2) = ownE v e from rfl]
  clear eH
  generalize hC : chgE e = C at *
  generalize hW : ownE v e = W at *
  · skip
    refine ⟨by omega, fun c => ?_, fun c => ?_⟩
    · rw [if_pos (by omega)] at k
      exact r_setD R V hd (by omega) (by omega) fun h3 R3 F3 V3 => r_setD R3 V3 hd (by omega) (by omega) fun h4 R4 F4 V4 => k h4 R4 (F3.tr F4) V4
    · rw [if_neg (by omega)] at k
      refine r_ofD R V hd (by omega) (r_setD R V hd (by omega) (by omega) fun h3 R3 F3 V3 => r_ofD R3 V3 hd (by omega) ?_)
      rw [up_ne (by omega)]
      refine r_setD R3 V3 hd (by omega) (by omega) fun h4 R4 F4 V4 => r_ofD R4 V4 hd (by omega) ?_
      rw [up_ne (by omega), up_ne (by omega)]
      refine r_setD R4 V4 hd (by omega) (by omega) fun h5 R5 F5 V5 => r_ofD R5 V5 hd (by omega) ?_
      rw [up_ne (by omega), up_ne (by omega), up_ne (by omega)]
      refine r_setD R5 V5 hd (by omega) (by omega) fun h6 R6 F6 V6 => r_setD R6 V6 hd (by omega) (by omega) fun h7 R7 F7 V7 => r_lOf (by omega) (r_setD R7 V7 hd (by omega) (by omega) fun h8 R8 F8 V8 => r_cOf (by omega) (r_wOf (by omega) (r_end R8 (by omega) (by omega) ?_)))
      rw [V8 _ (by omega) (by omega), putD_lo hd.1 (by omega), s _ (by omega) (by omega)]
      have hv : In (v (12 + 4 * (e 13 % 16) + (1 - e 13 / 16 % 2))) := by
        unfold corOK at cO
        rcases (show e 13 / 16 % 2 = 0 ∨ e 13 / 16 % 2 = 1 by omega) with z | z <;> rw [z]
        · rw [show (1 : Int) - 0 = 1 from rfl]; omega
        · rw [show (1 : Int) - 1 = 0 from rfl]; omega
      exact r_setD R8 V8 hd (by omega) hv fun h9 R9 F9 V9 => k h9 R9 (((((((F3.tr F4).tr F5).tr F6).tr F7).tr F8)).tr F9) V9
theorem r_ends (R : RT T N A h) (V : Rv A h (putD u d e)) (I : Iv v) (s : ∀ j, 0 ≤ j → j < 118 → u j = v j) (hd : 0 ≤ d ∧ d < 6) (O : drOK v t e) (ht : t ≤ 10100) (h0 : e 0 = 2) (hl : 0 ≤ ai h A 23 ∧ ai h A 23 ≤ 100000) (hu : u 448 = t + 1) (k : ∀ h2, RT T N A h2 → FR (Tw A) h h2 → Rv A h2 (putD u d (finE v (t + 1) e)) → ai h2 A 23 = ai h A 23 + lanE v (t + 1) e → KV h2) : CV T N 228 [vr (some A), vi (J d)] h KV := by
  have bb := I.b
  have n1 := R.a1.2.1
  have OO := O
  obtain ⟨o0, o1, o2, o3, o4, o5, o6, o7, o8, o9, o10, o11, o12, os, oa, ob, oc, ol⟩ := O
  have o5' := oc h0
  have LL : legOK v (e 13) := ol 0 (by omega) (by omega)
  unfold finE lanE at k
  rw [if_neg (by omega), if_neg (by omega), if_pos h0] at k
  have nx : ∀ {g g2 : PH}, FR (fun b k => b = A + 1) g g2 → FR (Tw A) g g2 := fun F => F.mo fun b k z => Or.inl z
  have set1 : ∀ {g : PH} {f : Int → Int} {w x : Int} {KK : PH → Prop}, RT T N A g → Rv A g (putD u d f) → 0 ≤ w ∧ w < 55 → In x → (∀ g2, RT T N A g2 → FR (fun b k => b = A + 1) g g2 → Rv A g2 (putD u d (up f w x)) → KK g2) → CV T N 169 [vr (some A), vi (J d), vi (J w), vi (J x)] g KK := fun R V hw hx kk => r_sets R hd hw hx (kk _ (R.to rfl) (FR.pw rfl) (by rw [← putD_up hw]; exact V.w (by omega) hx))
  refine z228 R.t (by omega) (r_legD R V hd (by omega) (r_endD R V I s hd LL ⟨A + 1, R.a1.2.2, R.a1.1, by omega, ?_⟩))
  rw [V 448 (by omega) (by omega), putD_hi hd.2 (by omega), hu]
  refine ⟨fun c => ?_, fun c => ?_⟩
  rotate_left
  · have c' : ¬ endV v (e 13) = t + 1 := c
    rw [if_neg c', if_neg (fun z => c' z.2.1)] at k
    exact k h R FR.rf V (by omega)
  have c' : endV v (e 13) = t + 1 := c
  rw [if_pos c'] at k
  refine r_ofD R V hd (by omega) (set1 R V (by omega) (by omega) fun h3 R3 F3 V3 => ?_)
  have loop : ∀ (n : Nat) (i : Int) (h4 : PH), i = e 5 - 1 - n → 0 ≤ i → RT T N A h4 → FR (fun b k => b = A + 1) h h4 → Rv A h4 (putD u d (drE e i)) → WV T N 228 38 [some (vr (some A)), some (vi (J d)), some (vi (J i))] [] h4 KV := by
    intro n
    induction n with
    | zero =>
      intro i h4 hi h0i R4 F4 V4
      have ei : i = e 5 - 1 := by omega
      subst ei
      have V4' : Rv A h4 (putD u d (shE e)) := V4
      have s5 : shE e 5 = e 5 - 1 := rfl
      have sh : ∀ j, 0 ≤ j → j < 13 → j ≠ 5 → shE e j = e j := fun j a1 a2 a3 => by unfold shE; rw [if_neg a3, if_neg (by omega)]
      refine z228_38 R.t (by omega) (by omega) (r_ofD R4 V4' hd (by omega) ⟨fun c => absurd c (by rw [s5]; omega), fun c => ?_⟩)
      refine set1 R4 V4' (by omega) (by omega) fun h5 R5 F5 V5 => r_ofD R5 V5 hd (by omega) ?_
      have n1' := R5.a1.2.1
      rw [up_ne (by omega), s5]
      have l5 : ai h5 A 23 = ai h A 23 := (F4.tr F5).ai (by omega)
      have no : (0 < e 5 - 1 ∨ e 3 ≠ e 4 ∨ v (1 + e 3) ≠ 1) → KV h5 := fun c => by
        rw [if_pos c, if_neg (fun z => z.2.2 c)] at k; exact k h5 R5 (nx (F4.tr F5)) V5 (by omega)
      refine ⟨fun c2 => no (Or.inl c2), fun c2 => r_ofD R5 V5 hd (by omega) (r_ofD R5 V5 hd (by omega) ?_)⟩
      rw [up_ne (by omega), sh 3 (by omega) (by omega) (by omega), up_ne (by omega), sh 4 (by omega) (by omega) (by omega)]
      refine ⟨fun c3 => r_ofD R5 V5 hd (by omega) ?_, fun c3 => no (Or.inr (Or.inl c3))⟩
      rw [up_ne (by omega), sh 3 (by omega) (by omega) (by omega)]
      refine ⟨A + 1, R5.a1.2.2, R5.a1.1, by omega, ?_⟩
      rw [V5 _ (by omega) (by omega), putD_lo hd.1 (by omega), s _ (by omega) (by omega)]
      have pv := I.p (n := e 3) (by omega) (by omega)
      refine ⟨fun c4 => no (Or.inr (Or.inr (by omega))), fun c4 => ?_⟩
      have c5 : ¬ (0 < e 5 - 1 ∨ e 3 ≠ e 4 ∨ v (1 + e 3) ≠ 1) := by omega
      rw [if_neg c5, if_pos ⟨h0, c', c5⟩] at k
      refine z214 R5.t (by omega) (set1 R5 V5 (by omega) (by omega) fun h6 R6 F6 V6 => set1 R6 V6 (by omega) (by omega) fun h7 R7 F7 V7 => ?_)
      have l7 : ai h7 A 23 = ai h A 23 := (((F4.tr F5).tr F6).tr F7).ai (by omega)
      intro h8 z8
      rw [l7] at z8
      have F8 : FR (Tw A) h h8 := by subst z8; exact (nx (((F4.tr F5).tr F6).tr F7)).tr (FR.pw (Or.inr ⟨rfl, rfl⟩))
      refine k h8 (R.fr F8) F8 ?_ ?_
      · exact V7.fr (by subst z8; exact FR.pw (Or.inl ⟨rfl, by decide⟩))
      · subst z8; exact rd_eq rfl rfl (by omega)
    | succ n ih =>
      intro i h4 hi h0i R4 F4 V4
      refine z228_38 R.t (by omega) (by omega) (r_ofD R4 V4 hd (by omega) ⟨fun c => ?_, fun c => absurd (show i < e 5 - 1 by omega) c⟩)
      have q : drE e i (13 + (i + 1)) = e (13 + (i + 1)) := by unfold drE; rw [if_neg (by omega), if_neg (by omega)]
      have lq := ol (i + 1) (by omega) (by omega)
      unfold legOK at lq
      refine r_legD R4 V4 hd (by omega) ?_
      rw [q]
      refine set1 R4 V4 (by omega) (by omega) fun h5 R5 F5 V5 => ih (i + 1) h5 (by omega) (by omega) R5 (F4.tr F5) (V5.cg fun j a1 a2 => ?_)
      unfold putD up drE
      by_cases c2 : 118 + 55 * d ≤ j ∧ j < 118 + 55 * d + 55
      · rw [if_pos c2, if_pos c2]
        by_cases c3 : j - 118 - 55 * d = 13 + i
        · rw [if_pos c3, if_neg (by omega), if_pos (by omega)]; congr 1; omega
        · rw [if_neg c3]
          by_cases c4 : j - 118 - 55 * d = 5
          · rw [if_pos c4, if_pos c4]
          · rw [if_neg c4, if_neg c4]
            by_cases c5 : 13 ≤ j - 118 - 55 * d ∧ j - 118 - 55 * d < 13 + i
            · rw [if_pos c5, if_pos (by omega)]
            · rw [if_neg c5, if_neg (by omega)]
      · rw [if_neg c2, if_neg c2]
  refine loop (e 5 - 1).toNat 0 h3 (by omega) (by omega) R3 F3 (V3.cg fun j a1 a2 => ?_)
  unfold putD up drE
  by_cases c2 : 118 + 55 * d ≤ j ∧ j < 118 + 55 * d + 55
  · rw [if_pos c2, if_pos c2]
    by_cases c4 : j - 118 - 55 * d = 5
    · rw [if_pos c4, if_pos c4]
    · rw [if_neg c4, if_neg c4, if_neg (by omega)]
  · rw [if_neg c2, if_neg c2]
end RTS
