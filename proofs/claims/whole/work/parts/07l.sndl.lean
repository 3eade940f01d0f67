/-! THE PURE MACHINE IS TRUE OF THE MACHINE, last part: every run -/
section SNDL
variable {T N : Nat → Nat}
theorem LR_cat {sa : Nat → Nat} {L : PL} {i q : Nat} {ls' : Array Slot} (g : lv_has ls' L.length ((i, .ref q) :: (prs sa L).filter (fun q => !(q.1 == i) && !(q.1 + 1 == i && q.2.category == 2)))) : LR sa ((lclr L i).set i none) ls' := by
  refine ⟨by rw [g.1]; simp [lclr_len], g.2.1, fun j w hw => ?_⟩
  by_cases e : j = i
  · subst e; rw [lget_set_none] at hw; cases hw
  · rw [lget_set_ne e] at hw
    obtain ⟨h1, h2⟩ := lclr_get hw
    refine g.2.2 (j, cv sa w) (List.mem_cons_of_mem _ (List.mem_filter.mpr ⟨prs_mem h1, ?_⟩))
    have e1 : (j == i) = false := by simpa using e
    by_cases e2 : j + 1 = i
    · have := cv_one (sa := sa) (h2 e2)
      simp [e1, this]
    · have e3 : (j + 1 == i) = false := by simpa using e2
      simp [e1, e3]
theorem rets_len {i : Instr} {rk : Nat} {st : List PV} {v : Option PV} (h : rets i rk st = some v) : isSw i = false ∧ ilen i = 1 := by
  unfold rets at h
  split at h
  · exact ⟨rfl, rfl⟩
  · exact ⟨rfl, rfl⟩
  · exact ⟨rfl, rfl⟩
  · exact ⟨rfl, rfl⟩
  · exact ⟨rfl, rfl⟩
  · cases h
set_option maxHeartbeats 2000000 in
theorem snd (aT : ∀ M, M < 289 → tabOK M = true) (aM : ∀ M, M < 288 → mchk M = true) (aL : ∀ M, M < 288 → loc M ≤ 81) (aH : hnd 288 = []) : ∀ n, Snd T N n := by
  intro n
  induction n with
  | zero => intro M pc L st h o h2 ex; cases ex
  | succ n ih =>
    intro M pc L st h o h2 ex hM D sad bs p l e R s m args below meth c Q hC hE ls H locs cells slots hLR hlen hVL hVS hVH hb0 hR hS hc hs
    obtain ⟨hx, hb, hml, hown, hts, hlk, htab, hini, hl, hT, hF, hfr, hlo⟩ := id hC
    have hsz : ls.size = loc M := hLR.1.trans hlen
    rw [exec] at ex
    cases h1 : cod M pc with
    | none => rw [h1] at ex; cases ex
    | some e0 =>
      rw [h1] at ex
      dsimp only at ex
      obtain ⟨d1, d2, d3, d4, d5⟩ := row_at (aT M hM) h1
      cases g2 : pstep e0 pc L st with
      | some d =>
        rw [g2] at ex
        obtain ⟨v1, v2⟩ := pstep_ok g2 hVL hVS
        exact snd_p hx hb hown hts (fun j own k tx e hm => by unfold sav; rw [e]; exact hT.2.2.2.2.1 own k tx hm) d1 d2 d3 g2 hLR (fun ls' a1 a2 => ih ex hM hC hE a1 (a2.trans hlen) v1 v2 hVH hb0 hR hS hc hs)
      | none =>
        rw [g2] at ex; dsimp only at ex
        cases g3 : hstep T N csz e0 pc st h with
        | some d =>
          rw [g3] at ex
          obtain ⟨⟨v1, v2⟩, v3, v4, v5⟩ := hstep_ok g3 hVS hVH
          obtain ⟨⟨u1, u2⟩, u3, -, -⟩ := exec_ok n ex (hVL.up v1) v4 v5
          exact snd_h hx hb hown hts hT.1 hT.2.2.2.1 hini d1 d2 d4 g3 hR hVS hS (by omega) (by omega) hb0 (fun H2 locs2 c2 s2 a1 a2 a3 a4 => ih ex hM hC hE hLR hlen (hVL.up v1) v4 v5 (Nat.le_trans hb0 v1) a1 a2 (by omega) (by omega))
        | none =>
          rw [g3] at ex; dsimp only at ex
          cases g4 : rets e0.1 (rk M) st with
          | some v =>
            rw [g4] at ex
            cases ex
            obtain ⟨r1, r2⟩ := rets_len g4
            have r3 := rets_st g4
            subst r3
            exact hE e0.1 pc ls H locs cells slots (by rw [d1, d2 r1, r2]) g4 hR hS (by omega) (by omega)
          | none =>
            rw [g4] at ex; dsimp only at ex
            cases g5 : isInv e0.1 with
            | true =>
              rw [g5] at ex; dsimp only [cond_true] at ex
              cases g6 : Nat.ble 1000 e0.2.2.1 with
              | true =>
                rw [g6] at ex; dsimp only [cond_true] at ex
                cases g7 : jstep txt e0.2.2.1 st with
                | none => rw [g7] at ex; cases ex
                | some st2 =>
                  rw [g7] at ex; dsimp only at ex
                  cases g8 : Nat.ble (wsum st2) 8 with
                  | false => rw [g8] at ex; cases ex
                  | true =>
                    rw [g8] at ex
                    have ex : exec T N n M (pc + 3) L st2 h = some (o, h2) := ex
                    have v4 := jstep_ok g7 hVS
                    obtain ⟨⟨u1, u2⟩, u3, -, -⟩ := exec_ok n ex hVL v4 hVH
                    exact jdk_run aT hM h1 g5 g6 g7 g8 hC hsz hS (by omega) (by omega) (ih ex hM hC hE hLR hlen hVL v4 hVH hb0 hR hS hc hs)
              | false =>
                rw [g6] at ex; dsimp only [cond_false] at ex
                obtain ⟨hok, ex⟩ := pif_some ex
                have hva : VS (nx h) (st.take e0.2.2.2.1).reverse := fun v hv => hVS v (List.mem_of_mem_take (List.mem_reverse.mp hv))
                have hvd : VS (nx h) (st.drop e0.2.2.2.1) := fun v hv => hVS v (List.mem_of_mem_drop hv)
                cases g8 : exec T N n e0.2.2.1 0 (ent (st.take e0.2.2.2.1).reverse (loc e0.2.2.1)) [] h with
                | none => rw [g8] at ex; cases ex
                | some d =>
                  rw [g8] at ex
                  obtain ⟨r, h3⟩ := d
                  obtain ⟨⟨u1, u2⟩, u3, u4, u5⟩ := exec_ok n g8 (ent_VL hva) (fun v hv => by cases hv) hVH
                  cases r with
                  | inl v =>
                    dsimp only at ex
                    have hvs : VS (nx h3) (v.toList ++ st.drop e0.2.2.2.1) := fun x hx => by
                      rcases List.mem_append.mp hx with hx | hx
                      · cases v with
                        | none => cases hx
                        | some y =>
                          have hx := List.mem_singleton.mp hx
                          subst hx
                          exact u5 x rfl
                      · exact (hvd.up u1) x hx
                    obtain ⟨⟨w1, w2⟩, w3, -, -⟩ := exec_ok n ex (hVL.up u1) hvs u4
                    refine call_run ih aT aM aL hM h1 g5 g6 hok g8 hC hsz hVS hVH hb0 hR hS (by omega) (by omega) (fun v9 hv9 H2 L2 a1 a2 => ?_) (fun E hE9 => by cases hE9)
                    cases hv9
                    rw [← List.map_append]
                    exact ih ex hM hC hE hLR hlen (hVL.up u1) hvs u4 (Nat.le_trans hb0 u1) a1 a2 (by omega) (by omega)
                  | inr E =>
                    dsimp only at ex
                    cases g9 : hfind pc E (hnd M) with
                    | none =>
                      rw [g9] at ex
                      cases ex
                      refine call_run ih aT aM aL hM h1 g5 g6 hok g8 hC hsz hVS hVH hb0 hR hS (by omega) (by omega) (fun v9 hv9 => by cases hv9) (fun E9 hE9 hlt H2 L2 q ce0 a1 a2 a3 a4 a5 => ?_)
                      cases hE9
                      exact hE.2 pc ls H2 L2 _ _ _ q ce0 hlt g9 a3 a4 a5 a1 a2 (by omega) (by omega)
                    | some q =>
                      rw [g9] at ex; dsimp only at ex
                      have hM2 : M < 288 := by
                        rcases Nat.lt_or_ge M 288 with z | z
                        · exact z
                        · rw [show M = 288 by omega, aH] at g9; cases g9
                      obtain ⟨-, -, -, -, -, -, k7⟩ := mchk_at (aM M hM2)
                      have hvl2 : VL (nx h3) ((lclr L q.2).set q.2 none) := (hVL.up u1).clr.set0
                      have hv0 : VS (nx h3) ([] : List PV) := fun v hv => by cases hv
                      obtain ⟨⟨w1, w2⟩, w3, -, -⟩ := exec_ok n ex hvl2 hv0 u4
                      refine call_run ih aT aM aL hM h1 g5 g6 hok g8 hC hsz hVS hVH hb0 hR hS (by omega) (by omega) (fun v9 hv9 => by cases hv9) (fun E9 hE9 hlt H2 L2 q9 ce0 a1 a2 a3 a4 a5 => ?_)
                      cases hE9
                      obtain ⟨pre, x, suf, y1, y2, y3, y4, y5, y6, y7, y8⟩ := hh_some k7 g9
                      refine vx_catch (name := exn E) (E := exn E) hown pre x suf ((htab hM2).trans y1) (fun z hz => ?_) y3 y4 (hts _ (List.mem_filter.mpr ⟨y6, rfl⟩)) (va_Nw.use rfl (hT.2.2.1 _ _ y7)) a3 a4 a5 ?_
                      · rcases y2 z hz with g | ⟨j, z1, z2, z3, z4⟩
                        · exact Or.inl g
                        · exact Or.inr ⟨z3, _, hts _ (List.mem_filter.mpr ⟨z4, rfl⟩), hT.2.2.2.2.2.1 E j hlt z1 (fun z => z2 z.symm)⟩
                      have hsl : q.2 < L.length := by rw [hlen]; exact y5
                      have hlen2 : ((lclr L q.2).set q.2 none).length = loc M := by rw [List.length_set, lclr_len]; exact hlen
                      have hgo : ∀ ls' : Array Slot, lv_has ls' L.length ((q.2, .ref q9) :: (prs (sav sad) L).filter (fun w => !(w.1 == q.2) && !(w.1 + 1 == q.2 && w.2.category == 2))) → W p l e R s m args below meth c H2 L2 (cells + (ce h3 - ce h)) (slots + (sl h3 - sl h)) Q (F0 m q.1 ls' []) := fun ls' hh =>
                        ih ex hM hC hE (LR_cat hh) hlen2 hvl2 hv0 u4 (Nat.le_trans hb0 u1) a1 a2 (by omega) (by omega)
                      rcases y8 with ⟨y8, y9, y10⟩ | ⟨y9, y10⟩
                      · rw [y9] at hgo
                        exact lv_astore_n hx hb y10 (show ((Fin.ofNat 4 q.2 : Fin 4) : Nat) = q.2 by show q.2 % 4 = q.2; omega) hLR.has hsl rfl hgo
                      · rw [y9] at hgo
                        exact lv_astore hx hb y10 hLR.has hsl rfl hgo
            | false =>
              rw [g5] at ex; dsimp only [cond_false] at ex
              obtain ⟨ei, elen, ep, eq, er, ew, ey⟩ := e0
              dsimp only at ex
              split at ex
              · cases g6 : Nat.ble 100 ep with
                | false => rw [g6] at ex; cases ex
                | true =>
                  rw [g6] at ex; dsimp only [cond_true] at ex
                  obtain ⟨⟨z1, z2⟩, ex⟩ := pif_some ex
                  cases ex
                  exact hE.1 _ _ pc ls H locs cells slots st h h1 rfl g6 rfl rfl z2 z1 hR hS hsz (by show cells + 1 ≤ R.cells; have : ce (bump h) = ce h + 1 := rfl; omega) (by have : sl (bump h) = sl h + 6 := rfl; omega)
              · cases ex
end SNDL
