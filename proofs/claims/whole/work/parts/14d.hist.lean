/-! THE CLASS'S MEMORY -/
section HIS
variable {T N : Nat → Nat} {bs A a b w w1 : Nat} {h h2 h3 : PH} {u v e e2 g : Int → Int} {hs : Int → Int → Int} {d t n : Int} {K : Int → PH → Prop} {KV : PH → Prop} {KR : Option Nat → PH → Prop}
theorem S1.his (S : S1 T N bs h) : T (bs + 589) = 5 ∧ gr h (bs + 589) 2 = some (bs + 590) ∧ T (bs + 590) = 40 ∧ N (bs + 590) = 9 ∧ ∀ j : Nat, j < 9 → gr h (bs + 590) j = some (bs + 591 + 294 * j) := S.2.1
theorem d_placeOf (S : S1 T N bs h) (ho : 0 ≤ ai h (bs + 589) 1 ∧ ai h (bs + 589) 1 < 9) {i : Int} (hi : 0 ≤ i ∧ i ≤ 8) (k : KR (some (HW bs (ai h (bs + 589) 1) i)) h) : CR T N 46 [vr (some (bs + 589)), vi (J i)] h KR := by
  obtain ⟨t5, g2, t40, n9, gj⟩ := S.his
  refine z46 t5 (by omega) ⟨by omega, by omega, fun c => by omega, fun c => ⟨bs + 590, g2, by omega, by omega, fun c => ⟨bs + 590, g2, by omega, by omega, ?_⟩, fun c => absurd (by omega) c⟩⟩
  rw [gj _ (by omega)]; exact k
theorem HW_lo (o i : Int) : bs + 591 ≤ HW bs o i ∧ HW bs o i + 294 ≤ bs + 3237 := by unfold HW; omega
theorem S2.hw (S : S2 T N bs h) (o i : Int) : WO T N h (HW bs o i) := S.2.2.1 _ (by omega)
theorem d_sketch (S : S1 T N bs h) (Q : S2 T N bs h) (ho : 0 ≤ ai h (bs + 589) 1 ∧ ai h (bs + 589) 1 < 9) (hn : ai h (bs + 589) 0 = n ∧ 0 ≤ n ∧ n ≤ 8) (W : Wo T N h (bs + 1) v) (I : Iv v) (k : ∀ h2, Fp (fun x => HW bs (ai h (bs + 589) 1) n ≤ x ∧ x < HW bs (ai h (bs + 589) 1) n + 294) h h2 → gr h2 = gr h → Wo T N h2 (HW bs (ai h (bs + 589) 1) n) v → KV h2) : CV T N 42 [vr (some (bs + 589)), vr (some (bs + 1))] h KV := by
  have hw := HW_lo (bs := bs) (ai h (bs + 589) 1) n
  refine z42 S.his.1 ?_
  rw [hn.1]
  refine d_placeOf S ho hn.2 ⟨fun z => by (cases z), fun x ex => ?_⟩
  cases ex
  exact ⟨(Q.hw _ _).t, d_copyW W I (Q.hw _ _) (by omega) fun h2 F g C => k h2 F g C⟩
theorem d_keep (S : S1 T N bs h) {n o : Int} (hn : ai h (bs + 589) 0 = n ∧ 0 ≤ n ∧ n ≤ 8) (ho : ai h (bs + 589) 1 = o ∧ 0 ≤ o ∧ o < 9) (k : ∀ h2, Fp (fun x => x = bs + 589) h h2 → gr h2 = gr h → ai h2 (bs + 589) 0 = pushN n → ai h2 (bs + 589) 1 = (if n = 8 then (o + 1) % 9 else o) → KV h2) : CV T N 43 [vr (some (bs + 589))] h KV := by
  unfold pushN at k
  refine z43 S.his.1 ⟨fun c => ?_, fun c => ⟨by omega, ?_⟩⟩
  · intro h2 z; subst z
    rw [if_neg (by omega), if_neg (by omega)] at k
    exact k _ (Fp.pw rfl) rfl (by rw [rd_eq rfl rfl (by omega)]; omega) (by rw [rd_k (by omega) (by omega) (by omega)]; exact ho.1)
  · intro h2 z; subst z
    rw [if_pos (by omega), if_pos (by omega)] at k
    exact k _ (Fp.pw rfl) rfl (by rw [rd_k (by omega) (by omega) (by omega)]; omega) (by rw [rd_eq rfl rfl (by omega), ho.1])
/-- a row that was sketched, and is kept now -/
theorem DH_push {o : Int} (D : DH T N bs h n hs) (ho : ai h (bs + 589) 1 = o) (I : ∀ i, 0 ≤ i → i < n → Iv (hs i)) (J : Iv v) (s : ∀ x, bs + 591 ≤ x → x < bs + 3237 → ¬ (HW bs o n ≤ x ∧ x < HW bs o n + 294) → sm x h h2) (W : Wo T N h2 (HW bs o n) v) (s3 : ∀ x, bs + 591 ≤ x → x < bs + 3237 → sm x h2 h3) (e0 : ai h3 (bs + 589) 0 = pushN n) (e1 : ai h3 (bs + 589) 1 = (if n = 8 then (o + 1) % 9 else o)) : DH T N bs h3 (pushN n) (pushH n hs v) := by
  obtain ⟨D1, D2, D3, D4⟩ := D
  rw [ho] at D3 D4
  have old : ∀ i, 0 ≤ i → i < n → Wo T N h3 (HW bs o i) (hs i) := fun i h1 h2' => by
    have a1 := HW_lo (bs := bs) o i
    have : (o + i) % 9 ≠ (o + n) % 9 := by omega
    refine (D4 i h1 h2').fr (fun b q1 q2 => (s b (by omega) (by omega) ?_).tr (s3 b (by omega) (by omega))) (I i h1 h2')
    unfold HW at q1 q2 ⊢; omega
  have a2 := HW_lo (bs := bs) o n
  have new : Wo T N h3 (HW bs o n) v := W.fr (fun b q1 q2 => s3 b (by omega) (by omega)) J
  refine ⟨e0, pushN_b D2, by rw [e1]; split <;> omega, fun i h1 h2' => ?_⟩
  rw [e1]
  unfold pushN at h2'
  unfold pushH
  by_cases c : n = 8
  · rw [if_pos c] at h2' ⊢
    rw [if_pos c]
    by_cases c2 : i = 7
    · rw [if_pos c2]
      have : HW bs ((o + 1) % 9) i = HW bs o n := by unfold HW; congr 3; omega
      rw [this]; exact new
    · rw [if_neg c2]
      have : HW bs ((o + 1) % 9) i = HW bs o (i + 1) := by unfold HW; congr 3; omega
      rw [this]; exact old _ (by omega) (by omega)
  · rw [if_neg c] at h2' ⊢
    rw [if_neg c]
    by_cases c2 : i = n
    · rw [if_pos c2, c2]; exact new
    · rw [if_neg c2]; exact old _ (by omega) (by omega)
theorem d_remember (S : S1 T N bs h) (Q : S2 T N bs h) (D : DH T N bs h n hs) (IH : ∀ i, 0 ≤ i → i < n → Iv (hs i)) (W : Wo T N h (bs + 1) v) (I : Iv v) (k : ∀ h2, Fp (fun x => bs + 589 ≤ x ∧ x < bs + 3237) h h2 → gr h2 = gr h → DH T N bs h2 (pushN n) (pushH n hs v) → KV h2) : CV T N 41 [vr (some (bs + 589)), vr (some (bs + 1))] h KV := by
  have DD := D
  obtain ⟨D1, D2, D3, D4⟩ := D
  have hw := HW_lo (bs := bs) (ai h (bs + 589) 1) n
  refine z41 S.his.1 (d_sketch S Q D3 ⟨D1, D2⟩ W I fun h2 F2 g2 W2 => ?_)
  have sH : sm (bs + 589) h h2 := F2.1 _ (by omega)
  refine d_keep (S.to g2) (n := n) (o := ai h (bs + 589) 1) ⟨by rw [sH.ai]; exact D1, D2⟩ ⟨by rw [sH.ai], D3⟩ fun h3 F3 g3 e0 e1 => ?_
  exact k h3 ((F2.mo fun x e => by omega).tr (F3.mo fun x e => by omega)) (g3.trans g2) (DH_push DD rfl IH I (fun x q1 q2 q3 => F2.1 x q3) W2 (fun x q1 q2 => F3.1 x (by omega)) e0 e1)
/-- the world becomes what lies behind the remembered ones -/
theorem d_takeBack (S : S1 T N bs h) (Q : S2 T N bs h) {n o : Int} (hn : ai h (bs + 589) 0 = n ∧ 0 ≤ n ∧ n ≤ 8) (ho : ai h (bs + 589) 1 = o ∧ 0 ≤ o ∧ o < 9) (W : Wo T N h (HW bs o n) v) (I : Iv v) (k : ∀ h2, Fp (fun x => bs + 1 ≤ x ∧ x < bs + 295) h h2 → gr h2 = gr h → Wo T N h2 (bs + 1) v → KV h2) : CV T N 44 [vr (some (bs + 589)), vr (some (bs + 1))] h KV := by
  have hw := HW_lo (bs := bs) o n
  refine z44 S.his.1 Q.1.t ?_
  rw [hn.1]
  refine d_placeOf S (by omega) hn.2 ⟨fun z => by (cases z), fun x ex => ?_⟩
  cases ex
  rw [ho.1]
  exact d_copyW W I Q.1 (by omega) fun h2 F g C => k h2 (F.mo fun x e => by omega) g C
theorem d_stepBack (S : S1 T N bs h) (Q : S2 T N bs h) (D : DH T N bs h n hs) (IH : ∀ i, 0 ≤ i → i < n → Iv (hs i)) (h0 : 0 < n) (k : ∀ h2, Fp (fun x => x = bs + 589 ∨ (bs + 1 ≤ x ∧ x < bs + 295)) h h2 → gr h2 = gr h → DH T N bs h2 (n - 1) hs → Wo T N h2 (bs + 1) (hs (n - 1)) → KV h2) : CV T N 45 [vr (some (bs + 589)), vr (some (bs + 1))] h KV := by
  have DD := D
  obtain ⟨D1, D2, D3, D4⟩ := D
  refine z45 S.his.1 ⟨fun c => ?_, fun c => absurd (by omega) c⟩
  intro h2 z
  have F2 : Fp (fun x => x = bs + 589) h h2 := by subst z; exact Fp.pw rfl
  have g2 : gr h2 = gr h := by subst z; rfl
  have e0 : ai h2 (bs + 589) 0 = n - 1 := by subst z; rw [rd_eq rfl rfl (by omega)]; omega
  have e1 : ai h2 (bs + 589) 1 = ai h (bs + 589) 1 := by subst z; rw [rd_k (by omega) (by omega) (by omega)]
  have fr : ∀ i, 0 ≤ i → i < n → Wo T N h2 (HW bs (ai h (bs + 589) 1) i) (hs i) := fun i h1 h3 => by
    have hw := HW_lo (bs := bs) (ai h (bs + 589) 1) i
    exact (D4 i h1 h3).fr (fun b q1 q2 => F2.1 b (by omega)) (IH i h1 h3)
  refine d_takeBack (S.to g2) (Q.to g2) ⟨e0, by omega⟩ ⟨e1, D3⟩ (fr (n - 1) (by omega) (by omega)) (IH _ (by omega) (by omega)) fun h3 F3 g3 W3 => ?_
  refine k h3 ((F2.mo fun x e => Or.inl e).tr (F3.mo fun x e => Or.inr e)) (g3.trans g2) ⟨?_, by omega, ?_, fun i h1 h2' => ?_⟩ W3
  · rw [(F3.1 _ (by omega)).ai]; exact e0
  · rw [(F3.1 _ (by omega)).ai, e1]; exact D3
  · rw [(F3.1 _ (by omega)).ai, e1]
    have hw := HW_lo (bs := bs) (ai h (bs + 589) 1) i
    exact (fr i h1 (by omega)).fr (fun b q1 q2 => F3.1 b (by omega)) (IH i h1 (by omega))
end HIS
