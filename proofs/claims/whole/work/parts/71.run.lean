/-! THE TOP: the law's run, out of what is sound -/
section RUNT
theorem start_run (snd0 : ∀ {T N : Nat → Nat} (n : Nat), Snd T N n) {p : Program} {e : Env} {s : State} {m : MethodId} {below : List Frame} {meth : Method} {c : Code} (l : Launch) (hflags : l.flags = flags0) {b L : Nat} {xs : Nat → Int32} (hL : L ≤ 2560) (C0 : lw_At p s m meth c b L xs) : W p l e room_1 s m #[Value.ref b] below meth c s.heap [] 0 0 (lw_Z below #[Value.ref b] s) (entryFrame m ([Value.ref b] : List Value).toArray 9) := by
  have hbl : b < s.heap.size := C0.2.2.2.2.2.2.2.1
  have D := st_TB (bs := s.heap.size) (b := b) (L := L) hbl hL
  have hz : ∀ b2, s.heap.size ≤ b2 → ∀ p, ai (h00 s.heap.size b xs) b2 p = 0 := fun b2 hb p => by
    show ((if b2 = b then xs p.toNat else 0 : Int32)).toInt = 0
    rw [if_neg (by omega)]
    rfl
  obtain ⟨n, o, h2, ex, x, ho, hx, hc, hs⟩ := law_all (h := h00 s.heap.size b xs) D rfl rfl rfl hz
  subst ho
  have x1 : x = 1 := Int32.toInt_inj.mp hx
  subst x1
  exact start_of l hflags C0 snd0 (T := stT s.heap.size b) (N := stN s.heap.size b L) (fun a ha => if_pos ha) ((if_pos hbl).trans (if_pos rfl)) ex hc hs
end RUNT
