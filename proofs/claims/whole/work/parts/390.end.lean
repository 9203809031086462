set_option maxRecDepth 100000 in
set_option maxHeartbeats 4000000 in
theorem whole_start {p : Program} {e : Env} {s : State} {m : MethodId} {below : List Frame} {meth : Method} {c : Code} (l : Launch) (hflags : l.flags = flags0) {b L : Nat} {xs : Nat → Int32} (hL : L ≤ 3072) (C0 : lw_At p s m meth c b L xs) : W p l e room_1 s m #[Value.ref b] below meth c s.heap [] 0 0 (lw_Z below #[Value.ref b] s) (entryFrame m ([Value.ref b] : List Value).toArray 4) := by
  obtain ⟨hx, hb, hr, hml, hown, hts, hX, hbl, hlocks, hgv⟩ := C0
  obtain ⟨D, cy, hK⟩ := K0 hts
  have hA : ∀ a : Nat, a < s.heap.size → ¬ Ad (fun k => s.heap.size + k) a := by
    rintro a h ⟨k, hk⟩
    have : a = s.heap.size + k := hk
    omega
  obtain ⟨ex, hE, h30⟩ := Ext0 hts hgv hA b
  obtain ⟨N, hN⟩ := law_pure xs L hL
  have hz : Zok (p, l, e, room_1, s, m, #[Value.ref b], below, meth, c, (l, D, cy, ex), (fun k => s.heap.size + k), true, lw_Z below #[Value.ref b] s) (l, D, cy, ex) true RL meth.name cL_law ret 4 (1000 + 80) 600000 7302250 (some (.float 0)) N :=
    ⟨hx, hb, hml, hown, big_tbl hts, hK, fun i j h => by have h2 : s.heap.size + i = s.heap.size + j := h; omega, hlocks, hr, ⟨Nat.le_of_ble_eq_true rfl, Nat.le_of_ble_eq_true rfl, Nat.le_of_ble_eq_true rfl, Nat.le_of_ble_eq_true rfl⟩, hE, rfl, Or.inl rfl, rfl, rfl, rfl⟩
  have hR : LwEnd (p, l, e, room_1, s, m, #[Value.ref b], below, meth, c, (l, D, cy, ex), (fun k => s.heap.size + k), true, lw_Z below #[Value.ref b] s) := by
    intro pc lv M nc ns hd h1 h2 H locs ls hw hl
    refine va_forget (fun q hq => ?_) ?_
    · obtain ⟨k, hk⟩ := hw.2.1.2.2 q hq
      exact Nat.le_trans (Nat.le_add_right s.heap.size k) (Nat.le_of_eq hk.symm)
    · refine W.widen (k := 600000) (n := 7302250) h1 h2 ?_
      exact lw_ret hx hb hr hlocks hd
  have hV := wL_start (L := L) (xs := xs) hz ⟨by show va_X (ex 30) L xs s s.heap; rw [h30]; exact hX, by show ex 30 < s.heap.size; rw [h30]; exact hbl, by show ¬ Ad _ (ex 30); rw [h30]; exact hA b hbl⟩ hR hN
  have hl := lv_entry ([.ref b]) (n := 4) (Nat.le_of_ble_eq_true rfl)
  rw [lg_entry_eq]
  generalize (lg_sl ([.ref b]) ++ List.replicate (4 - (lg_sl ([.ref b])).length) Slot.unset).toArray = ls at hl ⊢
  refine hV s.heap [] ls ⟨fun k q h => by simp [wl, mN, M0] at h, va_S.rf, fun _ j => by show s.heap.size + (0 + j) = _; omega⟩ ⟨hl.1, hl.2.1, fun i v h => ?_⟩
  match i, h with
  | 0, h =>
    cases h
    show ls[0]? = some (.val (.ref (ex 30)))
    rw [h30]
    exact lv_at hl 0 rfl
  | 1, h => cases h
  | 2, h => cases h
  | 3, h => cases h
  | i + 4, h => simp at h
