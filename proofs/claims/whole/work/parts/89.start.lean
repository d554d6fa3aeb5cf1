/-! all calls together, the walk of the law's body from its entry -/
theorem po_all : sl_ops Rel := ⟨po_say, po_wipe, po_take, po_worth, po_like, po_letter, po_hide, po_find, po_undo, po_times, po_same, po_length, po_shift, po_good, po_order, po_climb, po_image, po_restore, po_count⟩
theorem whole_start {p : Program} {e : Env} {s : State} {m : MethodId} {below : List Frame} {meth : Method} {c : Code} (l : Launch) (_hflags : l.flags = flags0) {b L : Nat} {xs : Nat → Int32} (hL : L ≤ 2560) (C0 : lw_At p s m meth c b L xs) : W p l e room_1 s m #[Value.ref b] below meth c s.heap [] 0 0 (lw_Z below #[Value.ref b] s) (entryFrame m ([Value.ref b] : List Value).toArray 4) :=
  whole_open Rel po_all Rel.start l hL C0
