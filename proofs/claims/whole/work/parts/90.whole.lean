theorem law_pure (xs : Nat → Int32) (L : Nat) (hL : L ≤ 2560) (pd gd : Nat → Nat × (Nat → Nat)) : lp_law xs L 1000 0 (sI z0 7 10) z0 z0 z0 z0 z0 z0 (pd, fun _ => z0) (gd, fun _ => z0) (sI z0 5 10) = some 1 := law_go xs L hL 1000 0 _ _ _ _ _ _ _ _ _ _ (Nat.zero_le L) (by omega) (Rel_start pd gd)
/-- THE LAW, from its entry -/
theorem whole_start {p : Program} {e : Env} {s : State} {m : MethodId} {below : List Frame} {meth : Method} {c : Code} (l : Launch) (hflags : l.flags = flags0) {b L : Nat} {xs : Nat → Int32} (hL : L ≤ 2560) (C0 : lw_At p s m meth c b L xs) : W p l e room_1 s m #[Value.ref b] below meth c s.heap [] 0 0 (lw_Z below #[Value.ref b] s) (entryFrame m ([Value.ref b] : List Value).toArray 4) :=
  whole_start_of l (fun pd gd => law_pure xs L hL pd gd) C0
