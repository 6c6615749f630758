theorem pure_main {L : Nat} {xs : Nat → Int32} (hL : L ≤ 3584) : PureOK L xs := by
  obtain ⟨S1, S2, a1, a2, hI⟩ := init_ok
  obtain ⟨S3, h3⟩ := law_pure (xs := xs) hL 600 0 S2 hI (by omega) (by omega)
  exact ⟨S1, S2, S3, a1, a2, hI.1, h3⟩
theorem whole_start {p : Program} {e : Env} {s : State} {m : MethodId} {below : List Frame} {meth : Method} {c : Code} (l : Launch) {b L : Nat} {xs : Nat → Int32} (hL : L ≤ 3584) (C0 : lw_At p s m meth c b L xs) : W p l e room_1 s m #[Value.ref b] below meth c s.heap [] 0 0 (lw_Z below #[Value.ref b] s) (entryFrame m ([Value.ref b] : List Value).toArray 4) := whole_start_open l (pure_main hL) C0
