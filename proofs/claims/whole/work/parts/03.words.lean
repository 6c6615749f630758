/-- the words that the rows use -/
def wok : Cond → Bool
  | .stringRef _ _ _ => false
  | .soleField _ _ => false
  | .privateMethod _ => false
  | .superclass _ _ => false
  | .laysStatic _ _ _ => false
  | _ => true
def wnest : Cond → Bool
  | .fieldLinkNest _ _ _ _ _ _ => true
  | .methodLinkNest _ _ _ _ => true
  | .arrayOver (.object _) => true
  | _ => false
set_option maxRecDepth 20000 in
theorem wtbl_ok : lw_tbl.all (fun w => !wok w || (goodWord w || wnest w)) = true := by decide +kernel
/-- every word holds at U -/
def CX (U : State) : Prop := ∀ w ∈ lw_tbl, wok w = true → va_Nw w U
theorem wtbl_cls {w : Cond} (hw : w ∈ lw_tbl) (hk : wok w = true) : goodWord w = true ∨ wnest w = true := by
  have h := List.all_eq_true.mp wtbl_ok w hw
  rw [hk] at h
  simpa using h
theorem wmove {w : Cond} (h2 : goodWord w = true ∨ wnest w = true) {s U : State} (hW : s.WarmedH U.vm) (h3 : va_Nw w s) {A : Array Value} : w.before A U = true := by
  rcases h2 with h2 | h2
  · exact word_at hW (good_of_word h2) h3
  · unfold wnest at h2
    split at h2
    · exact va_Nw.use rfl (va_Nw.warmF hW h3)
    · exact va_Nw.use rfl (va_Nw.warmM hW h3)
    · exact va_AO.use (va_AO.moved hW.alike h3)
    · cases h2
theorem CX.warm {s U : State} (hW : s.WarmedH U.vm) (hC : CX s) : CX U := fun w hw hk => wmove (wtbl_cls hw hk) hW (hC w hw hk)
theorem CX.same {u U : State} (h : u.vm = U.vm) (hC : CX u) : CX U := hC.warm (by rw [← h]; exact State.WarmedH.refl u)
theorem CX.use {U : State} (hC : CX U) {w : Cond} (hw : w ∈ lw_tbl) (hk : wok w = true) {A : Array Value} : w.before A U = true := wmove (wtbl_cls hw hk) (State.WarmedH.refl U) (hC w hw hk)
theorem CX.lays {U : State} (hC : CX U) {C : String} {T : u_T} {N : Nat} (hi : ∀ w ∈ u_ws C T N, w ∈ lw_tbl) {A : Array Value} : ∀ w ∈ u_ws C T N, w.before A U = true := fun w hw => hC.use (hi w hw) (by
  obtain ⟨k, -, rfl⟩ := List.mem_map.mp hw
  unfold u_lay
  split <;> rfl)
