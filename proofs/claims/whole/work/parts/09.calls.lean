/-! ends of methods, contracts, calls -/
def Qx (G : GX) (r : RS) : Array Value → State → Outcome → State → Prop := fun _ st oc t => oc = .returned (r.1.map (cv G)) ∧ RelH G r.2 t.heap ∧ va_F (gA G) st t
def QM {α : Type} (G : GX) (M : MD) (inj : α → RS) : QT α := (fun a below args s => MQ below (Qx G (inj a)) args s M.2.2.2.2.2.cells M.2.2.2.2.2.slots (gA G), fun a => (inj a).2)
abbrev iI : Int32 × AS → RS := fun a => (some (.int a.1), a.2)
abbrev iL : Int64 × AS → RS := fun a => (some (.long a.1), a.2)
abbrev iR : Nat × AS → RS := fun a => (some (.ref a.1), a.2)
abbrev iV : AS → RS := fun a => (none, a)
def CN {α : Type} (G : GX) (y : MethodName) (cc : ByteArray) (nL : Nat) (ret : Option FieldType) (rm : Room) (b : Option (Option Nat)) (inj : α → RS) (av : List Value) (S : AS) (X : Option α) : Prop :=
  Sp b S → ∀ a, X = some a → Sp b (inj a).2 ∧ Met G.1 y [.code y cc nL ret] rm (va_Pc (av.map (cv G)) (fun U => EC G U U.heap ∧ gB G ≤ U.heap.size ∧ RelH G S U.heap)) (Qx G (inj a)) rm.cells rm.slots (gA G)
def lcA : List Value → List (Option Value)
  | [] => []
  | v :: r => if v.category = 2 then some v :: none :: lcA r else some v :: lcA r
theorem lcA_mem (G : GX) : ∀ (av : List Value) (j i : Nat) (v : Value), (lcA av)[i]? = some (some v) → (j + i, cv G v) ∈ lv_args j (av.map (cv G))
  | [], j, i, v, h => by simp [lcA] at h
  | w :: r, j, i, v, h => by
    show (j + i, cv G v) ∈ (j, cv G w) :: lv_args (if (cv G w).category = 2 then j + 2 else j + 1) (r.map (cv G))
    rw [cv_cat]
    unfold lcA at h
    by_cases hc : w.category = 2
    · rw [if_pos hc] at h ⊢
      match i, h with
      | 0, h => simp at h; rw [h]; exact List.mem_cons_self
      | 1, h => simp at h
      | i + 2, h =>
        have := lcA_mem G r (j + 2) i v (by simpa using h)
        rw [show j + (i + 2) = j + 2 + i by omega]
        exact List.mem_cons_of_mem _ this
    · rw [if_neg hc] at h ⊢
      match i, h with
      | 0, h => simp at h; rw [h]; exact List.mem_cons_self
      | i + 1, h =>
        have := lcA_mem G r (j + 1) i v (by simpa using h)
        rw [show j + (i + 1) = j + 1 + i by omega]
        exact List.mem_cons_of_mem _ this
theorem lcA_len (G : GX) : ∀ av : List Value, (lg_sl (av.map (cv G))).length = (lcA av).length
  | [] => rfl
  | w :: r => by
    have ih := lcA_len G r
    unfold lg_sl at ih ⊢
    unfold lcA
    simp only [List.map_cons, List.flatMap_cons, List.length_append, ih, cv_cat]
    by_cases hc : w.category = 2
    · simp [hc]; omega
    · simp [hc]; omega
section CALLS
variable {α : Type} {G : GX} {M : MD} {b : Option (Option Nat)} {S : AS}
theorem cn_of_v {y : MethodName} {ini : Bool} {inj : α → RS} {av : List Value} {X : Option α} {lc : List (Option Value)} (hM : M = (y.cls, M.2.1, M.2.2.1, M.2.2.2.1, ini, M.2.2.2.2.2)) (hy : plainName y.cls = true) (hini : ini = true → y.name = "<init>") (hlc : lcA av ++ List.replicate (M.2.2.1 - (lcA av).length) none = lc) (hle : (lcA av).length ≤ M.2.2.1) (h : V G M (QM G M inj) (fun _ => True) b 0 lc [] 0 0 S X) : CN G y M.2.1 M.2.2.1 M.2.2.2.1 M.2.2.2.2.2 b inj av S X := by
  intro h0 a ha
  obtain ⟨h1, h2⟩ := h h0 a ha
  refine ⟨h1, ?_⟩
  refine Met.ofW (cc := M.2.1) (maxL := M.2.2.1) (ret := M.2.2.2.1) hy rfl ?_
  intro p e s m args below meth c s₁ B hml hv
  obtain ⟨rfl, hEC, hB, hR⟩ := hv
  have hown : s.vm.findClass y.cls = some m.cls := findClass_of_methodNamed B.named
  rw [lg_entry_eq]
  have hl := lv_entry (av.map (cv G)) (n := M.2.2.1) (by rw [lcA_len]; exact hle)
  generalize (lg_sl (av.map (cv G)) ++ List.replicate (M.2.2.1 - (lg_sl (av.map (cv G))).length) Slot.unset).toArray = ls at hl ⊢
  have hLR : LR G ls M.2.2.1 lc := by
    refine ⟨hl.1, by rw [← hlc]; simp; omega, hl.2.1, fun i v hi => ?_⟩
    rw [← hlc] at hi
    by_cases hlt : i < (lcA av).length
    · rw [List.getElem?_append_left hlt] at hi
      have := hl.2.2 _ (lcA_mem G av 0 i v hi)
      simpa using this
    · rw [List.getElem?_append_right (by omega), List.getElem?_replicate] at hi
      split at hi <;> simp at hi
  have hmn : M.1 = y.cls := by rw [hM]
  have hmi : M.2.2.2.2.1 = ini := by rw [hM]
  exact h2 p e s m _ below meth c s.heap [] ls ⟨B.exec, B.bytes, hml, B.returns, B.notSynchronized, fun hh => by rw [(name_of_methodNamed B.named B.method).1]; exact hini (hmi ▸ hh), hmn ▸ hown, hEC, trivial, hB⟩ hR va_S.rf hLR
variable {QQ : QT α} {E : State → Prop} {pc : Nat} {lc : List (Option Value)} {st : List Value} {k z : Nat} {X : Option α}
theorem x_ret {ty : FieldType} {v : Int32} (hd : decode M.2.1 pc = .ok (.ireturn, 1)) (hr : M.2.2.2.1 = some ty) (hn : narrow ty (.int v) = .int v) (hk : k ≤ M.2.2.2.2.2.cells) (hz : z ≤ M.2.2.2.2.2.slots) : V G M (QM G M iI) E b pc lc [.int v] k z S (some (v, S)) := by
  intro h0 r hr0
  cases hr0
  refine ⟨h0, fun p e s m args below meth c H locs ls C hR hS hL => W.widen hk hz ?_⟩
  exact W.zret C.1 C.2.1 (C.2.2.2.1.trans hr) hn (fun t ht hW => ⟨rfl, by rw [ht]; exact hR, hS.F ht⟩) hS.2.2 hd C.2.2.2.2.1
theorem x_lret {v : Int64} (hd : decode M.2.1 pc = .ok (.lreturn, 1)) (hr : M.2.2.2.1 = some .long) (hk : k ≤ M.2.2.2.2.2.cells) (hz : z ≤ M.2.2.2.2.2.slots) : V G M (QM G M iL) E b pc lc [.long v] k z S (some (v, S)) := by
  intro h0 r hr0
  cases hr0
  refine ⟨h0, fun p e s m args below meth c H locs ls C hR hS hL => W.widen hk hz ?_⟩
  exact W.lret C.1 C.2.1 (C.2.2.2.1.trans hr) (fun t ht hW => ⟨rfl, by rw [ht]; exact hR, hS.F ht⟩) hS.2.2 hd C.2.2.2.2.1
theorem x_aret {v : Nat} {C0 : String} (hd : decode M.2.1 pc = .ok (.areturn, 1)) (hr : M.2.2.2.1 = some (.object C0)) (hk : k ≤ M.2.2.2.2.2.cells) (hz : z ≤ M.2.2.2.2.2.slots) : V G M (QM G M iR) E b pc lc [.ref v] k z S (some (v, S)) := by
  intro h0 r hr0
  cases hr0
  refine ⟨h0, fun p e s m args below meth c H locs ls C hR hS hL => W.widen hk hz ?_⟩
  exact W.aret C.1 C.2.1 (C.2.2.2.1.trans hr) (Or.inl ⟨_, rfl⟩) (Or.inr ⟨_, rfl⟩) (fun t ht hW => ⟨rfl, by rw [ht]; exact hR, hS.F ht⟩) hS.2.2 hd C.2.2.2.2.1
theorem x_vret (hd : decode M.2.1 pc = .ok (.return_, 1)) (hr : M.2.2.2.1 = none) (hk : k ≤ M.2.2.2.2.2.cells) (hz : z ≤ M.2.2.2.2.2.slots) : V G M (QM G M iV) E b pc lc [] k z S (some S) := by
  intro h0 r hr0
  cases hr0
  refine ⟨h0, fun p e s m args below meth c H locs ls C hR hS hL => W.widen hk hz ?_⟩
  exact W.vret C.1 C.2.1 (C.2.2.2.1.trans hr) (fun t ht hW => ⟨rfl, by rw [ht]; exact hR, hS.F ht⟩) hS.2.2 hd C.2.2.2.2.1
/-- behind a call -/
theorem w_after {p : Program} {e : Env} {R : Room} {s : State} {m : MethodId} {args : Array Value} {below : List Frame} {meth : Method} {c : Code} {H : Heap} {locs : List Loc} {ls : Array Slot} {Q : State → Prop} {rest st0 : List Value} {cells slots mc ms : Nat} {r : RS} {a : Array Value}
    (hr : va_Run p G.1 e R s m args below meth c H locs cells slots mc ms (F0 m pc ls st0) rest (Qx G r a) (gA G)) (hS : va_S (gA G) s.heap H locs)
    (kk : ∀ (H1 : Heap) (locs1 : List Loc), RelH G r.2 H1 → va_S (gA G) s.heap H1 locs1 → W p G.1 e R s m args below meth c H1 locs1 (cells + mc) (slots + ms) Q (F0 m (pc + 3) ls ((r.1.map (cv G)).toList ++ rest))) : W p G.1 e R s m args below meth c H locs cells slots Q (F0 m pc ls st0) := by
  intro T hT X
  obtain ⟨v, st₀, t, T', L, h0, X', hL, e1, e2, ⟨hv, hR1, hz, hk⟩, st⟩ := hr T hT X
  cases hv
  rw [h0] at hz hk
  obtain ⟨t2, a1, b1⟩ := kk T'.heap (locs ++ L) (by rw [e1]; exact hR1)
    ⟨Nat.le_trans hS.1 (by rw [e1]; exact hz), fun q h1 h2 => by rw [e1, hk q (Nat.lt_of_lt_of_le h1 hS.1) h2]; exact hS.2.1 q h1 h2, fun q hq => by
      rcases List.mem_append.mp hq with h | h
      · exact hS.2.2 q h
      · exact hL q h⟩ T' rfl X'
  exact ⟨t2, st t2 a1, b1⟩
theorem fb_cn {av : List Value} : FrameBlind (va_Pc (av.map (cv G)) (fun U => EC G U U.heap ∧ gB G ≤ U.heap.size ∧ RelH G S U.heap)) := fun a U g mk h => ⟨h.1, EC.same (u := U) (U := U.calling g mk a) rfl h.2.1, h.2.2⟩
theorem pre_cn {av : List Value} {s : State} {H : Heap} {locs : List Loc} (hEC : EC G s s.heap) (hR : RelH G S H) (hS : va_S (gA G) s.heap H locs) {U : State} (hU : U.heap = H) (hW : s.WarmedH U.vm) : va_Pc (av.map (cv G)) (fun U => EC G U U.heap ∧ gB G ≤ U.heap.size ∧ RelH G S U.heap) (av.map (cv G)).toArray U := by
  refine ⟨rfl, ?_, ?_, ?_⟩
  · rw [hU]
    exact (hEC.kept (fun a h1 h2 => hS.2.1 a h1 h2)).warm hW
  · rw [hU, hR.1]; exact Nat.le_add_right _ _
  · rw [hU]; exact hR
def MHs (y : MethodName) (n : Nat) : Prop := y.cls ≠ "java/lang/invoke/MethodHandle" ∧ y.cls ≠ "java/lang/invoke/VarHandle" ∧ (parseMethodDescriptor y.desc).map (fun d => d.parameters.length) = some n
/-- the words of a call of an object's method -/
def MV (own : String) (idx : Nat) (y : MethodName) (cc : ByteArray) (nL : Nat) (ret : Option FieldType) (n : Nat) : Prop := Cond.methodLink own idx y ∈ lw_tbl ∧ Cond.instanceMethod y ∈ lw_tbl ∧ Cond.selects y.cls y y ∈ lw_tbl ∧ Cond.initialized y.cls ∈ lw_tbl ∧ Cond.code y cc nL ret ∈ lw_tbl ∧ MHs y n
def MS (own : String) (idx : Nat) (y : MethodName) (cc : ByteArray) (nL : Nat) (ret : Option FieldType) (n : Nat) : Prop := Cond.methodLink own idx y ∈ lw_tbl ∧ Cond.static y ∈ lw_tbl ∧ Cond.initialized y.cls ∈ lw_tbl ∧ Cond.code y cc nL ret ∈ lw_tbl ∧ MHs y n
def MI (own : String) (idx : Nat) (y : MethodName) (cc : ByteArray) (nL : Nat) (n : Nat) : Prop := (Cond.methodLink own idx y ∈ lw_tbl ∨ ∃ host, Cond.methodLinkNest own idx y host ∈ lw_tbl) ∧ y.name = "<init>" ∧ Cond.instanceMethod y ∈ lw_tbl ∧ Cond.initialized y.cls ∈ lw_tbl ∧ Cond.code y cc nL none ∈ lw_tbl ∧ MHs y n
theorem cb_of {own : String} {idx : Nat} {y : MethodName} {cc : ByteArray} {nL : Nat} {ret : Option FieldType} {n : Nat} {rm R : Room} {s : State} {args : Array Value} (hC : CX s) (hl : Cond.methodLink own idx y ∈ lw_tbl) (hi : Cond.initialized y.cls ∈ lw_tbl) (hc : Cond.code y cc nL ret ∈ lw_tbl) (hy : MHs y n) (hRm : rm.frames + 1 ≤ R.frames ∧ 8 + (nL + 11) + rm.locals ≤ R.locals) : CallB R s args own idx y cc nL ret [.code y cc nL ret] rm rm.cells rm.slots n := by
  refine ⟨rfl, rfl, hRm.1, hRm.2, fun w hw a' U hW => ?_, List.mem_cons_self, hC.use hc rfl, hC.use hi rfl, ⟨hy.1, hy.2.1⟩, fun sig h => ?_, hC.use hl rfl⟩
  · rw [List.mem_singleton.mp hw]
    exact (hC.warm hW).use hc rfl
  · have h2 := hy.2.2
    rw [h] at h2
    exact (Option.some.inj h2).symm
variable {β : Type} {inj : β → RS} {Y : Option β} {K : β → Option α}
theorem x_callV {y : MethodName} {cc : ByteArray} {nL : Nat} {ret : Option FieldType} {rm : Room} {idx n q ci : Nat} {As : List Value} {b' : Option (Option Nat)} (hd : decode M.2.1 pc = .ok (.invokevirtual idx, 3)) (hmv : MV M.1 idx y cc nL ret n) (hn : As.length = n) (hK : Sp b S → aK q = .inr ci) (hci : (classes[ci]?).map (fun x => x.1) = some y.cls) (hq : Sp b S → q < S.1) (hRm : rm.frames + 1 ≤ M.2.2.2.2.2.frames ∧ 8 + (nL + 11) + rm.locals ≤ M.2.2.2.2.2.locals) (hst : (st.map fun v => v.category).sum ≤ 8) (hcs : k + rm.cells ≤ M.2.2.2.2.2.cells ∧ z + rm.slots ≤ M.2.2.2.2.2.slots)
    (hbk : ∀ T, Sp b' T → Sp b T) (hcn : Sp b S → Sp b' S ∧ CN G y cc nL ret rm b' inj (.ref q :: As) S Y) (h : ∀ a, Y = some a → V G M QQ E b (pc + 3) lc ((inj a).1.toList ++ st) (k + rm.cells) (z + rm.slots) (inj a).2 (K a)) : V G M QQ E b pc lc (As.reverse ++ .ref q :: st) k z S (Y.bind K) := by
  intro h0 r hr
  obtain ⟨a, ha, hr⟩ := Option.bind_eq_some_iff.mp hr
  obtain ⟨c1, c2⟩ := (hcn h0).2 (hcn h0).1 a ha
  obtain ⟨d1, d2⟩ := h a ha (hbk _ c1) r hr
  refine ⟨d1, fun p e s m args below meth c H locs ls C hR hS hL => ?_⟩
  have hEC := C.2.2.2.2.2.2.2.1
  obtain ⟨m1, m2, m3, m4, m5, m6⟩ := hmv
  cases hcl : classes[ci]? with
  | none => rw [hcl] at hci; cases hci
  | some x =>
    rw [hcl] at hci
    have hx : x.1 = y.cls := Option.some.inj hci
    have hrun := va_runV (args := args) (p := p) (l := G.1) (e := e) (R := M.2.2.2.2.2) (below := below) (meth := meth) (locs := locs) (cells := k) (slots := z) (H := H) (C := y.cls) (b := gB G + q) (As := As.map (cv G)) (rest := st.map (cv G)) (g := F0 m pc ls ((As.reverse ++ .ref q :: st).map (cv G))) (nL := M.2.2.1) (Ts := []) ⟨C.1, C.2.1, C.2.2.1, C.2.2.2.2.2.2.1, fun _ h => by cases h⟩ c2 ⟨cb_of hEC.1 m1 m4 m5 m6 hRm, hEC.1.use m2 rfl, hEC.1.use m3 rfl⟩
      ⟨fb_cn, by rw [← hx]; exact va_recv hEC.2.1 (hR.one (hq h0) (fc_obj (hK h0))) hcl (q0 := 0) rfl, fun U hU hW => pre_cn (av := .ref q :: As) hEC hR hS hU hW⟩ rfl (by rw [List.length_map]; exact hn) hL.1 (by simp [cv]) (by show 2 * 0 + _ ≤ 8; rw [List.map_map, show ((fun v : Value => v.category) ∘ cv G) = fun v => v.category from funext (cv_cat G)]; omega) hd hcs
    refine w_after hrun hS (fun H1 locs1 hR1 hS1 => ?_)
    have := d2 p e s m args below meth c H1 locs1 ls C hR1 hS1 hL
    rw [List.map_append] at this
    have e9 : ((inj a).1.map (cv G)).toList = (inj a).1.toList.map (cv G) := by cases (inj a).1 <;> rfl
    rw [e9]
    exact this
theorem x_callS {y : MethodName} {cc : ByteArray} {nL : Nat} {ret : Option FieldType} {rm : Room} {idx n : Nat} {As : List Value} {b' : Option (Option Nat)} (hd : decode M.2.1 pc = .ok (.invokestatic idx, 3)) (hmv : MS M.1 idx y cc nL ret n) (hn : As.length = n) (hRm : rm.frames + 1 ≤ M.2.2.2.2.2.frames ∧ 8 + (nL + 11) + rm.locals ≤ M.2.2.2.2.2.locals) (hst : (st.map fun v => v.category).sum ≤ 8) (hcs : k + rm.cells ≤ M.2.2.2.2.2.cells ∧ z + rm.slots ≤ M.2.2.2.2.2.slots)
    (hbk : ∀ T, Sp b' T → Sp b T) (hcn : Sp b S → Sp b' S ∧ CN G y cc nL ret rm b' inj As S Y) (h : ∀ a, Y = some a → V G M QQ E b (pc + 3) lc ((inj a).1.toList ++ st) (k + rm.cells) (z + rm.slots) (inj a).2 (K a)) : V G M QQ E b pc lc (As.reverse ++ st) k z S (Y.bind K) := by
  intro h0 r hr
  obtain ⟨a, ha, hr⟩ := Option.bind_eq_some_iff.mp hr
  obtain ⟨c1, c2⟩ := (hcn h0).2 (hcn h0).1 a ha
  obtain ⟨d1, d2⟩ := h a ha (hbk _ c1) r hr
  refine ⟨d1, fun p e s m args below meth c H locs ls C hR hS hL => ?_⟩
  have hEC := C.2.2.2.2.2.2.2.1
  obtain ⟨m1, m2, m4, m5, m6⟩ := hmv
  have hrun := va_runS (args := args) (p := p) (l := G.1) (e := e) (R := M.2.2.2.2.2) (below := below) (meth := meth) (locs := locs) (cells := k) (slots := z) (H := H) (As := As.map (cv G)) (rest := st.map (cv G)) (g := F0 m pc ls ((As.reverse ++ st).map (cv G))) (nL := M.2.2.1) (Ts := []) ⟨C.1, C.2.1, C.2.2.1, C.2.2.2.2.2.2.1, fun _ h => by cases h⟩ c2 ⟨cb_of hEC.1 m1 m4 m5 m6 hRm, hEC.1.use m2 rfl⟩
      ⟨fb_cn, fun U hU hW => pre_cn (av := As) hEC hR hS hU hW⟩ rfl (by rw [List.length_map]; exact hn) hL.1 (by simp) (by show 2 * 0 + _ ≤ 8; rw [List.map_map, show ((fun v : Value => v.category) ∘ cv G) = fun v => v.category from funext (cv_cat G)]; omega) hd hcs
  refine w_after hrun hS (fun H1 locs1 hR1 hS1 => ?_)
  have := d2 p e s m args below meth c H1 locs1 ls C hR1 hS1 hL
  rw [List.map_append] at this
  have e9 : ((inj a).1.map (cv G)).toList = (inj a).1.toList.map (cv G) := by cases (inj a).1 <;> rfl
  rw [e9]
  exact this
end CALLS
