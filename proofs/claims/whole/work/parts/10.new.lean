section NEW
variable {α : Type} {G : GX} {M : MD} {b : Option (Option Nat)} {S : AS} {QQ : QT α} {E : State → Prop} {pc : Nat} {lc : List (Option Value)} {st : List Value} {k z : Nat} {X : Option α} {r : α}
theorem fcell_nw {G : GX} {S : AS} {j : Nat} (h : j ≠ S.1) : fcell G (nw S) j = fcell G S j := fcell_congr (fun i => by simp [gi_nw, h]) (fun i => by simp [gl_nw, h]) (fun i => by simp [gr_nw, h])
theorem RelH.grow {G : GX} {S : AS} {H H1 : Heap} (h : RelH G S H) (hz : H1.size = H.size + 1) (ho : ∀ q, q < H.size → H1[q]? = H[q]?) (hc : va_at (gD G) classes (gB G + S.1, fcell G (nw S) S.1) H1) : RelH G (nw S) H1 := by
  refine ⟨by rw [hz, h.1]; rfl, fun j hj => ?_⟩
  by_cases e : j = S.1
  · rw [e]; exact hc
  · have hj2 : j < S.1 := by have : j < S.1 + 1 := hj; omega
    rw [fcell_nw e]
    exact (h.2 j hj2).kept (ho _ (h.lt hj2))
theorem va_S_grow {G : GX} {H0 H H1 : Heap} {locs : List Loc} (hS : va_S (gA G) H0 H locs) (hz : H1.size = H.size + 1) (ho : ∀ q, q < H.size → H1[q]? = H[q]?) : va_S (gA G) H0 H1 locs := ⟨Nat.le_trans hS.1 (by omega), fun x h1 h2 => (ho x (Nat.lt_of_lt_of_le h1 hS.1)).trans (hS.2.1 x h1 h2), hS.2.2⟩
theorem fvs_nw {G : GX} {S : AS} {ci j : Nat} (hj : j < (ft ci).length) : vp_V (fvs G (nw S) S.1 ci) j = if (ft ci).getD j 0 = 0 then .int 0 else .null := by
  unfold vp_V
  rw [List.getD_eq_getElem?_getD, fvs_get (List.getElem?_eq_getElem hj)]
  rw [List.getD_eq_getElem?_getD, List.getElem?_eq_getElem hj]
  simp only [Option.getD_some]
  generalize (ft ci)[j] = t
  unfold fv
  split
  · simp [gi_nw]
  · rename_i h
    rw [if_neg (fun e => h e)]
    simp [gr_nw, rfB, va_rf]
/-- the words of 'new' -/
def NWC (own : String) (idx ci N : Nat) : Prop := ∃ (C : String) (T : u_T) (ty0 : Nat → FieldType), CLS ci C T N ty0 ∧ Cond.classLink own idx C ∈ lw_tbl ∧ Cond.instantiable C N ∈ lw_tbl ∧ Cond.initialized C ∈ lw_tbl ∧ ∀ j, j < N → defaultValue (ty0 j) = if (ft ci).getD j 0 = 0 then .int 0 else .null
theorem vw_new {idx ci N : Nat} (hd : decode M.2.1 pc = .ok (.new idx, 3)) (hc : NWC M.1 idx ci N) (hK : aK S.1 = .inr ci) (hk : k + 1 ≤ M.2.2.2.2.2.cells) (hz : z + N ≤ M.2.2.2.2.2.slots) (h : VW G M QQ E (pc + 3) lc (.ref S.1 :: st) (k + 1) (z + N) (nw S) r) : VW G M QQ E pc lc st k z S r := by
  intro p e s m args below meth c H locs ls C hR hS hL
  have hEC := C.2.2.2.2.2.2.2.1
  obtain ⟨Cn, T, ty0, ⟨h1, h2, h3, h4, h5, h6⟩, w1, w2, w3, hdf⟩ := hc
  have hKn := hEC.2.1.1 ci _ h1
  refine W.newcK (g := F0 m pc ls (st.map (cv G))) C.1 C.2.1 C.2.2.2.2.2.2.1 (hEC.1.use w1 rfl) (hEC.1.use w2 rfl) (hEC.1.use w3 rfl) rfl hd hk hz hKn.2.1 hR.1 fun H1 kC hkC e1 z1 o1 => ?_
  have o1' : ∀ q, q < H.size → H1[q]? = H[q]? := fun q hq => o1 q (by rw [← hR.1]; exact hq)
  refine h p e s m args below meth c H1 locs ls C (hR.grow (by rw [z1, hR.1]) o1' ?_) (va_S_grow hS (by rw [z1, hR.1]) o1') hL
  rw [fc_obj hK]
  exact ⟨_, h1, (u_born ty0 (hEC.1.lays h2 (A := args)) (fun _ h => h) hKn hkC e1 h4).to (fun j hj => by rw [fvs_nw (by rw [h6]; exact hj)]; exact hdf j hj)⟩
theorem x_new {idx ci N : Nat} (hd : decode M.2.1 pc = .ok (.new idx, 3)) (hc : NWC M.1 idx ci N) (hK : aK S.1 = .inr ci) (hk : k + 1 ≤ M.2.2.2.2.2.cells) (hz : z + N ≤ M.2.2.2.2.2.slots) (h : V G M QQ E none (pc + 3) lc (.ref S.1 :: st) (k + 1) (z + N) (nw S) X) : V G M QQ E none pc lc st k z S X := V.lift (fun _ => trivial) (fun r => vw_new hd hc hK hk hz) h
def aty : ArrayType → Nat
  | .int => 0
  | .long => 1
  | .boolean => 2
  | _ => 9
theorem vw_newa {at0 : ArrayType} {N : Nat} {v : Int32} (hd : decode M.2.1 pc = .ok (.newarray at0, 2)) (hw : Cond.arrayClass (newarray.typeOf at0) ∈ lw_tbl) (hat : aty at0 < 3) (hK : aK S.1 = .inl (aty at0, N)) (hv : ¬ v < 0) (hN : v.toNatClampNeg = N) (hb : N ≤ 60000000) (hk : k + 1 ≤ M.2.2.2.2.2.cells) (hz : z + N ≤ M.2.2.2.2.2.slots) (h : VW G M QQ E (pc + 2) lc (.ref S.1 :: st) (k + 1) (z + N) (nw S) r) : VW G M QQ E pc lc (.int v :: st) k z S r := by
  intro p e s m args below meth c H locs ls C hR hS hL
  have hEC := C.2.2.2.2.2.2.2.1
  have hKK := hEC.2.1
  refine va_newaK (g := F0 m pc ls (.int v :: st.map (cv G))) C.1 C.2.1 (hEC.1.use hw rfl) rfl hd rfl hv hN (by cases at0 <;> simp [componentBytes, newarray.typeOf] <;> omega) hk hz hR.1 fun H1 cA e1 z1 o1 hAr hNm => ?_
  have o1' : ∀ q, q < H.size → H1[q]? = H[q]? := fun q hq => o1 q (by rw [← hR.1]; exact hq)
  refine h p e s m args below meth c H1 locs ls C (hR.grow (by rw [z1, hR.1]) o1' ?_) (va_S_grow hS (by rw [z1, hR.1]) o1') hL
  cases at0 with
  | int =>
    have ec : cA = gI G := Option.some.inj (hNm.symm.trans (hKK.2 0 _ rfl).2)
    subst ec
    rw [fc_int hK]
    show H1[_]? = some (vp_cell _ _)
    rw [e1, vp_cell_i]
    have : gi (nw S) S.1 = fun _ => 0 := by funext i; simp [gi_nw]
    rw [this]; rfl
  | long =>
    have ec : cA = gJ G := Option.some.inj (hNm.symm.trans (hKK.2 1 _ rfl).2)
    subst ec
    rw [fc_long hK]
    show H1[_]? = some (vp_cell _ _)
    rw [e1, vp_cell_l]
    have : gl (nw S) S.1 = fun _ => 0 := by funext i; simp [gl_nw]
    rw [this]; rfl
  | boolean =>
    have ec : cA = gZ G := Option.some.inj (hNm.symm.trans (hKK.2 2 _ rfl).2)
    subst ec
    rw [fc_bool hK]
    show H1[_]? = some (vp_cell _ _)
    rw [e1, vp_cell_i]
    have : gi (nw S) S.1 = fun _ => 0 := by funext i; simp [gi_nw]
    rw [this]; rfl
  | _ => simp [aty] at hat
theorem x_newa {at0 : ArrayType} {N : Nat} {v : Int32} (hd : decode M.2.1 pc = .ok (.newarray at0, 2)) (hw : Cond.arrayClass (newarray.typeOf at0) ∈ lw_tbl) (hat : aty at0 < 3) (hK : aK S.1 = .inl (aty at0, N)) (hv : ¬ v < 0) (hN : v.toNatClampNeg = N) (hb : N ≤ 60000000) (hk : k + 1 ≤ M.2.2.2.2.2.cells) (hz : z + N ≤ M.2.2.2.2.2.slots) (h : V G M QQ E none (pc + 2) lc (.ref S.1 :: st) (k + 1) (z + N) (nw S) X) : V G M QQ E none pc lc (.int v :: st) k z S X := V.lift (fun _ => trivial) (fun r => vw_newa hd hw hat hK hv hN hb hk hz) h
theorem x_newq {idx N : Nat} {v : Int32} (hd : decode M.2.1 pc = .ok (.anewarray idx, 3)) (hw : Cond.classLink M.1 idx "PaperChancery$RuleBook" ∈ lw_tbl) (hw2 : Cond.arrayOver (.object "PaperChancery$RuleBook") ∈ lw_tbl) (hK : aK S.1 = .inl (3, N)) (hv : ¬ v < 0) (hN : v.toNatClampNeg = N) (hb : N ≤ 60000000) (hk : k + 1 ≤ M.2.2.2.2.2.cells) (hz : z + N ≤ M.2.2.2.2.2.slots) (h : V G M QQ E none (pc + 3) lc (.ref S.1 :: st) (k + 1) (z + N) (nw S) X) : V G M QQ E none pc lc (.int v :: st) k z S X := by
  refine V.lift (fun _ => trivial) (fun r hV p e s m args below meth c H locs ls C hR hS hL => ?_) h
  have hEC := C.2.2.2.2.2.2.2.1
  have hKK := hEC.2.1
  subst hN
  refine W.anew (g := F0 m pc ls (.int v :: st.map (cv G))) C.1 C.2.1 C.2.2.2.2.2.2.1 (hEC.1.use hw rfl) (hEC.1.use hw2 rfl) rfl hd rfl hv (by omega) hk hz fun cA kA comp f1 f2 f3 f4 => ?_
  generalize hH1 : H.push ({ cls := cA, slots := Array.replicate v.toNatClampNeg .null, vm := .none } : Cell) = H1
  have z1 : H1.size = H.size + 1 := by rw [← hH1, Array.size_push]
  have e1 : H1[H.size]? = some (arrV cA v.toNatClampNeg (fun _ => .null)) := by rw [← hH1, Array.getElem?_push_size, ← arrV_new]
  have o1 : ∀ q : Nat, q < H.size → H1[q]? = H[q]? := fun q hq => by rw [← hH1, Array.getElem?_push, if_neg (Nat.ne_of_lt hq)]
  have hh := hV p e s m args below meth c H1 locs ls C (hR.grow z1 o1 ?_) (va_S_grow hS z1 o1) hL
  · have e5 : gB G + S.1 = H.size := hR.1.symm
    simp only [List.map_cons, cv, e5] at hh
    exact hh
  · obtain ⟨kB, cB, b1, b2, b3, b4⟩ := (hKK.2 3 _ rfl).2
    have ec : cA = gO G := Option.some.inj (f1.symm.trans b4)
    subst ec
    rw [fc_ref hK]
    show H1[_]? = some (vp_cell _ _)
    rw [show gB G + S.1 = H.size from hR.1.symm, e1, vp_cell_q]
    have : (fun j => va_rf (rfB G (gr (nw S) S.1 j))) = fun _ => Value.null := by funext i; simp [gr_nw, rfB, va_rf]
    rw [this]
/-- Object's constructor -/
theorem x_obj {idx q : Nat} (hd : decode M.2.1 pc = .ok (.invokespecial idx, 3)) (hw : Cond.methodLink M.1 idx objectInit ∈ lw_tbl) (hw2 : Cond.instanceMethod objectInit ∈ lw_tbl) (hw3 : Cond.code objectInit ⟨#[0xb1]⟩ 1 none ∈ lw_tbl) (hst : (st.map fun v => v.category).sum ≤ 8) (hf : 1 ≤ M.2.2.2.2.2.frames) (hl : 20 ≤ M.2.2.2.2.2.locals) (h : V G M QQ E b (pc + 3) lc st k z S X) : V G M QQ E b pc lc (.ref q :: st) k z S X :=
  h.lift id fun r hV p e s m args below meth c H locs ls C hR hS hL => by
    have hEC := C.2.2.2.2.2.2.2.1
    exact W.objInit (g := F0 m pc ls (.ref (gB G + q) :: st.map (cv G))) C.1 C.2.1 C.2.2.2.2.2.2.1 (hEC.1.use hw rfl) (hEC.1.use hw2 rfl) (hEC.1.use hw3 rfl) rfl (by rw [C.2.2.1]; exact hL.1) rfl hd hf (by show 2 * 0 + _ + 12 ≤ _; rw [List.map_map, show ((fun v : Value => v.category) ∘ cv G) = fun v => v.category from funext (cv_cat G)]; omega) (hV p e s m args below meth c H locs ls C hR hS hL)
variable {β : Type} {inj : β → RS} {Y : Option β} {K : β → Option α}
theorem vw_callI {y : MethodName} {cc : ByteArray} {nL : Nat} {rm : Room} {idx n q : Nat} {As : List Value} {S' : AS} (hd : decode M.2.1 pc = .ok (.invokespecial idx, 3)) (hmi : MI M.1 idx y cc nL n) (hn : As.length = n) (hRm : rm.frames + 1 ≤ M.2.2.2.2.2.frames ∧ 8 + (nL + 11) + rm.locals ≤ M.2.2.2.2.2.locals) (hst : (st.map fun v => v.category).sum ≤ 8) (hcs : k + rm.cells ≤ M.2.2.2.2.2.cells ∧ z + rm.slots ≤ M.2.2.2.2.2.slots)
    (hcn : CN G y cc nL none rm none iV (.ref q :: As) S (some S')) (h : VW G M QQ E (pc + 3) lc st (k + rm.cells) (z + rm.slots) S' r) : VW G M QQ E pc lc (As.reverse ++ .ref q :: st) k z S r := by
  obtain ⟨c1, c2⟩ := hcn trivial S' rfl
  intro p e s m args below meth c H locs ls C hR hS hL
  have hEC := C.2.2.2.2.2.2.2.1
  obtain ⟨m1, m2, m3, m4, m5, m6⟩ := hmi
  have hsum : 2 * 0 + ((st.map (cv G)).map fun v => v.category).sum ≤ 8 := by rw [List.map_map, show ((fun v : Value => v.category) ∘ cv G) = fun v => v.category from funext (cv_cat G)]; omega
  rcases m1 with m1 | ⟨host, m1⟩
  · have hrun := va_runI (args := args) (p := p) (l := G.1) (e := e) (R := M.2.2.2.2.2) (below := below) (meth := meth) (locs := locs) (cells := k) (slots := z) (H := H) (b := gB G + q) (As := As.map (cv G)) (rest := st.map (cv G)) (g := F0 m pc ls ((As.reverse ++ .ref q :: st).map (cv G))) (nL := M.2.2.1) (Ts := []) ⟨C.1, C.2.1, C.2.2.1, C.2.2.2.2.2.2.1, fun _ h => by cases h⟩ c2 ⟨cb_of hEC.1 m1 m4 m5 m6 hRm, m2, hEC.1.use m3 rfl⟩
      ⟨fb_cn, fun U hU hW => pre_cn (av := .ref q :: As) hEC hR hS hU hW⟩ rfl (by rw [List.length_map]; exact hn) hL.1 (by simp [cv]) hsum hd hcs
    exact w_after hrun hS (fun H1 locs1 hR1 hS1 => h p e s m args below meth c H1 locs1 ls C hR1 hS1 hL)
  · have hrun := va_runIN (args := args) (p := p) (l := G.1) (e := e) (R := M.2.2.2.2.2) (below := below) (meth := meth) (locs := locs) (cells := k) (slots := z) (H := H) (b := gB G + q) (As := As.map (cv G)) (rest := st.map (cv G)) (g := F0 m pc ls ((As.reverse ++ .ref q :: st).map (cv G))) (nL := M.2.2.1) (Ts := []) (host := host) (n := n) ⟨C.1, C.2.1, C.2.2.1, C.2.2.2.2.2.2.1, fun _ h => by cases h⟩ c2
      ⟨⟨⟨rfl, rfl, hRm.1, hRm.2, fun w hw a' U hW => by rw [List.mem_singleton.mp hw]; exact (hEC.1.warm hW).use m5 rfl, List.mem_cons_self⟩, hEC.1.use m5 rfl, hEC.1.use m4 rfl, ⟨m6.1, m6.2.1⟩, fun sig h => by have h2 := m6.2.2; rw [h] at h2; exact (Option.some.inj h2).symm, hEC.1.use m1 rfl⟩, m2, hEC.1.use m3 rfl⟩
      ⟨fb_cn, fun U hU hW => pre_cn (av := .ref q :: As) hEC hR hS hU hW⟩ rfl (by rw [List.length_map]; exact hn) hL.1 (by simp [cv]) hsum hd hcs
    exact w_after hrun hS (fun H1 locs1 hR1 hS1 => h p e s m args below meth c H1 locs1 ls C hR1 hS1 hL)
theorem x_callI {y : MethodName} {cc : ByteArray} {nL : Nat} {rm : Room} {idx n q : Nat} {As : List Value} {Y : Option AS} {K : AS → Option α} (hd : decode M.2.1 pc = .ok (.invokespecial idx, 3)) (hmi : MI M.1 idx y cc nL n) (hn : As.length = n) (hRm : rm.frames + 1 ≤ M.2.2.2.2.2.frames ∧ 8 + (nL + 11) + rm.locals ≤ M.2.2.2.2.2.locals) (hst : (st.map fun v => v.category).sum ≤ 8) (hcs : k + rm.cells ≤ M.2.2.2.2.2.cells ∧ z + rm.slots ≤ M.2.2.2.2.2.slots)
    (hcn : CN G y cc nL none rm none iV (.ref q :: As) S Y) (h : ∀ S', Y = some S' → V G M QQ E none (pc + 3) lc st (k + rm.cells) (z + rm.slots) S' (K S')) : V G M QQ E none pc lc (As.reverse ++ .ref q :: st) k z S (bV Y K) := by
  intro h0 r hr
  cases hY : Y with
  | none => rw [hY] at hr; cases hr
  | some S' =>
    rw [hY] at hr hcn
    obtain ⟨d1, d2⟩ := h S' hY trivial r hr
    exact ⟨d1, vw_callI hd hmi hn hRm hst hcs hcn d2⟩
end NEW
