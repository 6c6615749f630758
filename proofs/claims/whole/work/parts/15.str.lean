/-! String.charAt over the constant, as the JDK's code goes -/
section STR
variable {α : Type} {G : GX} {M : MD} {b : Option (Option Nat)} {S : AS} {QQ : QT α} {E : State → Prop} {pc : Nat} {lc : List (Option Value)} {st : List Value} {k z : Nat} {X : Option α}
theorem e_gets {idx : Nat} (hd : decode M.2.1 pc = .ok (.getstatic idx, 3)) (hw : Cond.fieldLink M.1 idx "java/lang/String" "COMPACT_STRINGS" "Z" ∈ lw_tbl) (h : V G M QQ E b (pc + 3) lc (.int 1 :: st) k z S X) : V G M QQ E b pc lc st k z S X :=
  h.lift id fun r hV p e s m args below meth c H locs ls C hR hS hL => by
    have hEC := C.2.2.2.2.2.2.2.1
    exact va_gets (v := .int 1) C.1 C.2.1 hEC.2.2.2.2.1 hS C.2.2.2.2.2.2.1 (hEC.1.use hw rfl) (fun _ h => h) hd (hV p e s m args below meth c H locs ls C hR hS hL)
theorem e_getq {idx : Nat} (hd : decode M.2.1 pc = .ok (.getstatic idx, 3)) (hw : Cond.fieldLink M.1 idx "jdk/internal/util/Preconditions" "SIOOBE_FORMATTER" "Ljava/util/function/BiFunction;" ∈ lw_tbl) (h1 : V G M QQ E b (pc + 3) lc (.null :: st) k z S X) (h2 : V G M QQ E b (pc + 3) lc (.retAddr 3 :: st) k z S X) : V G M QQ E b pc lc st k z S X := by
  intro h0 r hr
  refine ⟨(h1 h0 r hr).1, fun p e s m args below meth c H locs ls C hR hS hL => ?_⟩
  have hEC := C.2.2.2.2.2.2.2.1
  rcases hEC.2.2.2.2.2 with hz | hz
  · exact va_gets (v := .null) C.1 C.2.1 hz hS C.2.2.2.2.2.2.1 (hEC.1.use hw rfl) (fun _ h => h) hd ((h1 h0 r hr).2 p e s m args below meth c H locs ls C hR hS hL)
  · exact va_gets (v := .ref (gx G 3)) C.1 C.2.1 hz hS C.2.2.2.2.2.2.1 (hEC.1.use hw rfl) (fun _ h => h) hd ((h2 h0 r hr).2 p e s m args below meth c H locs ls C hR hS hL)
theorem e_coder {idx : Nat} (hd : decode M.2.1 pc = .ok (.getfield idx, 3)) (hw : Cond.fieldLink M.1 idx "java/lang/String" "coder" "B" ∈ lw_tbl) (h : V G M QQ E b (pc + 3) lc (.int 0 :: st) k z S X) : V G M QQ E b pc lc (.retAddr 1 :: st) k z S X :=
  h.lift id fun r hV p e s m args below meth c H locs ls C hR hS hL => by
    have hEC := C.2.2.2.2.2.2.2.1
    exact vk_getf (v := .int 0) C.1 C.2.1 (hEC.2.2.2.1.1 0 (by decide)).2.1 hS C.2.2.2.2.2.2.1 (hEC.1.use hw rfl) (fun _ h => h) hd (hV p e s m args below meth c H locs ls C hR hS hL)
theorem e_value {idx : Nat} (hd : decode M.2.1 pc = .ok (.getfield idx, 3)) (hw : Cond.fieldLink M.1 idx "java/lang/String" "value" "[B" ∈ lw_tbl) (h : V G M QQ E b (pc + 3) lc (.retAddr 2 :: st) k z S X) : V G M QQ E b pc lc (.retAddr 1 :: st) k z S X :=
  h.lift id fun r hV p e s m args below meth c H locs ls C hR hS hL => by
    have hEC := C.2.2.2.2.2.2.2.1
    exact vk_getf (v := .ref (gx G 2)) C.1 C.2.1 (hEC.2.2.2.1.1 0 (by decide)).2.2.1 hS C.2.2.2.2.2.2.1 (hEC.1.use hw rfl) (fun _ h => h) hd (hV p e s m args below meth c H locs ls C hR hS hL)
theorem e_alen (hd : decode M.2.1 pc = .ok (.arraylength, 1)) (h : V G M QQ E b (pc + 1) lc (.int 112 :: st) k z S X) : V G M QQ E b pc lc (.retAddr 2 :: st) k z S X :=
  h.lift id fun r hV p e s m args below meth c H locs ls C hR hS hL => by
    have hEC := C.2.2.2.2.2.2.2.1
    exact va_tlen (v := 112) C.1 C.2.1 (hEC.2.2.2.1.1 0 (by decide)).2.2.2 hS (by decide) hd (hV p e s m args below meth c H locs ls C hR hS hL)
theorem e_bald {i : Int32} (hd : decode M.2.1 pc = .ok (.baload, 1)) (hi : vp_in i 112) (h : V G M QQ E b (pc + 1) lc (.int (bW.getD (ix i) 0) :: st) k z S X) : V G M QQ E b pc lc (.int i :: .retAddr 2 :: st) k z S X :=
  h.lift id fun r hV p e s m args below meth c H locs ls C hR hS hL => by
    have hEC := C.2.2.2.2.2.2.2.1
    exact va_tb (v := .int (bW.getD (ix i) 0)) C.1 C.2.1 (hEC.2.2.2.1.1 0 (by decide)).2.2.2 hS hi rfl hd (hV p e s m args below meth c H locs ls C hR hS hL)
theorem e_i2c {x v : Int32} (hd : decode M.2.1 pc = .ok (.i2c, 1)) (hv : (x.toUInt32 % 65536).toInt32 = v) (h : V G M QQ E b (pc + 1) lc (.int v :: st) k z S X) : V G M QQ E b pc lc (.int x :: st) k z S X :=
  h.lift id fun r hV p e s m args below meth c H locs ls C hR hS hL => lv_i2c C.1 C.2.1 hd hv (hV p e s m args below meth c H locs ls C hR hS hL)
theorem x_aload_n_null {n : Fin 4} (hd : decode M.2.1 pc = .ok (.aload_n n, 1)) (hl : lc[n.val]? = some (some .null)) (h : V G M QQ E b (pc + 1) lc (.null :: st) k z S X) : V G M QQ E b pc lc st k z S X :=
  h.lift id fun r hV p e s m args below meth c H locs ls C hR hS hL => lv_aload_nN C.1 C.2.1 hd rfl (hL.2.2.2 _ _ hl) (hV p e s m args below meth c H locs ls C hR hS hL)
/-- a call of a method of the String constant -/
theorem e_callV {y : MethodName} {cc : ByteArray} {nL : Nat} {ret : Option FieldType} {rm : Room} {idx n : Nat} {As : List Value} {Y : Option (Int32 × AS)} {K : Int32 → AS → Option α} (hd : decode M.2.1 pc = .ok (.invokevirtual idx, 3)) (hmv : MV M.1 idx y cc nL ret n) (hn : As.length = n) (hcl : y.cls = "java/lang/String") (hRm : rm.frames + 1 ≤ M.2.2.2.2.2.frames ∧ 8 + (nL + 11) + rm.locals ≤ M.2.2.2.2.2.locals) (hst : (st.map fun v => v.category).sum ≤ 8) (hcs : k + rm.cells ≤ M.2.2.2.2.2.cells ∧ z + rm.slots ≤ M.2.2.2.2.2.slots)
    (hcn : CN G y cc nL ret rm b iI (.retAddr 1 :: As) S Y) (h : ∀ v T, V G M QQ E b (pc + 3) lc (.int v :: st) (k + rm.cells) (z + rm.slots) T (K v T)) : V G M QQ E b pc lc (As.reverse ++ .retAddr 1 :: st) k z S (bI Y K) := by
  intro h0 r hr
  cases hY : Y with
  | none => rw [hY] at hr; cases hr
  | some a =>
    rw [hY] at hr
    obtain ⟨c1, c2⟩ := hcn h0 a hY
    obtain ⟨d1, d2⟩ := h a.1 a.2 c1 r hr
    refine ⟨d1, fun p e s m args below meth c H locs ls C hR hS hL => ?_⟩
    have hEC := C.2.2.2.2.2.2.2.1
    obtain ⟨m1, m2, m3, m4, m5, m6⟩ := hmv
    have hrun := va_runV (args := args) (p := p) (l := G.1) (e := e) (R := M.2.2.2.2.2) (below := below) (meth := meth) (locs := locs) (cells := k) (slots := z) (H := H) (C := y.cls) (b := gx G 1) (As := As.map (cv G)) (rest := st.map (cv G)) (g := F0 m pc ls ((As.reverse ++ .retAddr 1 :: st).map (cv G))) (nL := M.2.2.1) (Ts := []) ⟨C.1, C.2.1, C.2.2.1, C.2.2.2.2.2.2.1, fun _ h => by cases h⟩ c2 ⟨cb_of hEC.1 m1 m4 m5 m6 hRm, hEC.1.use m2 rfl, hEC.1.use m3 rfl⟩
      ⟨fb_cn, by rw [hcl]; exact vk_recv hEC.2.2.2.1 (i := 0) (by decide) hS, fun U hU hW => pre_cn (av := .retAddr 1 :: As) hEC hR hS hU hW⟩ rfl (by rw [List.length_map]; exact hn) hL.1 (by simp [cv]) (by show 2 * 0 + _ ≤ 8; rw [List.map_map, show ((fun v : Value => v.category) ∘ cv G) = fun v => v.category from funext (cv_cat G)]; omega) hd hcs
    exact w_after hrun hS (fun H1 locs1 hR1 hS1 => d2 p e s m args below meth c H1 locs1 ls C hR1 hS1 hL)
end STR
theorem d_pc_0 : decode b_Preconditions_checkIndex 0 = .ok (.iload_n 0, 1) := by decide +kernel
theorem d_pc_1 : decode b_Preconditions_checkIndex 1 = .ok (.ifCond .lt 8, 3) := by decide +kernel
theorem d_pc_4 : decode b_Preconditions_checkIndex 4 = .ok (.iload_n 0, 1) := by decide +kernel
theorem d_pc_5 : decode b_Preconditions_checkIndex 5 = .ok (.iload_n 1, 1) := by decide +kernel
theorem d_pc_6 : decode b_Preconditions_checkIndex 6 = .ok (.if_icmp .lt 10, 3) := by decide +kernel
theorem d_pc_9 : decode b_Preconditions_checkIndex 9 = .ok (.aload_n 2, 1) := by decide +kernel
theorem d_pc_10 : decode b_Preconditions_checkIndex 10 = .ok (.iload_n 0, 1) := by decide +kernel
theorem d_pc_11 : decode b_Preconditions_checkIndex 11 = .ok (.iload_n 1, 1) := by decide +kernel
theorem d_pc_12 : decode b_Preconditions_checkIndex 12 = .ok (.invokestatic 95, 3) := by decide +kernel
theorem d_pc_15 : decode b_Preconditions_checkIndex 15 = .ok (.athrow, 1) := by decide +kernel
theorem d_pc_16 : decode b_Preconditions_checkIndex 16 = .ok (.iload_n 0, 1) := by decide +kernel
theorem d_pc_17 : decode b_Preconditions_checkIndex 17 = .ok (.ireturn, 1) := by decide +kernel
theorem d_ci_0 : decode b_String_checkIndex 0 = .ok (.iload_n 0, 1) := by decide +kernel
theorem d_ci_1 : decode b_String_checkIndex 1 = .ok (.iload_n 1, 1) := by decide +kernel
theorem d_ci_2 : decode b_String_checkIndex 2 = .ok (.getstatic 1053, 3) := by decide +kernel
theorem d_ci_5 : decode b_String_checkIndex 5 = .ok (.invokestatic 1059, 3) := by decide +kernel
theorem d_ci_8 : decode b_String_checkIndex 8 = .ok (.pop, 1) := by decide +kernel
theorem d_ci_9 : decode b_String_checkIndex 9 = .ok (.return_, 1) := by decide +kernel
theorem d_lc_0 : decode b_StringLatin1_charAt 0 = .ok (.iload_n 1, 1) := by decide +kernel
theorem d_lc_1 : decode b_StringLatin1_charAt 1 = .ok (.aload_n 0, 1) := by decide +kernel
theorem d_lc_2 : decode b_StringLatin1_charAt 2 = .ok (.arraylength, 1) := by decide +kernel
theorem d_lc_3 : decode b_StringLatin1_charAt 3 = .ok (.invokestatic 9, 3) := by decide +kernel
theorem d_lc_6 : decode b_StringLatin1_charAt 6 = .ok (.aload_n 0, 1) := by decide +kernel
theorem d_lc_7 : decode b_StringLatin1_charAt 7 = .ok (.iload_n 1, 1) := by decide +kernel
theorem d_lc_8 : decode b_StringLatin1_charAt 8 = .ok (.baload, 1) := by decide +kernel
theorem d_lc_9 : decode b_StringLatin1_charAt 9 = .ok (.sipush 255, 3) := by decide +kernel
theorem d_lc_12 : decode b_StringLatin1_charAt 12 = .ok (.iand, 1) := by decide +kernel
theorem d_lc_13 : decode b_StringLatin1_charAt 13 = .ok (.i2c, 1) := by decide +kernel
theorem d_lc_14 : decode b_StringLatin1_charAt 14 = .ok (.ireturn, 1) := by decide +kernel
theorem d_il_0 : decode b_String_isLatin1 0 = .ok (.getstatic 38, 3) := by decide +kernel
theorem d_il_3 : decode b_String_isLatin1 3 = .ok (.ifCond .eq 14, 3) := by decide +kernel
theorem d_il_6 : decode b_String_isLatin1 6 = .ok (.aload_n 0, 1) := by decide +kernel
theorem d_il_7 : decode b_String_isLatin1 7 = .ok (.getfield 15, 3) := by decide +kernel
theorem d_il_10 : decode b_String_isLatin1 10 = .ok (.ifCond .ne 7, 3) := by decide +kernel
theorem d_il_13 : decode b_String_isLatin1 13 = .ok (.iconst 1, 1) := by decide +kernel
theorem d_il_14 : decode b_String_isLatin1 14 = .ok (.goto 4, 3) := by decide +kernel
theorem d_il_17 : decode b_String_isLatin1 17 = .ok (.iconst 0, 1) := by decide +kernel
theorem d_il_18 : decode b_String_isLatin1 18 = .ok (.ireturn, 1) := by decide +kernel
theorem d_ca_0 : decode b_String_charAt 0 = .ok (.aload_n 0, 1) := by decide +kernel
theorem d_ca_1 : decode b_String_charAt 1 = .ok (.invokevirtual 492, 3) := by decide +kernel
theorem d_ca_4 : decode b_String_charAt 4 = .ok (.ifCond .eq 12, 3) := by decide +kernel
theorem d_ca_7 : decode b_String_charAt 7 = .ok (.aload_n 0, 1) := by decide +kernel
theorem d_ca_8 : decode b_String_charAt 8 = .ok (.getfield 9, 3) := by decide +kernel
theorem d_ca_11 : decode b_String_charAt 11 = .ok (.iload_n 1, 1) := by decide +kernel
theorem d_ca_12 : decode b_String_charAt 12 = .ok (.invokestatic 495, 3) := by decide +kernel
theorem d_ca_15 : decode b_String_charAt 15 = .ok (.ireturn, 1) := by decide +kernel
theorem d_ca_16 : decode b_String_charAt 16 = .ok (.aload_n 0, 1) := by decide +kernel
theorem d_ca_17 : decode b_String_charAt 17 = .ok (.getfield 9, 3) := by decide +kernel
theorem d_ca_20 : decode b_String_charAt 20 = .ok (.iload_n 1, 1) := by decide +kernel
theorem d_ca_21 : decode b_String_charAt 21 = .ok (.invokestatic 498, 3) := by decide +kernel
theorem d_ca_24 : decode b_String_charAt 24 = .ok (.ireturn, 1) := by decide +kernel
theorem ms_ci : MS "java/lang/String" 1059 y_Preconditions_checkIndex b_Preconditions_checkIndex 3 (some (FieldType.int)) 3 := ⟨List.mem_append_right _ (List.mem_append_right _ (List.mem_append_right _ (List.mem_append_left _ (List.mem_of_getElem? (i := 63) (by decide +kernel))))), List.mem_append_right _ (List.mem_append_right _ (List.mem_append_right _ (List.mem_append_left _ (List.mem_of_getElem? (i := 64) (by decide +kernel))))), List.mem_append_right _ (List.mem_append_left _ (List.mem_of_getElem? (i := 17) (by decide +kernel))), List.mem_append_right _ (List.mem_append_right _ (List.mem_append_right _ (List.mem_append_left _ (List.mem_of_getElem? (i := 65) (by decide +kernel))))), ⟨by decide +kernel, by decide +kernel, by decide +kernel⟩⟩
theorem ms_lc : MS "java/lang/StringLatin1" 9 y_String_checkIndex b_String_checkIndex 2 none 2 := ⟨List.mem_append_right _ (List.mem_append_right _ (List.mem_append_right _ (List.mem_append_left _ (List.mem_of_getElem? (i := 58) (by decide +kernel))))), List.mem_append_right _ (List.mem_append_right _ (List.mem_append_right _ (List.mem_append_left _ (List.mem_of_getElem? (i := 59) (by decide +kernel))))), List.mem_append_right _ (List.mem_append_left _ (List.mem_of_getElem? (i := 15) (by decide +kernel))), List.mem_append_right _ (List.mem_append_right _ (List.mem_append_right _ (List.mem_append_left _ (List.mem_of_getElem? (i := 60) (by decide +kernel))))), ⟨by decide +kernel, by decide +kernel, by decide +kernel⟩⟩
theorem mv_ca1 : MV "java/lang/String" 492 y_String_isLatin1 b_String_isLatin1 1 (some (FieldType.boolean)) 0 := ⟨List.mem_append_right _ (List.mem_append_right _ (List.mem_append_right _ (List.mem_append_left _ (List.mem_of_getElem? (i := 49) (by decide +kernel))))), List.mem_append_right _ (List.mem_append_right _ (List.mem_append_right _ (List.mem_append_left _ (List.mem_of_getElem? (i := 50) (by decide +kernel))))), List.mem_append_right _ (List.mem_append_right _ (List.mem_append_right _ (List.mem_append_left _ (List.mem_of_getElem? (i := 51) (by decide +kernel))))), List.mem_append_right _ (List.mem_append_left _ (List.mem_of_getElem? (i := 15) (by decide +kernel))), List.mem_append_right _ (List.mem_append_right _ (List.mem_append_right _ (List.mem_append_left _ (List.mem_of_getElem? (i := 52) (by decide +kernel))))), ⟨by decide +kernel, by decide +kernel, by decide +kernel⟩⟩
theorem ms_ca : MS "java/lang/String" 495 y_StringLatin1_charAt b_StringLatin1_charAt 2 (some (FieldType.char)) 2 := ⟨List.mem_append_right _ (List.mem_append_right _ (List.mem_append_right _ (List.mem_append_left _ (List.mem_of_getElem? (i := 55) (by decide +kernel))))), List.mem_append_right _ (List.mem_append_right _ (List.mem_append_right _ (List.mem_append_left _ (List.mem_of_getElem? (i := 56) (by decide +kernel))))), List.mem_append_right _ (List.mem_append_left _ (List.mem_of_getElem? (i := 16) (by decide +kernel))), List.mem_append_right _ (List.mem_append_right _ (List.mem_append_right _ (List.mem_append_left _ (List.mem_of_getElem? (i := 57) (by decide +kernel))))), ⟨by decide +kernel, by decide +kernel, by decide +kernel⟩⟩
theorem mv_cat_TokenRow_73 : MV "PaperChancery$TokenRow" 73 y_String_charAt b_String_charAt 2 (some (FieldType.char)) 1 := ⟨List.mem_append_right _ (List.mem_append_right _ (List.mem_append_right _ (List.mem_append_left _ (List.mem_of_getElem? (i := 45) (by decide +kernel))))), List.mem_append_right _ (List.mem_append_right _ (List.mem_append_right _ (List.mem_append_left _ (List.mem_of_getElem? (i := 46) (by decide +kernel))))), List.mem_append_right _ (List.mem_append_right _ (List.mem_append_right _ (List.mem_append_left _ (List.mem_of_getElem? (i := 47) (by decide +kernel))))), List.mem_append_right _ (List.mem_append_left _ (List.mem_of_getElem? (i := 15) (by decide +kernel))), List.mem_append_right _ (List.mem_append_right _ (List.mem_append_right _ (List.mem_append_left _ (List.mem_of_getElem? (i := 48) (by decide +kernel))))), ⟨by decide +kernel, by decide +kernel, by decide +kernel⟩⟩
theorem w_siobe : Cond.fieldLink "java/lang/String" 1053 "jdk/internal/util/Preconditions" "SIOOBE_FORMATTER" "Ljava/util/function/BiFunction;" ∈ lw_tbl := List.mem_append_right _ (List.mem_append_right _ (List.mem_append_right _ (List.mem_append_left _ (List.mem_of_getElem? (i := 61) (by decide +kernel)))))
theorem w_cmp : Cond.fieldLink "java/lang/String" 38 "java/lang/String" "COMPACT_STRINGS" "Z" ∈ lw_tbl := List.mem_append_right _ (List.mem_append_right _ (List.mem_append_right _ (List.mem_append_left _ (List.mem_of_getElem? (i := 53) (by decide +kernel)))))
theorem w_coder : Cond.fieldLink "java/lang/String" 15 "java/lang/String" "coder" "B" ∈ lw_tbl := List.mem_append_right _ (List.mem_append_right _ (List.mem_append_right _ (List.mem_append_right _ (List.mem_append_right _ (List.mem_append_right _ (List.mem_of_getElem? (i := 126) (by decide +kernel)))))))
theorem w_value : Cond.fieldLink "java/lang/String" 9 "java/lang/String" "value" "[B" ∈ lw_tbl := List.mem_append_right _ (List.mem_append_right _ (List.mem_append_right _ (List.mem_append_right _ (List.mem_append_right _ (List.mem_append_right _ (List.mem_of_getElem? (i := 127) (by decide +kernel)))))))
abbrev md_pc : MD := ("jdk/internal/util/Preconditions", b_Preconditions_checkIndex, 3, (some .int), false, ({ frames := 0, cells := 0, slots := 0, locals := 0 } : Room))
abbrev md_ci : MD := ("java/lang/String", b_String_checkIndex, 2, none, false, ({ frames := 1, cells := 0, slots := 0, locals := 22 } : Room))
abbrev md_lc : MD := ("java/lang/StringLatin1", b_StringLatin1_charAt, 2, (some .char), false, ({ frames := 2, cells := 0, slots := 0, locals := 43 } : Room))
abbrev md_il : MD := ("java/lang/String", b_String_isLatin1, 1, (some .boolean), false, ({ frames := 0, cells := 0, slots := 0, locals := 0 } : Room))
abbrev md_ca : MD := ("java/lang/String", b_String_charAt, 2, (some .char), false, ({ frames := 3, cells := 0, slots := 0, locals := 64 } : Room))
section STRM
variable {b : Option (Option Nat)}
theorem v_pc {G : GX} (i : Int32) (u : Value) (hu : u = .null ∨ u = .retAddr 3) (hi : vp_in i 112) (S : AS) : V G md_pc (QM G md_pc iI) (fun _ => True) b 0 [some (.int i), some (.int 112), some u] [] 0 0 S (some (i, S)) := by
  have e1 : ¬ i < 0 := fun h => hi (Or.inl h)
  have e2 : i < 112 := by
    obtain ⟨j, hj, rfl⟩ := vp_in_of hi (by decide)
    exact nI_lt hj (by decide)
  refine x_iload_n d_pc_0 rfl ?_
  have h : V G md_pc (QM G md_pc iI) (fun _ => True) b 1 [some (.int i), some (.int 112), some u] [.int i] 0 0 S (if i < 0 then none else if i < 112 then some (i, S) else none) := by
    refine x_if_lt (tgt := 9) d_pc_1 (by decide) (fun h => absurd h e1) (fun _ => ?_)
    refine x_iload_n d_pc_4 rfl ?_
    refine x_iload_n d_pc_5 rfl ?_
    refine x_icmp_lt (tgt := 16) d_pc_6 (by decide) (fun _ => ?_) (fun h => absurd e2 h)
    refine x_iload_n d_pc_16 rfl ?_
    exact x_ret d_pc_17 rfl rfl (Nat.zero_le _) (Nat.zero_le _)
  rw [if_neg e1, if_pos e2] at h
  exact h
theorem c_pc {G : GX} (i : Int32) (u : Value) (hu : u = .null ∨ u = .retAddr 3) (hi : vp_in i 112) (S : AS) : CN G y_Preconditions_checkIndex b_Preconditions_checkIndex 3 (some .int) ({ frames := 0, cells := 0, slots := 0, locals := 0 } : Room) b iI [.int i, .int 112, u] S (some (i, S)) := cn_of_v (M := md_pc) (ini := false) rfl (by decide +kernel) (fun h => nomatch h) (by rcases hu with rfl | rfl <;> rfl) (by rcases hu with rfl | rfl <;> exact Nat.le_of_ble_eq_true rfl) (v_pc i u hu hi S)
theorem v_ci {G : GX} (i : Int32) (hi : vp_in i 112) (S : AS) : V G md_ci (QM G md_ci iV) (fun _ => True) b 0 [some (.int i), some (.int 112)] [] 0 0 S (bI (some (i, S)) fun _ T => some T) := by
  refine x_iload_n d_ci_0 rfl ?_
  refine x_iload_n d_ci_1 rfl ?_
  have key : ∀ u : Value, (u = .null ∨ u = .retAddr 3) → V G md_ci (QM G md_ci iV) (fun _ => True) b 5 [some (.int i), some (.int 112)] [u, .int 112, .int i] 0 0 S (bI (some (i, S)) fun _ T => some T) := by
    intro u hu
    refine x_sI (b' := b) (As := [.int i, .int 112, u]) d_ci_5 ms_ci rfl ⟨Nat.le_of_ble_eq_true rfl, Nat.le_of_ble_eq_true rfl⟩ (Nat.le_of_ble_eq_true rfl) ⟨Nat.le_of_ble_eq_true rfl, Nat.le_of_ble_eq_true rfl⟩ (fun _ h => h) (fun h => ⟨h, c_pc i u hu hi S⟩) (fun v T => ?_)
    refine x_pop d_ci_8 rfl ?_
    exact x_vret d_ci_9 rfl (Nat.zero_le _) (Nat.zero_le _)
  exact e_getq d_ci_2 w_siobe (key .null (Or.inl rfl)) (key (.retAddr 3) (Or.inr rfl))
theorem c_ci {G : GX} (i : Int32) (hi : vp_in i 112) (S : AS) : CN G y_String_checkIndex b_String_checkIndex 2 none ({ frames := 1, cells := 0, slots := 0, locals := 22 } : Room) b iV [.int i, .int 112] S (some S) := cn_of_v (M := md_ci) (ini := false) rfl (by decide +kernel) (fun h => nomatch h) rfl (Nat.le_of_ble_eq_true rfl) (v_ci i hi S)
theorem v_lc {G : GX} (i : Int32) (hi : vp_in i 112) (S : AS) : V G md_lc (QM G md_lc iI) (fun _ => True) b 0 [some (.retAddr 2), some (.int i)] [] 0 0 S (bV (some S) fun T => some (wch i, T)) := by
  refine x_iload_n d_lc_0 rfl ?_
  refine x_aload_n_ext d_lc_1 rfl ?_
  refine e_alen d_lc_2 ?_
  refine x_sV (b' := b) (As := [.int i, .int 112]) d_lc_3 ms_lc rfl ⟨Nat.le_of_ble_eq_true rfl, Nat.le_of_ble_eq_true rfl⟩ (Nat.le_of_ble_eq_true rfl) ⟨Nat.le_of_ble_eq_true rfl, Nat.le_of_ble_eq_true rfl⟩ (fun _ h => h) (fun h => ⟨h, c_ci i hi S⟩) (fun T => ?_)
  refine x_aload_n_ext d_lc_6 rfl ?_
  refine x_iload_n d_lc_7 rfl ?_
  refine e_bald d_lc_8 hi ?_
  refine x_sipush (v := 255) d_lc_9 (by decide) ?_
  refine x_iand d_lc_12 ?_
  obtain ⟨j, hj, rfl⟩ := vp_in_of hi (by decide)
  have hb : ∀ j, j < 112 → (((bW.getD j 0) &&& 255).toUInt32 % 65536).toInt32 = bW.getD j 0 ∧ narrow .char (.int (bW.getD j 0)) = .int (bW.getD j 0) := by decide +kernel
  have e3 : ix (nI j) = j := nI_clamp (by omega)
  refine e_i2c (v := wch (nI j)) d_lc_13 (by unfold wch; rw [e3]; exact (hb j hj).1) ?_
  exact x_ret d_lc_14 rfl (by unfold wch; rw [e3]; exact (hb j hj).2) (Nat.zero_le _) (Nat.zero_le _)
theorem c_lc {G : GX} (i : Int32) (hi : vp_in i 112) (S : AS) : CN G y_StringLatin1_charAt b_StringLatin1_charAt 2 (some .char) ({ frames := 2, cells := 0, slots := 0, locals := 43 } : Room) b iI [.retAddr 2, .int i] S (some (wch i, S)) := cn_of_v (M := md_lc) (ini := false) rfl (by decide +kernel) (fun h => nomatch h) rfl (Nat.le_of_ble_eq_true rfl) (v_lc i hi S)
theorem v_il {G : GX} (S : AS) : V G md_il (QM G md_il iI) (fun _ => True) b 0 [some (.retAddr 1)] [] 0 0 S (some (1, S)) := by
  refine e_gets d_il_0 w_cmp ?_
  have h : V G md_il (QM G md_il iI) (fun _ => True) b 3 [some (.retAddr 1)] [.int 1] 0 0 S (if (1 : Int32) = 0 then none else if (0 : Int32) = 0 then some (1, S) else none) := by
    refine x_if_eq (tgt := 17) d_il_3 (by decide) (fun h => absurd h (by decide)) (fun _ => ?_)
    refine x_aload_n_ext d_il_6 rfl ?_
    refine e_coder d_il_7 w_coder ?_
    refine x_if_ne (tgt := 17) d_il_10 (by decide) (fun h => absurd rfl h) (fun _ => ?_)
    refine x_iconst (v := 1) d_il_13 (by decide) ?_
    refine x_goto (tgt := 18) d_il_14 (by decide) ?_
    exact x_ret d_il_18 rfl rfl (Nat.zero_le _) (Nat.zero_le _)
  rw [if_neg (by decide), if_pos rfl] at h
  exact h
theorem c_il {G : GX} (S : AS) : CN G y_String_isLatin1 b_String_isLatin1 1 (some .boolean) ({ frames := 0, cells := 0, slots := 0, locals := 0 } : Room) b iI [.retAddr 1] S (some (1, S)) := cn_of_v (M := md_il) (ini := false) rfl (by decide +kernel) (fun h => nomatch h) rfl (Nat.le_of_ble_eq_true rfl) (v_il S)
theorem v_ca {G : GX} (i : Int32) (hi : vp_in i 112) (S : AS) : V G md_ca (QM G md_ca iI) (fun _ => True) b 0 [some (.retAddr 1), some (.int i)] [] 0 0 S (bI (some ((1 : Int32), S)) fun v T => if v = 0 then none else bI (some (wch i, T)) fun w U => chk (narrow .char (.int w) = .int w) (some (w, U))) := by
  refine x_aload_n_ext d_ca_0 rfl ?_
  refine e_callV (As := []) d_ca_1 mv_ca1 rfl rfl ⟨Nat.le_of_ble_eq_true rfl, Nat.le_of_ble_eq_true rfl⟩ (Nat.le_of_ble_eq_true rfl) ⟨Nat.le_of_ble_eq_true rfl, Nat.le_of_ble_eq_true rfl⟩ (c_il S) (fun v T => ?_)
  refine x_if_eq (tgt := 16) d_ca_4 (by decide) (fun _ => V.none) (fun _ => ?_)
  refine x_aload_n_ext d_ca_7 rfl ?_
  refine e_value d_ca_8 w_value ?_
  refine x_iload_n d_ca_11 rfl ?_
  refine x_sI (b' := b) (As := [.retAddr 2, .int i]) d_ca_12 ms_ca rfl ⟨Nat.le_of_ble_eq_true rfl, Nat.le_of_ble_eq_true rfl⟩ (Nat.le_of_ble_eq_true rfl) ⟨Nat.le_of_ble_eq_true rfl, Nat.le_of_ble_eq_true rfl⟩ (fun _ h => h) (fun h => ⟨h, c_lc i hi T⟩) (fun w U => ?_)
  refine x_chk (fun hn => ?_)
  exact x_ret d_ca_15 rfl hn (Nat.zero_le _) (Nat.zero_le _)
theorem c_ca {G : GX} (i : Int32) (hi : vp_in i 112) (S : AS) : CN G y_String_charAt b_String_charAt 2 (some .char) ({ frames := 3, cells := 0, slots := 0, locals := 64 } : Room) b iI [.retAddr 1, .int i] S (some (wch i, S)) := by
  have h := cn_of_v (M := md_ca) (y := y_String_charAt) (inj := iI) (av := [.retAddr 1, .int i]) (ini := false) rfl (by decide +kernel) (fun h => nomatch h) rfl (Nat.le_of_ble_eq_true rfl) (v_ca (b := b) (G := G) i hi S)
  have e : (bI (some ((1 : Int32), S)) fun v T => if v = 0 then none else bI (some (wch i, T)) fun w U => chk (narrow .char (.int w) = .int w) (some (w, U))) = some (wch i, S) := by
    obtain ⟨j, hj, rfl⟩ := vp_in_of hi (by decide)
    have hb : ∀ j, j < 112 → narrow .char (.int (bW.getD j 0)) = .int (bW.getD j 0) := by decide +kernel
    have e3 : ix (nI j) = j := nI_clamp (by omega)
    show (if (1 : Int32) = 0 then none else chk (narrow .char (.int (wch (nI j))) = .int (wch (nI j))) (some (wch (nI j), S))) = _
    rw [if_neg (by decide), chk_pos]
    unfold wch; rw [e3]; exact hb j hj
  rw [e] at h
  exact h
variable {α : Type} {G : GX} {M : MD} {S : AS} {QQ : QT α} {E : State → Prop} {pc : Nat} {lc : List (Option Value)} {st : List Value} {k z : Nat} {X : Option α}
theorem x_charAt {idx : Nat} {i : Int32} (hd : decode M.2.1 pc = .ok (.invokevirtual idx, 3)) (hmv : MV M.1 idx y_String_charAt b_String_charAt 2 (some .char) 1) (hRm : 4 ≤ M.2.2.2.2.2.frames ∧ 85 ≤ M.2.2.2.2.2.locals) (hst : (st.map fun v => v.category).sum ≤ 8) (hk : k ≤ M.2.2.2.2.2.cells) (hz : z ≤ M.2.2.2.2.2.slots) (h : V G M QQ E b (pc + 3) lc (.int (wch i) :: st) k z S X) : V G M QQ E b pc lc (.int i :: .retAddr 1 :: st) k z S (chk (vp_in i 112) X) := by
  refine x_chk (fun hi => ?_)
  have h2 : V G M QQ E b pc lc (.int i :: .retAddr 1 :: st) k z S (bI (some (wch i, S)) fun v T => chk (v = wch i ∧ T = S) X) := by
    refine e_callV (rm := ({ frames := 3, cells := 0, slots := 0, locals := 64 } : Room)) (As := [.int i]) hd hmv rfl rfl ⟨hRm.1, hRm.2⟩ hst ⟨hk, hz⟩ (c_ca i hi S) (fun v T => x_chk (fun hv => ?_))
    obtain ⟨rfl, rfl⟩ := hv
    exact h
  have e : (bI (some (wch i, S)) fun v T => chk (v = wch i ∧ T = S) X) = X := chk_pos ⟨rfl, rfl⟩
  rw [e] at h2
  exact h2
end STRM
