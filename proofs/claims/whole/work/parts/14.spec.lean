theorem w_max2 : Cond.static Lib.Math.max.name ∈ lw_tbl := List.mem_append_right _ (List.mem_append_right _ (List.mem_append_right _ (List.mem_append_left _ (List.mem_of_getElem? (i := 97) (by decide +kernel)))))
theorem w_max3 : Cond.initialized "java/lang/Math" ∈ lw_tbl := List.mem_append_right _ (List.mem_append_left _ (List.mem_of_getElem? (i := 19) (by decide +kernel)))
theorem w_max4 : Cond.code Lib.Math.max.name Lib.Math.max.code 2 (some .int) ∈ lw_tbl := List.mem_append_right _ (List.mem_append_right _ (List.mem_append_right _ (List.mem_append_left _ (List.mem_of_getElem? (i := 98) (by decide +kernel)))))
theorem w_cp2 : Cond.native arraycopyName ∈ lw_tbl := List.mem_append_right _ (List.mem_append_right _ (List.mem_append_right _ (List.mem_append_left _ (List.mem_of_getElem? (i := 158) (by decide +kernel)))))
theorem w_cp3 : Cond.static arraycopyName ∈ lw_tbl := List.mem_append_right _ (List.mem_append_right _ (List.mem_append_right _ (List.mem_append_left _ (List.mem_of_getElem? (i := 157) (by decide +kernel)))))
theorem w_cp4 : Cond.initialized "java/lang/System" ∈ lw_tbl := List.mem_append_right _ (List.mem_append_left _ (List.mem_of_getElem? (i := 20) (by decide +kernel)))
/-- how often a loop may go round -/
def FU : Nat := 100000
def imx (x y : Int32) : Int32 := if x < y then y else x
def acp (sp dp n : Int32) (n0 n1 : Nat) : Prop := ¬ sp < 0 ∧ ¬ dp < 0 ∧ ¬ n < 0 ∧ ix sp + ix n ≤ n0 ∧ ix dp + ix n ≤ n1
def wch (i : Int32) : Int32 := bW.getD (ix i) 0
theorem lsw_0 {x : Int32} (h : x = 0) : Op.lookupswitch.offset #[((0 : Int), (27 : Int)), (1, 35)].toList 43 x.toInt = 27 := by subst h; decide
theorem lsw_1 {x : Int32} (h : x = 1) : Op.lookupswitch.offset #[((0 : Int), (27 : Int)), (1, 35)].toList 43 x.toInt = 35 := by subst h; decide
theorem lsw_d {x : Int32} (h : ¬ x = 0) (h2 : ¬ x = 1) : Op.lookupswitch.offset #[((0 : Int), (27 : Int)), (1, 35)].toList 43 x.toInt = 43 := by
  have e0 : ¬ x.toInt = 0 := fun e => h (by rw [← Int32.ofInt_toInt x, e]; rfl)
  have e1 : ¬ x.toInt = 1 := fun e => h2 (by rw [← Int32.ofInt_toInt x, e]; rfl)
  simp [Op.lookupswitch.offset]
  omega
section SPEC
variable {α : Type} {G : GX} {M : MD} {b : Option (Option Nat)} {S : AS} {QQ : QT α} {E : State → Prop} {pc : Nat} {lc : List (Option Value)} {st : List Value} {k z : Nat} {X : Option α}
theorem x_max {idx : Nat} {x y : Int32} (hd : decode M.2.1 pc = .ok (.invokestatic idx, 3)) (hw : Cond.methodLink M.1 idx Lib.Math.max.name ∈ lw_tbl) (hw2 : Cond.static Lib.Math.max.name ∈ lw_tbl) (hw3 : Cond.initialized "java/lang/Math" ∈ lw_tbl) (hw4 : Cond.code Lib.Math.max.name Lib.Math.max.code 2 (some .int) ∈ lw_tbl) (hst : (st.map fun v => v.category).sum ≤ 8) (hf : 1 ≤ M.2.2.2.2.2.frames) (hl : 21 ≤ M.2.2.2.2.2.locals) (hk : k ≤ M.2.2.2.2.2.cells) (hz : z ≤ M.2.2.2.2.2.slots) (h : V G M QQ E b (pc + 3) lc (.int (imx x y) :: st) k z S X) : V G M QQ E b pc lc (.int y :: .int x :: st) k z S X :=
  h.lift id fun r hV p e s m args below meth c H locs ls C hR hS hL => by
    have hEC := C.2.2.2.2.2.2.2.1
    exact va_mmax (rest := st.map (cv G)) C.1 C.2.1 (by rw [C.2.2.1]; exact hL.1.symm) C.2.2.2.2.2.2.1 (hEC.1.use hw rfl) (hEC.1.use hw2 rfl) (hEC.1.use hw3 rfl) (hEC.1.use hw4 rfl) hf (by rw [List.map_map, show ((fun v : Value => v.category) ∘ cv G) = fun v => v.category from funext (cv_cat G)]; omega) hk hz hd (hV p e s m args below meth c H locs ls C hR hS hL)
theorem x_ldcS {idx : Nat} (hd : decode M.2.1 pc = .ok (.ldc idx, 2)) (hM : M.1 = "PaperChancery$TokenRow") (hi : idx = 71) (h : V G M QQ E b (pc + 2) lc (.retAddr 1 :: st) k z S X) : V G M QQ E b pc lc st k z S X :=
  h.lift id fun r hV p e s m args below meth c H locs ls C hR hS hL => by
    subst hi
    have hEC := C.2.2.2.2.2.2.2.1
    exact va_ldcS (tx := sW) C.1 C.2.1 C.2.2.2.2.2.2.1 (by rw [hM]; exact hEC.2.2.1) hd (hV p e s m args below meth c H locs ls C hR hS hL)
theorem x_copy {idx a0 a n0 n1 : Nat} {sp dp n : Int32} (hd : decode M.2.1 pc = .ok (.invokestatic idx, 3)) (hw : Cond.methodLink M.1 idx arraycopyName ∈ lw_tbl) (hw2 : Cond.native arraycopyName ∈ lw_tbl) (hw3 : Cond.static arraycopyName ∈ lw_tbl) (hw4 : Cond.initialized "java/lang/System" ∈ lw_tbl) (hK0 : aK a0 = .inl (0, n0)) (hK1 : aK a = .inl (0, n1)) (hq0 : Sp b S → a0 < S.1) (hq1 : Sp b S → a < S.1) (hst : (st.map fun v => v.category).sum ≤ 8) (hf : 1 ≤ M.2.2.2.2.2.frames) (hl : 8 + (nativeFrameWords "java/lang/System" "arraycopy" 5 + 11) ≤ M.2.2.2.2.2.locals)
    (h : V G M QQ E b (pc + 3) lc st k z (sa S a (va_cpy (gi S a0) (gi S a) (ix sp) (ix dp) (ix n))) X) : V G M QQ E b pc lc (.int n :: .int dp :: .ref a :: .int sp :: .ref a0 :: st) k z S (chk (acp sp dp n n0 n1) X) := by
  refine x_chk fun hc => h.liftS (fun h0 => h0.sa _ _) fun h0 r hV p e s m args below meth c H locs ls C hR hS hL => ?_
  obtain ⟨h1, h2, h3, h4, h5⟩ := hc
  have h4 : sp.toNatClampNeg + n.toNatClampNeg ≤ n0 := h4
  have h5 : dp.toNatClampNeg + n.toNatClampNeg ≤ n1 := h5
  have hEC := C.2.2.2.2.2.2.2.1
  have hK := hEC.2.1
  have nn : ∀ z : Int32, ¬ z < 0 → z.toInt = (z.toNatClampNeg : Int) := by
    intro z hz
    have hz0 : (0 : Int) ≤ z.toInt := by
      have := Int32.not_lt.mp hz
      simpa using Int32.le_iff_toInt_le.mp this
    show z.toInt = ((z.toInt.toNat : Nat) : Int)
    omega
  intro T hT X
  have hc0 : H[gB G + a0]? = some (vp_cell (gI G) (n0, .inl (gi S a0))) := hR.arr (hq0 h0) (fc_int hK0)
  have hc1 : H[gB G + a]? = some (vp_cell (gI G) (n1, .inl (gi S a))) := hR.arr (hq1 h0) (fc_int hK1)
  obtain ⟨-, k0, hk0, cm0, hkk0⟩ := (hK.2 0 _ rfl).1 n0 (fun j => .int (gi S a0 j))
  obtain ⟨-, k1, hk1, cm1, hkk1⟩ := (hK.2 0 _ rfl).1 n1 (fun j => .int (gi S a j))
  obtain ⟨vm', X', step⟩ := X.arraycopy C.1 C.2.2.2.2.2.2.1 (hEC.1.use hw rfl) (hEC.1.use hw2 rfl) (hEC.1.use hw3 rfl) (hEC.1.use hw4 rfl) (src := gB G + a0) (dst := gB G + a) (cs := vp_cell (gI G) (n0, .inl (gi S a0))) (cd := vp_cell (gI G) (n1, .inl (gi S a))) (srcPos := sp) (destPos := dp) (n := n) (by rw [hT]; exact hc0) (by rw [hT]; exact hc1)
    (fun _ h => by cases h) (fun _ h => by cases h) (fun h => by cases h) (fun h => by cases h) hk0 hk1 hkk0 hkk1 (by simp [refKind]) h1 h2 h3
    (by rw [nn sp h1, nn n h3]; show ¬ _ > ((arrV (gI G) n0 (fun j => .int (gi S a0 j))).slots.size : Int); rw [arrV_size]; omega)
    (by rw [nn dp h2, nn n h3]; show ¬ _ > ((arrV (gI G) n1 (fun j => .int (gi S a j))).slots.size : Int); rw [arrV_size]; omega)
    (fun vm₁ _ i hi => by
      have e : (vp_cell (gI G) (n0, .inl (gi S a0))).slots.getD (sp.toNatClampNeg + i) .null = .int (gi S a0 (sp.toNatClampNeg + i)) := by
        show (arrV (gI G) n0 (fun j => .int (gi S a0 j))).slots.getD _ _ = _
        rw [Array.getD_eq_getD_getElem?, arrV_read _ _ (by omega)]
        rfl
      refine ⟨?_, ?_⟩
      · rw [e]; rfl
      · rw [e]; exact trivial)
    (g := F0 m pc ls (.int n :: .int dp :: .ref (gB G + a) :: .int sp :: .ref (gB G + a0) :: st.map (cv G))) rfl (by rw [C.2.2.1]; exact hL.1) (rest := st.map (cv G)) rfl (by rw [C.2.1]; exact hd) hf (by
      show 2 * 0 + _ + _ ≤ _
      rw [List.map_map, show ((fun v : Value => v.category) ∘ cv G) = fun v => v.category from funext (cv_cat G)]
      omega)
  have e1 : copied (vp_cell (gI G) (n0, .inl (gi S a0))) (vp_cell (gI G) (n1, .inl (gi S a))) sp dp n = vp_cell (gI G) (n1, .inl (va_cpy (gi S a0) (gi S a) sp.toNatClampNeg dp.toNatClampNeg n.toNatClampNeg)) := va_copied (fun z => .int z) (gI G) (gI G) (gi S a0) (gi S a) h4
  rw [e1] at X' step
  have hlt : gB G + a < H.size := (Array.getElem?_eq_some_iff.mp hc1).1
  have hheap : ((T.setVm vm').setCell (gB G + a) (vp_cell (gI G) (n1, .inl (va_cpy (gi S a0) (gi S a) sp.toNatClampNeg dp.toNatClampNeg n.toNatClampNeg)))).heap = H.setIfInBounds (gB G + a) (vp_cell (gI G) (n1, .inl (va_cpy (gi S a0) (gi S a) sp.toNatClampNeg dp.toNatClampNeg n.toNatClampNeg))) := by rw [← hT]; rfl
  have oq : ∀ q : Nat, q ≠ gB G + a → (H.setIfInBounds (gB G + a) (vp_cell (gI G) (n1, .inl (va_cpy (gi S a0) (gi S a) sp.toNatClampNeg dp.toNatClampNeg n.toNatClampNeg))))[q]? = H[q]? := fun q hq => by simp [Array.getElem?_setIfInBounds, Ne.symm hq]
  have hR1 : RelH G (sa S a (va_cpy (gi S a0) (gi S a) (ix sp) (ix dp) (ix n))) (H.setIfInBounds (gB G + a) (vp_cell (gI G) (n1, .inl (va_cpy (gi S a0) (gi S a) sp.toNatClampNeg dp.toNatClampNeg n.toNatClampNeg)))) := by
    refine hR.put (S' := sa S a (va_cpy (gi S a0) (gi S a) (ix sp) (ix dp) (ix n))) (i := a) rfl (by simp) oq ?_ (fun j hj => fcell_sa hj)
    rw [fc_int hK1]
    show (H.setIfInBounds _ _)[_]? = some (vp_cell _ _)
    have : gi (sa S a (va_cpy (gi S a0) (gi S a) (ix sp) (ix dp) (ix n))) a = va_cpy (gi S a0) (gi S a) (ix sp) (ix dp) (ix n) := by funext i; simp [gi_sa]
    rw [this]
    simp [Array.getElem?_setIfInBounds, hlt]
  obtain ⟨t, a1, b1⟩ := hV p e s m args below meth c _ _ ls C hR1 ⟨by simp; exact hS.1, fun q g1 g2 => by
      rw [oq q (fun e => g2 (by rw [e]; exact Nat.le_add_right _ _))]
      exact hS.2.1 q g1 g2, fun q hq => by
      rcases List.mem_append.mp hq with h | h
      · exact hS.2.2 q h
      · obtain ⟨z, -, hz⟩ := List.mem_map.mp h
        rw [← hz]
        exact Nat.le_add_right _ _⟩ hL _ hheap X'
  exact ⟨t, step t a1, b1⟩
end SPEC
