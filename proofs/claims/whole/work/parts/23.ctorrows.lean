section CTR
variable {α : Type} {G : GX} {M : MD} {b : Option (Option Nat)} {S : AS} {QQ : QT α} {E : State → Prop} {pc : Nat} {lc : List (Option Value)} {st : List Value} {k z : Nat} {X : Option α}
theorem fst_si (S : AS) (c k : Nat) (v : Int32) : (si S c k v).1 = S.1 := rfl
theorem fst_sl (S : AS) (c k : Nat) (v : Int64) : (sl S c k v).1 = S.1 := rfl
theorem fst_sr (S : AS) (c k : Nat) (v : Option Nat) : (sr S c k v).1 = S.1 := rfl
theorem fst_sa (S : AS) (c : Nat) (f : Nat → Int32) : (sa S c f).1 = S.1 := rfl
theorem fst_nw (S : AS) : (nw S).1 = S.1 + 1 := rfl
theorem bV_some {β : Type} {x : Option AS} {kk : AS → Option β} {r : β} (h : bV x kk = some r) : ∃ T, x = some T ∧ kk T = some r := by
  cases x with
  | none => cases h
  | some T => exact ⟨T, rfl, h⟩
theorem bI_some {β : Type} {x : Option (Int32 × AS)} {kk : Int32 → AS → Option β} {r : β} (h : bI x kk = some r) : ∃ v T, x = some (v, T) ∧ kk v T = some r := by
  cases x with
  | none => cases h
  | some T => exact ⟨T.1, T.2, rfl, h⟩
theorem c_newa {at0 : ArrayType} {N n : Nat} {v : Int32} {f : AS → Option α} (hn : S.1 = n) (hd : decode M.2.1 pc = .ok (.newarray at0, 2)) (hw : Cond.arrayClass (newarray.typeOf at0) ∈ lw_tbl) (hat : aty at0 < 3) (hK : aK S.1 = .inl (aty at0, N)) (hv : ¬ v < 0) (hN : v.toNatClampNeg = N) (hb : N ≤ 60000000) (hk : k + 1 ≤ M.2.2.2.2.2.cells) (hz : z + N ≤ M.2.2.2.2.2.slots) (h : ∀ T, T = nw S → T.1 = n + 1 → V G M QQ E none (pc + 2) lc (.ref n :: st) (k + 1) (z + N) T (f T)) : V G M QQ E none pc lc (.int v :: st) k z S (nm (nw S) f) := by
  subst hn
  exact x_newa hd hw hat hK hv hN hb hk hz (h (nw S) rfl rfl)
theorem c_newq {idx N n : Nat} {v : Int32} {f : AS → Option α} (hn : S.1 = n) (hd : decode M.2.1 pc = .ok (.anewarray idx, 3)) (hw : Cond.classLink M.1 idx "PaperChancery$RuleBook" ∈ lw_tbl) (hw2 : Cond.arrayOver (.object "PaperChancery$RuleBook") ∈ lw_tbl) (hK : aK S.1 = .inl (3, N)) (hv : ¬ v < 0) (hN : v.toNatClampNeg = N) (hb : N ≤ 60000000) (hk : k + 1 ≤ M.2.2.2.2.2.cells) (hz : z + N ≤ M.2.2.2.2.2.slots) (h : ∀ T, T = nw S → T.1 = n + 1 → V G M QQ E none (pc + 3) lc (.ref n :: st) (k + 1) (z + N) T (f T)) : V G M QQ E none pc lc (.int v :: st) k z S (nm (nw S) f) := by
  subst hn
  exact x_newq hd hw hw2 hK hv hN hb hk hz (h (nw S) rfl rfl)
theorem c_new {idx ci N n : Nat} {f : AS → Option α} (hn : S.1 = n) (hd : decode M.2.1 pc = .ok (.new idx, 3)) (hc : NWC M.1 idx ci N) (hK : aK S.1 = .inr ci) (hk : k + 1 ≤ M.2.2.2.2.2.cells) (hz : z + N ≤ M.2.2.2.2.2.slots) (h : ∀ T, T = nw S → T.1 = n + 1 → V G M QQ E none (pc + 3) lc (.ref n :: st) (k + 1) (z + N) T (f T)) : V G M QQ E none pc lc st k z S (nm (nw S) f) := by
  subst hn
  exact x_new hd hc hK hk hz (h (nw S) rfl rfl)
variable {b' : Option (Option Nat)} {cc : ByteArray} {nL : Nat} {ret : Option FieldType} {rm : Room} {y : MethodName} {idx n q ci : Nat} {As : List Value}
theorem x_sVh {Y : Option AS} {K : AS → Option α} (hd : decode M.2.1 pc = .ok (.invokestatic idx, 3)) (hmv : MS M.1 idx y cc nL ret n) (hn : As.length = n) (hRm : rm.frames + 1 ≤ M.2.2.2.2.2.frames ∧ 8 + (nL + 11) + rm.locals ≤ M.2.2.2.2.2.locals) (hst : (st.map fun v => v.category).sum ≤ 8) (hcs : k + rm.cells ≤ M.2.2.2.2.2.cells ∧ z + rm.slots ≤ M.2.2.2.2.2.slots) (hbk : ∀ T, Sp b' T → Sp b T) (hcn : Sp b S → Sp b' S ∧ CN G y cc nL ret rm b' iV As S Y)
    (h : ∀ T, Y = some T → V G M QQ E b (pc + 3) lc st (k + rm.cells) (z + rm.slots) T (K T)) : V G M QQ E b pc lc (As.reverse ++ st) k z S (bV Y K) := by
  have e : bV Y K = Y.bind K := by cases Y <;> rfl
  rw [e]
  exact x_callS hd hmv hn hRm hst hcs hbk hcn (fun a ha => h a ha)
end CTR
noncomputable def ffL (a N : Nat) (v : Int32) : Nat → Int32 → AS → Option AS
  | 0, _, _ => none
  | n + 1, c, S => if Int32.ofNat N ≤ c then some S else chk (vp_in c N) (nm (si S a (ix c) v) fun T => ffL a N v n (c + 1) T)
theorem v_ffL {G : GX} {a N : Nat} (hK : aK a = .inl (0, N)) (v : Int32) : ∀ (n : Nat) (c : Int32) (S : AS), a < S.1 → V G md_Arrays_fill_i (QM G md_Arrays_fill_i iV) (fun _ => True) none 5 [some (.ref a), some (.int v), some (.int c), some (.int (Int32.ofNat N))] [] 0 0 S (ffL a N v n c S) := by
  intro n
  induction n with
  | zero => intro c S _; exact V.none
  | succ n ih =>
    intro c S ha
    rw [ffL]
    refine x_iload_n d_Arrays_fill_i_5 rfl ?_
    refine x_iload_n d_Arrays_fill_i_6 rfl ?_
    refine x_icmp_ge (tgt := 20) d_Arrays_fill_i_7 (by decide) (fun _ => ?_) (fun _ => ?_)
    · exact x_vret d_Arrays_fill_i_20 rfl (Nat.zero_le _) (Nat.zero_le _)
    · refine x_aload_n_ref d_Arrays_fill_i_10 rfl ?_
      refine x_iload_n d_Arrays_fill_i_11 rfl ?_
      refine x_iload_n d_Arrays_fill_i_12 rfl ?_
      refine x_iast d_Arrays_fill_i_13 hK (fun _ => ha) ?_
      refine x_nmS (fun T hT => ?_)
      refine x_iinc (w := c + 1) (lc' := [some (.ref a), some (.int v), some (.int (c + 1)), some (.int (Int32.ofNat N))]) d_Arrays_fill_i_14 (by decide) rfl rfl rfl ?_
      refine x_goto (tgt := 5) d_Arrays_fill_i_17 (by decide) ?_
      exact ih (c + 1) T (by rw [hT]; exact ha)
theorem c_ffL {G : GX} {a N : Nat} (hK : aK a = .inl (0, N)) (v : Int32) (S : AS) (ha : a < S.1) : CN G y_Arrays_fill_i b_Arrays_fill_i 4 none ({ frames := 0, cells := 0, slots := 0, locals := 0 } : Room) none iV [.ref a, .int v] S (ffL a N v FU 0 S) := by
  refine cn_of_v (M := md_Arrays_fill_i) (ini := false) (lc := [some (.ref a), some (.int v), none, none]) rfl (by decide +kernel) (fun h => nomatch h) rfl (Nat.le_of_ble_eq_true rfl) ?_
  refine x_iconst (v := 0) d_Arrays_fill_i_0 (by decide) ?_
  refine x_istore_n (lc' := [some (.ref a), some (.int v), some (.int 0), none]) d_Arrays_fill_i_1 (by decide) rfl ?_
  refine x_aload_n_ref d_Arrays_fill_i_2 rfl ?_
  refine x_alen (v := Int32.ofNat N) d_Arrays_fill_i_3 hK (by decide) rfl (fun _ => ha) ?_
  refine x_istore_n (lc' := [some (.ref a), some (.int v), some (.int 0), some (.int (Int32.ofNat N))]) d_Arrays_fill_i_4 (by decide) rfl ?_
  exact v_ffL hK v FU 0 S ha
theorem nffL {a N : Nat} {v : Int32} : ∀ (n : Nat) (c : Int32) (S T : AS), ffL a N v n c S = some T → T.1 = S.1 := by
  intro n
  induction n with
  | zero => intro c S T h; cases h
  | succ n ih =>
    intro c S T h
    rw [ffL] at h
    split at h
    · cases h; rfl
    · obtain ⟨-, h⟩ := chk_some h
      exact (ih (c + 1) (si S a (ix c) v) T h).trans rfl
theorem w_ob2 : Cond.instanceMethod objectInit ∈ lw_tbl := List.mem_append_right _ (List.mem_append_left _ (List.mem_of_getElem? (i := 27) (by decide +kernel)))
theorem w_ob3 : Cond.code objectInit ⟨#[0xb1]⟩ 1 none ∈ lw_tbl := List.mem_append_right _ (List.mem_append_left _ (List.mem_of_getElem? (i := 28) (by decide +kernel)))
noncomputable def ff_62 (v : Int32) (S : AS) : Option AS := ffL 62 161 v FU 0 S
theorem cf_62 {G : GX} (v : Int32) (S : AS) (h : 62 < S.1) : CN G y_Arrays_fill_i b_Arrays_fill_i 4 none ({ frames := 0, cells := 0, slots := 0, locals := 0 } : Room) none iV [.ref 62, .int v] S (ff_62 v S) := c_ffL ak_62 v S h
theorem nf_62 (v : Int32) (S T : AS) (h : ff_62 v S = some T) : T.1 = S.1 := nffL _ _ _ _ h
noncomputable def ff_68 (v : Int32) (S : AS) : Option AS := ffL 68 24 v FU 0 S
theorem cf_68 {G : GX} (v : Int32) (S : AS) (h : 68 < S.1) : CN G y_Arrays_fill_i b_Arrays_fill_i 4 none ({ frames := 0, cells := 0, slots := 0, locals := 0 } : Room) none iV [.ref 68, .int v] S (ff_68 v S) := c_ffL ak_68 v S h
theorem nf_68 (v : Int32) (S T : AS) (h : ff_68 v S = some T) : T.1 = S.1 := nffL _ _ _ _ h
theorem nwc_Chan_7 : NWC "PaperChancery" 7 1 2 := ⟨_, _, _, cls_Tape, List.mem_append_right _ (List.mem_append_left _ (List.mem_of_getElem? (i := 29) (by decide +kernel))), List.mem_append_right _ (List.mem_append_left _ (List.mem_of_getElem? (i := 30) (by decide +kernel))), List.mem_append_right _ (List.mem_append_left _ (List.mem_of_getElem? (i := 2) (by decide +kernel))), by decide +kernel⟩
theorem nwc_Chan_16 : NWC "PaperChancery" 16 2 6 := ⟨_, _, _, cls_RuleReader, List.mem_append_right _ (List.mem_append_left _ (List.mem_of_getElem? (i := 46) (by decide +kernel))), List.mem_append_right _ (List.mem_append_left _ (List.mem_of_getElem? (i := 47) (by decide +kernel))), List.mem_append_right _ (List.mem_append_left _ (List.mem_of_getElem? (i := 3) (by decide +kernel))), by decide +kernel⟩
theorem nwc_Chan_25 : NWC "PaperChancery" 25 5 9 := ⟨_, _, _, cls_Roll, List.mem_append_right _ (List.mem_append_left _ (List.mem_of_getElem? (i := 135) (by decide +kernel))), List.mem_append_right _ (List.mem_append_left _ (List.mem_of_getElem? (i := 136) (by decide +kernel))), List.mem_append_right _ (List.mem_append_left _ (List.mem_of_getElem? (i := 6) (by decide +kernel))), by decide +kernel⟩
theorem nwc_Chan_32 : NWC "PaperChancery" 32 6 9 := ⟨_, _, _, cls_PaperBox, List.mem_append_right _ (List.mem_append_left _ (List.mem_of_getElem? (i := 181) (by decide +kernel))), List.mem_append_right _ (List.mem_append_left _ (List.mem_of_getElem? (i := 182) (by decide +kernel))), List.mem_append_right _ (List.mem_append_left _ (List.mem_of_getElem? (i := 7) (by decide +kernel))), by decide +kernel⟩
theorem nwc_Chan_39 : NWC "PaperChancery" 39 7 7 := ⟨_, _, _, cls_Gazette, List.mem_append_right _ (List.mem_append_left _ (List.mem_of_getElem? (i := 223) (by decide +kernel))), List.mem_append_right _ (List.mem_append_left _ (List.mem_of_getElem? (i := 224) (by decide +kernel))), List.mem_append_right _ (List.mem_append_left _ (List.mem_of_getElem? (i := 8) (by decide +kernel))), by decide +kernel⟩
theorem nwc_Chan_46 : NWC "PaperChancery" 46 8 4 := ⟨_, _, _, cls_Reigns, List.mem_append_right _ (List.mem_append_right _ (List.mem_append_left _ (List.mem_of_getElem? (i := 18) (by decide +kernel)))), List.mem_append_right _ (List.mem_append_right _ (List.mem_append_left _ (List.mem_of_getElem? (i := 19) (by decide +kernel)))), List.mem_append_right _ (List.mem_append_left _ (List.mem_of_getElem? (i := 9) (by decide +kernel))), by decide +kernel⟩
theorem nwc_Chan_53 : NWC "PaperChancery" 53 9 19 := ⟨_, _, _, cls_Course, List.mem_append_right _ (List.mem_append_right _ (List.mem_append_left _ (List.mem_of_getElem? (i := 42) (by decide +kernel)))), List.mem_append_right _ (List.mem_append_right _ (List.mem_append_left _ (List.mem_of_getElem? (i := 43) (by decide +kernel)))), List.mem_append_right _ (List.mem_append_left _ (List.mem_of_getElem? (i := 10) (by decide +kernel))), by decide +kernel⟩
theorem nwc_Chan_62 : NWC "PaperChancery" 62 10 3 := ⟨_, _, _, cls_Ends, List.mem_append_right _ (List.mem_append_right _ (List.mem_append_left _ (List.mem_of_getElem? (i := 113) (by decide +kernel)))), List.mem_append_right _ (List.mem_append_right _ (List.mem_append_left _ (List.mem_of_getElem? (i := 114) (by decide +kernel)))), List.mem_append_right _ (List.mem_append_left _ (List.mem_of_getElem? (i := 11) (by decide +kernel))), by decide +kernel⟩
theorem nwc_Chan_71 : NWC "PaperChancery" 71 11 5 := ⟨_, _, _, cls_Exchange, List.mem_append_right _ (List.mem_append_right _ (List.mem_append_left _ (List.mem_of_getElem? (i := 132) (by decide +kernel)))), List.mem_append_right _ (List.mem_append_right _ (List.mem_append_left _ (List.mem_of_getElem? (i := 133) (by decide +kernel)))), List.mem_append_right _ (List.mem_append_left _ (List.mem_of_getElem? (i := 13) (by decide +kernel))), by decide +kernel⟩
theorem nwc_Reigns_15 : NWC "PaperChancery$Reigns" 15 3 9 := ⟨_, _, _, cls_RuleBook, List.mem_append_right _ (List.mem_append_right _ (List.mem_append_left _ (List.mem_of_getElem? (i := 24) (by decide +kernel)))), List.mem_append_right _ (List.mem_append_left _ (List.mem_of_getElem? (i := 53) (by decide +kernel))), List.mem_append_right _ (List.mem_append_left _ (List.mem_of_getElem? (i := 4) (by decide +kernel))), by decide +kernel⟩
theorem nwc_RuleReader_9 : NWC "PaperChancery$RuleReader" 9 3 9 := ⟨_, _, _, cls_RuleBook, List.mem_append_right _ (List.mem_append_left _ (List.mem_of_getElem? (i := 52) (by decide +kernel))), List.mem_append_right _ (List.mem_append_left _ (List.mem_of_getElem? (i := 53) (by decide +kernel))), List.mem_append_right _ (List.mem_append_left _ (List.mem_of_getElem? (i := 4) (by decide +kernel))), by decide +kernel⟩
theorem nwc_RuleReader_18 : NWC "PaperChancery$RuleReader" 18 4 5 := ⟨_, _, _, cls_TokenRow, List.mem_append_right _ (List.mem_append_left _ (List.mem_of_getElem? (i := 87) (by decide +kernel))), List.mem_append_right _ (List.mem_append_left _ (List.mem_of_getElem? (i := 88) (by decide +kernel))), List.mem_append_right _ (List.mem_append_left _ (List.mem_of_getElem? (i := 5) (by decide +kernel))), by decide +kernel⟩
theorem nwc_Law_7 : NWC "PaperChanceryLaw" 7 0 12 := ⟨_, _, _, cls_Chan, List.mem_append_right _ (List.mem_append_left _ (List.mem_of_getElem? (i := 21) (by decide +kernel))), List.mem_append_right _ (List.mem_append_left _ (List.mem_of_getElem? (i := 22) (by decide +kernel))), List.mem_append_right _ (List.mem_append_left _ (List.mem_of_getElem? (i := 1) (by decide +kernel))), by decide +kernel⟩
theorem nwc_Law_10 : NWC "PaperChanceryLaw" 10 12 43 := ⟨_, _, _, cls_Md, List.mem_append_right _ (List.mem_append_right _ (List.mem_append_right _ (List.mem_append_right _ (List.mem_append_left _ (List.mem_of_getElem? (i := 192) (by decide +kernel)))))), List.mem_append_right _ (List.mem_append_right _ (List.mem_append_right _ (List.mem_append_right _ (List.mem_append_left _ (List.mem_of_getElem? (i := 193) (by decide +kernel)))))), List.mem_append_right _ (List.mem_append_left _ (List.mem_of_getElem? (i := 14) (by decide +kernel))), by decide +kernel⟩
