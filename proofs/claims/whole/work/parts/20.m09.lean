noncomputable def f_Ends_holderOf (p1 : Int32) (p2 : Int32) (S : AS) : Option (Int32 × AS) := bI (f_Roll_isPost p1 S) fun r2 S1 => nm (fun (S3 : AS) => some ((-1), S3)) fun J33 => if r2 = 0 then (J33 S1) else (bI (f_Ends_knows p2 S1) fun r5 S4 => if r5 = 0 then (J33 S4) else (chk (vp_in ((p2 * 16) + p1) 2576) (some (gi S4 61 (ix ((p2 * 16) + p1)), S4))))
set_option maxHeartbeats 4000000 in
theorem v_Ends_holderOf {G : GX} (p1 : Int32) (p2 : Int32) (S : AS) : V G md_Ends_holderOf (QM G md_Ends_holderOf iI) (fun _ => True) (some none) 0 [some (.ref 60), some (.int p1), some (.int p2)] [] 0 0 S (f_Ends_holderOf p1 p2 S) := by
  unfold f_Ends_holderOf
  refine x_aload_n_ref d_Ends_holderOf_0 rfl ?_
  refine x_getr d_Ends_holderOf_1 fl_Ends_18 ak_60 (q99 (by decide)) (shx sh_60_0) ?_
  refine x_iload_n d_Ends_holderOf_4 rfl ?_
  refine x_vI (b' := (some none)) (As := [.int p1]) d_Ends_holderOf_5 mv_Ends_40 rfl (fun _ => ak_16) rfl (q99 (by decide)) ⟨Nat.le_of_ble_eq_true rfl, Nat.le_of_ble_eq_true rfl⟩ (Nat.le_of_ble_eq_true rfl) ⟨Nat.le_of_ble_eq_true rfl, Nat.le_of_ble_eq_true rfl⟩ (fun _ h => h) (fun h => ⟨h, c_Roll_isPost p1 _⟩) (fun r2 S1 => ?_)
  refine x_nm (fun J33 hJ33 => ?_)
  have kJ33 : ∀ (S3 : AS), V G md_Ends_holderOf (QM G md_Ends_holderOf iI) (fun _ => True) (some none) 33 [none, none, none] [] 0 0 S3 (J33 S3) := by
    subst hJ33
    intro S3
    refine x_iconst (v := -1) d_Ends_holderOf_33 (by decide) ?_
    exact x_ret d_Ends_holderOf_34 rfl rfl (Nat.le_of_ble_eq_true rfl) (Nat.le_of_ble_eq_true rfl)
  clear hJ33
  refine x_if_eq (tgt := 33) d_Ends_holderOf_8 (by decide) (fun _ => ?_) (fun _ => ?_)
  · exact V.kw (kJ33 S1) trivial
  · refine x_aload_n_ref d_Ends_holderOf_11 rfl ?_
    refine x_iload_n d_Ends_holderOf_12 rfl ?_
    refine x_vI (b' := (some none)) (As := [.int p2]) d_Ends_holderOf_13 mv_Ends_44 rfl (fun _ => ak_60) rfl (q99 (by decide)) ⟨Nat.le_of_ble_eq_true rfl, Nat.le_of_ble_eq_true rfl⟩ (Nat.le_of_ble_eq_true rfl) ⟨Nat.le_of_ble_eq_true rfl, Nat.le_of_ble_eq_true rfl⟩ (fun _ h => h) (fun h => ⟨h, c_Ends_knows p2 _⟩) (fun r5 S4 => ?_)
    refine x_if_eq (tgt := 33) d_Ends_holderOf_16 (by decide) (fun _ => ?_) (fun _ => ?_)
    · exact V.kw (kJ33 S4) trivial
    · refine x_aload_n_ref d_Ends_holderOf_19 rfl ?_
      refine x_getr d_Ends_holderOf_20 fl_Ends_9 ak_60 (q99 (by decide)) (shx sh_60_1) ?_
      refine x_iload_n d_Ends_holderOf_23 rfl ?_
      refine x_bipush (v := 16) d_Ends_holderOf_24 (by decide) ?_
      refine x_imul d_Ends_holderOf_26 ?_
      refine x_iload_n d_Ends_holderOf_27 rfl ?_
      refine x_iadd d_Ends_holderOf_28 ?_
      refine x_iald d_Ends_holderOf_29 ak_61 (q99 (by decide)) ?_
      refine x_goto (tgt := 34) d_Ends_holderOf_30 (by decide) ?_
      exact x_ret d_Ends_holderOf_34 rfl rfl (Nat.le_of_ble_eq_true rfl) (Nat.le_of_ble_eq_true rfl)
theorem c_Ends_holderOf {G : GX} (p1 : Int32) (p2 : Int32) (S : AS) : CN G y_Ends_holderOf b_Ends_holderOf 3 (some (FieldType.int)) ({ frames := 1, cells := 0, slots := 0, locals := 21 } : Room) (some none) iI [.ref 60, .int p1, .int p2] S (f_Ends_holderOf p1 p2 S) := cn_of_v (M := md_Ends_holderOf) (ini := false) rfl (by decide +kernel) (fun h => nomatch h) rfl (Nat.le_of_ble_eq_true rfl) (v_Ends_holderOf p1 p2 S)
noncomputable def f_Ends_keep_50 (p1 : Int32) (S : AS) : Option AS := if p1 < 0 then (some S) else (if 160 < p1 then (some S) else (if (16 : Int32) ≤ 16 then (chk (acp 0 (p1 * 16) 16 16 2576) (nm (sa S 61 (va_cpy (gi S 50) (gi S 61) (ix 0) (ix (p1 * 16)) (ix 16))) fun S1 => chk (vp_in p1 161) (nm (si S1 62 (ix p1) (gi S1 16 8)) fun S2 => some S2))) else (some S)))
set_option maxHeartbeats 4000000 in
theorem v_Ends_keep_50 {G : GX} (p1 : Int32) (S : AS) : V G md_Ends_keep (QM G md_Ends_keep iV) (fun _ => True) (some none) 0 [some (.ref 60), some (.int p1), some (.ref 50)] [] 0 0 S (f_Ends_keep_50 p1 S) := by
  unfold f_Ends_keep_50
  refine x_iload_n d_Ends_keep_0 rfl ?_
  refine x_if_lt (tgt := 18) d_Ends_keep_1 (by decide) (fun _ => ?_) (fun _ => ?_)
  · exact x_vret d_Ends_keep_18 rfl (Nat.le_of_ble_eq_true rfl) (Nat.le_of_ble_eq_true rfl)
  · refine x_iload_n d_Ends_keep_4 rfl ?_
    refine x_sipush (v := 160) d_Ends_keep_5 (by decide) ?_
    refine x_icmp_gt (tgt := 18) d_Ends_keep_8 (by decide) (fun _ => ?_) (fun _ => ?_)
    · exact x_vret d_Ends_keep_18 rfl (Nat.le_of_ble_eq_true rfl) (Nat.le_of_ble_eq_true rfl)
    · refine x_aload_n_ref d_Ends_keep_11 rfl ?_
      refine x_alen (v := 16) d_Ends_keep_12 ak_50 (by decide) (by decide) (q99 (by decide)) ?_
      refine x_bipush (v := 16) d_Ends_keep_13 (by decide) ?_
      refine x_icmp_ge (tgt := 19) d_Ends_keep_15 (by decide) (fun _ => ?_) (fun _ => ?_)
      · refine x_aload_n_ref d_Ends_keep_19 rfl ?_
        refine x_iconst (v := 0) d_Ends_keep_20 (by decide) ?_
        refine x_aload_n_ref d_Ends_keep_21 rfl ?_
        refine x_getr d_Ends_keep_22 fl_Ends_9 ak_60 (q99 (by decide)) (shx sh_60_1) ?_
        refine x_iload_n d_Ends_keep_25 rfl ?_
        refine x_bipush (v := 16) d_Ends_keep_26 (by decide) ?_
        refine x_imul d_Ends_keep_28 ?_
        refine x_bipush (v := 16) d_Ends_keep_29 (by decide) ?_
        refine x_copy d_Ends_keep_31 (List.mem_append_right _ (List.mem_append_right _ (List.mem_append_right _ (List.mem_append_right _ (List.mem_append_left _ (List.mem_of_getElem? (i := 129) (by decide +kernel))))))) w_cp2 w_cp3 w_cp4 ak_50 ak_61 (q99 (by decide)) (q99 (by decide)) (Nat.le_of_ble_eq_true rfl) (by decide) (by decide) ?_
        refine x_nmS (fun S1 _ => ?_)
        refine x_aload_n_ref d_Ends_keep_34 rfl ?_
        refine x_getr d_Ends_keep_35 fl_Ends_15 ak_60 (q99 (by decide)) (shx sh_60_2) ?_
        refine x_iload_n d_Ends_keep_38 rfl ?_
        refine x_aload_n_ref d_Ends_keep_39 rfl ?_
        refine x_getr d_Ends_keep_40 fl_Ends_18 ak_60 (q99 (by decide)) (shx sh_60_0) ?_
        refine x_geti d_Ends_keep_43 fl_Ends_28 ak_16 (q99 (by decide)) ?_
        refine x_iast d_Ends_keep_46 ak_62 (q99 (by decide)) ?_
        refine x_nmS (fun S2 _ => ?_)
        exact x_vret d_Ends_keep_47 rfl (Nat.le_of_ble_eq_true rfl) (Nat.le_of_ble_eq_true rfl)
      · exact x_vret d_Ends_keep_18 rfl (Nat.le_of_ble_eq_true rfl) (Nat.le_of_ble_eq_true rfl)
theorem c_Ends_keep_50 {G : GX} (p1 : Int32) (S : AS) : CN G y_Ends_keep b_Ends_keep 3 none ({ frames := 1, cells := 0, slots := 0, locals := 60 } : Room) (some none) iV [.ref 60, .int p1, .ref 50] S (f_Ends_keep_50 p1 S) := cn_of_v (M := md_Ends_keep) (ini := false) rfl (by decide +kernel) (fun h => nomatch h) rfl (Nat.le_of_ble_eq_true rfl) (v_Ends_keep_50 p1 S)
noncomputable def f_Chan_since_L20 (J91 : AS → Option (Int32 × AS)) (x1 : Int32) (x2 : Int32) : Nat → Int32 → AS → Option (Int32 × AS)
  | 0, _, _ => none
  | n + 1, c3, S => if c3 < 0 then (J91 S) else (bI (f_Ends_knows c3 S) fun r7 S6 => nm (fun (S8 : AS) => bI (f_Ends_holderOf x1 c3 S8) fun r10 S9 => bI (f_Ends_holderOf x1 x2 S9) fun r12 S11 => if r10 = r12 then (f_Chan_since_L20 J91 x1 x2 n (c3 + (-1)) S11) else (some (c3 + 1, S11))) fun J60 => if r7 = 0 then (bV (f_Course_tell c3 9999999 S6) fun S13 => bV (f_Ends_keep_50 c3 S13) fun S14 => J60 S14) else (J60 S6))
noncomputable def f_Chan_since (p1 : Int32) (S : AS) : Option (Int32 × AS) := bI (f_Roll_isPost p1 S) fun r2 S1 => if r2 = 0 then (some ((-1), S1)) else (bI (f_Chan_knownNow S1) fun r4 S3 => nm (fun (S5 : AS) => some (0, S5)) fun J91 => f_Chan_since_L20 J91 p1 r4 FU r4 S3)
set_option maxHeartbeats 4000000 in
theorem v_Chan_since_L20 {G : GX} (J91 : AS → Option (Int32 × AS)) (x1 : Int32) (x2 : Int32) (kJ91 : ∀ (T : AS), V G md_Chan_since (QM G md_Chan_since iI) (fun _ => True) (some none) 91 [none, none, none, none] [] 0 0 T (J91 T)) : ∀ (n : Nat) (c3 : Int32) (S : AS), V G md_Chan_since (QM G md_Chan_since iI) (fun _ => True) (some none) 20 [some (.ref 0), some (.int x1), some (.int x2), some (.int c3)] [] 0 0 S (f_Chan_since_L20 J91 x1 x2 n c3 S) := by
  intro n
  induction n with
  | zero => intro c3 S; exact V.none
  | succ n ih =>
    intro c3 S
    rw [f_Chan_since_L20]
    refine x_iload_n d_Chan_since_20 rfl ?_
    refine x_if_lt (tgt := 91) d_Chan_since_21 (by decide) (fun _ => ?_) (fun _ => ?_)
    · exact V.kw (kJ91 S) trivial
    · refine x_aload_n_ref d_Chan_since_24 rfl ?_
      refine x_getr d_Chan_since_25 fl_Chan_67 ak_0 (q99 (by decide)) (shx sh_0_7) ?_
      refine x_iload_n d_Chan_since_28 rfl ?_
      refine x_vI (b' := (some none)) (As := [.int c3]) d_Chan_since_29 mv_Chan_224 rfl (fun _ => ak_60) rfl (q99 (by decide)) ⟨Nat.le_of_ble_eq_true rfl, Nat.le_of_ble_eq_true rfl⟩ (Nat.le_of_ble_eq_true rfl) ⟨Nat.le_of_ble_eq_true rfl, Nat.le_of_ble_eq_true rfl⟩ (fun _ h => h) (fun h => ⟨h, c_Ends_knows c3 _⟩) (fun r7 S6 => ?_)
      refine x_nm (fun J60 hJ60 => ?_)
      have kJ60 : ∀ (S8 : AS), V G md_Chan_since (QM G md_Chan_since iI) (fun _ => True) (some none) 60 [some (.ref 0), some (.int x1), some (.int x2), some (.int c3)] [] 0 0 S8 (J60 S8) := by
        subst hJ60
        intro S8
        refine x_aload_n_ref d_Chan_since_60 rfl ?_
        refine x_getr d_Chan_since_61 fl_Chan_67 ak_0 (q99 (by decide)) (shx sh_0_7) ?_
        refine x_iload_n d_Chan_since_64 rfl ?_
        refine x_iload_n d_Chan_since_65 rfl ?_
        refine x_vI (b' := (some none)) (As := [.int x1, .int c3]) d_Chan_since_66 mv_Chan_231 rfl (fun _ => ak_60) rfl (q99 (by decide)) ⟨Nat.le_of_ble_eq_true rfl, Nat.le_of_ble_eq_true rfl⟩ (Nat.le_of_ble_eq_true rfl) ⟨Nat.le_of_ble_eq_true rfl, Nat.le_of_ble_eq_true rfl⟩ (fun _ h => h) (fun h => ⟨h, c_Ends_holderOf x1 c3 _⟩) (fun r10 S9 => ?_)
        refine x_aload_n_ref d_Chan_since_69 rfl ?_
        refine x_getr d_Chan_since_70 fl_Chan_67 ak_0 (q99 (by decide)) (shx sh_0_7) ?_
        refine x_iload_n d_Chan_since_73 rfl ?_
        refine x_iload_n d_Chan_since_74 rfl ?_
        refine x_vI (b' := (some none)) (As := [.int x1, .int x2]) d_Chan_since_75 mv_Chan_231 rfl (fun _ => ak_60) rfl (q99 (by decide)) ⟨Nat.le_of_ble_eq_true rfl, Nat.le_of_ble_eq_true rfl⟩ (Nat.le_of_ble_eq_true rfl) ⟨Nat.le_of_ble_eq_true rfl, Nat.le_of_ble_eq_true rfl⟩ (fun _ h => h) (fun h => ⟨h, c_Ends_holderOf x1 x2 _⟩) (fun r12 S11 => ?_)
        refine x_icmp_eq (tgt := 85) d_Chan_since_78 (by decide) (fun _ => ?_) (fun _ => ?_)
        · refine x_iinc (w := c3 + (-1)) (lc' := [some (.ref 0), some (.int x1), some (.int x2), some (.int (c3 + (-1)))]) d_Chan_since_85 (by decide) rfl rfl rfl ?_
          refine x_goto (tgt := 20) d_Chan_since_88 (by decide) ?_
          exact V.kw (ih (c3 + (-1)) S11) ⟨rfl, rfl, rfl, rfl, trivial⟩
        · refine x_iload_n d_Chan_since_81 rfl ?_
          refine x_iconst (v := 1) d_Chan_since_82 (by decide) ?_
          refine x_iadd d_Chan_since_83 ?_
          exact x_ret d_Chan_since_84 rfl rfl (Nat.le_of_ble_eq_true rfl) (Nat.le_of_ble_eq_true rfl)
      clear hJ60
      refine x_if_ne (tgt := 60) d_Chan_since_32 (by decide) (fun _ => ?_) (fun _ => ?_)
      · exact V.kw (kJ60 S6) ⟨rfl, rfl, rfl, rfl, trivial⟩
      · refine x_aload_n_ref d_Chan_since_35 rfl ?_
        refine x_getr d_Chan_since_36 fl_Chan_58 ak_0 (q99 (by decide)) (shx sh_0_6) ?_
        refine x_iload_n d_Chan_since_39 rfl ?_
        refine x_ldc (v := 9999999) (List.mem_append_right _ (List.mem_append_right _ (List.mem_append_right _ (List.mem_append_left _ (List.mem_of_getElem? (i := 147) (by decide +kernel)))))) d_Chan_since_40 ?_
        refine x_vV (b' := (some none)) (As := [.int c3, .int 9999999]) d_Chan_since_42 mv_Chan_176 rfl (fun _ => ak_49) rfl (q99 (by decide)) ⟨Nat.le_of_ble_eq_true rfl, Nat.le_of_ble_eq_true rfl⟩ (Nat.le_of_ble_eq_true rfl) ⟨Nat.le_of_ble_eq_true rfl, Nat.le_of_ble_eq_true rfl⟩ (fun _ h => h) (fun h => ⟨h, c_Course_tell c3 9999999 _⟩) (fun S13 => ?_)
        refine x_aload_n_ref d_Chan_since_45 rfl ?_
        refine x_getr d_Chan_since_46 fl_Chan_67 ak_0 (q99 (by decide)) (shx sh_0_7) ?_
        refine x_iload_n d_Chan_since_49 rfl ?_
        refine x_aload_n_ref d_Chan_since_50 rfl ?_
        refine x_getr d_Chan_since_51 fl_Chan_58 ak_0 (q99 (by decide)) (shx sh_0_6) ?_
        refine x_getr d_Chan_since_54 fl_Chan_179 ak_49 (q99 (by decide)) (shx sh_49_4) ?_
        refine x_vV (b' := (some none)) (As := [.int c3, .ref 50]) d_Chan_since_57 mv_Chan_227 rfl (fun _ => ak_60) rfl (q99 (by decide)) ⟨Nat.le_of_ble_eq_true rfl, Nat.le_of_ble_eq_true rfl⟩ (Nat.le_of_ble_eq_true rfl) ⟨Nat.le_of_ble_eq_true rfl, Nat.le_of_ble_eq_true rfl⟩ (fun _ h => h) (fun h => ⟨h, c_Ends_keep_50 c3 _⟩) (fun S14 => ?_)
        exact V.kw (kJ60 S14) ⟨rfl, rfl, rfl, rfl, trivial⟩
set_option maxHeartbeats 4000000 in
theorem v_Chan_since {G : GX} (p1 : Int32) (S : AS) : V G md_Chan_since (QM G md_Chan_since iI) (fun _ => True) (some none) 0 [some (.ref 0), some (.int p1), none, none] [] 0 0 S (f_Chan_since p1 S) := by
  unfold f_Chan_since
  refine x_aload_n_ref d_Chan_since_0 rfl ?_
  refine x_getr d_Chan_since_1 fl_Chan_28 ak_0 (q99 (by decide)) (shx sh_0_2) ?_
  refine x_iload_n d_Chan_since_4 rfl ?_
  refine x_vI (b' := (some none)) (As := [.int p1]) d_Chan_since_5 mv_Chan_113 rfl (fun _ => ak_16) rfl (q99 (by decide)) ⟨Nat.le_of_ble_eq_true rfl, Nat.le_of_ble_eq_true rfl⟩ (Nat.le_of_ble_eq_true rfl) ⟨Nat.le_of_ble_eq_true rfl, Nat.le_of_ble_eq_true rfl⟩ (fun _ h => h) (fun h => ⟨h, c_Roll_isPost p1 _⟩) (fun r2 S1 => ?_)
  refine x_if_ne (tgt := 13) d_Chan_since_8 (by decide) (fun _ => ?_) (fun _ => ?_)
  · refine x_aload_n_ref d_Chan_since_13 rfl ?_
    refine x_vI (b' := (some none)) (As := []) d_Chan_since_14 mv_Chan_172 rfl (fun _ => ak_0) rfl (q99 (by decide)) ⟨Nat.le_of_ble_eq_true rfl, Nat.le_of_ble_eq_true rfl⟩ (Nat.le_of_ble_eq_true rfl) ⟨Nat.le_of_ble_eq_true rfl, Nat.le_of_ble_eq_true rfl⟩ (fun _ h => h) (fun h => ⟨h, c_Chan_knownNow _⟩) (fun r4 S3 => ?_)
    refine x_istore_n (lc' := [some (.ref 0), some (.int p1), some (.int r4), none]) d_Chan_since_17 (by decide) rfl ?_
    refine x_iload_n d_Chan_since_18 rfl ?_
    refine x_istore_n (lc' := [some (.ref 0), some (.int p1), some (.int r4), some (.int r4)]) d_Chan_since_19 (by decide) rfl ?_
    refine x_nm (fun J91 hJ91 => ?_)
    have kJ91 : ∀ (S5 : AS), V G md_Chan_since (QM G md_Chan_since iI) (fun _ => True) (some none) 91 [none, none, none, none] [] 0 0 S5 (J91 S5) := by
      subst hJ91
      intro S5
      refine x_iconst (v := 0) d_Chan_since_91 (by decide) ?_
      exact x_ret d_Chan_since_92 rfl rfl (Nat.le_of_ble_eq_true rfl) (Nat.le_of_ble_eq_true rfl)
    clear hJ91
    exact V.kw (v_Chan_since_L20 J91 p1 r4 kJ91 FU r4 S3) ⟨rfl, rfl, rfl, rfl, trivial⟩
  · refine x_iconst (v := -1) d_Chan_since_11 (by decide) ?_
    exact x_ret d_Chan_since_12 rfl rfl (Nat.le_of_ble_eq_true rfl) (Nat.le_of_ble_eq_true rfl)
theorem c_Chan_since {G : GX} (p1 : Int32) (S : AS) : CN G y_Chan_since b_Chan_since 4 (some (FieldType.int)) ({ frames := 7, cells := 0, slots := 0, locals := 167 } : Room) (some none) iI [.ref 0, .int p1] S (f_Chan_since p1 S) := cn_of_v (M := md_Chan_since) (ini := false) rfl (by decide +kernel) (fun h => nomatch h) rfl (Nat.le_of_ble_eq_true rfl) (v_Chan_since p1 S)
noncomputable def f_Course_freePosts_L4 (J34 : Int32 → AS → Option (Int32 × AS)) : Nat → Int32 → Int32 → AS → Option (Int32 × AS)
  | 0, _, _, _ => none
  | n + 1, c1, c2, S => if (gi S 16 7) ≤ c2 then (J34 c1 S) else (chk (vp_in c2 16) (nm (fun (a3 : Int32) (S4 : AS) => f_Course_freePosts_L4 J34 n a3 (c2 + 1) S4) fun J28 => if (gi S 50 (ix c2)) = (-1) then (J28 (c1 + 1) S) else (J28 c1 S)))
noncomputable def f_Course_freePosts (S : AS) : Option (Int32 × AS) := nm (fun (a1 : Int32) (S2 : AS) => some (a1, S2)) fun J34 => f_Course_freePosts_L4 J34 FU 0 0 S
set_option maxHeartbeats 4000000 in
theorem v_Course_freePosts_L4 {G : GX} (J34 : Int32 → AS → Option (Int32 × AS)) (kJ34 : ∀ (a1 : Int32) (T : AS), V G md_Course_freePosts (QM G md_Course_freePosts iI) (fun _ => True) (some none) 34 [none, some (.int a1), none] [] 0 0 T (J34 a1 T)) : ∀ (n : Nat) (c1 : Int32) (c2 : Int32) (S : AS), V G md_Course_freePosts (QM G md_Course_freePosts iI) (fun _ => True) (some none) 4 [some (.ref 49), some (.int c1), some (.int c2)] [] 0 0 S (f_Course_freePosts_L4 J34 n c1 c2 S) := by
  intro n
  induction n with
  | zero => intro c1 c2 S; exact V.none
  | succ n ih =>
    intro c1 c2 S
    rw [f_Course_freePosts_L4]
    refine x_iload_n d_Course_freePosts_4 rfl ?_
    refine x_aload_n_ref d_Course_freePosts_5 rfl ?_
    refine x_getr d_Course_freePosts_6 fl_Course_44 ak_49 (q99 (by decide)) (shx sh_49_0) ?_
    refine x_geti d_Course_freePosts_9 fl_Course_115 ak_16 (q99 (by decide)) ?_
    refine x_icmp_ge (tgt := 34) d_Course_freePosts_12 (by decide) (fun _ => ?_) (fun _ => ?_)
    · exact V.kw (kJ34 c1 S) ⟨rfl, trivial⟩
    · refine x_aload_n_ref d_Course_freePosts_15 rfl ?_
      refine x_getr d_Course_freePosts_16 fl_Course_9 ak_49 (q99 (by decide)) (shx sh_49_4) ?_
      refine x_iload_n d_Course_freePosts_19 rfl ?_
      refine x_iald d_Course_freePosts_20 ak_50 (q99 (by decide)) ?_
      refine x_iconst (v := -1) d_Course_freePosts_21 (by decide) ?_
      refine x_nm (fun J28 hJ28 => ?_)
      have kJ28 : ∀ (a3 : Int32) (S4 : AS), V G md_Course_freePosts (QM G md_Course_freePosts iI) (fun _ => True) (some none) 28 [some (.ref 49), some (.int a3), some (.int c2)] [] 0 0 S4 (J28 a3 S4) := by
        subst hJ28
        intro a3 S4
        refine x_iinc (w := c2 + 1) (lc' := [some (.ref 49), some (.int a3), some (.int (c2 + 1))]) d_Course_freePosts_28 (by decide) rfl rfl rfl ?_
        refine x_goto (tgt := 4) d_Course_freePosts_31 (by decide) ?_
        exact V.kw (ih a3 (c2 + 1) S4) ⟨rfl, rfl, rfl, trivial⟩
      clear hJ28
      refine x_icmp_ne (tgt := 28) d_Course_freePosts_22 (by decide) (fun _ => ?_) (fun _ => ?_)
      · exact V.kw (kJ28 c1 S) ⟨rfl, rfl, rfl, trivial⟩
      · refine x_iinc (w := c1 + 1) (lc' := [some (.ref 49), some (.int (c1 + 1)), some (.int c2)]) d_Course_freePosts_25 (by decide) rfl rfl rfl ?_
        exact V.kw (kJ28 (c1 + 1) S) ⟨rfl, rfl, rfl, trivial⟩
set_option maxHeartbeats 4000000 in
theorem v_Course_freePosts {G : GX} (S : AS) : V G md_Course_freePosts (QM G md_Course_freePosts iI) (fun _ => True) (some none) 0 [some (.ref 49), none, none] [] 0 0 S (f_Course_freePosts S) := by
  unfold f_Course_freePosts
  refine x_iconst (v := 0) d_Course_freePosts_0 (by decide) ?_
  refine x_istore_n (lc' := [some (.ref 49), some (.int 0), none]) d_Course_freePosts_1 (by decide) rfl ?_
  refine x_iconst (v := 0) d_Course_freePosts_2 (by decide) ?_
  refine x_istore_n (lc' := [some (.ref 49), some (.int 0), some (.int 0)]) d_Course_freePosts_3 (by decide) rfl ?_
  refine x_nm (fun J34 hJ34 => ?_)
  have kJ34 : ∀ (a1 : Int32) (S2 : AS), V G md_Course_freePosts (QM G md_Course_freePosts iI) (fun _ => True) (some none) 34 [none, some (.int a1), none] [] 0 0 S2 (J34 a1 S2) := by
    subst hJ34
    intro a1 S2
    refine x_iload_n d_Course_freePosts_34 rfl ?_
    exact x_ret d_Course_freePosts_35 rfl rfl (Nat.le_of_ble_eq_true rfl) (Nat.le_of_ble_eq_true rfl)
  clear hJ34
  exact V.kw (v_Course_freePosts_L4 J34 kJ34 FU 0 0 S) ⟨rfl, rfl, rfl, trivial⟩
theorem c_Course_freePosts {G : GX} (S : AS) : CN G y_Course_freePosts b_Course_freePosts 3 (some (FieldType.int)) ({ frames := 0, cells := 0, slots := 0, locals := 0 } : Room) (some none) iI [.ref 49] S (f_Course_freePosts S) := cn_of_v (M := md_Course_freePosts) (ini := false) rfl (by decide +kernel) (fun h => nomatch h) rfl (Nat.le_of_ble_eq_true rfl) (v_Course_freePosts S)
noncomputable def f_Chan_all (p1 : Int32) (S : AS) : Option (Int32 × AS) := if p1 = 0 then (some (gi S 16 3, S)) else (if p1 = 1 then (some (gi S 16 7, S)) else (if p1 = 2 then (some (gi S 23 8, S)) else (if p1 = 3 then (some (gi S 32 4, S)) else (if p1 = 4 then (some (gi S 38 3, S)) else (if p1 = 5 then (bI (f_Chan_knownNow S) fun r2 S1 => bV (f_Course_tell r2 9999999 S1) fun S3 => bI (f_Course_freePosts S3) fun r5 S4 => some (r5, S4)) else (if p1 = 6 then (bI (f_Chan_knownNow S) fun r7 S6 => some (r7, S6)) else (some ((-1), S))))))))
set_option maxHeartbeats 4000000 in
theorem v_Chan_all {G : GX} (p1 : Int32) (S : AS) : V G md_Chan_all (QM G md_Chan_all iI) (fun _ => True) (some none) 0 [some (.ref 0), some (.int p1)] [] 0 0 S (f_Chan_all p1 S) := by
  unfold f_Chan_all
  refine x_iload_n d_Chan_all_0 rfl ?_
  refine x_ite (fun hs14 => ?_) (fun hs14 => ?_)
  · refine x_tsw_in (c := 0) (tgt := 44) d_Chan_all_1 hs14 (by decide) (by decide) rfl (by decide) ?_
    refine x_aload_n_ref d_Chan_all_44 rfl ?_
    refine x_getr d_Chan_all_45 fl_Chan_28 ak_0 (q99 (by decide)) (shx sh_0_2) ?_
    refine x_geti d_Chan_all_48 fl_Chan_234 ak_16 (q99 (by decide)) ?_
    exact x_ret d_Chan_all_51 rfl rfl (Nat.le_of_ble_eq_true rfl) (Nat.le_of_ble_eq_true rfl)
  · refine x_ite (fun hs13 => ?_) (fun hs13 => ?_)
    · refine x_tsw_in (c := 1) (tgt := 52) d_Chan_all_1 hs13 (by decide) (by decide) rfl (by decide) ?_
      refine x_aload_n_ref d_Chan_all_52 rfl ?_
      refine x_getr d_Chan_all_53 fl_Chan_28 ak_0 (q99 (by decide)) (shx sh_0_2) ?_
      refine x_geti d_Chan_all_56 fl_Chan_237 ak_16 (q99 (by decide)) ?_
      exact x_ret d_Chan_all_59 rfl rfl (Nat.le_of_ble_eq_true rfl) (Nat.le_of_ble_eq_true rfl)
    · refine x_ite (fun hs12 => ?_) (fun hs12 => ?_)
      · refine x_tsw_in (c := 2) (tgt := 60) d_Chan_all_1 hs12 (by decide) (by decide) rfl (by decide) ?_
        refine x_aload_n_ref d_Chan_all_60 rfl ?_
        refine x_getr d_Chan_all_61 fl_Chan_35 ak_0 (q99 (by decide)) (shx sh_0_3) ?_
        refine x_geti d_Chan_all_64 fl_Chan_159 ak_23 (q99 (by decide)) ?_
        exact x_ret d_Chan_all_67 rfl rfl (Nat.le_of_ble_eq_true rfl) (Nat.le_of_ble_eq_true rfl)
      · refine x_ite (fun hs11 => ?_) (fun hs11 => ?_)
        · refine x_tsw_in (c := 3) (tgt := 68) d_Chan_all_1 hs11 (by decide) (by decide) rfl (by decide) ?_
          refine x_aload_n_ref d_Chan_all_68 rfl ?_
          refine x_getr d_Chan_all_69 fl_Chan_42 ak_0 (q99 (by decide)) (shx sh_0_4) ?_
          refine x_geti d_Chan_all_72 fl_Chan_119 ak_32 (q99 (by decide)) ?_
          exact x_ret d_Chan_all_75 rfl rfl (Nat.le_of_ble_eq_true rfl) (Nat.le_of_ble_eq_true rfl)
        · refine x_ite (fun hs10 => ?_) (fun hs10 => ?_)
          · refine x_tsw_in (c := 4) (tgt := 76) d_Chan_all_1 hs10 (by decide) (by decide) rfl (by decide) ?_
            refine x_aload_n_ref d_Chan_all_76 rfl ?_
            refine x_getr d_Chan_all_77 fl_Chan_49 ak_0 (q99 (by decide)) (shx sh_0_5) ?_
            refine x_geti d_Chan_all_80 fl_Chan_132 ak_38 (q99 (by decide)) ?_
            exact x_ret d_Chan_all_83 rfl rfl (Nat.le_of_ble_eq_true rfl) (Nat.le_of_ble_eq_true rfl)
          · refine x_ite (fun hs9 => ?_) (fun hs9 => ?_)
            · refine x_tsw_in (c := 5) (tgt := 84) d_Chan_all_1 hs9 (by decide) (by decide) rfl (by decide) ?_
              refine x_aload_n_ref d_Chan_all_84 rfl ?_
              refine x_getr d_Chan_all_85 fl_Chan_58 ak_0 (q99 (by decide)) (shx sh_0_6) ?_
              refine x_aload_n_ref d_Chan_all_88 rfl ?_
              refine x_vI (b' := (some none)) (As := []) d_Chan_all_89 mv_Chan_172 rfl (fun _ => ak_0) rfl (q99 (by decide)) ⟨Nat.le_of_ble_eq_true rfl, Nat.le_of_ble_eq_true rfl⟩ (Nat.le_of_ble_eq_true rfl) ⟨Nat.le_of_ble_eq_true rfl, Nat.le_of_ble_eq_true rfl⟩ (fun _ h => h) (fun h => ⟨h, c_Chan_knownNow _⟩) (fun r2 S1 => ?_)
              refine x_ldc (v := 9999999) (List.mem_append_right _ (List.mem_append_right _ (List.mem_append_right _ (List.mem_append_left _ (List.mem_of_getElem? (i := 147) (by decide +kernel)))))) d_Chan_all_92 ?_
              refine x_vV (b' := (some none)) (As := [.int r2, .int 9999999]) d_Chan_all_94 mv_Chan_176 rfl (fun _ => ak_49) rfl (q99 (by decide)) ⟨Nat.le_of_ble_eq_true rfl, Nat.le_of_ble_eq_true rfl⟩ (Nat.le_of_ble_eq_true rfl) ⟨Nat.le_of_ble_eq_true rfl, Nat.le_of_ble_eq_true rfl⟩ (fun _ h => h) (fun h => ⟨h, c_Course_tell r2 9999999 _⟩) (fun S3 => ?_)
              refine x_aload_n_ref d_Chan_all_97 rfl ?_
              refine x_getr d_Chan_all_98 fl_Chan_58 ak_0 (q99 (by decide)) (shx sh_0_6) ?_
              refine x_vI (b' := (some none)) (As := []) d_Chan_all_101 mv_Chan_240 rfl (fun _ => ak_49) rfl (q99 (by decide)) ⟨Nat.le_of_ble_eq_true rfl, Nat.le_of_ble_eq_true rfl⟩ (Nat.le_of_ble_eq_true rfl) ⟨Nat.le_of_ble_eq_true rfl, Nat.le_of_ble_eq_true rfl⟩ (fun _ h => h) (fun h => ⟨h, c_Course_freePosts _⟩) (fun r5 S4 => ?_)
              exact x_ret d_Chan_all_104 rfl rfl (Nat.le_of_ble_eq_true rfl) (Nat.le_of_ble_eq_true rfl)
            · refine x_ite (fun hs8 => ?_) (fun hs8 => ?_)
              · refine x_tsw_in (c := 6) (tgt := 105) d_Chan_all_1 hs8 (by decide) (by decide) rfl (by decide) ?_
                refine x_aload_n_ref d_Chan_all_105 rfl ?_
                refine x_vI (b' := (some none)) (As := []) d_Chan_all_106 mv_Chan_172 rfl (fun _ => ak_0) rfl (q99 (by decide)) ⟨Nat.le_of_ble_eq_true rfl, Nat.le_of_ble_eq_true rfl⟩ (Nat.le_of_ble_eq_true rfl) ⟨Nat.le_of_ble_eq_true rfl, Nat.le_of_ble_eq_true rfl⟩ (fun _ h => h) (fun h => ⟨h, c_Chan_knownNow _⟩) (fun r7 S6 => ?_)
                exact x_ret d_Chan_all_109 rfl rfl (Nat.le_of_ble_eq_true rfl) (Nat.le_of_ble_eq_true rfl)
              · refine x_tsw_out (n := 7) (tgt := 110) d_Chan_all_1 (by decide) (fun j hj => by rcases (by omega : j = 0 ∨ j = 1 ∨ j = 2 ∨ j = 3 ∨ j = 4 ∨ j = 5 ∨ j = 6) with rfl | rfl | rfl | rfl | rfl | rfl | rfl <;> assumption) (by decide) ?_
                refine x_iconst (v := -1) d_Chan_all_110 (by decide) ?_
                exact x_ret d_Chan_all_111 rfl rfl (Nat.le_of_ble_eq_true rfl) (Nat.le_of_ble_eq_true rfl)
theorem c_Chan_all {G : GX} (p1 : Int32) (S : AS) : CN G y_Chan_all b_Chan_all 2 (some (FieldType.int)) ({ frames := 7, cells := 0, slots := 0, locals := 167 } : Room) (some none) iI [.ref 0, .int p1] S (f_Chan_all p1 S) := cn_of_v (M := md_Chan_all) (ini := false) rfl (by decide +kernel) (fun h => nomatch h) rfl (Nat.le_of_ble_eq_true rfl) (v_Chan_all p1 S)
noncomputable def f_Exchange_addWish_L10 (J39 : AS → Option (Int32 × AS)) (x1 : Int32) (x2 : Int32) (x3 : Int32) : Nat → Int32 → AS → Option (Int32 × AS)
  | 0, _, _ => none
  | n + 1, c4, S => if x3 ≤ c4 then (J39 S) else (chk (vp_in ((x1 * 3) + c4) 72) (if (gi S 64 (ix ((x1 * 3) + c4))) = x2 then (some ((-1), S)) else (f_Exchange_addWish_L10 J39 x1 x2 x3 n (c4 + 1) S)))
noncomputable def f_Exchange_addWish (p1 : Int32) (p2 : Int32) (S : AS) : Option (Int32 × AS) := chk (vp_in p1 24) (nm (gi S 65 (ix p1)) fun v1 => nm (fun (S2 : AS) => if v1 < 3 then (chk (vp_in ((p1 * 3) + v1) 72) (nm (si S2 64 (ix ((p1 * 3) + v1)) p2) fun S3 => chk (vp_in p1 24) (nm (si S3 65 (ix p1) (v1 + 1)) fun S4 => some (v1 + 1, S4)))) else (some ((-1), S2))) fun J39 => f_Exchange_addWish_L10 J39 p1 p2 v1 FU 0 S)
set_option maxHeartbeats 4000000 in
theorem v_Exchange_addWish_L10 {G : GX} (J39 : AS → Option (Int32 × AS)) (x1 : Int32) (x2 : Int32) (x3 : Int32) (kJ39 : ∀ (T : AS), V G md_Exchange_addWish (QM G md_Exchange_addWish iI) (fun _ => True) (some none) 39 [some (.ref 63), some (.int x1), some (.int x2), some (.int x3), none] [] 0 0 T (J39 T)) : ∀ (n : Nat) (c4 : Int32) (S : AS), V G md_Exchange_addWish (QM G md_Exchange_addWish iI) (fun _ => True) (some none) 10 [some (.ref 63), some (.int x1), some (.int x2), some (.int x3), some (.int c4)] [] 0 0 S (f_Exchange_addWish_L10 J39 x1 x2 x3 n c4 S) := by
  intro n
  induction n with
  | zero => intro c4 S; exact V.none
  | succ n ih =>
    intro c4 S
    rw [f_Exchange_addWish_L10]
    refine x_iload d_Exchange_addWish_10 rfl ?_
    refine x_iload_n d_Exchange_addWish_12 rfl ?_
    refine x_icmp_ge (tgt := 39) d_Exchange_addWish_13 (by decide) (fun _ => ?_) (fun _ => ?_)
    · exact V.kw (kJ39 S) ⟨rfl, rfl, rfl, rfl, trivial⟩
    · refine x_aload_n_ref d_Exchange_addWish_16 rfl ?_
      refine x_getr d_Exchange_addWish_17 fl_Exchange_9 ak_63 (q99 (by decide)) (shx sh_63_0) ?_
      refine x_iload_n d_Exchange_addWish_20 rfl ?_
      refine x_iconst (v := 3) d_Exchange_addWish_21 (by decide) ?_
      refine x_imul d_Exchange_addWish_22 ?_
      refine x_iload d_Exchange_addWish_23 rfl ?_
      refine x_iadd d_Exchange_addWish_25 ?_
      refine x_iald d_Exchange_addWish_26 ak_64 (q99 (by decide)) ?_
      refine x_iload_n d_Exchange_addWish_27 rfl ?_
      refine x_icmp_ne (tgt := 33) d_Exchange_addWish_28 (by decide) (fun _ => ?_) (fun _ => ?_)
      · refine x_iinc (w := c4 + 1) (lc' := [some (.ref 63), some (.int x1), some (.int x2), some (.int x3), some (.int (c4 + 1))]) d_Exchange_addWish_33 (by decide) rfl rfl rfl ?_
        refine x_goto (tgt := 10) d_Exchange_addWish_36 (by decide) ?_
        exact V.kw (ih (c4 + 1) S) ⟨rfl, rfl, rfl, rfl, rfl, trivial⟩
      · refine x_iconst (v := -1) d_Exchange_addWish_31 (by decide) ?_
        exact x_ret d_Exchange_addWish_32 rfl rfl (Nat.le_of_ble_eq_true rfl) (Nat.le_of_ble_eq_true rfl)
set_option maxHeartbeats 4000000 in
theorem v_Exchange_addWish {G : GX} (p1 : Int32) (p2 : Int32) (S : AS) : V G md_Exchange_addWish (QM G md_Exchange_addWish iI) (fun _ => True) (some none) 0 [some (.ref 63), some (.int p1), some (.int p2), none, none] [] 0 0 S (f_Exchange_addWish p1 p2 S) := by
  unfold f_Exchange_addWish
  refine x_aload_n_ref d_Exchange_addWish_0 rfl ?_
  refine x_getr d_Exchange_addWish_1 fl_Exchange_15 ak_63 (q99 (by decide)) (shx sh_63_1) ?_
  refine x_iload_n d_Exchange_addWish_4 rfl ?_
  refine x_iald d_Exchange_addWish_5 ak_65 (q99 (by decide)) ?_
  refine x_topi (fun v1 => ?_)
  refine x_istore_n (lc' := [some (.ref 63), some (.int p1), some (.int p2), some (.int v1), none]) d_Exchange_addWish_6 (by decide) rfl ?_
  refine x_iconst (v := 0) d_Exchange_addWish_7 (by decide) ?_
  refine x_istore (lc' := [some (.ref 63), some (.int p1), some (.int p2), some (.int v1), some (.int 0)]) d_Exchange_addWish_8 (by decide) rfl ?_
  refine x_nm (fun J39 hJ39 => ?_)
  have kJ39 : ∀ (S2 : AS), V G md_Exchange_addWish (QM G md_Exchange_addWish iI) (fun _ => True) (some none) 39 [some (.ref 63), some (.int p1), some (.int p2), some (.int v1), none] [] 0 0 S2 (J39 S2) := by
    subst hJ39
    intro S2
    refine x_iload_n d_Exchange_addWish_39 rfl ?_
    refine x_iconst (v := 3) d_Exchange_addWish_40 (by decide) ?_
    refine x_icmp_lt (tgt := 46) d_Exchange_addWish_41 (by decide) (fun _ => ?_) (fun _ => ?_)
    · refine x_aload_n_ref d_Exchange_addWish_46 rfl ?_
      refine x_getr d_Exchange_addWish_47 fl_Exchange_9 ak_63 (q99 (by decide)) (shx sh_63_0) ?_
      refine x_iload_n d_Exchange_addWish_50 rfl ?_
      refine x_iconst (v := 3) d_Exchange_addWish_51 (by decide) ?_
      refine x_imul d_Exchange_addWish_52 ?_
      refine x_iload_n d_Exchange_addWish_53 rfl ?_
      refine x_iadd d_Exchange_addWish_54 ?_
      refine x_iload_n d_Exchange_addWish_55 rfl ?_
      refine x_iast d_Exchange_addWish_56 ak_64 (q99 (by decide)) ?_
      refine x_nmS (fun S3 _ => ?_)
      refine x_aload_n_ref d_Exchange_addWish_57 rfl ?_
      refine x_getr d_Exchange_addWish_58 fl_Exchange_15 ak_63 (q99 (by decide)) (shx sh_63_1) ?_
      refine x_iload_n d_Exchange_addWish_61 rfl ?_
      refine x_iload_n d_Exchange_addWish_62 rfl ?_
      refine x_iconst (v := 1) d_Exchange_addWish_63 (by decide) ?_
      refine x_iadd d_Exchange_addWish_64 ?_
      refine x_iast d_Exchange_addWish_65 ak_65 (q99 (by decide)) ?_
      refine x_nmS (fun S4 _ => ?_)
      refine x_iload_n d_Exchange_addWish_66 rfl ?_
      refine x_iconst (v := 1) d_Exchange_addWish_67 (by decide) ?_
      refine x_iadd d_Exchange_addWish_68 ?_
      exact x_ret d_Exchange_addWish_69 rfl rfl (Nat.le_of_ble_eq_true rfl) (Nat.le_of_ble_eq_true rfl)
    · refine x_iconst (v := -1) d_Exchange_addWish_44 (by decide) ?_
      exact x_ret d_Exchange_addWish_45 rfl rfl (Nat.le_of_ble_eq_true rfl) (Nat.le_of_ble_eq_true rfl)
  clear hJ39
  exact V.kw (v_Exchange_addWish_L10 J39 p1 p2 v1 kJ39 FU 0 S) ⟨rfl, rfl, rfl, rfl, rfl, trivial⟩
theorem c_Exchange_addWish {G : GX} (p1 : Int32) (p2 : Int32) (S : AS) : CN G y_Exchange_addWish b_Exchange_addWish 5 (some (FieldType.int)) ({ frames := 0, cells := 0, slots := 0, locals := 0 } : Room) (some none) iI [.ref 63, .int p1, .int p2] S (f_Exchange_addWish p1 p2 S) := cn_of_v (M := md_Exchange_addWish) (ini := false) rfl (by decide +kernel) (fun h => nomatch h) rfl (Nat.le_of_ble_eq_true rfl) (v_Exchange_addWish p1 p2 S)
noncomputable def f_Chan_wish (p1 : Int32) (p2 : Int32) (S : AS) : Option (Int32 × AS) := bI (f_Roll_isPerson p1 S) fun r2 S1 => if r2 = 0 then (some ((-1), S1)) else (bI (f_Roll_isPost p2 S1) fun r4 S3 => if r4 = 0 then (some ((-1), S3)) else (bI (f_Exchange_addWish p1 p2 S3) fun r6 S5 => some (r6, S5)))
set_option maxHeartbeats 4000000 in
theorem v_Chan_wish {G : GX} (p1 : Int32) (p2 : Int32) (S : AS) : V G md_Chan_wish (QM G md_Chan_wish iI) (fun _ => True) (some none) 0 [some (.ref 0), some (.int p1), some (.int p2)] [] 0 0 S (f_Chan_wish p1 p2 S) := by
  unfold f_Chan_wish
  refine x_aload_n_ref d_Chan_wish_0 rfl ?_
  refine x_getr d_Chan_wish_1 fl_Chan_28 ak_0 (q99 (by decide)) (shx sh_0_2) ?_
  refine x_iload_n d_Chan_wish_4 rfl ?_
  refine x_vI (b' := (some none)) (As := [.int p1]) d_Chan_wish_5 mv_Chan_116 rfl (fun _ => ak_16) rfl (q99 (by decide)) ⟨Nat.le_of_ble_eq_true rfl, Nat.le_of_ble_eq_true rfl⟩ (Nat.le_of_ble_eq_true rfl) ⟨Nat.le_of_ble_eq_true rfl, Nat.le_of_ble_eq_true rfl⟩ (fun _ h => h) (fun h => ⟨h, c_Roll_isPerson p1 _⟩) (fun r2 S1 => ?_)
  refine x_if_eq (tgt := 22) d_Chan_wish_8 (by decide) (fun _ => ?_) (fun _ => ?_)
  · refine x_iconst (v := -1) d_Chan_wish_22 (by decide) ?_
    exact x_ret d_Chan_wish_23 rfl rfl (Nat.le_of_ble_eq_true rfl) (Nat.le_of_ble_eq_true rfl)
  · refine x_aload_n_ref d_Chan_wish_11 rfl ?_
    refine x_getr d_Chan_wish_12 fl_Chan_28 ak_0 (q99 (by decide)) (shx sh_0_2) ?_
    refine x_iload_n d_Chan_wish_15 rfl ?_
    refine x_vI (b' := (some none)) (As := [.int p2]) d_Chan_wish_16 mv_Chan_113 rfl (fun _ => ak_16) rfl (q99 (by decide)) ⟨Nat.le_of_ble_eq_true rfl, Nat.le_of_ble_eq_true rfl⟩ (Nat.le_of_ble_eq_true rfl) ⟨Nat.le_of_ble_eq_true rfl, Nat.le_of_ble_eq_true rfl⟩ (fun _ h => h) (fun h => ⟨h, c_Roll_isPost p2 _⟩) (fun r4 S3 => ?_)
    refine x_if_ne (tgt := 24) d_Chan_wish_19 (by decide) (fun _ => ?_) (fun _ => ?_)
    · refine x_aload_n_ref d_Chan_wish_24 rfl ?_
      refine x_getr d_Chan_wish_25 fl_Chan_74 ak_0 (q99 (by decide)) (shx sh_0_8) ?_
      refine x_iload_n d_Chan_wish_28 rfl ?_
      refine x_iload_n d_Chan_wish_29 rfl ?_
      refine x_vI (b' := (some none)) (As := [.int p1, .int p2]) d_Chan_wish_30 mv_Chan_243 rfl (fun _ => ak_63) rfl (q99 (by decide)) ⟨Nat.le_of_ble_eq_true rfl, Nat.le_of_ble_eq_true rfl⟩ (Nat.le_of_ble_eq_true rfl) ⟨Nat.le_of_ble_eq_true rfl, Nat.le_of_ble_eq_true rfl⟩ (fun _ h => h) (fun h => ⟨h, c_Exchange_addWish p1 p2 _⟩) (fun r6 S5 => ?_)
      exact x_ret d_Chan_wish_33 rfl rfl (Nat.le_of_ble_eq_true rfl) (Nat.le_of_ble_eq_true rfl)
    · refine x_iconst (v := -1) d_Chan_wish_22 (by decide) ?_
      exact x_ret d_Chan_wish_23 rfl rfl (Nat.le_of_ble_eq_true rfl) (Nat.le_of_ble_eq_true rfl)
theorem c_Chan_wish {G : GX} (p1 : Int32) (p2 : Int32) (S : AS) : CN G y_Chan_wish b_Chan_wish 3 (some (FieldType.int)) ({ frames := 1, cells := 0, slots := 0, locals := 24 } : Room) (some none) iI [.ref 0, .int p1, .int p2] S (f_Chan_wish p1 p2 S) := cn_of_v (M := md_Chan_wish) (ini := false) rfl (by decide +kernel) (fun h => nomatch h) rfl (Nat.le_of_ble_eq_true rfl) (v_Chan_wish p1 p2 S)
noncomputable def f_Exchange_dropWishes (p1 : Int32) (S : AS) : Option (Int32 × AS) := chk (vp_in p1 24) (nm (gi S 65 (ix p1)) fun v1 => chk (vp_in p1 24) (nm (si S 65 (ix p1) 0) fun S2 => some (v1, S2)))
set_option maxHeartbeats 4000000 in
theorem v_Exchange_dropWishes {G : GX} (p1 : Int32) (S : AS) : V G md_Exchange_dropWishes (QM G md_Exchange_dropWishes iI) (fun _ => True) (some none) 0 [some (.ref 63), some (.int p1), none] [] 0 0 S (f_Exchange_dropWishes p1 S) := by
  unfold f_Exchange_dropWishes
  refine x_aload_n_ref d_Exchange_dropWishes_0 rfl ?_
  refine x_getr d_Exchange_dropWishes_1 fl_Exchange_15 ak_63 (q99 (by decide)) (shx sh_63_1) ?_
  refine x_iload_n d_Exchange_dropWishes_4 rfl ?_
  refine x_iald d_Exchange_dropWishes_5 ak_65 (q99 (by decide)) ?_
  refine x_topi (fun v1 => ?_)
  refine x_istore_n (lc' := [some (.ref 63), some (.int p1), some (.int v1)]) d_Exchange_dropWishes_6 (by decide) rfl ?_
  refine x_aload_n_ref d_Exchange_dropWishes_7 rfl ?_
  refine x_getr d_Exchange_dropWishes_8 fl_Exchange_15 ak_63 (q99 (by decide)) (shx sh_63_1) ?_
  refine x_iload_n d_Exchange_dropWishes_11 rfl ?_
  refine x_iconst (v := 0) d_Exchange_dropWishes_12 (by decide) ?_
  refine x_iast d_Exchange_dropWishes_13 ak_65 (q99 (by decide)) ?_
  refine x_nmS (fun S2 _ => ?_)
  refine x_iload_n d_Exchange_dropWishes_14 rfl ?_
  exact x_ret d_Exchange_dropWishes_15 rfl rfl (Nat.le_of_ble_eq_true rfl) (Nat.le_of_ble_eq_true rfl)
theorem c_Exchange_dropWishes {G : GX} (p1 : Int32) (S : AS) : CN G y_Exchange_dropWishes b_Exchange_dropWishes 3 (some (FieldType.int)) ({ frames := 0, cells := 0, slots := 0, locals := 0 } : Room) (some none) iI [.ref 63, .int p1] S (f_Exchange_dropWishes p1 S) := cn_of_v (M := md_Exchange_dropWishes) (ini := false) rfl (by decide +kernel) (fun h => nomatch h) rfl (Nat.le_of_ble_eq_true rfl) (v_Exchange_dropWishes p1 S)
noncomputable def f_Chan_content (p1 : Int32) (S : AS) : Option (Int32 × AS) := bI (f_Roll_isPerson p1 S) fun r2 S1 => if r2 = 0 then (some ((-1), S1)) else (bI (f_Exchange_dropWishes p1 S1) fun r4 S3 => some (r4, S3))
set_option maxHeartbeats 4000000 in
theorem v_Chan_content {G : GX} (p1 : Int32) (S : AS) : V G md_Chan_content (QM G md_Chan_content iI) (fun _ => True) (some none) 0 [some (.ref 0), some (.int p1)] [] 0 0 S (f_Chan_content p1 S) := by
  unfold f_Chan_content
  refine x_aload_n_ref d_Chan_content_0 rfl ?_
  refine x_getr d_Chan_content_1 fl_Chan_28 ak_0 (q99 (by decide)) (shx sh_0_2) ?_
  refine x_iload_n d_Chan_content_4 rfl ?_
  refine x_vI (b' := (some none)) (As := [.int p1]) d_Chan_content_5 mv_Chan_116 rfl (fun _ => ak_16) rfl (q99 (by decide)) ⟨Nat.le_of_ble_eq_true rfl, Nat.le_of_ble_eq_true rfl⟩ (Nat.le_of_ble_eq_true rfl) ⟨Nat.le_of_ble_eq_true rfl, Nat.le_of_ble_eq_true rfl⟩ (fun _ h => h) (fun h => ⟨h, c_Roll_isPerson p1 _⟩) (fun r2 S1 => ?_)
  refine x_if_eq (tgt := 22) d_Chan_content_8 (by decide) (fun _ => ?_) (fun _ => ?_)
  · refine x_iconst (v := -1) d_Chan_content_22 (by decide) ?_
    exact x_ret d_Chan_content_23 rfl rfl (Nat.le_of_ble_eq_true rfl) (Nat.le_of_ble_eq_true rfl)
  · refine x_aload_n_ref d_Chan_content_11 rfl ?_
    refine x_getr d_Chan_content_12 fl_Chan_74 ak_0 (q99 (by decide)) (shx sh_0_8) ?_
    refine x_iload_n d_Chan_content_15 rfl ?_
    refine x_vI (b' := (some none)) (As := [.int p1]) d_Chan_content_16 mv_Chan_246 rfl (fun _ => ak_63) rfl (q99 (by decide)) ⟨Nat.le_of_ble_eq_true rfl, Nat.le_of_ble_eq_true rfl⟩ (Nat.le_of_ble_eq_true rfl) ⟨Nat.le_of_ble_eq_true rfl, Nat.le_of_ble_eq_true rfl⟩ (fun _ h => h) (fun h => ⟨h, c_Exchange_dropWishes p1 _⟩) (fun r4 S3 => ?_)
    refine x_goto (tgt := 23) d_Chan_content_19 (by decide) ?_
    exact x_ret d_Chan_content_23 rfl rfl (Nat.le_of_ble_eq_true rfl) (Nat.le_of_ble_eq_true rfl)
theorem c_Chan_content {G : GX} (p1 : Int32) (S : AS) : CN G y_Chan_content b_Chan_content 2 (some (FieldType.int)) ({ frames := 1, cells := 0, slots := 0, locals := 22 } : Room) (some none) iI [.ref 0, .int p1] S (f_Chan_content p1 S) := cn_of_v (M := md_Chan_content) (ini := false) rfl (by decide +kernel) (fun h => nomatch h) rfl (Nat.le_of_ble_eq_true rfl) (v_Chan_content p1 S)
noncomputable def f_Arrays_fill_i_68_L5 (J20 : AS → Option AS) (x1 : Int32) (x3 : Int32) : Nat → Int32 → AS → Option AS
  | 0, _, _ => none
  | n + 1, c2, S => if x3 ≤ c2 then (J20 S) else (chk (vp_in c2 24) (nm (si S 68 (ix c2) x1) fun S2 => f_Arrays_fill_i_68_L5 J20 x1 x3 n (c2 + 1) S2))
noncomputable def f_Arrays_fill_i_68 (p1 : Int32) (S : AS) : Option AS := nm (fun (S1 : AS) => some S1) fun J20 => f_Arrays_fill_i_68_L5 J20 p1 24 FU 0 S
set_option maxHeartbeats 4000000 in
theorem v_Arrays_fill_i_68_L5 {G : GX} (J20 : AS → Option AS) (x1 : Int32) (x3 : Int32) (kJ20 : ∀ (T : AS), V G md_Arrays_fill_i (QM G md_Arrays_fill_i iV) (fun _ => True) (some none) 20 [none, none, none, none] [] 0 0 T (J20 T)) : ∀ (n : Nat) (c2 : Int32) (S : AS), V G md_Arrays_fill_i (QM G md_Arrays_fill_i iV) (fun _ => True) (some none) 5 [some (.ref 68), some (.int x1), some (.int c2), some (.int x3)] [] 0 0 S (f_Arrays_fill_i_68_L5 J20 x1 x3 n c2 S) := by
  intro n
  induction n with
  | zero => intro c2 S; exact V.none
  | succ n ih =>
    intro c2 S
    rw [f_Arrays_fill_i_68_L5]
    refine x_iload_n d_Arrays_fill_i_5 rfl ?_
    refine x_iload_n d_Arrays_fill_i_6 rfl ?_
    refine x_icmp_ge (tgt := 20) d_Arrays_fill_i_7 (by decide) (fun _ => ?_) (fun _ => ?_)
    · exact V.kw (kJ20 S) trivial
    · refine x_aload_n_ref d_Arrays_fill_i_10 rfl ?_
      refine x_iload_n d_Arrays_fill_i_11 rfl ?_
      refine x_iload_n d_Arrays_fill_i_12 rfl ?_
      refine x_iast d_Arrays_fill_i_13 ak_68 (q99 (by decide)) ?_
      refine x_nmS (fun S2 _ => ?_)
      refine x_iinc (w := c2 + 1) (lc' := [some (.ref 68), some (.int x1), some (.int (c2 + 1)), some (.int x3)]) d_Arrays_fill_i_14 (by decide) rfl rfl rfl ?_
      refine x_goto (tgt := 5) d_Arrays_fill_i_17 (by decide) ?_
      exact V.kw (ih (c2 + 1) S2) ⟨rfl, rfl, rfl, rfl, trivial⟩
set_option maxHeartbeats 4000000 in
theorem v_Arrays_fill_i_68 {G : GX} (p1 : Int32) (S : AS) : V G md_Arrays_fill_i (QM G md_Arrays_fill_i iV) (fun _ => True) (some none) 0 [some (.ref 68), some (.int p1), none, none] [] 0 0 S (f_Arrays_fill_i_68 p1 S) := by
  unfold f_Arrays_fill_i_68
  refine x_iconst (v := 0) d_Arrays_fill_i_0 (by decide) ?_
  refine x_istore_n (lc' := [some (.ref 68), some (.int p1), some (.int 0), none]) d_Arrays_fill_i_1 (by decide) rfl ?_
  refine x_aload_n_ref d_Arrays_fill_i_2 rfl ?_
  refine x_alen (v := 24) d_Arrays_fill_i_3 ak_68 (by decide) (by decide) (q99 (by decide)) ?_
  refine x_istore_n (lc' := [some (.ref 68), some (.int p1), some (.int 0), some (.int 24)]) d_Arrays_fill_i_4 (by decide) rfl ?_
  refine x_nm (fun J20 hJ20 => ?_)
  have kJ20 : ∀ (S1 : AS), V G md_Arrays_fill_i (QM G md_Arrays_fill_i iV) (fun _ => True) (some none) 20 [none, none, none, none] [] 0 0 S1 (J20 S1) := by
    subst hJ20
    intro S1
    exact x_vret d_Arrays_fill_i_20 rfl (Nat.le_of_ble_eq_true rfl) (Nat.le_of_ble_eq_true rfl)
  clear hJ20
  exact V.kw (v_Arrays_fill_i_68_L5 J20 p1 24 kJ20 FU 0 S) ⟨rfl, rfl, rfl, rfl, trivial⟩
theorem c_Arrays_fill_i_68 {G : GX} (p1 : Int32) (S : AS) : CN G y_Arrays_fill_i b_Arrays_fill_i 4 none ({ frames := 0, cells := 0, slots := 0, locals := 0 } : Room) (some none) iV [.ref 68, .int p1] S (f_Arrays_fill_i_68 p1 S) := cn_of_v (M := md_Arrays_fill_i) (ini := false) rfl (by decide +kernel) (fun h => nomatch h) rfl (Nat.le_of_ble_eq_true rfl) (v_Arrays_fill_i_68 p1 S)
noncomputable def f_Arrays_fill_i_66_L5 (J20 : AS → Option AS) (x1 : Int32) (x3 : Int32) : Nat → Int32 → AS → Option AS
  | 0, _, _ => none
  | n + 1, c2, S => if x3 ≤ c2 then (J20 S) else (chk (vp_in c2 24) (nm (si S 66 (ix c2) x1) fun S2 => f_Arrays_fill_i_66_L5 J20 x1 x3 n (c2 + 1) S2))
noncomputable def f_Arrays_fill_i_66 (p1 : Int32) (S : AS) : Option AS := nm (fun (S1 : AS) => some S1) fun J20 => f_Arrays_fill_i_66_L5 J20 p1 24 FU 0 S
set_option maxHeartbeats 4000000 in
theorem v_Arrays_fill_i_66_L5 {G : GX} (J20 : AS → Option AS) (x1 : Int32) (x3 : Int32) (kJ20 : ∀ (T : AS), V G md_Arrays_fill_i (QM G md_Arrays_fill_i iV) (fun _ => True) (some none) 20 [none, none, none, none] [] 0 0 T (J20 T)) : ∀ (n : Nat) (c2 : Int32) (S : AS), V G md_Arrays_fill_i (QM G md_Arrays_fill_i iV) (fun _ => True) (some none) 5 [some (.ref 66), some (.int x1), some (.int c2), some (.int x3)] [] 0 0 S (f_Arrays_fill_i_66_L5 J20 x1 x3 n c2 S) := by
  intro n
  induction n with
  | zero => intro c2 S; exact V.none
  | succ n ih =>
    intro c2 S
    rw [f_Arrays_fill_i_66_L5]
    refine x_iload_n d_Arrays_fill_i_5 rfl ?_
    refine x_iload_n d_Arrays_fill_i_6 rfl ?_
    refine x_icmp_ge (tgt := 20) d_Arrays_fill_i_7 (by decide) (fun _ => ?_) (fun _ => ?_)
    · exact V.kw (kJ20 S) trivial
    · refine x_aload_n_ref d_Arrays_fill_i_10 rfl ?_
      refine x_iload_n d_Arrays_fill_i_11 rfl ?_
      refine x_iload_n d_Arrays_fill_i_12 rfl ?_
      refine x_iast d_Arrays_fill_i_13 ak_66 (q99 (by decide)) ?_
      refine x_nmS (fun S2 _ => ?_)
      refine x_iinc (w := c2 + 1) (lc' := [some (.ref 66), some (.int x1), some (.int (c2 + 1)), some (.int x3)]) d_Arrays_fill_i_14 (by decide) rfl rfl rfl ?_
      refine x_goto (tgt := 5) d_Arrays_fill_i_17 (by decide) ?_
      exact V.kw (ih (c2 + 1) S2) ⟨rfl, rfl, rfl, rfl, trivial⟩
set_option maxHeartbeats 4000000 in
theorem v_Arrays_fill_i_66 {G : GX} (p1 : Int32) (S : AS) : V G md_Arrays_fill_i (QM G md_Arrays_fill_i iV) (fun _ => True) (some none) 0 [some (.ref 66), some (.int p1), none, none] [] 0 0 S (f_Arrays_fill_i_66 p1 S) := by
  unfold f_Arrays_fill_i_66
  refine x_iconst (v := 0) d_Arrays_fill_i_0 (by decide) ?_
  refine x_istore_n (lc' := [some (.ref 66), some (.int p1), some (.int 0), none]) d_Arrays_fill_i_1 (by decide) rfl ?_
  refine x_aload_n_ref d_Arrays_fill_i_2 rfl ?_
  refine x_alen (v := 24) d_Arrays_fill_i_3 ak_66 (by decide) (by decide) (q99 (by decide)) ?_
  refine x_istore_n (lc' := [some (.ref 66), some (.int p1), some (.int 0), some (.int 24)]) d_Arrays_fill_i_4 (by decide) rfl ?_
  refine x_nm (fun J20 hJ20 => ?_)
  have kJ20 : ∀ (S1 : AS), V G md_Arrays_fill_i (QM G md_Arrays_fill_i iV) (fun _ => True) (some none) 20 [none, none, none, none] [] 0 0 S1 (J20 S1) := by
    subst hJ20
    intro S1
    exact x_vret d_Arrays_fill_i_20 rfl (Nat.le_of_ble_eq_true rfl) (Nat.le_of_ble_eq_true rfl)
  clear hJ20
  exact V.kw (v_Arrays_fill_i_66_L5 J20 p1 24 kJ20 FU 0 S) ⟨rfl, rfl, rfl, rfl, trivial⟩
theorem c_Arrays_fill_i_66 {G : GX} (p1 : Int32) (S : AS) : CN G y_Arrays_fill_i b_Arrays_fill_i 4 none ({ frames := 0, cells := 0, slots := 0, locals := 0 } : Room) (some none) iV [.ref 66, .int p1] S (f_Arrays_fill_i_66 p1 S) := cn_of_v (M := md_Arrays_fill_i) (ini := false) rfl (by decide +kernel) (fun h => nomatch h) rfl (Nat.le_of_ble_eq_true rfl) (v_Arrays_fill_i_66 p1 S)
noncomputable def f_Exchange_offerSinglePosts_50_L25 (J52 : Int32 → Int32 → AS → Option AS) (x2 : Int32) (x3 : Int32) : Nat → Int32 → Int32 → Int32 → AS → Option AS
  | 0, _, _, _, _ => none
  | n + 1, c4, c5, c6, S => if x2 ≤ c6 then (J52 c4 c5 S) else (chk (vp_in c6 16) (nm (fun (a10 : Int32) (a11 : Int32) (S12 : AS) => f_Exchange_offerSinglePosts_50_L25 J52 x2 x3 n a10 a11 (c6 + 1) S12) fun J46 => if (gi S 50 (ix c6)) = x3 then (J46 (c4 + 1) c6 S) else (J46 c4 c5 S)))
noncomputable def f_Exchange_offerSinglePosts_50_L10 (J76 : AS → Option AS) (x2 : Int32) : Nat → Int32 → AS → Option AS
  | 0, _, _ => none
  | n + 1, c3, S => if 24 ≤ c3 then (J76 S) else (nm (fun (a3 : Int32) (a4 : Int32) (S5 : AS) => nm (fun (a6 : Int32) (a7 : Int32) (S8 : AS) => chk (vp_in a6 24) (nm (si S8 66 (ix a6) a7) fun S9 => f_Exchange_offerSinglePosts_50_L10 J76 x2 n (c3 + 1) S9)) fun J69 => if a3 = 1 then (J69 c3 a4 S5) else (J69 c3 (-1) S5)) fun J52 => f_Exchange_offerSinglePosts_50_L25 J52 x2 c3 FU 0 (-1) 0 S)
noncomputable def f_Exchange_offerSinglePosts_50 (p2 : Int32) (S : AS) : Option AS := bV (f_Arrays_fill_i_66 (-1) S) fun S1 => nm (fun (S2 : AS) => some S2) fun J76 => f_Exchange_offerSinglePosts_50_L10 J76 p2 FU 0 S1
set_option maxHeartbeats 4000000 in
theorem v_Exchange_offerSinglePosts_50_L25 {G : GX} (J52 : Int32 → Int32 → AS → Option AS) (x2 : Int32) (x3 : Int32) (kJ52 : ∀ (a3 : Int32) (a4 : Int32) (T : AS), V G md_Exchange_offerSinglePosts (QM G md_Exchange_offerSinglePosts iV) (fun _ => True) (some none) 52 [some (.ref 63), some (.ref 50), some (.int x2), some (.int x3), some (.int a3), some (.int a4), none] [] 0 0 T (J52 a3 a4 T)) : ∀ (n : Nat) (c4 : Int32) (c5 : Int32) (c6 : Int32) (S : AS), V G md_Exchange_offerSinglePosts (QM G md_Exchange_offerSinglePosts iV) (fun _ => True) (some none) 25 [some (.ref 63), some (.ref 50), some (.int x2), some (.int x3), some (.int c4), some (.int c5), some (.int c6)] [] 0 0 S (f_Exchange_offerSinglePosts_50_L25 J52 x2 x3 n c4 c5 c6 S) := by
  intro n
  induction n with
  | zero => intro c4 c5 c6 S; exact V.none
  | succ n ih =>
    intro c4 c5 c6 S
    rw [f_Exchange_offerSinglePosts_50_L25]
    refine x_iload d_Exchange_offerSinglePosts_25 rfl ?_
    refine x_iload_n d_Exchange_offerSinglePosts_27 rfl ?_
    refine x_icmp_ge (tgt := 52) d_Exchange_offerSinglePosts_28 (by decide) (fun _ => ?_) (fun _ => ?_)
    · exact V.kw (kJ52 c4 c5 S) ⟨rfl, rfl, rfl, rfl, rfl, rfl, trivial⟩
    · refine x_aload_n_ref d_Exchange_offerSinglePosts_31 rfl ?_
      refine x_iload d_Exchange_offerSinglePosts_32 rfl ?_
      refine x_iald d_Exchange_offerSinglePosts_34 ak_50 (q99 (by decide)) ?_
      refine x_iload_n d_Exchange_offerSinglePosts_35 rfl ?_
      refine x_nm (fun J46 hJ46 => ?_)
      have kJ46 : ∀ (a10 : Int32) (a11 : Int32) (S12 : AS), V G md_Exchange_offerSinglePosts (QM G md_Exchange_offerSinglePosts iV) (fun _ => True) (some none) 46 [some (.ref 63), some (.ref 50), some (.int x2), some (.int x3), some (.int a10), some (.int a11), some (.int c6)] [] 0 0 S12 (J46 a10 a11 S12) := by
        subst hJ46
        intro a10 a11 S12
        refine x_iinc (w := c6 + 1) (lc' := [some (.ref 63), some (.ref 50), some (.int x2), some (.int x3), some (.int a10), some (.int a11), some (.int (c6 + 1))]) d_Exchange_offerSinglePosts_46 (by decide) rfl rfl rfl ?_
        refine x_goto (tgt := 25) d_Exchange_offerSinglePosts_49 (by decide) ?_
        exact V.kw (ih a10 a11 (c6 + 1) S12) ⟨rfl, rfl, rfl, rfl, rfl, rfl, rfl, trivial⟩
      clear hJ46
      refine x_icmp_ne (tgt := 46) d_Exchange_offerSinglePosts_36 (by decide) (fun _ => ?_) (fun _ => ?_)
      · exact V.kw (kJ46 c4 c5 S) ⟨rfl, rfl, rfl, rfl, rfl, rfl, rfl, trivial⟩
      · refine x_iinc (w := c4 + 1) (lc' := [some (.ref 63), some (.ref 50), some (.int x2), some (.int x3), some (.int (c4 + 1)), some (.int c5), some (.int c6)]) d_Exchange_offerSinglePosts_39 (by decide) rfl rfl rfl ?_
        refine x_iload d_Exchange_offerSinglePosts_42 rfl ?_
        refine x_istore (lc' := [some (.ref 63), some (.ref 50), some (.int x2), some (.int x3), some (.int (c4 + 1)), some (.int c6), some (.int c6)]) d_Exchange_offerSinglePosts_44 (by decide) rfl ?_
        exact V.kw (kJ46 (c4 + 1) c6 S) ⟨rfl, rfl, rfl, rfl, rfl, rfl, rfl, trivial⟩
set_option maxHeartbeats 4000000 in
theorem v_Exchange_offerSinglePosts_50_L10 {G : GX} (J76 : AS → Option AS) (x2 : Int32) (kJ76 : ∀ (T : AS), V G md_Exchange_offerSinglePosts (QM G md_Exchange_offerSinglePosts iV) (fun _ => True) (some none) 76 [none, none, none, none, none, none, none] [] 0 0 T (J76 T)) : ∀ (n : Nat) (c3 : Int32) (S : AS), V G md_Exchange_offerSinglePosts (QM G md_Exchange_offerSinglePosts iV) (fun _ => True) (some none) 10 [some (.ref 63), some (.ref 50), some (.int x2), some (.int c3), none, none, none] [] 0 0 S (f_Exchange_offerSinglePosts_50_L10 J76 x2 n c3 S) := by
  intro n
  induction n with
  | zero => intro c3 S; exact V.none
  | succ n ih =>
    intro c3 S
    rw [f_Exchange_offerSinglePosts_50_L10]
    refine x_iload_n d_Exchange_offerSinglePosts_10 rfl ?_
    refine x_bipush (v := 24) d_Exchange_offerSinglePosts_11 (by decide) ?_
    refine x_icmp_ge (tgt := 76) d_Exchange_offerSinglePosts_13 (by decide) (fun _ => ?_) (fun _ => ?_)
    · exact V.kw (kJ76 S) trivial
    · refine x_iconst (v := 0) d_Exchange_offerSinglePosts_16 (by decide) ?_
      refine x_istore (lc' := [some (.ref 63), some (.ref 50), some (.int x2), some (.int c3), some (.int 0), none, none]) d_Exchange_offerSinglePosts_17 (by decide) rfl ?_
      refine x_iconst (v := -1) d_Exchange_offerSinglePosts_19 (by decide) ?_
      refine x_istore (lc' := [some (.ref 63), some (.ref 50), some (.int x2), some (.int c3), some (.int 0), some (.int (-1)), none]) d_Exchange_offerSinglePosts_20 (by decide) rfl ?_
      refine x_iconst (v := 0) d_Exchange_offerSinglePosts_22 (by decide) ?_
      refine x_istore (lc' := [some (.ref 63), some (.ref 50), some (.int x2), some (.int c3), some (.int 0), some (.int (-1)), some (.int 0)]) d_Exchange_offerSinglePosts_23 (by decide) rfl ?_
      refine x_nm (fun J52 hJ52 => ?_)
      have kJ52 : ∀ (a3 : Int32) (a4 : Int32) (S5 : AS), V G md_Exchange_offerSinglePosts (QM G md_Exchange_offerSinglePosts iV) (fun _ => True) (some none) 52 [some (.ref 63), some (.ref 50), some (.int x2), some (.int c3), some (.int a3), some (.int a4), none] [] 0 0 S5 (J52 a3 a4 S5) := by
        subst hJ52
        intro a3 a4 S5
        refine x_aload_n_ref d_Exchange_offerSinglePosts_52 rfl ?_
        refine x_getr d_Exchange_offerSinglePosts_53 fl_Exchange_18 ak_63 (q99 (by decide)) (shx sh_63_2) ?_
        refine x_iload_n d_Exchange_offerSinglePosts_56 rfl ?_
        refine x_iload d_Exchange_offerSinglePosts_57 rfl ?_
        refine x_iconst (v := 1) d_Exchange_offerSinglePosts_59 (by decide) ?_
        refine x_nm (fun J69 hJ69 => ?_)
        have kJ69 : ∀ (a6 : Int32) (a7 : Int32) (S8 : AS), V G md_Exchange_offerSinglePosts (QM G md_Exchange_offerSinglePosts iV) (fun _ => True) (some none) 69 [some (.ref 63), some (.ref 50), some (.int x2), some (.int c3), none, none, none] [.int a7, .int a6, .ref 66] 0 0 S8 (J69 a6 a7 S8) := by
          subst hJ69
          intro a6 a7 S8
          refine x_iast d_Exchange_offerSinglePosts_69 ak_66 (q99 (by decide)) ?_
          refine x_nmS (fun S9 _ => ?_)
          refine x_iinc (w := c3 + 1) (lc' := [some (.ref 63), some (.ref 50), some (.int x2), some (.int (c3 + 1)), none, none, none]) d_Exchange_offerSinglePosts_70 (by decide) rfl rfl rfl ?_
          refine x_goto (tgt := 10) d_Exchange_offerSinglePosts_73 (by decide) ?_
          exact V.kw (ih (c3 + 1) S9) ⟨rfl, rfl, rfl, rfl, trivial⟩
        clear hJ69
        refine x_icmp_ne (tgt := 68) d_Exchange_offerSinglePosts_60 (by decide) (fun _ => ?_) (fun _ => ?_)
        · refine x_iconst (v := -1) d_Exchange_offerSinglePosts_68 (by decide) ?_
          exact V.kw (kJ69 c3 (-1) S5) ⟨rfl, rfl, rfl, rfl, trivial⟩
        · refine x_iload d_Exchange_offerSinglePosts_63 rfl ?_
          refine x_goto (tgt := 69) d_Exchange_offerSinglePosts_65 (by decide) ?_
          exact V.kw (kJ69 c3 a4 S5) ⟨rfl, rfl, rfl, rfl, trivial⟩
      clear hJ52
      exact V.kw (v_Exchange_offerSinglePosts_50_L25 J52 x2 c3 kJ52 FU 0 (-1) 0 S) ⟨rfl, rfl, rfl, rfl, rfl, rfl, rfl, trivial⟩
set_option maxHeartbeats 4000000 in
theorem v_Exchange_offerSinglePosts_50 {G : GX} (p2 : Int32) (S : AS) : V G md_Exchange_offerSinglePosts (QM G md_Exchange_offerSinglePosts iV) (fun _ => True) (some none) 0 [some (.ref 63), some (.ref 50), some (.int p2), none, none, none, none] [] 0 0 S (f_Exchange_offerSinglePosts_50 p2 S) := by
  unfold f_Exchange_offerSinglePosts_50
  refine x_aload_n_ref d_Exchange_offerSinglePosts_0 rfl ?_
  refine x_getr d_Exchange_offerSinglePosts_1 fl_Exchange_18 ak_63 (q99 (by decide)) (shx sh_63_2) ?_
  refine x_iconst (v := -1) d_Exchange_offerSinglePosts_4 (by decide) ?_
  refine x_sV (b' := (some none)) (As := [.ref 66, .int (-1)]) d_Exchange_offerSinglePosts_5 ms_Exchange_27 rfl ⟨Nat.le_of_ble_eq_true rfl, Nat.le_of_ble_eq_true rfl⟩ (Nat.le_of_ble_eq_true rfl) ⟨Nat.le_of_ble_eq_true rfl, Nat.le_of_ble_eq_true rfl⟩ (fun _ h => h) (fun h => ⟨h, c_Arrays_fill_i_66 (-1) _⟩) (fun S1 => ?_)
  refine x_iconst (v := 0) d_Exchange_offerSinglePosts_8 (by decide) ?_
  refine x_istore_n (lc' := [some (.ref 63), some (.ref 50), some (.int p2), some (.int 0), none, none, none]) d_Exchange_offerSinglePosts_9 (by decide) rfl ?_
  refine x_nm (fun J76 hJ76 => ?_)
  have kJ76 : ∀ (S2 : AS), V G md_Exchange_offerSinglePosts (QM G md_Exchange_offerSinglePosts iV) (fun _ => True) (some none) 76 [none, none, none, none, none, none, none] [] 0 0 S2 (J76 S2) := by
    subst hJ76
    intro S2
    exact x_vret d_Exchange_offerSinglePosts_76 rfl (Nat.le_of_ble_eq_true rfl) (Nat.le_of_ble_eq_true rfl)
  clear hJ76
  exact V.kw (v_Exchange_offerSinglePosts_50_L10 J76 p2 kJ76 FU 0 S1) ⟨rfl, rfl, rfl, rfl, trivial⟩
theorem c_Exchange_offerSinglePosts_50 {G : GX} (p2 : Int32) (S : AS) : CN G y_Exchange_offerSinglePosts b_Exchange_offerSinglePosts 7 none ({ frames := 1, cells := 0, slots := 0, locals := 23 } : Room) (some none) iV [.ref 63, .ref 50, .int p2] S (f_Exchange_offerSinglePosts_50 p2 S) := cn_of_v (M := md_Exchange_offerSinglePosts) (ini := false) rfl (by decide +kernel) (fun h => nomatch h) rfl (Nat.le_of_ble_eq_true rfl) (v_Exchange_offerSinglePosts_50 p2 S)
noncomputable def f_Exchange_pointFrom_50_L2 (J52 : AS → Option (Int32 × AS)) (x1 : Int32) : Nat → Int32 → AS → Option (Int32 × AS)
  | 0, _, _ => none
  | n + 1, c3, S => chk (vp_in x1 24) (if (gi S 65 (ix x1)) ≤ c3 then (J52 S) else (chk (vp_in ((x1 * 3) + c3) 72) (chk (vp_in (gi S 64 (ix ((x1 * 3) + c3))) 16) (nm (gi S 50 (ix (gi S 64 (ix ((x1 * 3) + c3))))) fun v2 => nm (fun (S3 : AS) => f_Exchange_pointFrom_50_L2 J52 x1 n (c3 + 1) S3) fun J46 => if v2 = (-1) then (J46 S) else (chk (vp_in v2 24) (if (gi S 66 (ix v2)) = (-1) then (J46 S) else (some (v2, S))))))))
noncomputable def f_Exchange_pointFrom_50 (p1 : Int32) (S : AS) : Option (Int32 × AS) := nm (fun (S1 : AS) => some (p1, S1)) fun J52 => f_Exchange_pointFrom_50_L2 J52 p1 FU 0 S
set_option maxHeartbeats 4000000 in
theorem v_Exchange_pointFrom_50_L2 {G : GX} (J52 : AS → Option (Int32 × AS)) (x1 : Int32) (kJ52 : ∀ (T : AS), V G md_Exchange_pointFrom (QM G md_Exchange_pointFrom iI) (fun _ => True) (some none) 52 [none, some (.int x1), none, none, none] [] 0 0 T (J52 T)) : ∀ (n : Nat) (c3 : Int32) (S : AS), V G md_Exchange_pointFrom (QM G md_Exchange_pointFrom iI) (fun _ => True) (some none) 2 [some (.ref 63), some (.int x1), some (.ref 50), some (.int c3), none] [] 0 0 S (f_Exchange_pointFrom_50_L2 J52 x1 n c3 S) := by
  intro n
  induction n with
  | zero => intro c3 S; exact V.none
  | succ n ih =>
    intro c3 S
    rw [f_Exchange_pointFrom_50_L2]
    refine x_iload_n d_Exchange_pointFrom_2 rfl ?_
    refine x_aload_n_ref d_Exchange_pointFrom_3 rfl ?_
    refine x_getr d_Exchange_pointFrom_4 fl_Exchange_15 ak_63 (q99 (by decide)) (shx sh_63_1) ?_
    refine x_iload_n d_Exchange_pointFrom_7 rfl ?_
    refine x_iald d_Exchange_pointFrom_8 ak_65 (q99 (by decide)) ?_
    refine x_icmp_ge (tgt := 52) d_Exchange_pointFrom_9 (by decide) (fun _ => ?_) (fun _ => ?_)
    · exact V.kw (kJ52 S) ⟨rfl, trivial⟩
    · refine x_aload_n_ref d_Exchange_pointFrom_12 rfl ?_
      refine x_aload_n_ref d_Exchange_pointFrom_13 rfl ?_
      refine x_getr d_Exchange_pointFrom_14 fl_Exchange_9 ak_63 (q99 (by decide)) (shx sh_63_0) ?_
      refine x_iload_n d_Exchange_pointFrom_17 rfl ?_
      refine x_iconst (v := 3) d_Exchange_pointFrom_18 (by decide) ?_
      refine x_imul d_Exchange_pointFrom_19 ?_
      refine x_iload_n d_Exchange_pointFrom_20 rfl ?_
      refine x_iadd d_Exchange_pointFrom_21 ?_
      refine x_iald d_Exchange_pointFrom_22 ak_64 (q99 (by decide)) ?_
      refine x_iald d_Exchange_pointFrom_23 ak_50 (q99 (by decide)) ?_
      refine x_topi (fun v2 => ?_)
      refine x_istore (lc' := [some (.ref 63), some (.int x1), some (.ref 50), some (.int c3), some (.int v2)]) d_Exchange_pointFrom_24 (by decide) rfl ?_
      refine x_iload d_Exchange_pointFrom_26 rfl ?_
      refine x_iconst (v := -1) d_Exchange_pointFrom_28 (by decide) ?_
      refine x_nm (fun J46 hJ46 => ?_)
      have kJ46 : ∀ (S3 : AS), V G md_Exchange_pointFrom (QM G md_Exchange_pointFrom iI) (fun _ => True) (some none) 46 [some (.ref 63), some (.int x1), some (.ref 50), some (.int c3), none] [] 0 0 S3 (J46 S3) := by
        subst hJ46
        intro S3
        refine x_iinc (w := c3 + 1) (lc' := [some (.ref 63), some (.int x1), some (.ref 50), some (.int (c3 + 1)), none]) d_Exchange_pointFrom_46 (by decide) rfl rfl rfl ?_
        refine x_goto (tgt := 2) d_Exchange_pointFrom_49 (by decide) ?_
        exact V.kw (ih (c3 + 1) S3) ⟨rfl, rfl, rfl, rfl, trivial⟩
      clear hJ46
      refine x_icmp_eq (tgt := 46) d_Exchange_pointFrom_29 (by decide) (fun _ => ?_) (fun _ => ?_)
      · exact V.kw (kJ46 S) ⟨rfl, rfl, rfl, rfl, trivial⟩
      · refine x_aload_n_ref d_Exchange_pointFrom_32 rfl ?_
        refine x_getr d_Exchange_pointFrom_33 fl_Exchange_18 ak_63 (q99 (by decide)) (shx sh_63_2) ?_
        refine x_iload d_Exchange_pointFrom_36 rfl ?_
        refine x_iald d_Exchange_pointFrom_38 ak_66 (q99 (by decide)) ?_
        refine x_iconst (v := -1) d_Exchange_pointFrom_39 (by decide) ?_
        refine x_icmp_eq (tgt := 46) d_Exchange_pointFrom_40 (by decide) (fun _ => ?_) (fun _ => ?_)
        · exact V.kw (kJ46 S) ⟨rfl, rfl, rfl, rfl, trivial⟩
        · refine x_iload d_Exchange_pointFrom_43 rfl ?_
          exact x_ret d_Exchange_pointFrom_45 rfl rfl (Nat.le_of_ble_eq_true rfl) (Nat.le_of_ble_eq_true rfl)
set_option maxHeartbeats 4000000 in
theorem v_Exchange_pointFrom_50 {G : GX} (p1 : Int32) (S : AS) : V G md_Exchange_pointFrom (QM G md_Exchange_pointFrom iI) (fun _ => True) (some none) 0 [some (.ref 63), some (.int p1), some (.ref 50), none, none] [] 0 0 S (f_Exchange_pointFrom_50 p1 S) := by
  unfold f_Exchange_pointFrom_50
  refine x_iconst (v := 0) d_Exchange_pointFrom_0 (by decide) ?_
  refine x_istore_n (lc' := [some (.ref 63), some (.int p1), some (.ref 50), some (.int 0), none]) d_Exchange_pointFrom_1 (by decide) rfl ?_
  refine x_nm (fun J52 hJ52 => ?_)
  have kJ52 : ∀ (S1 : AS), V G md_Exchange_pointFrom (QM G md_Exchange_pointFrom iI) (fun _ => True) (some none) 52 [none, some (.int p1), none, none, none] [] 0 0 S1 (J52 S1) := by
    subst hJ52
    intro S1
    refine x_iload_n d_Exchange_pointFrom_52 rfl ?_
    exact x_ret d_Exchange_pointFrom_53 rfl rfl (Nat.le_of_ble_eq_true rfl) (Nat.le_of_ble_eq_true rfl)
  clear hJ52
  exact V.kw (v_Exchange_pointFrom_50_L2 J52 p1 kJ52 FU 0 S) ⟨rfl, rfl, rfl, rfl, trivial⟩
theorem c_Exchange_pointFrom_50 {G : GX} (p1 : Int32) (S : AS) : CN G y_Exchange_pointFrom b_Exchange_pointFrom 5 (some (FieldType.int)) ({ frames := 0, cells := 0, slots := 0, locals := 0 } : Room) (some none) iI [.ref 63, .int p1, .ref 50] S (f_Exchange_pointFrom_50 p1 S) := cn_of_v (M := md_Exchange_pointFrom) (ini := false) rfl (by decide +kernel) (fun h => nomatch h) rfl (Nat.le_of_ble_eq_true rfl) (v_Exchange_pointFrom_50 p1 S)
noncomputable def f_Exchange_pointAll_50_L2 (J40 : AS → Option AS) : Nat → Int32 → AS → Option AS
  | 0, _, _ => none
  | n + 1, c2, S => if 24 ≤ c2 then (J40 S) else (chk (vp_in c2 24) (nm (fun (a2 : Int32) (a3 : Int32) (S4 : AS) => chk (vp_in a2 24) (nm (si S4 67 (ix a2) a3) fun S5 => f_Exchange_pointAll_50_L2 J40 n (c2 + 1) S5)) fun J33 => if (gi S 66 (ix c2)) = (-1) then (J33 c2 (-1) S) else (bI (f_Exchange_pointFrom_50 c2 S) fun r7 S6 => J33 c2 r7 S6)))
noncomputable def f_Exchange_pointAll_50 (S : AS) : Option AS := nm (fun (S1 : AS) => some S1) fun J40 => f_Exchange_pointAll_50_L2 J40 FU 0 S
set_option maxHeartbeats 4000000 in
theorem v_Exchange_pointAll_50_L2 {G : GX} (J40 : AS → Option AS) (kJ40 : ∀ (T : AS), V G md_Exchange_pointAll (QM G md_Exchange_pointAll iV) (fun _ => True) (some none) 40 [none, none, none] [] 0 0 T (J40 T)) : ∀ (n : Nat) (c2 : Int32) (S : AS), V G md_Exchange_pointAll (QM G md_Exchange_pointAll iV) (fun _ => True) (some none) 2 [some (.ref 63), some (.ref 50), some (.int c2)] [] 0 0 S (f_Exchange_pointAll_50_L2 J40 n c2 S) := by
  intro n
  induction n with
  | zero => intro c2 S; exact V.none
  | succ n ih =>
    intro c2 S
    rw [f_Exchange_pointAll_50_L2]
    refine x_iload_n d_Exchange_pointAll_2 rfl ?_
    refine x_bipush (v := 24) d_Exchange_pointAll_3 (by decide) ?_
    refine x_icmp_ge (tgt := 40) d_Exchange_pointAll_5 (by decide) (fun _ => ?_) (fun _ => ?_)
    · exact V.kw (kJ40 S) trivial
    · refine x_aload_n_ref d_Exchange_pointAll_8 rfl ?_
      refine x_getr d_Exchange_pointAll_9 fl_Exchange_21 ak_63 (q99 (by decide)) (shx sh_63_3) ?_
      refine x_iload_n d_Exchange_pointAll_12 rfl ?_
      refine x_aload_n_ref d_Exchange_pointAll_13 rfl ?_
      refine x_getr d_Exchange_pointAll_14 fl_Exchange_18 ak_63 (q99 (by decide)) (shx sh_63_2) ?_
      refine x_iload_n d_Exchange_pointAll_17 rfl ?_
      refine x_iald d_Exchange_pointAll_18 ak_66 (q99 (by decide)) ?_
      refine x_iconst (v := -1) d_Exchange_pointAll_19 (by decide) ?_
      refine x_nm (fun J33 hJ33 => ?_)
      have kJ33 : ∀ (a2 : Int32) (a3 : Int32) (S4 : AS), V G md_Exchange_pointAll (QM G md_Exchange_pointAll iV) (fun _ => True) (some none) 33 [some (.ref 63), some (.ref 50), some (.int c2)] [.int a3, .int a2, .ref 67] 0 0 S4 (J33 a2 a3 S4) := by
        subst hJ33
        intro a2 a3 S4
        refine x_iast d_Exchange_pointAll_33 ak_67 (q99 (by decide)) ?_
        refine x_nmS (fun S5 _ => ?_)
        refine x_iinc (w := c2 + 1) (lc' := [some (.ref 63), some (.ref 50), some (.int (c2 + 1))]) d_Exchange_pointAll_34 (by decide) rfl rfl rfl ?_
        refine x_goto (tgt := 2) d_Exchange_pointAll_37 (by decide) ?_
        exact V.kw (ih (c2 + 1) S5) ⟨rfl, rfl, rfl, trivial⟩
      clear hJ33
      refine x_icmp_ne (tgt := 27) d_Exchange_pointAll_20 (by decide) (fun _ => ?_) (fun _ => ?_)
      · refine x_aload_n_ref d_Exchange_pointAll_27 rfl ?_
        refine x_iload_n d_Exchange_pointAll_28 rfl ?_
        refine x_aload_n_ref d_Exchange_pointAll_29 rfl ?_
        refine x_vI (b' := (some none)) (As := [.int c2, .ref 50]) d_Exchange_pointAll_30 mv_Exchange_44 rfl (fun _ => ak_63) rfl (q99 (by decide)) ⟨Nat.le_of_ble_eq_true rfl, Nat.le_of_ble_eq_true rfl⟩ (Nat.le_of_ble_eq_true rfl) ⟨Nat.le_of_ble_eq_true rfl, Nat.le_of_ble_eq_true rfl⟩ (fun _ h => h) (fun h => ⟨h, c_Exchange_pointFrom_50 c2 _⟩) (fun r7 S6 => ?_)
        exact V.kw (kJ33 c2 r7 S6) ⟨rfl, rfl, rfl, trivial⟩
      · refine x_iconst (v := -1) d_Exchange_pointAll_23 (by decide) ?_
        refine x_goto (tgt := 33) d_Exchange_pointAll_24 (by decide) ?_
        exact V.kw (kJ33 c2 (-1) S) ⟨rfl, rfl, rfl, trivial⟩
set_option maxHeartbeats 4000000 in
theorem v_Exchange_pointAll_50 {G : GX} (S : AS) : V G md_Exchange_pointAll (QM G md_Exchange_pointAll iV) (fun _ => True) (some none) 0 [some (.ref 63), some (.ref 50), none] [] 0 0 S (f_Exchange_pointAll_50 S) := by
  unfold f_Exchange_pointAll_50
  refine x_iconst (v := 0) d_Exchange_pointAll_0 (by decide) ?_
  refine x_istore_n (lc' := [some (.ref 63), some (.ref 50), some (.int 0)]) d_Exchange_pointAll_1 (by decide) rfl ?_
  refine x_nm (fun J40 hJ40 => ?_)
  have kJ40 : ∀ (S1 : AS), V G md_Exchange_pointAll (QM G md_Exchange_pointAll iV) (fun _ => True) (some none) 40 [none, none, none] [] 0 0 S1 (J40 S1) := by
    subst hJ40
    intro S1
    exact x_vret d_Exchange_pointAll_40 rfl (Nat.le_of_ble_eq_true rfl) (Nat.le_of_ble_eq_true rfl)
  clear hJ40
  exact V.kw (v_Exchange_pointAll_50_L2 J40 kJ40 FU 0 S) ⟨rfl, rfl, rfl, trivial⟩
theorem c_Exchange_pointAll_50 {G : GX} (S : AS) : CN G y_Exchange_pointAll b_Exchange_pointAll 3 none ({ frames := 1, cells := 0, slots := 0, locals := 24 } : Room) (some none) iV [.ref 63, .ref 50] S (f_Exchange_pointAll_50 S) := cn_of_v (M := md_Exchange_pointAll) (ini := false) rfl (by decide +kernel) (fun h => nomatch h) rfl (Nat.le_of_ble_eq_true rfl) (v_Exchange_pointAll_50 S)
noncomputable def f_Exchange_isInRing_L9 (J38 : Int32 → AS → Option (Int32 × AS)) (x1 : Int32) : Nat → Int32 → Int32 → AS → Option (Int32 × AS)
  | 0, _, _, _ => none
  | n + 1, c2, c3, S => if 24 ≤ c3 then (J38 c2 S) else (if c2 = (-1) then (J38 c2 S) else (if c2 = x1 then (J38 c2 S) else (chk (vp_in c2 24) (nm (gi S 67 (ix c2)) fun v4 => f_Exchange_isInRing_L9 J38 x1 n v4 (c3 + 1) S))))
noncomputable def f_Exchange_isInRing (p1 : Int32) (S : AS) : Option (Int32 × AS) := chk (vp_in p1 24) (nm (gi S 67 (ix p1)) fun v1 => nm (fun (a2 : Int32) (S3 : AS) => if a2 = p1 then (some (1, S3)) else (some (0, S3))) fun J38 => f_Exchange_isInRing_L9 J38 p1 FU v1 0 S)
set_option maxHeartbeats 4000000 in
theorem v_Exchange_isInRing_L9 {G : GX} (J38 : Int32 → AS → Option (Int32 × AS)) (x1 : Int32) (kJ38 : ∀ (a2 : Int32) (T : AS), V G md_Exchange_isInRing (QM G md_Exchange_isInRing iI) (fun _ => True) (some none) 38 [none, some (.int x1), some (.int a2), none] [] 0 0 T (J38 a2 T)) : ∀ (n : Nat) (c2 : Int32) (c3 : Int32) (S : AS), V G md_Exchange_isInRing (QM G md_Exchange_isInRing iI) (fun _ => True) (some none) 9 [some (.ref 63), some (.int x1), some (.int c2), some (.int c3)] [] 0 0 S (f_Exchange_isInRing_L9 J38 x1 n c2 c3 S) := by
  intro n
  induction n with
  | zero => intro c2 c3 S; exact V.none
  | succ n ih =>
    intro c2 c3 S
    rw [f_Exchange_isInRing_L9]
    refine x_iload_n d_Exchange_isInRing_9 rfl ?_
    refine x_bipush (v := 24) d_Exchange_isInRing_10 (by decide) ?_
    refine x_icmp_ge (tgt := 38) d_Exchange_isInRing_12 (by decide) (fun _ => ?_) (fun _ => ?_)
    · exact V.kw (kJ38 c2 S) ⟨rfl, rfl, trivial⟩
    · refine x_iload_n d_Exchange_isInRing_15 rfl ?_
      refine x_iconst (v := -1) d_Exchange_isInRing_16 (by decide) ?_
      refine x_icmp_eq (tgt := 38) d_Exchange_isInRing_17 (by decide) (fun _ => ?_) (fun _ => ?_)
      · exact V.kw (kJ38 c2 S) ⟨rfl, rfl, trivial⟩
      · refine x_iload_n d_Exchange_isInRing_20 rfl ?_
        refine x_iload_n d_Exchange_isInRing_21 rfl ?_
        refine x_icmp_eq (tgt := 38) d_Exchange_isInRing_22 (by decide) (fun _ => ?_) (fun _ => ?_)
        · exact V.kw (kJ38 c2 S) ⟨rfl, rfl, trivial⟩
        · refine x_aload_n_ref d_Exchange_isInRing_25 rfl ?_
          refine x_getr d_Exchange_isInRing_26 fl_Exchange_21 ak_63 (q99 (by decide)) (shx sh_63_3) ?_
          refine x_iload_n d_Exchange_isInRing_29 rfl ?_
          refine x_iald d_Exchange_isInRing_30 ak_67 (q99 (by decide)) ?_
          refine x_topi (fun v4 => ?_)
          refine x_istore_n (lc' := [some (.ref 63), some (.int x1), some (.int v4), some (.int c3)]) d_Exchange_isInRing_31 (by decide) rfl ?_
          refine x_iinc (w := c3 + 1) (lc' := [some (.ref 63), some (.int x1), some (.int v4), some (.int (c3 + 1))]) d_Exchange_isInRing_32 (by decide) rfl rfl rfl ?_
          refine x_goto (tgt := 9) d_Exchange_isInRing_35 (by decide) ?_
          exact V.kw (ih v4 (c3 + 1) S) ⟨rfl, rfl, rfl, rfl, trivial⟩
set_option maxHeartbeats 4000000 in
theorem v_Exchange_isInRing {G : GX} (p1 : Int32) (S : AS) : V G md_Exchange_isInRing (QM G md_Exchange_isInRing iI) (fun _ => True) (some none) 0 [some (.ref 63), some (.int p1), none, none] [] 0 0 S (f_Exchange_isInRing p1 S) := by
  unfold f_Exchange_isInRing
  refine x_aload_n_ref d_Exchange_isInRing_0 rfl ?_
  refine x_getr d_Exchange_isInRing_1 fl_Exchange_21 ak_63 (q99 (by decide)) (shx sh_63_3) ?_
  refine x_iload_n d_Exchange_isInRing_4 rfl ?_
  refine x_iald d_Exchange_isInRing_5 ak_67 (q99 (by decide)) ?_
  refine x_topi (fun v1 => ?_)
  refine x_istore_n (lc' := [some (.ref 63), some (.int p1), some (.int v1), none]) d_Exchange_isInRing_6 (by decide) rfl ?_
  refine x_iconst (v := 0) d_Exchange_isInRing_7 (by decide) ?_
  refine x_istore_n (lc' := [some (.ref 63), some (.int p1), some (.int v1), some (.int 0)]) d_Exchange_isInRing_8 (by decide) rfl ?_
  refine x_nm (fun J38 hJ38 => ?_)
  have kJ38 : ∀ (a2 : Int32) (S3 : AS), V G md_Exchange_isInRing (QM G md_Exchange_isInRing iI) (fun _ => True) (some none) 38 [none, some (.int p1), some (.int a2), none] [] 0 0 S3 (J38 a2 S3) := by
    subst hJ38
    intro a2 S3
    refine x_iload_n d_Exchange_isInRing_38 rfl ?_
    refine x_iload_n d_Exchange_isInRing_39 rfl ?_
    refine x_icmp_ne (tgt := 47) d_Exchange_isInRing_40 (by decide) (fun _ => ?_) (fun _ => ?_)
    · refine x_iconst (v := 0) d_Exchange_isInRing_47 (by decide) ?_
      exact x_ret d_Exchange_isInRing_48 rfl rfl (Nat.le_of_ble_eq_true rfl) (Nat.le_of_ble_eq_true rfl)
    · refine x_iconst (v := 1) d_Exchange_isInRing_43 (by decide) ?_
      refine x_goto (tgt := 48) d_Exchange_isInRing_44 (by decide) ?_
      exact x_ret d_Exchange_isInRing_48 rfl rfl (Nat.le_of_ble_eq_true rfl) (Nat.le_of_ble_eq_true rfl)
  clear hJ38
  exact V.kw (v_Exchange_isInRing_L9 J38 p1 kJ38 FU v1 0 S) ⟨rfl, rfl, rfl, rfl, trivial⟩
theorem c_Exchange_isInRing {G : GX} (p1 : Int32) (S : AS) : CN G y_Exchange_isInRing b_Exchange_isInRing 4 (some (FieldType.boolean)) ({ frames := 0, cells := 0, slots := 0, locals := 0 } : Room) (some none) iI [.ref 63, .int p1] S (f_Exchange_isInRing p1 S) := cn_of_v (M := md_Exchange_isInRing) (ini := false) rfl (by decide +kernel) (fun h => nomatch h) rfl (Nat.le_of_ble_eq_true rfl) (v_Exchange_isInRing p1 S)
noncomputable def f_Exchange_leaveInRings_L53 (J115 : Int32 → AS → Option (Int32 × AS)) : Nat → Int32 → Int32 → AS → Option (Int32 × AS)
  | 0, _, _, _ => none
  | n + 1, c1, c2, S => if 24 ≤ c2 then (J115 c1 S) else (chk (vp_in c2 24) (nm (fun (a4 : Int32) (S5 : AS) => f_Exchange_leaveInRings_L53 J115 n a4 (c2 + 1) S5) fun J109 => if (gi S 66 (ix c2)) = (-1) then (J109 c1 S) else (chk (vp_in c2 24) (if (gi S 68 (ix c2)) = (-1) then (J109 c1 S) else (chk (vp_in c2 24) (chk (vp_in c2 24) (nm (fun (a6 : Int32) (a7 : Int32) (S8 : AS) => nm (a6 + a7) fun v9 => chk (vp_in c2 24) (nm (si S8 66 (ix c2) (-1)) fun S10 => J109 v9 S10)) fun J100 => if (gi S 68 (ix c2)) = (gi S 66 (ix c2)) then (J100 c1 0 S) else (J100 c1 1 S))))))))
noncomputable def f_Exchange_leaveInRings_L2 (J49 : AS → Option (Int32 × AS)) : Nat → Int32 → AS → Option (Int32 × AS)
  | 0, _, _ => none
  | n + 1, c1, S => if 24 ≤ c1 then (J49 S) else (chk (vp_in c1 24) (nm (fun (S11 : AS) => f_Exchange_leaveInRings_L2 J49 n (c1 + 1) S11) fun J43 => if (gi S 67 (ix c1)) = (-1) then (J43 S) else (bI (f_Exchange_isInRing c1 S) fun r13 S12 => if r13 = 0 then (J43 S12) else (chk (vp_in c1 24) (chk (vp_in (gi S12 67 (ix c1)) 24) (chk (vp_in c1 24) (nm (si S12 68 (ix c1) (gi S12 66 (ix (gi S12 67 (ix c1))))) fun S14 => J43 S14)))))))
noncomputable def f_Exchange_leaveInRings (S : AS) : Option (Int32 × AS) := nm (fun (S1 : AS) => nm (fun (a2 : Int32) (S3 : AS) => some (a2, S3)) fun J115 => f_Exchange_leaveInRings_L53 J115 FU 0 0 S1) fun J49 => f_Exchange_leaveInRings_L2 J49 FU 0 S
set_option maxHeartbeats 4000000 in
theorem v_Exchange_leaveInRings_L53 {G : GX} (J115 : Int32 → AS → Option (Int32 × AS)) (kJ115 : ∀ (a2 : Int32) (T : AS), V G md_Exchange_leaveInRings (QM G md_Exchange_leaveInRings iI) (fun _ => True) (some none) 115 [none, some (.int a2), none] [] 0 0 T (J115 a2 T)) : ∀ (n : Nat) (c1 : Int32) (c2 : Int32) (S : AS), V G md_Exchange_leaveInRings (QM G md_Exchange_leaveInRings iI) (fun _ => True) (some none) 53 [some (.ref 63), some (.int c1), some (.int c2)] [] 0 0 S (f_Exchange_leaveInRings_L53 J115 n c1 c2 S) := by
  intro n
  induction n with
  | zero => intro c1 c2 S; exact V.none
  | succ n ih =>
    intro c1 c2 S
    rw [f_Exchange_leaveInRings_L53]
    refine x_iload_n d_Exchange_leaveInRings_53 rfl ?_
    refine x_bipush (v := 24) d_Exchange_leaveInRings_54 (by decide) ?_
    refine x_icmp_ge (tgt := 115) d_Exchange_leaveInRings_56 (by decide) (fun _ => ?_) (fun _ => ?_)
    · exact V.kw (kJ115 c1 S) ⟨rfl, trivial⟩
    · refine x_aload_n_ref d_Exchange_leaveInRings_59 rfl ?_
      refine x_getr d_Exchange_leaveInRings_60 fl_Exchange_18 ak_63 (q99 (by decide)) (shx sh_63_2) ?_
      refine x_iload_n d_Exchange_leaveInRings_63 rfl ?_
      refine x_iald d_Exchange_leaveInRings_64 ak_66 (q99 (by decide)) ?_
      refine x_iconst (v := -1) d_Exchange_leaveInRings_65 (by decide) ?_
      refine x_nm (fun J109 hJ109 => ?_)
      have kJ109 : ∀ (a4 : Int32) (S5 : AS), V G md_Exchange_leaveInRings (QM G md_Exchange_leaveInRings iI) (fun _ => True) (some none) 109 [some (.ref 63), some (.int a4), some (.int c2)] [] 0 0 S5 (J109 a4 S5) := by
        subst hJ109
        intro a4 S5
        refine x_iinc (w := c2 + 1) (lc' := [some (.ref 63), some (.int a4), some (.int (c2 + 1))]) d_Exchange_leaveInRings_109 (by decide) rfl rfl rfl ?_
        refine x_goto (tgt := 53) d_Exchange_leaveInRings_112 (by decide) ?_
        exact V.kw (ih a4 (c2 + 1) S5) ⟨rfl, rfl, rfl, trivial⟩
      clear hJ109
      refine x_icmp_eq (tgt := 109) d_Exchange_leaveInRings_66 (by decide) (fun _ => ?_) (fun _ => ?_)
      · exact V.kw (kJ109 c1 S) ⟨rfl, rfl, rfl, trivial⟩
      · refine x_aload_n_ref d_Exchange_leaveInRings_69 rfl ?_
        refine x_getr d_Exchange_leaveInRings_70 fl_Exchange_24 ak_63 (q99 (by decide)) (shx sh_63_4) ?_
        refine x_iload_n d_Exchange_leaveInRings_73 rfl ?_
        refine x_iald d_Exchange_leaveInRings_74 ak_68 (q99 (by decide)) ?_
        refine x_iconst (v := -1) d_Exchange_leaveInRings_75 (by decide) ?_
        refine x_icmp_eq (tgt := 109) d_Exchange_leaveInRings_76 (by decide) (fun _ => ?_) (fun _ => ?_)
        · exact V.kw (kJ109 c1 S) ⟨rfl, rfl, rfl, trivial⟩
        · refine x_iload_n d_Exchange_leaveInRings_79 rfl ?_
          refine x_aload_n_ref d_Exchange_leaveInRings_80 rfl ?_
          refine x_getr d_Exchange_leaveInRings_81 fl_Exchange_24 ak_63 (q99 (by decide)) (shx sh_63_4) ?_
          refine x_iload_n d_Exchange_leaveInRings_84 rfl ?_
          refine x_iald d_Exchange_leaveInRings_85 ak_68 (q99 (by decide)) ?_
          refine x_aload_n_ref d_Exchange_leaveInRings_86 rfl ?_
          refine x_getr d_Exchange_leaveInRings_87 fl_Exchange_18 ak_63 (q99 (by decide)) (shx sh_63_2) ?_
          refine x_iload_n d_Exchange_leaveInRings_90 rfl ?_
          refine x_iald d_Exchange_leaveInRings_91 ak_66 (q99 (by decide)) ?_
          refine x_nm (fun J100 hJ100 => ?_)
          have kJ100 : ∀ (a6 : Int32) (a7 : Int32) (S8 : AS), V G md_Exchange_leaveInRings (QM G md_Exchange_leaveInRings iI) (fun _ => True) (some none) 100 [some (.ref 63), none, some (.int c2)] [.int a7, .int a6] 0 0 S8 (J100 a6 a7 S8) := by
            subst hJ100
            intro a6 a7 S8
            refine x_iadd d_Exchange_leaveInRings_100 ?_
            refine x_topi (fun v9 => ?_)
            refine x_istore_n (lc' := [some (.ref 63), some (.int v9), some (.int c2)]) d_Exchange_leaveInRings_101 (by decide) rfl ?_
            refine x_aload_n_ref d_Exchange_leaveInRings_102 rfl ?_
            refine x_getr d_Exchange_leaveInRings_103 fl_Exchange_18 ak_63 (q99 (by decide)) (shx sh_63_2) ?_
            refine x_iload_n d_Exchange_leaveInRings_106 rfl ?_
            refine x_iconst (v := -1) d_Exchange_leaveInRings_107 (by decide) ?_
            refine x_iast d_Exchange_leaveInRings_108 ak_66 (q99 (by decide)) ?_
            refine x_nmS (fun S10 _ => ?_)
            exact V.kw (kJ109 v9 S10) ⟨rfl, rfl, rfl, trivial⟩
          clear hJ100
          refine x_icmp_ne (tgt := 99) d_Exchange_leaveInRings_92 (by decide) (fun _ => ?_) (fun _ => ?_)
          · refine x_iconst (v := 1) d_Exchange_leaveInRings_99 (by decide) ?_
            exact V.kw (kJ100 c1 1 S) ⟨rfl, rfl, trivial⟩
          · refine x_iconst (v := 0) d_Exchange_leaveInRings_95 (by decide) ?_
            refine x_goto (tgt := 100) d_Exchange_leaveInRings_96 (by decide) ?_
            exact V.kw (kJ100 c1 0 S) ⟨rfl, rfl, trivial⟩
set_option maxHeartbeats 4000000 in
theorem v_Exchange_leaveInRings_L2 {G : GX} (J49 : AS → Option (Int32 × AS)) (kJ49 : ∀ (T : AS), V G md_Exchange_leaveInRings (QM G md_Exchange_leaveInRings iI) (fun _ => True) (some none) 49 [some (.ref 63), none, none] [] 0 0 T (J49 T)) : ∀ (n : Nat) (c1 : Int32) (S : AS), V G md_Exchange_leaveInRings (QM G md_Exchange_leaveInRings iI) (fun _ => True) (some none) 2 [some (.ref 63), some (.int c1), none] [] 0 0 S (f_Exchange_leaveInRings_L2 J49 n c1 S) := by
  intro n
  induction n with
  | zero => intro c1 S; exact V.none
  | succ n ih =>
    intro c1 S
    rw [f_Exchange_leaveInRings_L2]
    refine x_iload_n d_Exchange_leaveInRings_2 rfl ?_
    refine x_bipush (v := 24) d_Exchange_leaveInRings_3 (by decide) ?_
    refine x_icmp_ge (tgt := 49) d_Exchange_leaveInRings_5 (by decide) (fun _ => ?_) (fun _ => ?_)
    · exact V.kw (kJ49 S) ⟨rfl, trivial⟩
    · refine x_aload_n_ref d_Exchange_leaveInRings_8 rfl ?_
      refine x_getr d_Exchange_leaveInRings_9 fl_Exchange_21 ak_63 (q99 (by decide)) (shx sh_63_3) ?_
      refine x_iload_n d_Exchange_leaveInRings_12 rfl ?_
      refine x_iald d_Exchange_leaveInRings_13 ak_67 (q99 (by decide)) ?_
      refine x_iconst (v := -1) d_Exchange_leaveInRings_14 (by decide) ?_
      refine x_nm (fun J43 hJ43 => ?_)
      have kJ43 : ∀ (S11 : AS), V G md_Exchange_leaveInRings (QM G md_Exchange_leaveInRings iI) (fun _ => True) (some none) 43 [some (.ref 63), some (.int c1), none] [] 0 0 S11 (J43 S11) := by
        subst hJ43
        intro S11
        refine x_iinc (w := c1 + 1) (lc' := [some (.ref 63), some (.int (c1 + 1)), none]) d_Exchange_leaveInRings_43 (by decide) rfl rfl rfl ?_
        refine x_goto (tgt := 2) d_Exchange_leaveInRings_46 (by decide) ?_
        exact V.kw (ih (c1 + 1) S11) ⟨rfl, rfl, trivial⟩
      clear hJ43
      refine x_icmp_eq (tgt := 43) d_Exchange_leaveInRings_15 (by decide) (fun _ => ?_) (fun _ => ?_)
      · exact V.kw (kJ43 S) ⟨rfl, rfl, trivial⟩
      · refine x_aload_n_ref d_Exchange_leaveInRings_18 rfl ?_
        refine x_iload_n d_Exchange_leaveInRings_19 rfl ?_
        refine x_vI (b' := (some none)) (As := [.int c1]) d_Exchange_leaveInRings_20 mv_Exchange_48 rfl (fun _ => ak_63) rfl (q99 (by decide)) ⟨Nat.le_of_ble_eq_true rfl, Nat.le_of_ble_eq_true rfl⟩ (Nat.le_of_ble_eq_true rfl) ⟨Nat.le_of_ble_eq_true rfl, Nat.le_of_ble_eq_true rfl⟩ (fun _ h => h) (fun h => ⟨h, c_Exchange_isInRing c1 _⟩) (fun r13 S12 => ?_)
        refine x_if_eq (tgt := 43) d_Exchange_leaveInRings_23 (by decide) (fun _ => ?_) (fun _ => ?_)
        · exact V.kw (kJ43 S12) ⟨rfl, rfl, trivial⟩
        · refine x_aload_n_ref d_Exchange_leaveInRings_26 rfl ?_
          refine x_getr d_Exchange_leaveInRings_27 fl_Exchange_24 ak_63 (q99 (by decide)) (shx sh_63_4) ?_
          refine x_iload_n d_Exchange_leaveInRings_30 rfl ?_
          refine x_aload_n_ref d_Exchange_leaveInRings_31 rfl ?_
          refine x_getr d_Exchange_leaveInRings_32 fl_Exchange_18 ak_63 (q99 (by decide)) (shx sh_63_2) ?_
          refine x_aload_n_ref d_Exchange_leaveInRings_35 rfl ?_
          refine x_getr d_Exchange_leaveInRings_36 fl_Exchange_21 ak_63 (q99 (by decide)) (shx sh_63_3) ?_
          refine x_iload_n d_Exchange_leaveInRings_39 rfl ?_
          refine x_iald d_Exchange_leaveInRings_40 ak_67 (q99 (by decide)) ?_
          refine x_iald d_Exchange_leaveInRings_41 ak_66 (q99 (by decide)) ?_
          refine x_iast d_Exchange_leaveInRings_42 ak_68 (q99 (by decide)) ?_
          refine x_nmS (fun S14 _ => ?_)
          exact V.kw (kJ43 S14) ⟨rfl, rfl, trivial⟩
set_option maxHeartbeats 4000000 in
theorem v_Exchange_leaveInRings {G : GX} (S : AS) : V G md_Exchange_leaveInRings (QM G md_Exchange_leaveInRings iI) (fun _ => True) (some none) 0 [some (.ref 63), none, none] [] 0 0 S (f_Exchange_leaveInRings S) := by
  unfold f_Exchange_leaveInRings
  refine x_iconst (v := 0) d_Exchange_leaveInRings_0 (by decide) ?_
  refine x_istore_n (lc' := [some (.ref 63), some (.int 0), none]) d_Exchange_leaveInRings_1 (by decide) rfl ?_
  refine x_nm (fun J49 hJ49 => ?_)
  have kJ49 : ∀ (S1 : AS), V G md_Exchange_leaveInRings (QM G md_Exchange_leaveInRings iI) (fun _ => True) (some none) 49 [some (.ref 63), none, none] [] 0 0 S1 (J49 S1) := by
    subst hJ49
    intro S1
    refine x_iconst (v := 0) d_Exchange_leaveInRings_49 (by decide) ?_
    refine x_istore_n (lc' := [some (.ref 63), some (.int 0), none]) d_Exchange_leaveInRings_50 (by decide) rfl ?_
    refine x_iconst (v := 0) d_Exchange_leaveInRings_51 (by decide) ?_
    refine x_istore_n (lc' := [some (.ref 63), some (.int 0), some (.int 0)]) d_Exchange_leaveInRings_52 (by decide) rfl ?_
    refine x_nm (fun J115 hJ115 => ?_)
    have kJ115 : ∀ (a2 : Int32) (S3 : AS), V G md_Exchange_leaveInRings (QM G md_Exchange_leaveInRings iI) (fun _ => True) (some none) 115 [none, some (.int a2), none] [] 0 0 S3 (J115 a2 S3) := by
      subst hJ115
      intro a2 S3
      refine x_iload_n d_Exchange_leaveInRings_115 rfl ?_
      exact x_ret d_Exchange_leaveInRings_116 rfl rfl (Nat.le_of_ble_eq_true rfl) (Nat.le_of_ble_eq_true rfl)
    clear hJ115
    exact V.kw (v_Exchange_leaveInRings_L53 J115 kJ115 FU 0 0 S1) ⟨rfl, rfl, rfl, trivial⟩
  clear hJ49
  exact V.kw (v_Exchange_leaveInRings_L2 J49 kJ49 FU 0 S) ⟨rfl, rfl, trivial⟩
theorem c_Exchange_leaveInRings {G : GX} (S : AS) : CN G y_Exchange_leaveInRings b_Exchange_leaveInRings 3 (some (FieldType.int)) ({ frames := 1, cells := 0, slots := 0, locals := 23 } : Room) (some none) iI [.ref 63] S (f_Exchange_leaveInRings S) := cn_of_v (M := md_Exchange_leaveInRings) (ini := false) rfl (by decide +kernel) (fun h => nomatch h) rfl (Nat.le_of_ble_eq_true rfl) (v_Exchange_leaveInRings S)
noncomputable def f_Exchange_turn_50_L19 (J44 : Int32 → AS → Option (Int32 × AS)) : Nat → Int32 → Int32 → AS → Option (Int32 × AS)
  | 0, _, _, _ => none
  | n + 1, c3, c4, S => if 24 ≤ c4 then (J44 c3 S) else (bV (f_Exchange_pointAll_50 S) fun S5 => bI (f_Exchange_leaveInRings S5) fun r7 S6 => nm (c3 + r7) fun v8 => f_Exchange_turn_50_L19 J44 n v8 (c4 + 1) S6)
noncomputable def f_Exchange_turn_50 (p2 : Int32) (S : AS) : Option (Int32 × AS) := bV (f_Arrays_fill_i_68 (-1) S) fun S1 => bV (f_Exchange_offerSinglePosts_50 p2 S1) fun S2 => nm (fun (a3 : Int32) (S4 : AS) => some (a3, S4)) fun J44 => f_Exchange_turn_50_L19 J44 FU 0 0 S2
set_option maxHeartbeats 4000000 in
theorem v_Exchange_turn_50_L19 {G : GX} (J44 : Int32 → AS → Option (Int32 × AS)) (kJ44 : ∀ (a3 : Int32) (T : AS), V G md_Exchange_turn (QM G md_Exchange_turn iI) (fun _ => True) (some none) 44 [none, none, none, some (.int a3), none] [] 0 0 T (J44 a3 T)) : ∀ (n : Nat) (c3 : Int32) (c4 : Int32) (S : AS), V G md_Exchange_turn (QM G md_Exchange_turn iI) (fun _ => True) (some none) 19 [some (.ref 63), some (.ref 50), none, some (.int c3), some (.int c4)] [] 0 0 S (f_Exchange_turn_50_L19 J44 n c3 c4 S) := by
  intro n
  induction n with
  | zero => intro c3 c4 S; exact V.none
  | succ n ih =>
    intro c3 c4 S
    rw [f_Exchange_turn_50_L19]
    refine x_iload d_Exchange_turn_19 rfl ?_
    refine x_bipush (v := 24) d_Exchange_turn_21 (by decide) ?_
    refine x_icmp_ge (tgt := 44) d_Exchange_turn_23 (by decide) (fun _ => ?_) (fun _ => ?_)
    · exact V.kw (kJ44 c3 S) ⟨rfl, trivial⟩
    · refine x_aload_n_ref d_Exchange_turn_26 rfl ?_
      refine x_aload_n_ref d_Exchange_turn_27 rfl ?_
      refine x_vV (b' := (some none)) (As := [.ref 50]) d_Exchange_turn_28 mv_Exchange_36 rfl (fun _ => ak_63) rfl (q99 (by decide)) ⟨Nat.le_of_ble_eq_true rfl, Nat.le_of_ble_eq_true rfl⟩ (Nat.le_of_ble_eq_true rfl) ⟨Nat.le_of_ble_eq_true rfl, Nat.le_of_ble_eq_true rfl⟩ (fun _ h => h) (fun h => ⟨h, c_Exchange_pointAll_50 _⟩) (fun S5 => ?_)
      refine x_iload_n d_Exchange_turn_31 rfl ?_
      refine x_aload_n_ref d_Exchange_turn_32 rfl ?_
      refine x_vI (b' := (some none)) (As := []) d_Exchange_turn_33 mv_Exchange_40 rfl (fun _ => ak_63) rfl (q99 (by decide)) ⟨Nat.le_of_ble_eq_true rfl, Nat.le_of_ble_eq_true rfl⟩ (Nat.le_of_ble_eq_true rfl) ⟨Nat.le_of_ble_eq_true rfl, Nat.le_of_ble_eq_true rfl⟩ (fun _ h => h) (fun h => ⟨h, c_Exchange_leaveInRings _⟩) (fun r7 S6 => ?_)
      refine x_iadd d_Exchange_turn_36 ?_
      refine x_topi (fun v8 => ?_)
      refine x_istore_n (lc' := [some (.ref 63), some (.ref 50), none, some (.int v8), some (.int c4)]) d_Exchange_turn_37 (by decide) rfl ?_
      refine x_iinc (w := c4 + 1) (lc' := [some (.ref 63), some (.ref 50), none, some (.int v8), some (.int (c4 + 1))]) d_Exchange_turn_38 (by decide) rfl rfl rfl ?_
      refine x_goto (tgt := 19) d_Exchange_turn_41 (by decide) ?_
      exact V.kw (ih v8 (c4 + 1) S6) ⟨rfl, rfl, rfl, rfl, trivial⟩
set_option maxHeartbeats 4000000 in
theorem v_Exchange_turn_50 {G : GX} (p2 : Int32) (S : AS) : V G md_Exchange_turn (QM G md_Exchange_turn iI) (fun _ => True) (some none) 0 [some (.ref 63), some (.ref 50), some (.int p2), none, none] [] 0 0 S (f_Exchange_turn_50 p2 S) := by
  unfold f_Exchange_turn_50
  refine x_aload_n_ref d_Exchange_turn_0 rfl ?_
  refine x_getr d_Exchange_turn_1 fl_Exchange_24 ak_63 (q99 (by decide)) (shx sh_63_4) ?_
  refine x_iconst (v := -1) d_Exchange_turn_4 (by decide) ?_
  refine x_sV (b' := (some none)) (As := [.ref 68, .int (-1)]) d_Exchange_turn_5 ms_Exchange_27 rfl ⟨Nat.le_of_ble_eq_true rfl, Nat.le_of_ble_eq_true rfl⟩ (Nat.le_of_ble_eq_true rfl) ⟨Nat.le_of_ble_eq_true rfl, Nat.le_of_ble_eq_true rfl⟩ (fun _ h => h) (fun h => ⟨h, c_Arrays_fill_i_68 (-1) _⟩) (fun S1 => ?_)
  refine x_aload_n_ref d_Exchange_turn_8 rfl ?_
  refine x_aload_n_ref d_Exchange_turn_9 rfl ?_
  refine x_iload_n d_Exchange_turn_10 rfl ?_
  refine x_vV (b' := (some none)) (As := [.ref 50, .int p2]) d_Exchange_turn_11 mv_Exchange_33 rfl (fun _ => ak_63) rfl (q99 (by decide)) ⟨Nat.le_of_ble_eq_true rfl, Nat.le_of_ble_eq_true rfl⟩ (Nat.le_of_ble_eq_true rfl) ⟨Nat.le_of_ble_eq_true rfl, Nat.le_of_ble_eq_true rfl⟩ (fun _ h => h) (fun h => ⟨h, c_Exchange_offerSinglePosts_50 p2 _⟩) (fun S2 => ?_)
  refine x_iconst (v := 0) d_Exchange_turn_14 (by decide) ?_
  refine x_istore_n (lc' := [some (.ref 63), some (.ref 50), some (.int p2), some (.int 0), none]) d_Exchange_turn_15 (by decide) rfl ?_
  refine x_iconst (v := 0) d_Exchange_turn_16 (by decide) ?_
  refine x_istore (lc' := [some (.ref 63), some (.ref 50), some (.int p2), some (.int 0), some (.int 0)]) d_Exchange_turn_17 (by decide) rfl ?_
  refine x_nm (fun J44 hJ44 => ?_)
  have kJ44 : ∀ (a3 : Int32) (S4 : AS), V G md_Exchange_turn (QM G md_Exchange_turn iI) (fun _ => True) (some none) 44 [none, none, none, some (.int a3), none] [] 0 0 S4 (J44 a3 S4) := by
    subst hJ44
    intro a3 S4
    refine x_iload_n d_Exchange_turn_44 rfl ?_
    exact x_ret d_Exchange_turn_45 rfl rfl (Nat.le_of_ble_eq_true rfl) (Nat.le_of_ble_eq_true rfl)
  clear hJ44
  exact V.kw (v_Exchange_turn_50_L19 J44 kJ44 FU 0 0 S2) ⟨rfl, rfl, rfl, rfl, trivial⟩
theorem c_Exchange_turn_50 {G : GX} (p2 : Int32) (S : AS) : CN G y_Exchange_turn b_Exchange_turn 5 (some (FieldType.int)) ({ frames := 2, cells := 0, slots := 0, locals := 49 } : Room) (some none) iI [.ref 63, .ref 50, .int p2] S (f_Exchange_turn_50 p2 S) := cn_of_v (M := md_Exchange_turn) (ini := false) rfl (by decide +kernel) (fun h => nomatch h) rfl (Nat.le_of_ble_eq_true rfl) (v_Exchange_turn_50 p2 S)
noncomputable def f_Chan_rings (S : AS) : Option (Int32 × AS) := bI (f_Chan_knownNow S) fun r2 S1 => bV (f_Course_tell r2 9999999 S1) fun S3 => bI (f_Exchange_turn_50 (gi S3 16 7) S3) fun r5 S4 => some (r5, S4)
set_option maxHeartbeats 4000000 in
theorem v_Chan_rings {G : GX} (S : AS) : V G md_Chan_rings (QM G md_Chan_rings iI) (fun _ => True) (some none) 0 [some (.ref 0)] [] 0 0 S (f_Chan_rings S) := by
  unfold f_Chan_rings
  refine x_aload_n_ref d_Chan_rings_0 rfl ?_
  refine x_getr d_Chan_rings_1 fl_Chan_58 ak_0 (q99 (by decide)) (shx sh_0_6) ?_
  refine x_aload_n_ref d_Chan_rings_4 rfl ?_
  refine x_vI (b' := (some none)) (As := []) d_Chan_rings_5 mv_Chan_172 rfl (fun _ => ak_0) rfl (q99 (by decide)) ⟨Nat.le_of_ble_eq_true rfl, Nat.le_of_ble_eq_true rfl⟩ (Nat.le_of_ble_eq_true rfl) ⟨Nat.le_of_ble_eq_true rfl, Nat.le_of_ble_eq_true rfl⟩ (fun _ h => h) (fun h => ⟨h, c_Chan_knownNow _⟩) (fun r2 S1 => ?_)
  refine x_ldc (v := 9999999) (List.mem_append_right _ (List.mem_append_right _ (List.mem_append_right _ (List.mem_append_left _ (List.mem_of_getElem? (i := 147) (by decide +kernel)))))) d_Chan_rings_8 ?_
  refine x_vV (b' := (some none)) (As := [.int r2, .int 9999999]) d_Chan_rings_10 mv_Chan_176 rfl (fun _ => ak_49) rfl (q99 (by decide)) ⟨Nat.le_of_ble_eq_true rfl, Nat.le_of_ble_eq_true rfl⟩ (Nat.le_of_ble_eq_true rfl) ⟨Nat.le_of_ble_eq_true rfl, Nat.le_of_ble_eq_true rfl⟩ (fun _ h => h) (fun h => ⟨h, c_Course_tell r2 9999999 _⟩) (fun S3 => ?_)
  refine x_aload_n_ref d_Chan_rings_13 rfl ?_
  refine x_getr d_Chan_rings_14 fl_Chan_74 ak_0 (q99 (by decide)) (shx sh_0_8) ?_
  refine x_aload_n_ref d_Chan_rings_17 rfl ?_
  refine x_getr d_Chan_rings_18 fl_Chan_58 ak_0 (q99 (by decide)) (shx sh_0_6) ?_
  refine x_getr d_Chan_rings_21 fl_Chan_179 ak_49 (q99 (by decide)) (shx sh_49_4) ?_
  refine x_aload_n_ref d_Chan_rings_24 rfl ?_
  refine x_getr d_Chan_rings_25 fl_Chan_28 ak_0 (q99 (by decide)) (shx sh_0_2) ?_
  refine x_geti d_Chan_rings_28 fl_Chan_237 ak_16 (q99 (by decide)) ?_
  refine x_vI (b' := (some none)) (As := [.ref 50, .int (gi S3 16 7)]) d_Chan_rings_31 mv_Chan_250 rfl (fun _ => ak_63) rfl (q99 (by decide)) ⟨Nat.le_of_ble_eq_true rfl, Nat.le_of_ble_eq_true rfl⟩ (Nat.le_of_ble_eq_true rfl) ⟨Nat.le_of_ble_eq_true rfl, Nat.le_of_ble_eq_true rfl⟩ (fun _ h => h) (fun h => ⟨h, c_Exchange_turn_50 (gi S3 16 7) _⟩) (fun r5 S4 => ?_)
  exact x_ret d_Chan_rings_34 rfl rfl (Nat.le_of_ble_eq_true rfl) (Nat.le_of_ble_eq_true rfl)
theorem c_Chan_rings {G : GX} (S : AS) : CN G y_Chan_rings b_Chan_rings 1 (some (FieldType.int)) ({ frames := 7, cells := 0, slots := 0, locals := 167 } : Room) (some none) iI [.ref 0] S (f_Chan_rings S) := cn_of_v (M := md_Chan_rings) (ini := false) rfl (by decide +kernel) (fun h => nomatch h) rfl (Nat.le_of_ble_eq_true rfl) (v_Chan_rings S)
noncomputable def f_Chan_got (p1 : Int32) (S : AS) : Option (Int32 × AS) := bI (f_Roll_isPerson p1 S) fun r2 S1 => if r2 = 0 then (some ((-1), S1)) else (chk (vp_in p1 24) (some (gi S1 68 (ix p1), S1)))
set_option maxHeartbeats 4000000 in
theorem v_Chan_got {G : GX} (p1 : Int32) (S : AS) : V G md_Chan_got (QM G md_Chan_got iI) (fun _ => True) (some none) 0 [some (.ref 0), some (.int p1)] [] 0 0 S (f_Chan_got p1 S) := by
  unfold f_Chan_got
  refine x_aload_n_ref d_Chan_got_0 rfl ?_
  refine x_getr d_Chan_got_1 fl_Chan_28 ak_0 (q99 (by decide)) (shx sh_0_2) ?_
  refine x_iload_n d_Chan_got_4 rfl ?_
  refine x_vI (b' := (some none)) (As := [.int p1]) d_Chan_got_5 mv_Chan_116 rfl (fun _ => ak_16) rfl (q99 (by decide)) ⟨Nat.le_of_ble_eq_true rfl, Nat.le_of_ble_eq_true rfl⟩ (Nat.le_of_ble_eq_true rfl) ⟨Nat.le_of_ble_eq_true rfl, Nat.le_of_ble_eq_true rfl⟩ (fun _ h => h) (fun h => ⟨h, c_Roll_isPerson p1 _⟩) (fun r2 S1 => ?_)
  refine x_if_eq (tgt := 23) d_Chan_got_8 (by decide) (fun _ => ?_) (fun _ => ?_)
  · refine x_iconst (v := -1) d_Chan_got_23 (by decide) ?_
    exact x_ret d_Chan_got_24 rfl rfl (Nat.le_of_ble_eq_true rfl) (Nat.le_of_ble_eq_true rfl)
  · refine x_aload_n_ref d_Chan_got_11 rfl ?_
    refine x_getr d_Chan_got_12 fl_Chan_74 ak_0 (q99 (by decide)) (shx sh_0_8) ?_
    refine x_getr d_Chan_got_15 fl_Chan_254 ak_63 (q99 (by decide)) (shx sh_63_4) ?_
    refine x_iload_n d_Chan_got_18 rfl ?_
    refine x_iald d_Chan_got_19 ak_68 (q99 (by decide)) ?_
    refine x_goto (tgt := 24) d_Chan_got_20 (by decide) ?_
    exact x_ret d_Chan_got_24 rfl rfl (Nat.le_of_ble_eq_true rfl) (Nat.le_of_ble_eq_true rfl)
theorem c_Chan_got {G : GX} (p1 : Int32) (S : AS) : CN G y_Chan_got b_Chan_got 2 (some (FieldType.int)) ({ frames := 1, cells := 0, slots := 0, locals := 21 } : Room) (some none) iI [.ref 0, .int p1] S (f_Chan_got p1 S) := cn_of_v (M := md_Chan_got) (ini := false) rfl (by decide +kernel) (fun h => nomatch h) rfl (Nat.le_of_ble_eq_true rfl) (v_Chan_got p1 S)
