noncomputable def f_RuleReader_readRule (S : AS) : Option (Int32 × AS) := bI (f_RuleBook_isFull 4 S) fun r2 S1 => if r2 = 0 then (if (gi S1 3 3) = 11 then (bV (f_RuleBook_addRule 4 11 0 S1) fun S10 => bV (f_RuleReader_advance S10) fun S11 => bI (f_RuleReader_readTests 6 S11) fun r13 S12 => nm (fun (S14 : AS) => some (0, S14)) fun J61 => if r13 = 0 then (J61 S12) else (bI (f_RuleReader_pass 17 S12) fun r16 S15 => if r16 = 0 then (J61 S15) else (some (1, S15)))) else (bI (f_RuleReader_readKey S1) fun r4 S3 => nm (fun (S5 : AS) => some (0, S5)) fun J90 => if r4 = 0 then (J90 S3) else (bI (f_RuleReader_readCondition S3) fun r7 S6 => if r7 = 0 then (J90 S6) else (bI (f_RuleReader_pass 17 S6) fun r9 S8 => if r9 = 0 then (J90 S8) else (some (1, S8)))))) else (bI (f_RuleReader_failWith 1 S1) fun r18 S17 => chk (isb r18) (some (r18, S17)))
set_option maxHeartbeats 4000000 in
theorem v_RuleReader_readRule {G : GX} (S : AS) : V G md_RuleReader_readRule (QM G md_RuleReader_readRule iI) (fun _ => True) (some none) 0 [some (.ref 3)] [] 0 0 S (f_RuleReader_readRule S) := by
  unfold f_RuleReader_readRule
  refine x_aload_n_ref d_RuleReader_readRule_0 rfl ?_
  refine x_getr d_RuleReader_readRule_1 fl_RuleReader_12 ak_3 (q99 (by decide)) (shx sh_3_1) ?_
  refine x_vI (b' := (some (some 4))) (As := []) d_RuleReader_readRule_4 mv_RuleReader_60 rfl (fun _ => ak_4) rfl (q99 (by decide)) ⟨Nat.le_of_ble_eq_true rfl, Nat.le_of_ble_eq_true rfl⟩ (Nat.le_of_ble_eq_true rfl) ⟨Nat.le_of_ble_eq_true rfl, Nat.le_of_ble_eq_true rfl⟩ (fun _ h => h.1) (fun h => ⟨sp_bk (Or.inl rfl) h, c_RuleBook_isFull 4 (Or.inl rfl) _⟩) (fun r2 S1 => ?_)
  refine x_if_eq (tgt := 16) d_RuleReader_readRule_7 (by decide) (fun _ => ?_) (fun _ => ?_)
  · refine x_aload_n_ref d_RuleReader_readRule_16 rfl ?_
    refine x_geti d_RuleReader_readRule_17 fl_RuleReader_47 ak_3 (q99 (by decide)) ?_
    refine x_bipush (v := 11) d_RuleReader_readRule_20 (by decide) ?_
    refine x_icmp_ne (tgt := 63) d_RuleReader_readRule_22 (by decide) (fun _ => ?_) (fun _ => ?_)
    · refine x_aload_n_ref d_RuleReader_readRule_63 rfl ?_
      refine x_vI (b' := (some none)) (As := []) d_RuleReader_readRule_64 mv_RuleReader_80 rfl (fun _ => ak_3) rfl (q99 (by decide)) ⟨Nat.le_of_ble_eq_true rfl, Nat.le_of_ble_eq_true rfl⟩ (Nat.le_of_ble_eq_true rfl) ⟨Nat.le_of_ble_eq_true rfl, Nat.le_of_ble_eq_true rfl⟩ (fun _ h => h) (fun h => ⟨h, c_RuleReader_readKey _⟩) (fun r4 S3 => ?_)
      refine x_nm (fun J90 hJ90 => ?_)
      have kJ90 : ∀ (S5 : AS), V G md_RuleReader_readRule (QM G md_RuleReader_readRule iI) (fun _ => True) (some none) 90 [none] [] 0 0 S5 (J90 S5) := by
        subst hJ90
        intro S5
        refine x_iconst (v := 0) d_RuleReader_readRule_90 (by decide) ?_
        exact x_ret d_RuleReader_readRule_91 rfl rfl (Nat.le_of_ble_eq_true rfl) (Nat.le_of_ble_eq_true rfl)
      clear hJ90
      refine x_if_eq (tgt := 90) d_RuleReader_readRule_67 (by decide) (fun _ => ?_) (fun _ => ?_)
      · exact V.kw (kJ90 S3) trivial
      · refine x_aload_n_ref d_RuleReader_readRule_70 rfl ?_
        refine x_vI (b' := (some none)) (As := []) d_RuleReader_readRule_71 mv_RuleReader_83 rfl (fun _ => ak_3) rfl (q99 (by decide)) ⟨Nat.le_of_ble_eq_true rfl, Nat.le_of_ble_eq_true rfl⟩ (Nat.le_of_ble_eq_true rfl) ⟨Nat.le_of_ble_eq_true rfl, Nat.le_of_ble_eq_true rfl⟩ (fun _ h => h) (fun h => ⟨h, c_RuleReader_readCondition _⟩) (fun r7 S6 => ?_)
        refine x_if_eq (tgt := 90) d_RuleReader_readRule_74 (by decide) (fun _ => ?_) (fun _ => ?_)
        · exact V.kw (kJ90 S6) trivial
        · refine x_aload_n_ref d_RuleReader_readRule_77 rfl ?_
          refine x_bipush (v := 17) d_RuleReader_readRule_78 (by decide) ?_
          refine x_vI (b' := (some none)) (As := [.int 17]) d_RuleReader_readRule_80 mv_RuleReader_77 rfl (fun _ => ak_3) rfl (q99 (by decide)) ⟨Nat.le_of_ble_eq_true rfl, Nat.le_of_ble_eq_true rfl⟩ (Nat.le_of_ble_eq_true rfl) ⟨Nat.le_of_ble_eq_true rfl, Nat.le_of_ble_eq_true rfl⟩ (fun _ h => h) (fun h => ⟨h, c_RuleReader_pass 17 _⟩) (fun r9 S8 => ?_)
          refine x_if_eq (tgt := 90) d_RuleReader_readRule_83 (by decide) (fun _ => ?_) (fun _ => ?_)
          · exact V.kw (kJ90 S8) trivial
          · refine x_iconst (v := 1) d_RuleReader_readRule_86 (by decide) ?_
            refine x_goto (tgt := 91) d_RuleReader_readRule_87 (by decide) ?_
            exact x_ret d_RuleReader_readRule_91 rfl rfl (Nat.le_of_ble_eq_true rfl) (Nat.le_of_ble_eq_true rfl)
    · refine x_aload_n_ref d_RuleReader_readRule_25 rfl ?_
      refine x_getr d_RuleReader_readRule_26 fl_RuleReader_12 ak_3 (q99 (by decide)) (shx sh_3_1) ?_
      refine x_bipush (v := 11) d_RuleReader_readRule_29 (by decide) ?_
      refine x_iconst (v := 0) d_RuleReader_readRule_31 (by decide) ?_
      refine x_vV (b' := (some (some 4))) (As := [.int 11, .int 0]) d_RuleReader_readRule_32 mv_RuleReader_67 rfl (fun _ => ak_4) rfl (q99 (by decide)) ⟨Nat.le_of_ble_eq_true rfl, Nat.le_of_ble_eq_true rfl⟩ (Nat.le_of_ble_eq_true rfl) ⟨Nat.le_of_ble_eq_true rfl, Nat.le_of_ble_eq_true rfl⟩ (fun _ h => h.1) (fun h => ⟨sp_bk (Or.inl rfl) h, c_RuleBook_addRule 4 (Or.inl rfl) 11 0 _⟩) (fun S10 => ?_)
      refine x_aload_n_ref d_RuleReader_readRule_35 rfl ?_
      refine x_vV (b' := (some none)) (As := []) d_RuleReader_readRule_36 mv_RuleReader_71 rfl (fun _ => ak_3) rfl (q99 (by decide)) ⟨Nat.le_of_ble_eq_true rfl, Nat.le_of_ble_eq_true rfl⟩ (Nat.le_of_ble_eq_true rfl) ⟨Nat.le_of_ble_eq_true rfl, Nat.le_of_ble_eq_true rfl⟩ (fun _ h => h) (fun h => ⟨h, c_RuleReader_advance _⟩) (fun S11 => ?_)
      refine x_aload_n_ref d_RuleReader_readRule_39 rfl ?_
      refine x_bipush (v := 6) d_RuleReader_readRule_40 (by decide) ?_
      refine x_vI (b' := (some none)) (As := [.int 6]) d_RuleReader_readRule_42 mv_RuleReader_74 rfl (fun _ => ak_3) rfl (q99 (by decide)) ⟨Nat.le_of_ble_eq_true rfl, Nat.le_of_ble_eq_true rfl⟩ (Nat.le_of_ble_eq_true rfl) ⟨Nat.le_of_ble_eq_true rfl, Nat.le_of_ble_eq_true rfl⟩ (fun _ h => h) (fun h => ⟨h, c_RuleReader_readTests 6 _⟩) (fun r13 S12 => ?_)
      refine x_nm (fun J61 hJ61 => ?_)
      have kJ61 : ∀ (S14 : AS), V G md_RuleReader_readRule (QM G md_RuleReader_readRule iI) (fun _ => True) (some none) 61 [none] [] 0 0 S14 (J61 S14) := by
        subst hJ61
        intro S14
        refine x_iconst (v := 0) d_RuleReader_readRule_61 (by decide) ?_
        exact x_ret d_RuleReader_readRule_62 rfl rfl (Nat.le_of_ble_eq_true rfl) (Nat.le_of_ble_eq_true rfl)
      clear hJ61
      refine x_if_eq (tgt := 61) d_RuleReader_readRule_45 (by decide) (fun _ => ?_) (fun _ => ?_)
      · exact V.kw (kJ61 S12) trivial
      · refine x_aload_n_ref d_RuleReader_readRule_48 rfl ?_
        refine x_bipush (v := 17) d_RuleReader_readRule_49 (by decide) ?_
        refine x_vI (b' := (some none)) (As := [.int 17]) d_RuleReader_readRule_51 mv_RuleReader_77 rfl (fun _ => ak_3) rfl (q99 (by decide)) ⟨Nat.le_of_ble_eq_true rfl, Nat.le_of_ble_eq_true rfl⟩ (Nat.le_of_ble_eq_true rfl) ⟨Nat.le_of_ble_eq_true rfl, Nat.le_of_ble_eq_true rfl⟩ (fun _ h => h) (fun h => ⟨h, c_RuleReader_pass 17 _⟩) (fun r16 S15 => ?_)
        refine x_if_eq (tgt := 61) d_RuleReader_readRule_54 (by decide) (fun _ => ?_) (fun _ => ?_)
        · exact V.kw (kJ61 S15) trivial
        · refine x_iconst (v := 1) d_RuleReader_readRule_57 (by decide) ?_
          refine x_goto (tgt := 62) d_RuleReader_readRule_58 (by decide) ?_
          exact x_ret d_RuleReader_readRule_62 rfl rfl (Nat.le_of_ble_eq_true rfl) (Nat.le_of_ble_eq_true rfl)
  · refine x_aload_n_ref d_RuleReader_readRule_10 rfl ?_
    refine x_iconst (v := 1) d_RuleReader_readRule_11 (by decide) ?_
    refine x_vI (b' := (some none)) (As := [.int 1]) d_RuleReader_readRule_12 mv_RuleReader_63 rfl (fun _ => ak_3) rfl (q99 (by decide)) ⟨Nat.le_of_ble_eq_true rfl, Nat.le_of_ble_eq_true rfl⟩ (Nat.le_of_ble_eq_true rfl) ⟨Nat.le_of_ble_eq_true rfl, Nat.le_of_ble_eq_true rfl⟩ (fun _ h => h) (fun h => ⟨h, c_RuleReader_failWith 1 _⟩) (fun r18 S17 => ?_)
    exact x_zretc d_RuleReader_readRule_15 rfl (Nat.le_of_ble_eq_true rfl) (Nat.le_of_ble_eq_true rfl)
theorem c_RuleReader_readRule {G : GX} (S : AS) : CN G y_RuleReader_readRule b_RuleReader_readRule 1 (some (FieldType.boolean)) ({ frames := 5, cells := 0, slots := 0, locals := 108 } : Room) (some none) iI [.ref 3] S (f_RuleReader_readRule S) := cn_of_v (M := md_RuleReader_readRule) (ini := false) rfl (by decide +kernel) (fun h => nomatch h) rfl (Nat.le_of_ble_eq_true rfl) (v_RuleReader_readRule S)
noncomputable def f_RuleReader_read_L46 (J76 : Int32 → AS → Option (Int32 × AS)) : Nat → Int32 → Int32 → AS → Option (Int32 × AS)
  | 0, _, _, _ => none
  | n + 1, c1, c2, S => if 16 < c2 then (J76 c1 S) else (if c1 = 0 then (J76 c1 S) else (if (gi S 3 3) = 19 then (J76 c1 S) else (bI (f_RuleReader_readRule S) fun r10 S9 => f_RuleReader_read_L46 J76 n r10 (c2 + 1) S9)))
noncomputable def f_RuleReader_read (S : AS) : Option (Int32 × AS) := nm (si S 3 4 0) fun S1 => nm (si S1 3 5 (-1)) fun S2 => bV (f_RuleBook_clear 4 S2) fun S3 => bV (f_TokenRow_scan S3) fun S4 => nm (si S4 3 2 0) fun S5 => chk (vp_in 0 401) (nm (si S5 3 3 (gi S5 13 (ix 0))) fun S6 => nm (fun (a7 : Int32) (S8 : AS) => chk (isb a7) (some (a7, S8))) fun J76 => f_RuleReader_read_L46 J76 FU 1 0 S6)
set_option maxHeartbeats 4000000 in
theorem v_RuleReader_read_L46 {G : GX} (J76 : Int32 → AS → Option (Int32 × AS)) (kJ76 : ∀ (a7 : Int32) (T : AS), V G md_RuleReader_read (QM G md_RuleReader_read iI) (fun _ => True) (some none) 76 [none, some (.int a7), none] [] 0 0 T (J76 a7 T)) : ∀ (n : Nat) (c1 : Int32) (c2 : Int32) (S : AS), V G md_RuleReader_read (QM G md_RuleReader_read iI) (fun _ => True) (some none) 46 [some (.ref 3), some (.int c1), some (.int c2)] [] 0 0 S (f_RuleReader_read_L46 J76 n c1 c2 S) := by
  intro n
  induction n with
  | zero => intro c1 c2 S; exact V.none
  | succ n ih =>
    intro c1 c2 S
    rw [f_RuleReader_read_L46]
    refine x_iload_n d_RuleReader_read_46 rfl ?_
    refine x_bipush (v := 16) d_RuleReader_read_47 (by decide) ?_
    refine x_icmp_gt (tgt := 76) d_RuleReader_read_49 (by decide) (fun _ => ?_) (fun _ => ?_)
    · exact V.kw (kJ76 c1 S) ⟨rfl, trivial⟩
    · refine x_iload_n d_RuleReader_read_52 rfl ?_
      refine x_if_eq (tgt := 76) d_RuleReader_read_53 (by decide) (fun _ => ?_) (fun _ => ?_)
      · exact V.kw (kJ76 c1 S) ⟨rfl, trivial⟩
      · refine x_aload_n_ref d_RuleReader_read_56 rfl ?_
        refine x_geti d_RuleReader_read_57 fl_RuleReader_47 ak_3 (q99 (by decide)) ?_
        refine x_bipush (v := 19) d_RuleReader_read_60 (by decide) ?_
        refine x_icmp_eq (tgt := 76) d_RuleReader_read_62 (by decide) (fun _ => ?_) (fun _ => ?_)
        · exact V.kw (kJ76 c1 S) ⟨rfl, trivial⟩
        · refine x_aload_n_ref d_RuleReader_read_65 rfl ?_
          refine x_vI (b' := (some none)) (As := []) d_RuleReader_read_66 mv_RuleReader_50 rfl (fun _ => ak_3) rfl (q99 (by decide)) ⟨Nat.le_of_ble_eq_true rfl, Nat.le_of_ble_eq_true rfl⟩ (Nat.le_of_ble_eq_true rfl) ⟨Nat.le_of_ble_eq_true rfl, Nat.le_of_ble_eq_true rfl⟩ (fun _ h => h) (fun h => ⟨h, c_RuleReader_readRule _⟩) (fun r10 S9 => ?_)
          refine x_istore_n (lc' := [some (.ref 3), some (.int r10), some (.int c2)]) d_RuleReader_read_69 (by decide) rfl ?_
          refine x_iinc (w := c2 + 1) (lc' := [some (.ref 3), some (.int r10), some (.int (c2 + 1))]) d_RuleReader_read_70 (by decide) rfl rfl rfl ?_
          refine x_goto (tgt := 46) d_RuleReader_read_73 (by decide) ?_
          exact V.kw (ih r10 (c2 + 1) S9) ⟨rfl, rfl, rfl, trivial⟩
set_option maxHeartbeats 4000000 in
theorem v_RuleReader_read {G : GX} (S : AS) : V G md_RuleReader_read (QM G md_RuleReader_read iI) (fun _ => True) (some none) 0 [some (.ref 3), none, none] [] 0 0 S (f_RuleReader_read S) := by
  unfold f_RuleReader_read
  refine x_aload_n_ref d_RuleReader_read_0 rfl ?_
  refine x_iconst (v := 0) d_RuleReader_read_1 (by decide) ?_
  refine x_puti d_RuleReader_read_2 fl_RuleReader_31 rfl ak_3 (q99 (by decide)) (fun h => nomatch h) (fun h => nomatch h) ?_
  refine x_nmS (fun S1 _ => ?_)
  refine x_aload_n_ref d_RuleReader_read_5 rfl ?_
  refine x_iconst (v := -1) d_RuleReader_read_6 (by decide) ?_
  refine x_puti d_RuleReader_read_7 fl_RuleReader_27 rfl ak_3 (q99 (by decide)) (fun h => nomatch h) (fun h => nomatch h) ?_
  refine x_nmS (fun S2 _ => ?_)
  refine x_aload_n_ref d_RuleReader_read_10 rfl ?_
  refine x_getr d_RuleReader_read_11 fl_RuleReader_12 ak_3 (q99 (by decide)) (shx sh_3_1) ?_
  refine x_vV (b' := (some (some 4))) (As := []) d_RuleReader_read_14 mv_RuleReader_34 rfl (fun _ => ak_4) rfl (q99 (by decide)) ⟨Nat.le_of_ble_eq_true rfl, Nat.le_of_ble_eq_true rfl⟩ (Nat.le_of_ble_eq_true rfl) ⟨Nat.le_of_ble_eq_true rfl, Nat.le_of_ble_eq_true rfl⟩ (fun _ h => h.1) (fun h => ⟨sp_bk (Or.inl rfl) h, c_RuleBook_clear 4 (Or.inl rfl) _⟩) (fun S3 => ?_)
  refine x_aload_n_ref d_RuleReader_read_17 rfl ?_
  refine x_getr d_RuleReader_read_18 fl_RuleReader_23 ak_3 (q99 (by decide)) (shx sh_3_0) ?_
  refine x_vV (b' := (some none)) (As := []) d_RuleReader_read_21 mv_RuleReader_37 rfl (fun _ => ak_12) rfl (q99 (by decide)) ⟨Nat.le_of_ble_eq_true rfl, Nat.le_of_ble_eq_true rfl⟩ (Nat.le_of_ble_eq_true rfl) ⟨Nat.le_of_ble_eq_true rfl, Nat.le_of_ble_eq_true rfl⟩ (fun _ h => h) (fun h => ⟨h, c_TokenRow_scan _⟩) (fun S4 => ?_)
  refine x_aload_n_ref d_RuleReader_read_24 rfl ?_
  refine x_iconst (v := 0) d_RuleReader_read_25 (by decide) ?_
  refine x_puti d_RuleReader_read_26 fl_RuleReader_40 rfl ak_3 (q99 (by decide)) (fun h => nomatch h) (fun h => nomatch h) ?_
  refine x_nmS (fun S5 _ => ?_)
  refine x_aload_n_ref d_RuleReader_read_29 rfl ?_
  refine x_aload_n_ref d_RuleReader_read_30 rfl ?_
  refine x_getr d_RuleReader_read_31 fl_RuleReader_23 ak_3 (q99 (by decide)) (shx sh_3_0) ?_
  refine x_getr d_RuleReader_read_34 fl_RuleReader_43 ak_12 (q99 (by decide)) (shx sh_12_1) ?_
  refine x_iconst (v := 0) d_RuleReader_read_37 (by decide) ?_
  refine x_iald d_RuleReader_read_38 ak_13 (q99 (by decide)) ?_
  refine x_puti d_RuleReader_read_39 fl_RuleReader_47 rfl ak_3 (q99 (by decide)) (fun h => nomatch h) (fun h => nomatch h) ?_
  refine x_nmS (fun S6 _ => ?_)
  refine x_iconst (v := 1) d_RuleReader_read_42 (by decide) ?_
  refine x_istore_n (lc' := [some (.ref 3), some (.int 1), none]) d_RuleReader_read_43 (by decide) rfl ?_
  refine x_iconst (v := 0) d_RuleReader_read_44 (by decide) ?_
  refine x_istore_n (lc' := [some (.ref 3), some (.int 1), some (.int 0)]) d_RuleReader_read_45 (by decide) rfl ?_
  refine x_nm (fun J76 hJ76 => ?_)
  have kJ76 : ∀ (a7 : Int32) (S8 : AS), V G md_RuleReader_read (QM G md_RuleReader_read iI) (fun _ => True) (some none) 76 [none, some (.int a7), none] [] 0 0 S8 (J76 a7 S8) := by
    subst hJ76
    intro a7 S8
    refine x_iload_n d_RuleReader_read_76 rfl ?_
    exact x_zretc d_RuleReader_read_77 rfl (Nat.le_of_ble_eq_true rfl) (Nat.le_of_ble_eq_true rfl)
  clear hJ76
  exact V.kw (v_RuleReader_read_L46 J76 kJ76 FU 1 0 S6) ⟨rfl, rfl, rfl, trivial⟩
theorem c_RuleReader_read {G : GX} (S : AS) : CN G y_RuleReader_read b_RuleReader_read 3 (some (FieldType.boolean)) ({ frames := 8, cells := 0, slots := 0, locals := 212 } : Room) (some none) iI [.ref 3] S (f_RuleReader_read S) := cn_of_v (M := md_RuleReader_read) (ini := false) rfl (by decide +kernel) (fun h => nomatch h) rfl (Nat.le_of_ble_eq_true rfl) (v_RuleReader_read S)
noncomputable def f_Md_is (p0 : Int32) (p1 : Int32) (p2 : Int32) (S : AS) : Option (Int32 × AS) := nm (fun (S1 : AS) => some (0, S1)) fun J14 => if p0 < p1 then (J14 S) else (if p2 < p0 then (J14 S) else (some (1, S)))
set_option maxHeartbeats 4000000 in
theorem v_Md_is {G : GX} (p0 : Int32) (p1 : Int32) (p2 : Int32) (S : AS) : V G md_Md_is (QM G md_Md_is iI) (fun _ => True) (some none) 0 [some (.int p0), some (.int p1), some (.int p2)] [] 0 0 S (f_Md_is p0 p1 p2 S) := by
  unfold f_Md_is
  refine x_iload_n d_Md_is_0 rfl ?_
  refine x_iload_n d_Md_is_1 rfl ?_
  refine x_nm (fun J14 hJ14 => ?_)
  have kJ14 : ∀ (S1 : AS), V G md_Md_is (QM G md_Md_is iI) (fun _ => True) (some none) 14 [none, none, none] [] 0 0 S1 (J14 S1) := by
    subst hJ14
    intro S1
    refine x_iconst (v := 0) d_Md_is_14 (by decide) ?_
    exact x_ret d_Md_is_15 rfl rfl (Nat.le_of_ble_eq_true rfl) (Nat.le_of_ble_eq_true rfl)
  clear hJ14
  refine x_icmp_lt (tgt := 14) d_Md_is_2 (by decide) (fun _ => ?_) (fun _ => ?_)
  · exact V.kw (kJ14 S) trivial
  · refine x_iload_n d_Md_is_5 rfl ?_
    refine x_iload_n d_Md_is_6 rfl ?_
    refine x_icmp_gt (tgt := 14) d_Md_is_7 (by decide) (fun _ => ?_) (fun _ => ?_)
    · exact V.kw (kJ14 S) trivial
    · refine x_iconst (v := 1) d_Md_is_10 (by decide) ?_
      refine x_goto (tgt := 15) d_Md_is_11 (by decide) ?_
      exact x_ret d_Md_is_15 rfl rfl (Nat.le_of_ble_eq_true rfl) (Nat.le_of_ble_eq_true rfl)
theorem c_Md_is {G : GX} (p0 : Int32) (p1 : Int32) (p2 : Int32) (S : AS) : CN G y_Md_is b_Md_is 3 (some (FieldType.boolean)) ({ frames := 0, cells := 0, slots := 0, locals := 0 } : Room) (some none) iI [.int p0, .int p1, .int p2] S (f_Md_is p0 p1 p2 S) := cn_of_v (M := md_Md_is) (ini := false) rfl (by decide +kernel) (fun h => nomatch h) rfl (Nat.le_of_ble_eq_true rfl) (v_Md_is p0 p1 p2 S)
noncomputable def f_Md_put_L3 (J39 : AS → Option AS) (x1 : Int32) : Nat → Int32 → AS → Option AS
  | 0, _, _ => none
  | n + 1, c2, S => if c2 < 0 then (J39 S) else (chk (vp_in (gi S 70 1) 400) (nm (si S 71 (ix (gi S 70 1)) ((x1 >>> (c2 &&& 31)) &&& 255)) fun S2 => nm (si S2 70 1 ((gi S2 70 1) + 1)) fun S3 => f_Md_put_L3 J39 x1 n (c2 + (-8)) S3))
noncomputable def f_Md_put (p1 : Int32) (S : AS) : Option AS := nm (fun (S1 : AS) => some S1) fun J39 => f_Md_put_L3 J39 p1 FU 24 S
set_option maxHeartbeats 4000000 in
theorem v_Md_put_L3 {G : GX} (J39 : AS → Option AS) (x1 : Int32) (kJ39 : ∀ (T : AS), V G md_Md_put (QM G md_Md_put iV) (fun _ => True) (some none) 39 [none, none, none] [] 0 0 T (J39 T)) : ∀ (n : Nat) (c2 : Int32) (S : AS), V G md_Md_put (QM G md_Md_put iV) (fun _ => True) (some none) 3 [some (.ref 70), some (.int x1), some (.int c2)] [] 0 0 S (f_Md_put_L3 J39 x1 n c2 S) := by
  intro n
  induction n with
  | zero => intro c2 S; exact V.none
  | succ n ih =>
    intro c2 S
    rw [f_Md_put_L3]
    refine x_iload_n d_Md_put_3 rfl ?_
    refine x_if_lt (tgt := 39) d_Md_put_4 (by decide) (fun _ => ?_) (fun _ => ?_)
    · exact V.kw (kJ39 S) trivial
    · refine x_aload_n_ref d_Md_put_7 rfl ?_
      refine x_getr d_Md_put_8 fl_Md_7 ak_70 (q99 (by decide)) (shx sh_70_0) ?_
      refine x_aload_n_ref d_Md_put_11 rfl ?_
      refine x_geti d_Md_put_12 fl_Md_13 ak_70 (q99 (by decide)) ?_
      refine x_iload_n d_Md_put_15 rfl ?_
      refine x_iload_n d_Md_put_16 rfl ?_
      refine x_ishr d_Md_put_17 ?_
      refine x_sipush (v := 255) d_Md_put_18 (by decide) ?_
      refine x_iand d_Md_put_21 ?_
      refine x_iast d_Md_put_22 ak_71 (q99 (by decide)) ?_
      refine x_nmS (fun S2 _ => ?_)
      refine x_aload_n_ref d_Md_put_23 rfl ?_
      refine x_dup d_Md_put_24 rfl ?_
      refine x_geti d_Md_put_25 fl_Md_13 ak_70 (q99 (by decide)) ?_
      refine x_iconst (v := 1) d_Md_put_28 (by decide) ?_
      refine x_iadd d_Md_put_29 ?_
      refine x_puti d_Md_put_30 fl_Md_13 rfl ak_70 (q99 (by decide)) (fun h => nomatch h) (fun h => nomatch h) ?_
      refine x_nmS (fun S3 _ => ?_)
      refine x_iinc (w := c2 + (-8)) (lc' := [some (.ref 70), some (.int x1), some (.int (c2 + (-8)))]) d_Md_put_33 (by decide) rfl rfl rfl ?_
      refine x_goto (tgt := 3) d_Md_put_36 (by decide) ?_
      exact V.kw (ih (c2 + (-8)) S3) ⟨rfl, rfl, rfl, trivial⟩
set_option maxHeartbeats 4000000 in
theorem v_Md_put {G : GX} (p1 : Int32) (S : AS) : V G md_Md_put (QM G md_Md_put iV) (fun _ => True) (some none) 0 [some (.ref 70), some (.int p1), none] [] 0 0 S (f_Md_put p1 S) := by
  unfold f_Md_put
  refine x_bipush (v := 24) d_Md_put_0 (by decide) ?_
  refine x_istore_n (lc' := [some (.ref 70), some (.int p1), some (.int 24)]) d_Md_put_2 (by decide) rfl ?_
  refine x_nm (fun J39 hJ39 => ?_)
  have kJ39 : ∀ (S1 : AS), V G md_Md_put (QM G md_Md_put iV) (fun _ => True) (some none) 39 [none, none, none] [] 0 0 S1 (J39 S1) := by
    subst hJ39
    intro S1
    exact x_vret d_Md_put_39 rfl (Nat.le_of_ble_eq_true rfl) (Nat.le_of_ble_eq_true rfl)
  clear hJ39
  exact V.kw (v_Md_put_L3 J39 p1 kJ39 FU 24 S) ⟨rfl, rfl, rfl, trivial⟩
theorem c_Md_put {G : GX} (p1 : Int32) (S : AS) : CN G y_Md_put b_Md_put 3 none ({ frames := 0, cells := 0, slots := 0, locals := 0 } : Room) (some none) iV [.ref 70, .int p1] S (f_Md_put p1 S) := cn_of_v (M := md_Md_put) (ini := false) rfl (by decide +kernel) (fun h => nomatch h) rfl (Nat.le_of_ble_eq_true rfl) (v_Md_put p1 S)
noncomputable def f_Md_feed (p1 : Int32) (p2 : Int32) (p3 : Int32) (p4 : Int32) (p5 : Int32) (S : AS) : Option (Int32 × AS) := if ((gi S 70 1) + 20) ≤ 400 then (bV (f_Md_put p1 S) fun S1 => bV (f_Md_put p2 S1) fun S2 => bV (f_Md_put p3 S2) fun S3 => bV (f_Md_put p4 S3) fun S4 => bV (f_Md_put p5 S4) fun S5 => some (gi S5 70 1, S5)) else (some ((-1), S))
set_option maxHeartbeats 4000000 in
theorem v_Md_feed {G : GX} (p1 : Int32) (p2 : Int32) (p3 : Int32) (p4 : Int32) (p5 : Int32) (S : AS) : V G md_Md_feed (QM G md_Md_feed iI) (fun _ => True) (some none) 0 [some (.ref 70), some (.int p1), some (.int p2), some (.int p3), some (.int p4), some (.int p5)] [] 0 0 S (f_Md_feed p1 p2 p3 p4 p5 S) := by
  unfold f_Md_feed
  refine x_aload_n_ref d_Md_feed_0 rfl ?_
  refine x_geti d_Md_feed_1 fl_Md_13 ak_70 (q99 (by decide)) ?_
  refine x_bipush (v := 20) d_Md_feed_4 (by decide) ?_
  refine x_iadd d_Md_feed_6 ?_
  refine x_sipush (v := 400) d_Md_feed_7 (by decide) ?_
  refine x_icmp_le (tgt := 15) d_Md_feed_10 (by decide) (fun _ => ?_) (fun _ => ?_)
  · refine x_aload_n_ref d_Md_feed_15 rfl ?_
    refine x_iload_n d_Md_feed_16 rfl ?_
    refine x_vV (b' := (some none)) (As := [.int p1]) d_Md_feed_17 mv_Md_143 rfl (fun _ => ak_70) rfl (q99 (by decide)) ⟨Nat.le_of_ble_eq_true rfl, Nat.le_of_ble_eq_true rfl⟩ (Nat.le_of_ble_eq_true rfl) ⟨Nat.le_of_ble_eq_true rfl, Nat.le_of_ble_eq_true rfl⟩ (fun _ h => h) (fun h => ⟨h, c_Md_put p1 _⟩) (fun S1 => ?_)
    refine x_aload_n_ref d_Md_feed_20 rfl ?_
    refine x_iload_n d_Md_feed_21 rfl ?_
    refine x_vV (b' := (some none)) (As := [.int p2]) d_Md_feed_22 mv_Md_143 rfl (fun _ => ak_70) rfl (q99 (by decide)) ⟨Nat.le_of_ble_eq_true rfl, Nat.le_of_ble_eq_true rfl⟩ (Nat.le_of_ble_eq_true rfl) ⟨Nat.le_of_ble_eq_true rfl, Nat.le_of_ble_eq_true rfl⟩ (fun _ h => h) (fun h => ⟨h, c_Md_put p2 _⟩) (fun S2 => ?_)
    refine x_aload_n_ref d_Md_feed_25 rfl ?_
    refine x_iload_n d_Md_feed_26 rfl ?_
    refine x_vV (b' := (some none)) (As := [.int p3]) d_Md_feed_27 mv_Md_143 rfl (fun _ => ak_70) rfl (q99 (by decide)) ⟨Nat.le_of_ble_eq_true rfl, Nat.le_of_ble_eq_true rfl⟩ (Nat.le_of_ble_eq_true rfl) ⟨Nat.le_of_ble_eq_true rfl, Nat.le_of_ble_eq_true rfl⟩ (fun _ h => h) (fun h => ⟨h, c_Md_put p3 _⟩) (fun S3 => ?_)
    refine x_aload_n_ref d_Md_feed_30 rfl ?_
    refine x_iload d_Md_feed_31 rfl ?_
    refine x_vV (b' := (some none)) (As := [.int p4]) d_Md_feed_33 mv_Md_143 rfl (fun _ => ak_70) rfl (q99 (by decide)) ⟨Nat.le_of_ble_eq_true rfl, Nat.le_of_ble_eq_true rfl⟩ (Nat.le_of_ble_eq_true rfl) ⟨Nat.le_of_ble_eq_true rfl, Nat.le_of_ble_eq_true rfl⟩ (fun _ h => h) (fun h => ⟨h, c_Md_put p4 _⟩) (fun S4 => ?_)
    refine x_aload_n_ref d_Md_feed_36 rfl ?_
    refine x_iload d_Md_feed_37 rfl ?_
    refine x_vV (b' := (some none)) (As := [.int p5]) d_Md_feed_39 mv_Md_143 rfl (fun _ => ak_70) rfl (q99 (by decide)) ⟨Nat.le_of_ble_eq_true rfl, Nat.le_of_ble_eq_true rfl⟩ (Nat.le_of_ble_eq_true rfl) ⟨Nat.le_of_ble_eq_true rfl, Nat.le_of_ble_eq_true rfl⟩ (fun _ h => h) (fun h => ⟨h, c_Md_put p5 _⟩) (fun S5 => ?_)
    refine x_aload_n_ref d_Md_feed_42 rfl ?_
    refine x_geti d_Md_feed_43 fl_Md_13 ak_70 (q99 (by decide)) ?_
    exact x_ret d_Md_feed_46 rfl rfl (Nat.le_of_ble_eq_true rfl) (Nat.le_of_ble_eq_true rfl)
  · refine x_iconst (v := -1) d_Md_feed_13 (by decide) ?_
    exact x_ret d_Md_feed_14 rfl rfl (Nat.le_of_ble_eq_true rfl) (Nat.le_of_ble_eq_true rfl)
theorem c_Md_feed {G : GX} (p1 : Int32) (p2 : Int32) (p3 : Int32) (p4 : Int32) (p5 : Int32) (S : AS) : CN G y_Md_feed b_Md_feed 6 (some (FieldType.int)) ({ frames := 1, cells := 0, slots := 0, locals := 22 } : Room) (some none) iI [.ref 70, .int p1, .int p2, .int p3, .int p4, .int p5] S (f_Md_feed p1 p2 p3 p4 p5 S) := cn_of_v (M := md_Md_feed) (ini := false) rfl (by decide +kernel) (fun h => nomatch h) rfl (Nat.le_of_ble_eq_true rfl) (v_Md_feed p1 p2 p3 p4 p5 S)
noncomputable def f_Md_end (p1 : Int32) (S : AS) : Option (Int32 × AS) := if p1 < 0 then (some (0, S)) else (if p1 ≤ (gi S 70 1) then (nm (si S 70 1 p1) fun S1 => some (1, S1)) else (some (0, S)))
set_option maxHeartbeats 4000000 in
theorem v_Md_end {G : GX} (p1 : Int32) (S : AS) : V G md_Md_end (QM G md_Md_end iI) (fun _ => True) (some none) 0 [some (.ref 70), some (.int p1)] [] 0 0 S (f_Md_end p1 S) := by
  unfold f_Md_end
  refine x_iload_n d_Md_end_0 rfl ?_
  refine x_if_lt (tgt := 12) d_Md_end_1 (by decide) (fun _ => ?_) (fun _ => ?_)
  · refine x_iconst (v := 0) d_Md_end_12 (by decide) ?_
    exact x_ret d_Md_end_13 rfl rfl (Nat.le_of_ble_eq_true rfl) (Nat.le_of_ble_eq_true rfl)
  · refine x_iload_n d_Md_end_4 rfl ?_
    refine x_aload_n_ref d_Md_end_5 rfl ?_
    refine x_geti d_Md_end_6 fl_Md_13 ak_70 (q99 (by decide)) ?_
    refine x_icmp_le (tgt := 14) d_Md_end_9 (by decide) (fun _ => ?_) (fun _ => ?_)
    · refine x_aload_n_ref d_Md_end_14 rfl ?_
      refine x_iload_n d_Md_end_15 rfl ?_
      refine x_puti d_Md_end_16 fl_Md_13 rfl ak_70 (q99 (by decide)) (fun h => nomatch h) (fun h => nomatch h) ?_
      refine x_nmS (fun S1 _ => ?_)
      refine x_iconst (v := 1) d_Md_end_19 (by decide) ?_
      exact x_ret d_Md_end_20 rfl rfl (Nat.le_of_ble_eq_true rfl) (Nat.le_of_ble_eq_true rfl)
    · refine x_iconst (v := 0) d_Md_end_12 (by decide) ?_
      exact x_ret d_Md_end_13 rfl rfl (Nat.le_of_ble_eq_true rfl) (Nat.le_of_ble_eq_true rfl)
theorem c_Md_end {G : GX} (p1 : Int32) (S : AS) : CN G y_Md_end b_Md_end 2 (some (FieldType.boolean)) ({ frames := 0, cells := 0, slots := 0, locals := 0 } : Room) (some none) iI [.ref 70, .int p1] S (f_Md_end p1 S) := cn_of_v (M := md_Md_end) (ini := false) rfl (by decide +kernel) (fun h => nomatch h) rfl (Nat.le_of_ble_eq_true rfl) (v_Md_end p1 S)
noncomputable def f_Md_person (p1 : Int32) (p2 : Int32) (p3 : Int32) (S : AS) : Option (Int32 × AS) := bI (f_Md_is p1 0 9 S) fun r2 S1 => if r2 = 0 then (some ((-1), S1)) else (bI (f_Md_is p2 0 9 S1) fun r4 S3 => if r4 = 0 then (some ((-1), S3)) else (bI (f_Md_is p3 0 7 S3) fun r6 S5 => if r6 = 0 then (some ((-1), S5)) else (if (gi S5 70 2) = 24 then (some ((-1), S5)) else (chk (vp_in (3 * (gi S5 70 2)) 72) (nm (si S5 72 (ix (3 * (gi S5 70 2))) p1) fun S7 => chk (vp_in ((3 * (gi S7 70 2)) + 1) 72) (nm (si S7 72 (ix ((3 * (gi S7 70 2)) + 1)) p2) fun S8 => chk (vp_in ((3 * (gi S8 70 2)) + 2) 72) (nm (si S8 72 (ix ((3 * (gi S8 70 2)) + 2)) p3) fun S9 => nm (si S9 70 2 ((gi S9 70 2) + 1)) fun S10 => some ((gi S10 70 2) - 1, S10))))))))
set_option maxHeartbeats 4000000 in
theorem v_Md_person {G : GX} (p1 : Int32) (p2 : Int32) (p3 : Int32) (S : AS) : V G md_Md_person (QM G md_Md_person iI) (fun _ => True) (some none) 0 [some (.ref 70), some (.int p1), some (.int p2), some (.int p3)] [] 0 0 S (f_Md_person p1 p2 p3 S) := by
  unfold f_Md_person
  refine x_iload_n d_Md_person_0 rfl ?_
  refine x_iconst (v := 0) d_Md_person_1 (by decide) ?_
  refine x_bipush (v := 9) d_Md_person_2 (by decide) ?_
  refine x_sI (b' := (some none)) (As := [.int p1, .int 0, .int 9]) d_Md_person_4 ms_Md_147 rfl ⟨Nat.le_of_ble_eq_true rfl, Nat.le_of_ble_eq_true rfl⟩ (Nat.le_of_ble_eq_true rfl) ⟨Nat.le_of_ble_eq_true rfl, Nat.le_of_ble_eq_true rfl⟩ (fun _ h => h) (fun h => ⟨h, c_Md_is p1 0 9 _⟩) (fun r2 S1 => ?_)
  refine x_if_eq (tgt := 39) d_Md_person_7 (by decide) (fun _ => ?_) (fun _ => ?_)
  · refine x_iconst (v := -1) d_Md_person_39 (by decide) ?_
    exact x_ret d_Md_person_40 rfl rfl (Nat.le_of_ble_eq_true rfl) (Nat.le_of_ble_eq_true rfl)
  · refine x_iload_n d_Md_person_10 rfl ?_
    refine x_iconst (v := 0) d_Md_person_11 (by decide) ?_
    refine x_bipush (v := 9) d_Md_person_12 (by decide) ?_
    refine x_sI (b' := (some none)) (As := [.int p2, .int 0, .int 9]) d_Md_person_14 ms_Md_147 rfl ⟨Nat.le_of_ble_eq_true rfl, Nat.le_of_ble_eq_true rfl⟩ (Nat.le_of_ble_eq_true rfl) ⟨Nat.le_of_ble_eq_true rfl, Nat.le_of_ble_eq_true rfl⟩ (fun _ h => h) (fun h => ⟨h, c_Md_is p2 0 9 _⟩) (fun r4 S3 => ?_)
    refine x_if_eq (tgt := 39) d_Md_person_17 (by decide) (fun _ => ?_) (fun _ => ?_)
    · refine x_iconst (v := -1) d_Md_person_39 (by decide) ?_
      exact x_ret d_Md_person_40 rfl rfl (Nat.le_of_ble_eq_true rfl) (Nat.le_of_ble_eq_true rfl)
    · refine x_iload_n d_Md_person_20 rfl ?_
      refine x_iconst (v := 0) d_Md_person_21 (by decide) ?_
      refine x_bipush (v := 7) d_Md_person_22 (by decide) ?_
      refine x_sI (b' := (some none)) (As := [.int p3, .int 0, .int 7]) d_Md_person_24 ms_Md_147 rfl ⟨Nat.le_of_ble_eq_true rfl, Nat.le_of_ble_eq_true rfl⟩ (Nat.le_of_ble_eq_true rfl) ⟨Nat.le_of_ble_eq_true rfl, Nat.le_of_ble_eq_true rfl⟩ (fun _ h => h) (fun h => ⟨h, c_Md_is p3 0 7 _⟩) (fun r6 S5 => ?_)
      refine x_if_eq (tgt := 39) d_Md_person_27 (by decide) (fun _ => ?_) (fun _ => ?_)
      · refine x_iconst (v := -1) d_Md_person_39 (by decide) ?_
        exact x_ret d_Md_person_40 rfl rfl (Nat.le_of_ble_eq_true rfl) (Nat.le_of_ble_eq_true rfl)
      · refine x_aload_n_ref d_Md_person_30 rfl ?_
        refine x_geti d_Md_person_31 fl_Md_17 ak_70 (q99 (by decide)) ?_
        refine x_bipush (v := 24) d_Md_person_34 (by decide) ?_
        refine x_icmp_ne (tgt := 41) d_Md_person_36 (by decide) (fun _ => ?_) (fun _ => ?_)
        · refine x_aload_n_ref d_Md_person_41 rfl ?_
          refine x_getr d_Md_person_42 fl_Md_20 ak_70 (q99 (by decide)) (shx sh_70_3) ?_
          refine x_iconst (v := 3) d_Md_person_45 (by decide) ?_
          refine x_aload_n_ref d_Md_person_46 rfl ?_
          refine x_geti d_Md_person_47 fl_Md_17 ak_70 (q99 (by decide)) ?_
          refine x_imul d_Md_person_50 ?_
          refine x_iload_n d_Md_person_51 rfl ?_
          refine x_iast d_Md_person_52 ak_72 (q99 (by decide)) ?_
          refine x_nmS (fun S7 _ => ?_)
          refine x_aload_n_ref d_Md_person_53 rfl ?_
          refine x_getr d_Md_person_54 fl_Md_20 ak_70 (q99 (by decide)) (shx sh_70_3) ?_
          refine x_iconst (v := 3) d_Md_person_57 (by decide) ?_
          refine x_aload_n_ref d_Md_person_58 rfl ?_
          refine x_geti d_Md_person_59 fl_Md_17 ak_70 (q99 (by decide)) ?_
          refine x_imul d_Md_person_62 ?_
          refine x_iconst (v := 1) d_Md_person_63 (by decide) ?_
          refine x_iadd d_Md_person_64 ?_
          refine x_iload_n d_Md_person_65 rfl ?_
          refine x_iast d_Md_person_66 ak_72 (q99 (by decide)) ?_
          refine x_nmS (fun S8 _ => ?_)
          refine x_aload_n_ref d_Md_person_67 rfl ?_
          refine x_getr d_Md_person_68 fl_Md_20 ak_70 (q99 (by decide)) (shx sh_70_3) ?_
          refine x_iconst (v := 3) d_Md_person_71 (by decide) ?_
          refine x_aload_n_ref d_Md_person_72 rfl ?_
          refine x_geti d_Md_person_73 fl_Md_17 ak_70 (q99 (by decide)) ?_
          refine x_imul d_Md_person_76 ?_
          refine x_iconst (v := 2) d_Md_person_77 (by decide) ?_
          refine x_iadd d_Md_person_78 ?_
          refine x_iload_n d_Md_person_79 rfl ?_
          refine x_iast d_Md_person_80 ak_72 (q99 (by decide)) ?_
          refine x_nmS (fun S9 _ => ?_)
          refine x_aload_n_ref d_Md_person_81 rfl ?_
          refine x_dup d_Md_person_82 rfl ?_
          refine x_geti d_Md_person_83 fl_Md_17 ak_70 (q99 (by decide)) ?_
          refine x_iconst (v := 1) d_Md_person_86 (by decide) ?_
          refine x_iadd d_Md_person_87 ?_
          refine x_puti d_Md_person_88 fl_Md_17 rfl ak_70 (q99 (by decide)) (fun h => nomatch h) (fun h => nomatch h) ?_
          refine x_nmS (fun S10 _ => ?_)
          refine x_aload_n_ref d_Md_person_91 rfl ?_
          refine x_geti d_Md_person_92 fl_Md_17 ak_70 (q99 (by decide)) ?_
          refine x_iconst (v := 1) d_Md_person_95 (by decide) ?_
          refine x_isub d_Md_person_96 ?_
          exact x_ret d_Md_person_97 rfl rfl (Nat.le_of_ble_eq_true rfl) (Nat.le_of_ble_eq_true rfl)
        · refine x_iconst (v := -1) d_Md_person_39 (by decide) ?_
          exact x_ret d_Md_person_40 rfl rfl (Nat.le_of_ble_eq_true rfl) (Nat.le_of_ble_eq_true rfl)
theorem c_Md_person {G : GX} (p1 : Int32) (p2 : Int32) (p3 : Int32) (S : AS) : CN G y_Md_person b_Md_person 4 (some (FieldType.int)) ({ frames := 1, cells := 0, slots := 0, locals := 22 } : Room) (some none) iI [.ref 70, .int p1, .int p2, .int p3] S (f_Md_person p1 p2 p3 S) := cn_of_v (M := md_Md_person) (ini := false) rfl (by decide +kernel) (fun h => nomatch h) rfl (Nat.le_of_ble_eq_true rfl) (v_Md_person p1 p2 p3 S)
noncomputable def f_Md_post (p1 : Int32) (p2 : Int32) (S : AS) : Option (Int32 × AS) := bI (f_Md_is p1 0 7 S) fun r2 S1 => if r2 = 0 then (some ((-1), S1)) else (bI (f_Md_is p2 1 1000 S1) fun r4 S3 => if r4 = 0 then (some ((-1), S3)) else (if (gi S3 70 4) = 16 then (some ((-1), S3)) else (chk (vp_in (3 * (gi S3 70 4)) 48) (nm (si S3 73 (ix (3 * (gi S3 70 4))) p1) fun S5 => chk (vp_in ((3 * (gi S5 70 4)) + 1) 48) (nm (si S5 73 (ix ((3 * (gi S5 70 4)) + 1)) p2) fun S6 => chk (vp_in ((3 * (gi S6 70 4)) + 2) 48) (nm (si S6 73 (ix ((3 * (gi S6 70 4)) + 2)) (-1)) fun S7 => nm (si S7 70 4 ((gi S7 70 4) + 1)) fun S8 => some ((gi S8 70 4) - 1, S8)))))))
set_option maxHeartbeats 4000000 in
theorem v_Md_post {G : GX} (p1 : Int32) (p2 : Int32) (S : AS) : V G md_Md_post (QM G md_Md_post iI) (fun _ => True) (some none) 0 [some (.ref 70), some (.int p1), some (.int p2)] [] 0 0 S (f_Md_post p1 p2 S) := by
  unfold f_Md_post
  refine x_iload_n d_Md_post_0 rfl ?_
  refine x_iconst (v := 0) d_Md_post_1 (by decide) ?_
  refine x_bipush (v := 7) d_Md_post_2 (by decide) ?_
  refine x_sI (b' := (some none)) (As := [.int p1, .int 0, .int 7]) d_Md_post_4 ms_Md_147 rfl ⟨Nat.le_of_ble_eq_true rfl, Nat.le_of_ble_eq_true rfl⟩ (Nat.le_of_ble_eq_true rfl) ⟨Nat.le_of_ble_eq_true rfl, Nat.le_of_ble_eq_true rfl⟩ (fun _ h => h) (fun h => ⟨h, c_Md_is p1 0 7 _⟩) (fun r2 S1 => ?_)
  refine x_if_eq (tgt := 30) d_Md_post_7 (by decide) (fun _ => ?_) (fun _ => ?_)
  · refine x_iconst (v := -1) d_Md_post_30 (by decide) ?_
    exact x_ret d_Md_post_31 rfl rfl (Nat.le_of_ble_eq_true rfl) (Nat.le_of_ble_eq_true rfl)
  · refine x_iload_n d_Md_post_10 rfl ?_
    refine x_iconst (v := 1) d_Md_post_11 (by decide) ?_
    refine x_sipush (v := 1000) d_Md_post_12 (by decide) ?_
    refine x_sI (b' := (some none)) (As := [.int p2, .int 1, .int 1000]) d_Md_post_15 ms_Md_147 rfl ⟨Nat.le_of_ble_eq_true rfl, Nat.le_of_ble_eq_true rfl⟩ (Nat.le_of_ble_eq_true rfl) ⟨Nat.le_of_ble_eq_true rfl, Nat.le_of_ble_eq_true rfl⟩ (fun _ h => h) (fun h => ⟨h, c_Md_is p2 1 1000 _⟩) (fun r4 S3 => ?_)
    refine x_if_eq (tgt := 30) d_Md_post_18 (by decide) (fun _ => ?_) (fun _ => ?_)
    · refine x_iconst (v := -1) d_Md_post_30 (by decide) ?_
      exact x_ret d_Md_post_31 rfl rfl (Nat.le_of_ble_eq_true rfl) (Nat.le_of_ble_eq_true rfl)
    · refine x_aload_n_ref d_Md_post_21 rfl ?_
      refine x_geti d_Md_post_22 fl_Md_23 ak_70 (q99 (by decide)) ?_
      refine x_bipush (v := 16) d_Md_post_25 (by decide) ?_
      refine x_icmp_ne (tgt := 32) d_Md_post_27 (by decide) (fun _ => ?_) (fun _ => ?_)
      · refine x_aload_n_ref d_Md_post_32 rfl ?_
        refine x_getr d_Md_post_33 fl_Md_26 ak_70 (q99 (by decide)) (shx sh_70_5) ?_
        refine x_iconst (v := 3) d_Md_post_36 (by decide) ?_
        refine x_aload_n_ref d_Md_post_37 rfl ?_
        refine x_geti d_Md_post_38 fl_Md_23 ak_70 (q99 (by decide)) ?_
        refine x_imul d_Md_post_41 ?_
        refine x_iload_n d_Md_post_42 rfl ?_
        refine x_iast d_Md_post_43 ak_73 (q99 (by decide)) ?_
        refine x_nmS (fun S5 _ => ?_)
        refine x_aload_n_ref d_Md_post_44 rfl ?_
        refine x_getr d_Md_post_45 fl_Md_26 ak_70 (q99 (by decide)) (shx sh_70_5) ?_
        refine x_iconst (v := 3) d_Md_post_48 (by decide) ?_
        refine x_aload_n_ref d_Md_post_49 rfl ?_
        refine x_geti d_Md_post_50 fl_Md_23 ak_70 (q99 (by decide)) ?_
        refine x_imul d_Md_post_53 ?_
        refine x_iconst (v := 1) d_Md_post_54 (by decide) ?_
        refine x_iadd d_Md_post_55 ?_
        refine x_iload_n d_Md_post_56 rfl ?_
        refine x_iast d_Md_post_57 ak_73 (q99 (by decide)) ?_
        refine x_nmS (fun S6 _ => ?_)
        refine x_aload_n_ref d_Md_post_58 rfl ?_
        refine x_getr d_Md_post_59 fl_Md_26 ak_70 (q99 (by decide)) (shx sh_70_5) ?_
        refine x_iconst (v := 3) d_Md_post_62 (by decide) ?_
        refine x_aload_n_ref d_Md_post_63 rfl ?_
        refine x_geti d_Md_post_64 fl_Md_23 ak_70 (q99 (by decide)) ?_
        refine x_imul d_Md_post_67 ?_
        refine x_iconst (v := 2) d_Md_post_68 (by decide) ?_
        refine x_iadd d_Md_post_69 ?_
        refine x_iconst (v := -1) d_Md_post_70 (by decide) ?_
        refine x_iast d_Md_post_71 ak_73 (q99 (by decide)) ?_
        refine x_nmS (fun S7 _ => ?_)
        refine x_aload_n_ref d_Md_post_72 rfl ?_
        refine x_dup d_Md_post_73 rfl ?_
        refine x_geti d_Md_post_74 fl_Md_23 ak_70 (q99 (by decide)) ?_
        refine x_iconst (v := 1) d_Md_post_77 (by decide) ?_
        refine x_iadd d_Md_post_78 ?_
        refine x_puti d_Md_post_79 fl_Md_23 rfl ak_70 (q99 (by decide)) (fun h => nomatch h) (fun h => nomatch h) ?_
        refine x_nmS (fun S8 _ => ?_)
        refine x_aload_n_ref d_Md_post_82 rfl ?_
        refine x_geti d_Md_post_83 fl_Md_23 ak_70 (q99 (by decide)) ?_
        refine x_iconst (v := 1) d_Md_post_86 (by decide) ?_
        refine x_isub d_Md_post_87 ?_
        exact x_ret d_Md_post_88 rfl rfl (Nat.le_of_ble_eq_true rfl) (Nat.le_of_ble_eq_true rfl)
      · refine x_iconst (v := -1) d_Md_post_30 (by decide) ?_
        exact x_ret d_Md_post_31 rfl rfl (Nat.le_of_ble_eq_true rfl) (Nat.le_of_ble_eq_true rfl)
theorem c_Md_post {G : GX} (p1 : Int32) (p2 : Int32) (S : AS) : CN G y_Md_post b_Md_post 3 (some (FieldType.int)) ({ frames := 1, cells := 0, slots := 0, locals := 22 } : Room) (some none) iI [.ref 70, .int p1, .int p2] S (f_Md_post p1 p2 S) := cn_of_v (M := md_Md_post) (ini := false) rfl (by decide +kernel) (fun h => nomatch h) rfl (Nat.le_of_ble_eq_true rfl) (v_Md_post p1 p2 S)
noncomputable def f_Md_isPerson (p1 : Int32) (S : AS) : Option (Int32 × AS) := nm (fun (S1 : AS) => some (0, S1)) fun J16 => if p1 < 0 then (J16 S) else (if (gi S 70 2) ≤ p1 then (J16 S) else (some (1, S)))
set_option maxHeartbeats 4000000 in
theorem v_Md_isPerson {G : GX} (p1 : Int32) (S : AS) : V G md_Md_isPerson (QM G md_Md_isPerson iI) (fun _ => True) (some none) 0 [some (.ref 70), some (.int p1)] [] 0 0 S (f_Md_isPerson p1 S) := by
  unfold f_Md_isPerson
  refine x_iload_n d_Md_isPerson_0 rfl ?_
  refine x_nm (fun J16 hJ16 => ?_)
  have kJ16 : ∀ (S1 : AS), V G md_Md_isPerson (QM G md_Md_isPerson iI) (fun _ => True) (some none) 16 [none, none] [] 0 0 S1 (J16 S1) := by
    subst hJ16
    intro S1
    refine x_iconst (v := 0) d_Md_isPerson_16 (by decide) ?_
    exact x_ret d_Md_isPerson_17 rfl rfl (Nat.le_of_ble_eq_true rfl) (Nat.le_of_ble_eq_true rfl)
  clear hJ16
  refine x_if_lt (tgt := 16) d_Md_isPerson_1 (by decide) (fun _ => ?_) (fun _ => ?_)
  · exact V.kw (kJ16 S) trivial
  · refine x_iload_n d_Md_isPerson_4 rfl ?_
    refine x_aload_n_ref d_Md_isPerson_5 rfl ?_
    refine x_geti d_Md_isPerson_6 fl_Md_17 ak_70 (q99 (by decide)) ?_
    refine x_icmp_ge (tgt := 16) d_Md_isPerson_9 (by decide) (fun _ => ?_) (fun _ => ?_)
    · exact V.kw (kJ16 S) trivial
    · refine x_iconst (v := 1) d_Md_isPerson_12 (by decide) ?_
      refine x_goto (tgt := 17) d_Md_isPerson_13 (by decide) ?_
      exact x_ret d_Md_isPerson_17 rfl rfl (Nat.le_of_ble_eq_true rfl) (Nat.le_of_ble_eq_true rfl)
theorem c_Md_isPerson {G : GX} (p1 : Int32) (S : AS) : CN G y_Md_isPerson b_Md_isPerson 2 (some (FieldType.boolean)) ({ frames := 0, cells := 0, slots := 0, locals := 0 } : Room) (some none) iI [.ref 70, .int p1] S (f_Md_isPerson p1 S) := cn_of_v (M := md_Md_isPerson) (ini := false) rfl (by decide +kernel) (fun h => nomatch h) rfl (Nat.le_of_ble_eq_true rfl) (v_Md_isPerson p1 S)
noncomputable def f_Md_isPost (p1 : Int32) (S : AS) : Option (Int32 × AS) := nm (fun (S1 : AS) => some (0, S1)) fun J16 => if p1 < 0 then (J16 S) else (if (gi S 70 4) ≤ p1 then (J16 S) else (some (1, S)))
set_option maxHeartbeats 4000000 in
theorem v_Md_isPost {G : GX} (p1 : Int32) (S : AS) : V G md_Md_isPost (QM G md_Md_isPost iI) (fun _ => True) (some none) 0 [some (.ref 70), some (.int p1)] [] 0 0 S (f_Md_isPost p1 S) := by
  unfold f_Md_isPost
  refine x_iload_n d_Md_isPost_0 rfl ?_
  refine x_nm (fun J16 hJ16 => ?_)
  have kJ16 : ∀ (S1 : AS), V G md_Md_isPost (QM G md_Md_isPost iI) (fun _ => True) (some none) 16 [none, none] [] 0 0 S1 (J16 S1) := by
    subst hJ16
    intro S1
    refine x_iconst (v := 0) d_Md_isPost_16 (by decide) ?_
    exact x_ret d_Md_isPost_17 rfl rfl (Nat.le_of_ble_eq_true rfl) (Nat.le_of_ble_eq_true rfl)
  clear hJ16
  refine x_if_lt (tgt := 16) d_Md_isPost_1 (by decide) (fun _ => ?_) (fun _ => ?_)
  · exact V.kw (kJ16 S) trivial
  · refine x_iload_n d_Md_isPost_4 rfl ?_
    refine x_aload_n_ref d_Md_isPost_5 rfl ?_
    refine x_geti d_Md_isPost_6 fl_Md_23 ak_70 (q99 (by decide)) ?_
    refine x_icmp_ge (tgt := 16) d_Md_isPost_9 (by decide) (fun _ => ?_) (fun _ => ?_)
    · exact V.kw (kJ16 S) trivial
    · refine x_iconst (v := 1) d_Md_isPost_12 (by decide) ?_
      refine x_goto (tgt := 17) d_Md_isPost_13 (by decide) ?_
      exact x_ret d_Md_isPost_17 rfl rfl (Nat.le_of_ble_eq_true rfl) (Nat.le_of_ble_eq_true rfl)
theorem c_Md_isPost {G : GX} (p1 : Int32) (S : AS) : CN G y_Md_isPost b_Md_isPost 2 (some (FieldType.boolean)) ({ frames := 0, cells := 0, slots := 0, locals := 0 } : Room) (some none) iI [.ref 70, .int p1] S (f_Md_isPost p1 S) := cn_of_v (M := md_Md_isPost) (ini := false) rfl (by decide +kernel) (fun h => nomatch h) rfl (Nat.le_of_ble_eq_true rfl) (v_Md_isPost p1 S)
noncomputable def f_Md_seat (p1 : Int32) (p2 : Int32) (S : AS) : Option (Int32 × AS) := bI (f_Md_isPost p1 S) fun r2 S1 => if r2 = 0 then (some (0, S1)) else (nm (fun (S3 : AS) => if (gi S3 70 6) ≤ 0 then (chk (vp_in ((3 * p1) + 2) 48) (nm (si S3 73 (ix ((3 * p1) + 2)) p2) fun S4 => some (1, S4))) else (some (0, S3))) fun J21 => if p2 = (-1) then (J21 S1) else (bI (f_Md_isPerson p2 S1) fun r6 S5 => if r6 = 0 then (some (0, S5)) else (J21 S5)))
set_option maxHeartbeats 4000000 in
theorem v_Md_seat {G : GX} (p1 : Int32) (p2 : Int32) (S : AS) : V G md_Md_seat (QM G md_Md_seat iI) (fun _ => True) (some none) 0 [some (.ref 70), some (.int p1), some (.int p2)] [] 0 0 S (f_Md_seat p1 p2 S) := by
  unfold f_Md_seat
  refine x_aload_n_ref d_Md_seat_0 rfl ?_
  refine x_iload_n d_Md_seat_1 rfl ?_
  refine x_vI (b' := (some none)) (As := [.int p1]) d_Md_seat_2 mv_Md_151 rfl (fun _ => ak_70) rfl (q99 (by decide)) ⟨Nat.le_of_ble_eq_true rfl, Nat.le_of_ble_eq_true rfl⟩ (Nat.le_of_ble_eq_true rfl) ⟨Nat.le_of_ble_eq_true rfl, Nat.le_of_ble_eq_true rfl⟩ (fun _ h => h) (fun h => ⟨h, c_Md_isPost p1 _⟩) (fun r2 S1 => ?_)
  refine x_if_eq (tgt := 28) d_Md_seat_5 (by decide) (fun _ => ?_) (fun _ => ?_)
  · refine x_iconst (v := 0) d_Md_seat_28 (by decide) ?_
    exact x_ret d_Md_seat_29 rfl rfl (Nat.le_of_ble_eq_true rfl) (Nat.le_of_ble_eq_true rfl)
  · refine x_iload_n d_Md_seat_8 rfl ?_
    refine x_iconst (v := -1) d_Md_seat_9 (by decide) ?_
    refine x_nm (fun J21 hJ21 => ?_)
    have kJ21 : ∀ (S3 : AS), V G md_Md_seat (QM G md_Md_seat iI) (fun _ => True) (some none) 21 [some (.ref 70), some (.int p1), some (.int p2)] [] 0 0 S3 (J21 S3) := by
      subst hJ21
      intro S3
      refine x_aload_n_ref d_Md_seat_21 rfl ?_
      refine x_geti d_Md_seat_22 fl_Md_29 ak_70 (q99 (by decide)) ?_
      refine x_if_le (tgt := 30) d_Md_seat_25 (by decide) (fun _ => ?_) (fun _ => ?_)
      · refine x_aload_n_ref d_Md_seat_30 rfl ?_
        refine x_getr d_Md_seat_31 fl_Md_26 ak_70 (q99 (by decide)) (shx sh_70_5) ?_
        refine x_iconst (v := 3) d_Md_seat_34 (by decide) ?_
        refine x_iload_n d_Md_seat_35 rfl ?_
        refine x_imul d_Md_seat_36 ?_
        refine x_iconst (v := 2) d_Md_seat_37 (by decide) ?_
        refine x_iadd d_Md_seat_38 ?_
        refine x_iload_n d_Md_seat_39 rfl ?_
        refine x_iast d_Md_seat_40 ak_73 (q99 (by decide)) ?_
        refine x_nmS (fun S4 _ => ?_)
        refine x_iconst (v := 1) d_Md_seat_41 (by decide) ?_
        exact x_ret d_Md_seat_42 rfl rfl (Nat.le_of_ble_eq_true rfl) (Nat.le_of_ble_eq_true rfl)
      · refine x_iconst (v := 0) d_Md_seat_28 (by decide) ?_
        exact x_ret d_Md_seat_29 rfl rfl (Nat.le_of_ble_eq_true rfl) (Nat.le_of_ble_eq_true rfl)
    clear hJ21
    refine x_icmp_eq (tgt := 21) d_Md_seat_10 (by decide) (fun _ => ?_) (fun _ => ?_)
    · exact V.kw (kJ21 S1) ⟨rfl, rfl, rfl, trivial⟩
    · refine x_aload_n_ref d_Md_seat_13 rfl ?_
      refine x_iload_n d_Md_seat_14 rfl ?_
      refine x_vI (b' := (some none)) (As := [.int p2]) d_Md_seat_15 mv_Md_155 rfl (fun _ => ak_70) rfl (q99 (by decide)) ⟨Nat.le_of_ble_eq_true rfl, Nat.le_of_ble_eq_true rfl⟩ (Nat.le_of_ble_eq_true rfl) ⟨Nat.le_of_ble_eq_true rfl, Nat.le_of_ble_eq_true rfl⟩ (fun _ h => h) (fun h => ⟨h, c_Md_isPerson p2 _⟩) (fun r6 S5 => ?_)
      refine x_if_eq (tgt := 28) d_Md_seat_18 (by decide) (fun _ => ?_) (fun _ => ?_)
      · refine x_iconst (v := 0) d_Md_seat_28 (by decide) ?_
        exact x_ret d_Md_seat_29 rfl rfl (Nat.le_of_ble_eq_true rfl) (Nat.le_of_ble_eq_true rfl)
      · exact V.kw (kJ21 S5) ⟨rfl, rfl, rfl, trivial⟩
theorem c_Md_seat {G : GX} (p1 : Int32) (p2 : Int32) (S : AS) : CN G y_Md_seat b_Md_seat 3 (some (FieldType.boolean)) ({ frames := 1, cells := 0, slots := 0, locals := 21 } : Room) (some none) iI [.ref 70, .int p1, .int p2] S (f_Md_seat p1 p2 S) := cn_of_v (M := md_Md_seat) (ini := false) rfl (by decide +kernel) (fun h => nomatch h) rfl (Nat.le_of_ble_eq_true rfl) (v_Md_seat p1 p2 S)
noncomputable def f_Md_blame (p1 : Int32) (p2 : Int32) (S : AS) : Option AS := if (gi S 70 24) ≤ 0 then (nm (si S 70 24 p1) fun S1 => nm (si S1 70 25 p2) fun S2 => some S2) else (some S)
set_option maxHeartbeats 4000000 in
theorem v_Md_blame {G : GX} (p1 : Int32) (p2 : Int32) (S : AS) : V G md_Md_blame (QM G md_Md_blame iV) (fun _ => True) (some none) 0 [some (.ref 70), some (.int p1), some (.int p2)] [] 0 0 S (f_Md_blame p1 p2 S) := by
  unfold f_Md_blame
  refine x_aload_n_ref d_Md_blame_0 rfl ?_
  refine x_geti d_Md_blame_1 fl_Md_83 ak_70 (q99 (by decide)) ?_
  refine x_if_le (tgt := 8) d_Md_blame_4 (by decide) (fun _ => ?_) (fun _ => ?_)
  · refine x_aload_n_ref d_Md_blame_8 rfl ?_
    refine x_iload_n d_Md_blame_9 rfl ?_
    refine x_puti d_Md_blame_10 fl_Md_83 rfl ak_70 (q99 (by decide)) (fun h => nomatch h) (fun h => nomatch h) ?_
    refine x_nmS (fun S1 _ => ?_)
    refine x_aload_n_ref d_Md_blame_13 rfl ?_
    refine x_iload_n d_Md_blame_14 rfl ?_
    refine x_puti d_Md_blame_15 fl_Md_86 rfl ak_70 (q99 (by decide)) (fun h => nomatch h) (fun h => nomatch h) ?_
    refine x_nmS (fun S2 _ => ?_)
    exact x_vret d_Md_blame_18 rfl (Nat.le_of_ble_eq_true rfl) (Nat.le_of_ble_eq_true rfl)
  · exact x_vret d_Md_blame_7 rfl (Nat.le_of_ble_eq_true rfl) (Nat.le_of_ble_eq_true rfl)
theorem c_Md_blame {G : GX} (p1 : Int32) (p2 : Int32) (S : AS) : CN G y_Md_blame b_Md_blame 3 none ({ frames := 0, cells := 0, slots := 0, locals := 0 } : Room) (some none) iV [.ref 70, .int p1, .int p2] S (f_Md_blame p1 p2 S) := cn_of_v (M := md_Md_blame) (ini := false) rfl (by decide +kernel) (fun h => nomatch h) rfl (Nat.le_of_ble_eq_true rfl) (v_Md_blame p1 p2 S)
noncomputable def f_Md_isLetter (p0 : Int32) (S : AS) : Option (Int32 × AS) := nm (fun (S1 : AS) => some (0, S1)) fun J16 => if p0 < 97 then (J16 S) else (if 122 < p0 then (J16 S) else (some (1, S)))
set_option maxHeartbeats 4000000 in
theorem v_Md_isLetter {G : GX} (p0 : Int32) (S : AS) : V G md_Md_isLetter (QM G md_Md_isLetter iI) (fun _ => True) (some none) 0 [some (.int p0)] [] 0 0 S (f_Md_isLetter p0 S) := by
  unfold f_Md_isLetter
  refine x_iload_n d_Md_isLetter_0 rfl ?_
  refine x_bipush (v := 97) d_Md_isLetter_1 (by decide) ?_
  refine x_nm (fun J16 hJ16 => ?_)
  have kJ16 : ∀ (S1 : AS), V G md_Md_isLetter (QM G md_Md_isLetter iI) (fun _ => True) (some none) 16 [none] [] 0 0 S1 (J16 S1) := by
    subst hJ16
    intro S1
    refine x_iconst (v := 0) d_Md_isLetter_16 (by decide) ?_
    exact x_ret d_Md_isLetter_17 rfl rfl (Nat.le_of_ble_eq_true rfl) (Nat.le_of_ble_eq_true rfl)
  clear hJ16
  refine x_icmp_lt (tgt := 16) d_Md_isLetter_3 (by decide) (fun _ => ?_) (fun _ => ?_)
  · exact V.kw (kJ16 S) trivial
  · refine x_iload_n d_Md_isLetter_6 rfl ?_
    refine x_bipush (v := 122) d_Md_isLetter_7 (by decide) ?_
    refine x_icmp_gt (tgt := 16) d_Md_isLetter_9 (by decide) (fun _ => ?_) (fun _ => ?_)
    · exact V.kw (kJ16 S) trivial
    · refine x_iconst (v := 1) d_Md_isLetter_12 (by decide) ?_
      refine x_goto (tgt := 17) d_Md_isLetter_13 (by decide) ?_
      exact x_ret d_Md_isLetter_17 rfl rfl (Nat.le_of_ble_eq_true rfl) (Nat.le_of_ble_eq_true rfl)
theorem c_Md_isLetter {G : GX} (p0 : Int32) (S : AS) : CN G y_Md_isLetter b_Md_isLetter 1 (some (FieldType.boolean)) ({ frames := 0, cells := 0, slots := 0, locals := 0 } : Room) (some none) iI [.int p0] S (f_Md_isLetter p0 S) := cn_of_v (M := md_Md_isLetter) (ini := false) rfl (by decide +kernel) (fun h => nomatch h) rfl (Nat.le_of_ble_eq_true rfl) (v_Md_isLetter p0 S)
noncomputable def f_Md_isDigit (p0 : Int32) (S : AS) : Option (Int32 × AS) := nm (fun (S1 : AS) => some (0, S1)) fun J16 => if p0 < 48 then (J16 S) else (if 57 < p0 then (J16 S) else (some (1, S)))
set_option maxHeartbeats 4000000 in
theorem v_Md_isDigit {G : GX} (p0 : Int32) (S : AS) : V G md_Md_isDigit (QM G md_Md_isDigit iI) (fun _ => True) (some none) 0 [some (.int p0)] [] 0 0 S (f_Md_isDigit p0 S) := by
  unfold f_Md_isDigit
  refine x_iload_n d_Md_isDigit_0 rfl ?_
  refine x_bipush (v := 48) d_Md_isDigit_1 (by decide) ?_
  refine x_nm (fun J16 hJ16 => ?_)
  have kJ16 : ∀ (S1 : AS), V G md_Md_isDigit (QM G md_Md_isDigit iI) (fun _ => True) (some none) 16 [none] [] 0 0 S1 (J16 S1) := by
    subst hJ16
    intro S1
    refine x_iconst (v := 0) d_Md_isDigit_16 (by decide) ?_
    exact x_ret d_Md_isDigit_17 rfl rfl (Nat.le_of_ble_eq_true rfl) (Nat.le_of_ble_eq_true rfl)
  clear hJ16
  refine x_icmp_lt (tgt := 16) d_Md_isDigit_3 (by decide) (fun _ => ?_) (fun _ => ?_)
  · exact V.kw (kJ16 S) trivial
  · refine x_iload_n d_Md_isDigit_6 rfl ?_
    refine x_bipush (v := 57) d_Md_isDigit_7 (by decide) ?_
    refine x_icmp_gt (tgt := 16) d_Md_isDigit_9 (by decide) (fun _ => ?_) (fun _ => ?_)
    · exact V.kw (kJ16 S) trivial
    · refine x_iconst (v := 1) d_Md_isDigit_12 (by decide) ?_
      refine x_goto (tgt := 17) d_Md_isDigit_13 (by decide) ?_
      exact x_ret d_Md_isDigit_17 rfl rfl (Nat.le_of_ble_eq_true rfl) (Nat.le_of_ble_eq_true rfl)
theorem c_Md_isDigit {G : GX} (p0 : Int32) (S : AS) : CN G y_Md_isDigit b_Md_isDigit 1 (some (FieldType.boolean)) ({ frames := 0, cells := 0, slots := 0, locals := 0 } : Room) (some none) iI [.int p0] S (f_Md_isDigit p0 S) := cn_of_v (M := md_Md_isDigit) (ini := false) rfl (by decide +kernel) (fun h => nomatch h) rfl (Nat.le_of_ble_eq_true rfl) (v_Md_isDigit p0 S)
noncomputable def f_Md_here_L0 (J52 : AS → Option (Int32 × AS)) : Nat → AS → Option (Int32 × AS)
  | 0, _ => none
  | n + 1, S => if (gi S 70 23) ≤ (gi S 70 22) then (J52 S) else (chk (vp_in (gi S 70 22) 400) (nm (fun (S2 : AS) => nm (si S2 70 22 ((gi S2 70 22) + 1)) fun S3 => f_Md_here_L0 J52 n S3) fun J39 => if (gi S 71 (ix (gi S 70 22))) = 32 then (J39 S) else (chk (vp_in (gi S 70 22) 400) (if (gi S 71 (ix (gi S 70 22))) = 10 then (J39 S) else (J52 S)))))
noncomputable def f_Md_here (S : AS) : Option (Int32 × AS) := nm (fun (S1 : AS) => if (gi S1 70 23) ≤ (gi S1 70 22) then (some ((-1), S1)) else (chk (vp_in (gi S1 70 22) 400) (some (gi S1 71 (ix (gi S1 70 22)), S1)))) fun J52 => f_Md_here_L0 J52 FU S
set_option maxHeartbeats 4000000 in
theorem v_Md_here_L0 {G : GX} (J52 : AS → Option (Int32 × AS)) (kJ52 : ∀ (T : AS), V G md_Md_here (QM G md_Md_here iI) (fun _ => True) (some none) 52 [some (.ref 70)] [] 0 0 T (J52 T)) : ∀ (n : Nat) (S : AS), V G md_Md_here (QM G md_Md_here iI) (fun _ => True) (some none) 0 [some (.ref 70)] [] 0 0 S (f_Md_here_L0 J52 n S) := by
  intro n
  induction n with
  | zero => intro S; exact V.none
  | succ n ih =>
    intro S
    rw [f_Md_here_L0]
    refine x_aload_n_ref d_Md_here_0 rfl ?_
    refine x_geti d_Md_here_1 fl_Md_77 ak_70 (q99 (by decide)) ?_
    refine x_aload_n_ref d_Md_here_4 rfl ?_
    refine x_geti d_Md_here_5 fl_Md_80 ak_70 (q99 (by decide)) ?_
    refine x_icmp_ge (tgt := 52) d_Md_here_8 (by decide) (fun _ => ?_) (fun _ => ?_)
    · exact V.kw (kJ52 S) ⟨rfl, trivial⟩
    · refine x_aload_n_ref d_Md_here_11 rfl ?_
      refine x_getr d_Md_here_12 fl_Md_7 ak_70 (q99 (by decide)) (shx sh_70_0) ?_
      refine x_aload_n_ref d_Md_here_15 rfl ?_
      refine x_geti d_Md_here_16 fl_Md_77 ak_70 (q99 (by decide)) ?_
      refine x_iald d_Md_here_19 ak_71 (q99 (by decide)) ?_
      refine x_bipush (v := 32) d_Md_here_20 (by decide) ?_
      refine x_nm (fun J39 hJ39 => ?_)
      have kJ39 : ∀ (S2 : AS), V G md_Md_here (QM G md_Md_here iI) (fun _ => True) (some none) 39 [some (.ref 70)] [] 0 0 S2 (J39 S2) := by
        subst hJ39
        intro S2
        refine x_aload_n_ref d_Md_here_39 rfl ?_
        refine x_dup d_Md_here_40 rfl ?_
        refine x_geti d_Md_here_41 fl_Md_77 ak_70 (q99 (by decide)) ?_
        refine x_iconst (v := 1) d_Md_here_44 (by decide) ?_
        refine x_iadd d_Md_here_45 ?_
        refine x_puti d_Md_here_46 fl_Md_77 rfl ak_70 (q99 (by decide)) (fun h => nomatch h) (fun h => nomatch h) ?_
        refine x_nmS (fun S3 _ => ?_)
        refine x_goto (tgt := 0) d_Md_here_49 (by decide) ?_
        exact V.kw (ih S3) ⟨rfl, trivial⟩
      clear hJ39
      refine x_icmp_eq (tgt := 39) d_Md_here_22 (by decide) (fun _ => ?_) (fun _ => ?_)
      · exact V.kw (kJ39 S) ⟨rfl, trivial⟩
      · refine x_aload_n_ref d_Md_here_25 rfl ?_
        refine x_getr d_Md_here_26 fl_Md_7 ak_70 (q99 (by decide)) (shx sh_70_0) ?_
        refine x_aload_n_ref d_Md_here_29 rfl ?_
        refine x_geti d_Md_here_30 fl_Md_77 ak_70 (q99 (by decide)) ?_
        refine x_iald d_Md_here_33 ak_71 (q99 (by decide)) ?_
        refine x_bipush (v := 10) d_Md_here_34 (by decide) ?_
        refine x_icmp_ne (tgt := 52) d_Md_here_36 (by decide) (fun _ => ?_) (fun _ => ?_)
        · exact V.kw (kJ52 S) ⟨rfl, trivial⟩
        · exact V.kw (kJ39 S) ⟨rfl, trivial⟩
set_option maxHeartbeats 4000000 in
theorem v_Md_here {G : GX} (S : AS) : V G md_Md_here (QM G md_Md_here iI) (fun _ => True) (some none) 0 [some (.ref 70)] [] 0 0 S (f_Md_here S) := by
  unfold f_Md_here
  refine x_nm (fun J52 hJ52 => ?_)
  have kJ52 : ∀ (S1 : AS), V G md_Md_here (QM G md_Md_here iI) (fun _ => True) (some none) 52 [some (.ref 70)] [] 0 0 S1 (J52 S1) := by
    subst hJ52
    intro S1
    refine x_aload_n_ref d_Md_here_52 rfl ?_
    refine x_geti d_Md_here_53 fl_Md_77 ak_70 (q99 (by decide)) ?_
    refine x_aload_n_ref d_Md_here_56 rfl ?_
    refine x_geti d_Md_here_57 fl_Md_80 ak_70 (q99 (by decide)) ?_
    refine x_icmp_ge (tgt := 75) d_Md_here_60 (by decide) (fun _ => ?_) (fun _ => ?_)
    · refine x_iconst (v := -1) d_Md_here_75 (by decide) ?_
      exact x_ret d_Md_here_76 rfl rfl (Nat.le_of_ble_eq_true rfl) (Nat.le_of_ble_eq_true rfl)
    · refine x_aload_n_ref d_Md_here_63 rfl ?_
      refine x_getr d_Md_here_64 fl_Md_7 ak_70 (q99 (by decide)) (shx sh_70_0) ?_
      refine x_aload_n_ref d_Md_here_67 rfl ?_
      refine x_geti d_Md_here_68 fl_Md_77 ak_70 (q99 (by decide)) ?_
      refine x_iald d_Md_here_71 ak_71 (q99 (by decide)) ?_
      refine x_goto (tgt := 76) d_Md_here_72 (by decide) ?_
      exact x_ret d_Md_here_76 rfl rfl (Nat.le_of_ble_eq_true rfl) (Nat.le_of_ble_eq_true rfl)
  clear hJ52
  exact V.kw (v_Md_here_L0 J52 kJ52 FU S) ⟨rfl, trivial⟩
theorem c_Md_here {G : GX} (S : AS) : CN G y_Md_here b_Md_here 1 (some (FieldType.int)) ({ frames := 0, cells := 0, slots := 0, locals := 0 } : Room) (some none) iI [.ref 70] S (f_Md_here S) := cn_of_v (M := md_Md_here) (ini := false) rfl (by decide +kernel) (fun h => nomatch h) rfl (Nat.le_of_ble_eq_true rfl) (v_Md_here S)
noncomputable def f_Md_wordSize_L7 (J43 : Int32 → AS → Option (Int32 × AS)) : Nat → Int32 → AS → Option (Int32 × AS)
  | 0, _, _ => none
  | n + 1, c1, S => if (gi S 70 23) ≤ ((gi S 70 22) + c1) then (J43 c1 S) else (chk (vp_in ((gi S 70 22) + c1) 400) (bI (f_Md_isLetter (gi S 71 (ix ((gi S 70 22) + c1))) S) fun r6 S5 => if r6 = 0 then (J43 c1 S5) else (f_Md_wordSize_L7 J43 n (c1 + 1) S5)))
noncomputable def f_Md_wordSize (S : AS) : Option (Int32 × AS) := bI (f_Md_here S) fun r2 S1 => nm (fun (a3 : Int32) (S4 : AS) => some (a3, S4)) fun J43 => f_Md_wordSize_L7 J43 FU 0 S1
set_option maxHeartbeats 4000000 in
theorem v_Md_wordSize_L7 {G : GX} (J43 : Int32 → AS → Option (Int32 × AS)) (kJ43 : ∀ (a3 : Int32) (T : AS), V G md_Md_wordSize (QM G md_Md_wordSize iI) (fun _ => True) (some none) 43 [none, some (.int a3)] [] 0 0 T (J43 a3 T)) : ∀ (n : Nat) (c1 : Int32) (S : AS), V G md_Md_wordSize (QM G md_Md_wordSize iI) (fun _ => True) (some none) 7 [some (.ref 70), some (.int c1)] [] 0 0 S (f_Md_wordSize_L7 J43 n c1 S) := by
  intro n
  induction n with
  | zero => intro c1 S; exact V.none
  | succ n ih =>
    intro c1 S
    rw [f_Md_wordSize_L7]
    refine x_aload_n_ref d_Md_wordSize_7 rfl ?_
    refine x_geti d_Md_wordSize_8 fl_Md_77 ak_70 (q99 (by decide)) ?_
    refine x_iload_n d_Md_wordSize_11 rfl ?_
    refine x_iadd d_Md_wordSize_12 ?_
    refine x_aload_n_ref d_Md_wordSize_13 rfl ?_
    refine x_geti d_Md_wordSize_14 fl_Md_80 ak_70 (q99 (by decide)) ?_
    refine x_icmp_ge (tgt := 43) d_Md_wordSize_17 (by decide) (fun _ => ?_) (fun _ => ?_)
    · exact V.kw (kJ43 c1 S) ⟨rfl, trivial⟩
    · refine x_aload_n_ref d_Md_wordSize_20 rfl ?_
      refine x_getr d_Md_wordSize_21 fl_Md_7 ak_70 (q99 (by decide)) (shx sh_70_0) ?_
      refine x_aload_n_ref d_Md_wordSize_24 rfl ?_
      refine x_geti d_Md_wordSize_25 fl_Md_77 ak_70 (q99 (by decide)) ?_
      refine x_iload_n d_Md_wordSize_28 rfl ?_
      refine x_iadd d_Md_wordSize_29 ?_
      refine x_iald d_Md_wordSize_30 ak_71 (q99 (by decide)) ?_
      refine x_sI (b' := (some none)) (As := [.int (gi S 71 (ix ((gi S 70 22) + c1)))]) d_Md_wordSize_31 ms_Md_162 rfl ⟨Nat.le_of_ble_eq_true rfl, Nat.le_of_ble_eq_true rfl⟩ (Nat.le_of_ble_eq_true rfl) ⟨Nat.le_of_ble_eq_true rfl, Nat.le_of_ble_eq_true rfl⟩ (fun _ h => h) (fun h => ⟨h, c_Md_isLetter (gi S 71 (ix ((gi S 70 22) + c1))) _⟩) (fun r6 S5 => ?_)
      refine x_if_eq (tgt := 43) d_Md_wordSize_34 (by decide) (fun _ => ?_) (fun _ => ?_)
      · exact V.kw (kJ43 c1 S5) ⟨rfl, trivial⟩
      · refine x_iinc (w := c1 + 1) (lc' := [some (.ref 70), some (.int (c1 + 1))]) d_Md_wordSize_37 (by decide) rfl rfl rfl ?_
        refine x_goto (tgt := 7) d_Md_wordSize_40 (by decide) ?_
        exact V.kw (ih (c1 + 1) S5) ⟨rfl, rfl, trivial⟩
set_option maxHeartbeats 4000000 in
theorem v_Md_wordSize {G : GX} (S : AS) : V G md_Md_wordSize (QM G md_Md_wordSize iI) (fun _ => True) (some none) 0 [some (.ref 70), none] [] 0 0 S (f_Md_wordSize S) := by
  unfold f_Md_wordSize
  refine x_iconst (v := 0) d_Md_wordSize_0 (by decide) ?_
  refine x_istore_n (lc' := [some (.ref 70), some (.int 0)]) d_Md_wordSize_1 (by decide) rfl ?_
  refine x_aload_n_ref d_Md_wordSize_2 rfl ?_
  refine x_vI (b' := (some none)) (As := []) d_Md_wordSize_3 mv_Md_158 rfl (fun _ => ak_70) rfl (q99 (by decide)) ⟨Nat.le_of_ble_eq_true rfl, Nat.le_of_ble_eq_true rfl⟩ (Nat.le_of_ble_eq_true rfl) ⟨Nat.le_of_ble_eq_true rfl, Nat.le_of_ble_eq_true rfl⟩ (fun _ h => h) (fun h => ⟨h, c_Md_here _⟩) (fun r2 S1 => ?_)
  refine x_pop d_Md_wordSize_6 rfl ?_
  refine x_nm (fun J43 hJ43 => ?_)
  have kJ43 : ∀ (a3 : Int32) (S4 : AS), V G md_Md_wordSize (QM G md_Md_wordSize iI) (fun _ => True) (some none) 43 [none, some (.int a3)] [] 0 0 S4 (J43 a3 S4) := by
    subst hJ43
    intro a3 S4
    refine x_iload_n d_Md_wordSize_43 rfl ?_
    exact x_ret d_Md_wordSize_44 rfl rfl (Nat.le_of_ble_eq_true rfl) (Nat.le_of_ble_eq_true rfl)
  clear hJ43
  exact V.kw (v_Md_wordSize_L7 J43 kJ43 FU 0 S1) ⟨rfl, rfl, trivial⟩
theorem c_Md_wordSize {G : GX} (S : AS) : CN G y_Md_wordSize b_Md_wordSize 2 (some (FieldType.int)) ({ frames := 1, cells := 0, slots := 0, locals := 20 } : Room) (some none) iI [.ref 70] S (f_Md_wordSize S) := cn_of_v (M := md_Md_wordSize) (ini := false) rfl (by decide +kernel) (fun h => nomatch h) rfl (Nat.le_of_ble_eq_true rfl) (v_Md_wordSize S)
noncomputable def f_Md_spells_L16 (J71 : Int32 → AS → Option (Int32 × AS)) (x1 : Int64) (x3 : Int32) : Nat → Int32 → Int32 → AS → Option (Int32 × AS)
  | 0, _, _, _ => none
  | n + 1, c4, c5, S => if x3 ≤ c5 then (J71 c4 S) else (nm (fun (a5 : Int32) (S6 : AS) => f_Md_spells_L16 J71 x1 x3 n a5 (c5 + 1) S6) fun J63 => nm (fun (S7 : AS) => J63 0 S7) fun J62 => if c4 = 0 then (J62 S) else (chk (vp_in ((gi S 70 22) + c5) 400) (if (gi S 71 (ix ((gi S 70 22) + c5))) = ((((x1.toUInt64 >>> ((8 * ((x3 - 1) - c5)).toInt64.toUInt64 &&& Int64.toUInt64 63)).toInt64) &&& 255).toInt32) then (J63 1 S) else (J62 S))))
noncomputable def f_Md_spells (p1 : Int64) (p3 : Int32) (S : AS) : Option (Int32 × AS) := bI (f_Md_wordSize S) fun r2 S1 => if r2 = p3 then (nm (fun (a3 : Int32) (S4 : AS) => chk (isb a3) (some (a3, S4))) fun J71 => f_Md_spells_L16 J71 p1 p3 FU 1 0 S1) else (some (0, S1))
set_option maxHeartbeats 4000000 in
theorem v_Md_spells_L16 {G : GX} (J71 : Int32 → AS → Option (Int32 × AS)) (x1 : Int64) (x3 : Int32) (kJ71 : ∀ (a3 : Int32) (T : AS), V G md_Md_spells (QM G md_Md_spells iI) (fun _ => True) (some none) 71 [none, none, none, none, some (.int a3), none] [] 0 0 T (J71 a3 T)) : ∀ (n : Nat) (c4 : Int32) (c5 : Int32) (S : AS), V G md_Md_spells (QM G md_Md_spells iI) (fun _ => True) (some none) 16 [some (.ref 70), some (.long x1), none, some (.int x3), some (.int c4), some (.int c5)] [] 0 0 S (f_Md_spells_L16 J71 x1 x3 n c4 c5 S) := by
  intro n
  induction n with
  | zero => intro c4 c5 S; exact V.none
  | succ n ih =>
    intro c4 c5 S
    rw [f_Md_spells_L16]
    refine x_iload d_Md_spells_16 rfl ?_
    refine x_iload_n d_Md_spells_18 rfl ?_
    refine x_icmp_ge (tgt := 71) d_Md_spells_19 (by decide) (fun _ => ?_) (fun _ => ?_)
    · exact V.kw (kJ71 c4 S) ⟨rfl, trivial⟩
    · refine x_iload d_Md_spells_22 rfl ?_
      refine x_nm (fun J63 hJ63 => ?_)
      have kJ63 : ∀ (a5 : Int32) (S6 : AS), V G md_Md_spells (QM G md_Md_spells iI) (fun _ => True) (some none) 63 [some (.ref 70), some (.long x1), none, some (.int x3), none, some (.int c5)] [.int a5] 0 0 S6 (J63 a5 S6) := by
        subst hJ63
        intro a5 S6
        refine x_istore (lc' := [some (.ref 70), some (.long x1), none, some (.int x3), some (.int a5), some (.int c5)]) d_Md_spells_63 (by decide) rfl ?_
        refine x_iinc (w := c5 + 1) (lc' := [some (.ref 70), some (.long x1), none, some (.int x3), some (.int a5), some (.int (c5 + 1))]) d_Md_spells_65 (by decide) rfl rfl rfl ?_
        refine x_goto (tgt := 16) d_Md_spells_68 (by decide) ?_
        exact V.kw (ih a5 (c5 + 1) S6) ⟨rfl, rfl, rfl, rfl, rfl, trivial⟩
      clear hJ63
      refine x_nm (fun J62 hJ62 => ?_)
      have kJ62 : ∀ (S7 : AS), V G md_Md_spells (QM G md_Md_spells iI) (fun _ => True) (some none) 62 [some (.ref 70), some (.long x1), none, some (.int x3), none, some (.int c5)] [] 0 0 S7 (J62 S7) := by
        subst hJ62
        intro S7
        refine x_iconst (v := 0) d_Md_spells_62 (by decide) ?_
        exact V.kw (kJ63 0 S7) ⟨rfl, rfl, rfl, rfl, trivial⟩
      clear hJ62
      refine x_if_eq (tgt := 62) d_Md_spells_24 (by decide) (fun _ => ?_) (fun _ => ?_)
      · exact V.kw (kJ62 S) ⟨rfl, rfl, rfl, rfl, trivial⟩
      · refine x_aload_n_ref d_Md_spells_27 rfl ?_
        refine x_getr d_Md_spells_28 fl_Md_7 ak_70 (q99 (by decide)) (shx sh_70_0) ?_
        refine x_aload_n_ref d_Md_spells_31 rfl ?_
        refine x_geti d_Md_spells_32 fl_Md_77 ak_70 (q99 (by decide)) ?_
        refine x_iload d_Md_spells_35 rfl ?_
        refine x_iadd d_Md_spells_37 ?_
        refine x_iald d_Md_spells_38 ak_71 (q99 (by decide)) ?_
        refine x_lload_n d_Md_spells_39 rfl ?_
        refine x_bipush (v := 8) d_Md_spells_40 (by decide) ?_
        refine x_iload_n d_Md_spells_42 rfl ?_
        refine x_iconst (v := 1) d_Md_spells_43 (by decide) ?_
        refine x_isub d_Md_spells_44 ?_
        refine x_iload d_Md_spells_45 rfl ?_
        refine x_isub d_Md_spells_47 ?_
        refine x_imul d_Md_spells_48 ?_
        refine x_lushr d_Md_spells_49 ?_
        refine x_ldc2 (v := 255) (List.mem_append_right _ (List.mem_append_right _ (List.mem_append_right _ (List.mem_append_right _ (List.mem_append_right _ (List.mem_append_left _ (List.mem_of_getElem? (i := 155) (by decide +kernel)))))))) d_Md_spells_50 ?_
        refine x_land d_Md_spells_53 ?_
        refine x_l2i d_Md_spells_54 ?_
        refine x_icmp_ne (tgt := 62) d_Md_spells_55 (by decide) (fun _ => ?_) (fun _ => ?_)
        · exact V.kw (kJ62 S) ⟨rfl, rfl, rfl, rfl, trivial⟩
        · refine x_iconst (v := 1) d_Md_spells_58 (by decide) ?_
          refine x_goto (tgt := 63) d_Md_spells_59 (by decide) ?_
          exact V.kw (kJ63 1 S) ⟨rfl, rfl, rfl, rfl, trivial⟩
set_option maxHeartbeats 4000000 in
theorem v_Md_spells {G : GX} (p1 : Int64) (p3 : Int32) (S : AS) : V G md_Md_spells (QM G md_Md_spells iI) (fun _ => True) (some none) 0 [some (.ref 70), some (.long p1), none, some (.int p3), none, none] [] 0 0 S (f_Md_spells p1 p3 S) := by
  unfold f_Md_spells
  refine x_aload_n_ref d_Md_spells_0 rfl ?_
  refine x_vI (b' := (some none)) (As := []) d_Md_spells_1 mv_Md_165 rfl (fun _ => ak_70) rfl (q99 (by decide)) ⟨Nat.le_of_ble_eq_true rfl, Nat.le_of_ble_eq_true rfl⟩ (Nat.le_of_ble_eq_true rfl) ⟨Nat.le_of_ble_eq_true rfl, Nat.le_of_ble_eq_true rfl⟩ (fun _ h => h) (fun h => ⟨h, c_Md_wordSize _⟩) (fun r2 S1 => ?_)
  refine x_iload_n d_Md_spells_4 rfl ?_
  refine x_icmp_eq (tgt := 10) d_Md_spells_5 (by decide) (fun _ => ?_) (fun _ => ?_)
  · refine x_iconst (v := 1) d_Md_spells_10 (by decide) ?_
    refine x_istore (lc' := [some (.ref 70), some (.long p1), none, some (.int p3), some (.int 1), none]) d_Md_spells_11 (by decide) rfl ?_
    refine x_iconst (v := 0) d_Md_spells_13 (by decide) ?_
    refine x_istore (lc' := [some (.ref 70), some (.long p1), none, some (.int p3), some (.int 1), some (.int 0)]) d_Md_spells_14 (by decide) rfl ?_
    refine x_nm (fun J71 hJ71 => ?_)
    have kJ71 : ∀ (a3 : Int32) (S4 : AS), V G md_Md_spells (QM G md_Md_spells iI) (fun _ => True) (some none) 71 [none, none, none, none, some (.int a3), none] [] 0 0 S4 (J71 a3 S4) := by
      subst hJ71
      intro a3 S4
      refine x_iload d_Md_spells_71 rfl ?_
      exact x_zretc d_Md_spells_73 rfl (Nat.le_of_ble_eq_true rfl) (Nat.le_of_ble_eq_true rfl)
    clear hJ71
    exact V.kw (v_Md_spells_L16 J71 p1 p3 kJ71 FU 1 0 S1) ⟨rfl, rfl, rfl, rfl, rfl, trivial⟩
  · refine x_iconst (v := 0) d_Md_spells_8 (by decide) ?_
    exact x_ret d_Md_spells_9 rfl rfl (Nat.le_of_ble_eq_true rfl) (Nat.le_of_ble_eq_true rfl)
theorem c_Md_spells {G : GX} (p1 : Int64) (p3 : Int32) (S : AS) : CN G y_Md_spells b_Md_spells 6 (some (FieldType.boolean)) ({ frames := 2, cells := 0, slots := 0, locals := 41 } : Room) (some none) iI [.ref 70, .long p1, .int p3] S (f_Md_spells p1 p3 S) := cn_of_v (M := md_Md_spells) (ini := false) rfl (by decide +kernel) (fun h => nomatch h) rfl (Nat.le_of_ble_eq_true rfl) (v_Md_spells p1 p3 S)
noncomputable def f_Md_passes (p1 : Int64) (p3 : Int32) (S : AS) : Option (Int32 × AS) := bI (f_Md_spells p1 p3 S) fun r2 S1 => nm (fun (a3 : Int32) (a4 : Int32) (S5 : AS) => nm (si S5 70 22 (a3 + a4)) fun S6 => chk (isb r2) (some (r2, S6))) fun J23 => if r2 = 0 then (J23 (gi S1 70 22) 0 S1) else (J23 (gi S1 70 22) p3 S1)
set_option maxHeartbeats 4000000 in
theorem v_Md_passes {G : GX} (p1 : Int64) (p3 : Int32) (S : AS) : V G md_Md_passes (QM G md_Md_passes iI) (fun _ => True) (some none) 0 [some (.ref 70), some (.long p1), none, some (.int p3), none] [] 0 0 S (f_Md_passes p1 p3 S) := by
  unfold f_Md_passes
  refine x_aload_n_ref d_Md_passes_0 rfl ?_
  refine x_lload_n d_Md_passes_1 rfl ?_
  refine x_iload_n d_Md_passes_2 rfl ?_
  refine x_vI (b' := (some none)) (As := [.long p1, .int p3]) d_Md_passes_3 mv_Md_170 rfl (fun _ => ak_70) rfl (q99 (by decide)) ⟨Nat.le_of_ble_eq_true rfl, Nat.le_of_ble_eq_true rfl⟩ (Nat.le_of_ble_eq_true rfl) ⟨Nat.le_of_ble_eq_true rfl, Nat.le_of_ble_eq_true rfl⟩ (fun _ h => h) (fun h => ⟨h, c_Md_spells p1 p3 _⟩) (fun r2 S1 => ?_)
  refine x_istore (lc' := [some (.ref 70), some (.long p1), none, some (.int p3), some (.int r2)]) d_Md_passes_6 (by decide) rfl ?_
  refine x_aload_n_ref d_Md_passes_8 rfl ?_
  refine x_dup d_Md_passes_9 rfl ?_
  refine x_geti d_Md_passes_10 fl_Md_77 ak_70 (q99 (by decide)) ?_
  refine x_iload d_Md_passes_13 rfl ?_
  refine x_nm (fun J23 hJ23 => ?_)
  have kJ23 : ∀ (a3 : Int32) (a4 : Int32) (S5 : AS), V G md_Md_passes (QM G md_Md_passes iI) (fun _ => True) (some none) 23 [none, none, none, none, some (.int r2)] [.int a4, .int a3, .ref 70] 0 0 S5 (J23 a3 a4 S5) := by
    subst hJ23
    intro a3 a4 S5
    refine x_iadd d_Md_passes_23 ?_
    refine x_puti d_Md_passes_24 fl_Md_77 rfl ak_70 (q99 (by decide)) (fun h => nomatch h) (fun h => nomatch h) ?_
    refine x_nmS (fun S6 _ => ?_)
    refine x_iload d_Md_passes_27 rfl ?_
    exact x_zretc d_Md_passes_29 rfl (Nat.le_of_ble_eq_true rfl) (Nat.le_of_ble_eq_true rfl)
  clear hJ23
  refine x_if_eq (tgt := 22) d_Md_passes_15 (by decide) (fun _ => ?_) (fun _ => ?_)
  · refine x_iconst (v := 0) d_Md_passes_22 (by decide) ?_
    exact V.kw (kJ23 (gi S1 70 22) 0 S1) ⟨rfl, trivial⟩
  · refine x_iload_n d_Md_passes_18 rfl ?_
    refine x_goto (tgt := 23) d_Md_passes_19 (by decide) ?_
    exact V.kw (kJ23 (gi S1 70 22) p3 S1) ⟨rfl, trivial⟩
theorem c_Md_passes {G : GX} (p1 : Int64) (p3 : Int32) (S : AS) : CN G y_Md_passes b_Md_passes 5 (some (FieldType.boolean)) ({ frames := 3, cells := 0, slots := 0, locals := 66 } : Room) (some none) iI [.ref 70, .long p1, .int p3] S (f_Md_passes p1 p3 S) := cn_of_v (M := md_Md_passes) (ini := false) rfl (by decide +kernel) (fun h => nomatch h) rfl (Nat.le_of_ble_eq_true rfl) (v_Md_passes p1 p3 S)
noncomputable def f_Md_subject (S : AS) : Option (Int32 × AS) := bI (f_Md_passes 512970880104 5 S) fun r2 S1 => if r2 = 0 then (bI (f_Md_passes 28263424800944997 7 S1) fun r4 S3 => if r4 = 0 then (bI (f_Md_passes 110386690024805 6 S3) fun r6 S5 => if r6 = 0 then (bI (f_Md_passes 1918987883 4 S5) fun r8 S7 => if r8 = 0 then (bI (f_Md_passes 482906174579 5 S7) fun r10 S9 => if r10 = 0 then (bI (f_Md_passes 1684108389 4 S9) fun r12 S11 => if r12 = 0 then (bI (f_Md_passes 1684109683 4 S11) fun r14 S13 => if r14 = 0 then (bV (f_Md_blame 1 (gi S13 70 22) S13) fun S15 => some (0, S15)) else (some (6, S13))) else (some (5, S11))) else (some (4, S9))) else (some (3, S7))) else (some (2, S5))) else (some (1, S3))) else (some (0, S1))
set_option maxHeartbeats 4000000 in
theorem v_Md_subject {G : GX} (S : AS) : V G md_Md_subject (QM G md_Md_subject iI) (fun _ => True) (some none) 0 [some (.ref 70)] [] 0 0 S (f_Md_subject S) := by
  unfold f_Md_subject
  refine x_aload_n_ref d_Md_subject_0 rfl ?_
  refine x_ldc2 (v := 512970880104) (List.mem_append_right _ (List.mem_append_right _ (List.mem_append_right _ (List.mem_append_right _ (List.mem_append_right _ (List.mem_append_left _ (List.mem_of_getElem? (i := 162) (by decide +kernel)))))))) d_Md_subject_1 ?_
  refine x_iconst (v := 5) d_Md_subject_4 (by decide) ?_
  refine x_vI (b' := (some none)) (As := [.long 512970880104, .int 5]) d_Md_subject_5 mv_Md_176 rfl (fun _ => ak_70) rfl (q99 (by decide)) ⟨Nat.le_of_ble_eq_true rfl, Nat.le_of_ble_eq_true rfl⟩ (Nat.le_of_ble_eq_true rfl) ⟨Nat.le_of_ble_eq_true rfl, Nat.le_of_ble_eq_true rfl⟩ (fun _ h => h) (fun h => ⟨h, c_Md_passes 512970880104 5 _⟩) (fun r2 S1 => ?_)
  refine x_if_eq (tgt := 13) d_Md_subject_8 (by decide) (fun _ => ?_) (fun _ => ?_)
  · refine x_aload_n_ref d_Md_subject_13 rfl ?_
    refine x_ldc2 (v := 28263424800944997) (List.mem_append_right _ (List.mem_append_right _ (List.mem_append_right _ (List.mem_append_right _ (List.mem_append_right _ (List.mem_append_left _ (List.mem_of_getElem? (i := 163) (by decide +kernel)))))))) d_Md_subject_14 ?_
    refine x_bipush (v := 7) d_Md_subject_17 (by decide) ?_
    refine x_vI (b' := (some none)) (As := [.long 28263424800944997, .int 7]) d_Md_subject_19 mv_Md_176 rfl (fun _ => ak_70) rfl (q99 (by decide)) ⟨Nat.le_of_ble_eq_true rfl, Nat.le_of_ble_eq_true rfl⟩ (Nat.le_of_ble_eq_true rfl) ⟨Nat.le_of_ble_eq_true rfl, Nat.le_of_ble_eq_true rfl⟩ (fun _ h => h) (fun h => ⟨h, c_Md_passes 28263424800944997 7 _⟩) (fun r4 S3 => ?_)
    refine x_if_eq (tgt := 27) d_Md_subject_22 (by decide) (fun _ => ?_) (fun _ => ?_)
    · refine x_aload_n_ref d_Md_subject_27 rfl ?_
      refine x_ldc2 (v := 110386690024805) (List.mem_append_right _ (List.mem_append_right _ (List.mem_append_right _ (List.mem_append_right _ (List.mem_append_right _ (List.mem_append_left _ (List.mem_of_getElem? (i := 164) (by decide +kernel)))))))) d_Md_subject_28 ?_
      refine x_bipush (v := 6) d_Md_subject_31 (by decide) ?_
      refine x_vI (b' := (some none)) (As := [.long 110386690024805, .int 6]) d_Md_subject_33 mv_Md_176 rfl (fun _ => ak_70) rfl (q99 (by decide)) ⟨Nat.le_of_ble_eq_true rfl, Nat.le_of_ble_eq_true rfl⟩ (Nat.le_of_ble_eq_true rfl) ⟨Nat.le_of_ble_eq_true rfl, Nat.le_of_ble_eq_true rfl⟩ (fun _ h => h) (fun h => ⟨h, c_Md_passes 110386690024805 6 _⟩) (fun r6 S5 => ?_)
      refine x_if_eq (tgt := 41) d_Md_subject_36 (by decide) (fun _ => ?_) (fun _ => ?_)
      · refine x_aload_n_ref d_Md_subject_41 rfl ?_
        refine x_ldc2 (v := 1918987883) (List.mem_append_right _ (List.mem_append_right _ (List.mem_append_right _ (List.mem_append_right _ (List.mem_append_right _ (List.mem_append_left _ (List.mem_of_getElem? (i := 165) (by decide +kernel)))))))) d_Md_subject_42 ?_
        refine x_iconst (v := 4) d_Md_subject_45 (by decide) ?_
        refine x_vI (b' := (some none)) (As := [.long 1918987883, .int 4]) d_Md_subject_46 mv_Md_176 rfl (fun _ => ak_70) rfl (q99 (by decide)) ⟨Nat.le_of_ble_eq_true rfl, Nat.le_of_ble_eq_true rfl⟩ (Nat.le_of_ble_eq_true rfl) ⟨Nat.le_of_ble_eq_true rfl, Nat.le_of_ble_eq_true rfl⟩ (fun _ h => h) (fun h => ⟨h, c_Md_passes 1918987883 4 _⟩) (fun r8 S7 => ?_)
        refine x_if_eq (tgt := 54) d_Md_subject_49 (by decide) (fun _ => ?_) (fun _ => ?_)
        · refine x_aload_n_ref d_Md_subject_54 rfl ?_
          refine x_ldc2 (v := 482906174579) (List.mem_append_right _ (List.mem_append_right _ (List.mem_append_right _ (List.mem_append_right _ (List.mem_append_right _ (List.mem_append_left _ (List.mem_of_getElem? (i := 166) (by decide +kernel)))))))) d_Md_subject_55 ?_
          refine x_iconst (v := 5) d_Md_subject_58 (by decide) ?_
          refine x_vI (b' := (some none)) (As := [.long 482906174579, .int 5]) d_Md_subject_59 mv_Md_176 rfl (fun _ => ak_70) rfl (q99 (by decide)) ⟨Nat.le_of_ble_eq_true rfl, Nat.le_of_ble_eq_true rfl⟩ (Nat.le_of_ble_eq_true rfl) ⟨Nat.le_of_ble_eq_true rfl, Nat.le_of_ble_eq_true rfl⟩ (fun _ h => h) (fun h => ⟨h, c_Md_passes 482906174579 5 _⟩) (fun r10 S9 => ?_)
          refine x_if_eq (tgt := 67) d_Md_subject_62 (by decide) (fun _ => ?_) (fun _ => ?_)
          · refine x_aload_n_ref d_Md_subject_67 rfl ?_
            refine x_ldc2 (v := 1684108389) (List.mem_append_right _ (List.mem_append_right _ (List.mem_append_right _ (List.mem_append_right _ (List.mem_append_right _ (List.mem_append_left _ (List.mem_of_getElem? (i := 167) (by decide +kernel)))))))) d_Md_subject_68 ?_
            refine x_iconst (v := 4) d_Md_subject_71 (by decide) ?_
            refine x_vI (b' := (some none)) (As := [.long 1684108389, .int 4]) d_Md_subject_72 mv_Md_176 rfl (fun _ => ak_70) rfl (q99 (by decide)) ⟨Nat.le_of_ble_eq_true rfl, Nat.le_of_ble_eq_true rfl⟩ (Nat.le_of_ble_eq_true rfl) ⟨Nat.le_of_ble_eq_true rfl, Nat.le_of_ble_eq_true rfl⟩ (fun _ h => h) (fun h => ⟨h, c_Md_passes 1684108389 4 _⟩) (fun r12 S11 => ?_)
            refine x_if_eq (tgt := 80) d_Md_subject_75 (by decide) (fun _ => ?_) (fun _ => ?_)
            · refine x_aload_n_ref d_Md_subject_80 rfl ?_
              refine x_ldc2 (v := 1684109683) (List.mem_append_right _ (List.mem_append_right _ (List.mem_append_right _ (List.mem_append_right _ (List.mem_append_right _ (List.mem_append_left _ (List.mem_of_getElem? (i := 168) (by decide +kernel)))))))) d_Md_subject_81 ?_
              refine x_iconst (v := 4) d_Md_subject_84 (by decide) ?_
              refine x_vI (b' := (some none)) (As := [.long 1684109683, .int 4]) d_Md_subject_85 mv_Md_176 rfl (fun _ => ak_70) rfl (q99 (by decide)) ⟨Nat.le_of_ble_eq_true rfl, Nat.le_of_ble_eq_true rfl⟩ (Nat.le_of_ble_eq_true rfl) ⟨Nat.le_of_ble_eq_true rfl, Nat.le_of_ble_eq_true rfl⟩ (fun _ h => h) (fun h => ⟨h, c_Md_passes 1684109683 4 _⟩) (fun r14 S13 => ?_)
              refine x_if_eq (tgt := 94) d_Md_subject_88 (by decide) (fun _ => ?_) (fun _ => ?_)
              · refine x_aload_n_ref d_Md_subject_94 rfl ?_
                refine x_iconst (v := 1) d_Md_subject_95 (by decide) ?_
                refine x_aload_n_ref d_Md_subject_96 rfl ?_
                refine x_geti d_Md_subject_97 fl_Md_77 ak_70 (q99 (by decide)) ?_
                refine x_vV (b' := (some none)) (As := [.int 1, .int (gi S13 70 22)]) d_Md_subject_100 mv_Md_191 rfl (fun _ => ak_70) rfl (q99 (by decide)) ⟨Nat.le_of_ble_eq_true rfl, Nat.le_of_ble_eq_true rfl⟩ (Nat.le_of_ble_eq_true rfl) ⟨Nat.le_of_ble_eq_true rfl, Nat.le_of_ble_eq_true rfl⟩ (fun _ h => h) (fun h => ⟨h, c_Md_blame 1 (gi S13 70 22) _⟩) (fun S15 => ?_)
                refine x_iconst (v := 0) d_Md_subject_103 (by decide) ?_
                exact x_ret d_Md_subject_104 rfl rfl (Nat.le_of_ble_eq_true rfl) (Nat.le_of_ble_eq_true rfl)
              · refine x_bipush (v := 6) d_Md_subject_91 (by decide) ?_
                exact x_ret d_Md_subject_93 rfl rfl (Nat.le_of_ble_eq_true rfl) (Nat.le_of_ble_eq_true rfl)
            · refine x_iconst (v := 5) d_Md_subject_78 (by decide) ?_
              exact x_ret d_Md_subject_79 rfl rfl (Nat.le_of_ble_eq_true rfl) (Nat.le_of_ble_eq_true rfl)
          · refine x_iconst (v := 4) d_Md_subject_65 (by decide) ?_
            exact x_ret d_Md_subject_66 rfl rfl (Nat.le_of_ble_eq_true rfl) (Nat.le_of_ble_eq_true rfl)
        · refine x_iconst (v := 3) d_Md_subject_52 (by decide) ?_
          exact x_ret d_Md_subject_53 rfl rfl (Nat.le_of_ble_eq_true rfl) (Nat.le_of_ble_eq_true rfl)
      · refine x_iconst (v := 2) d_Md_subject_39 (by decide) ?_
        exact x_ret d_Md_subject_40 rfl rfl (Nat.le_of_ble_eq_true rfl) (Nat.le_of_ble_eq_true rfl)
    · refine x_iconst (v := 1) d_Md_subject_25 (by decide) ?_
      exact x_ret d_Md_subject_26 rfl rfl (Nat.le_of_ble_eq_true rfl) (Nat.le_of_ble_eq_true rfl)
  · refine x_iconst (v := 0) d_Md_subject_11 (by decide) ?_
    exact x_ret d_Md_subject_12 rfl rfl (Nat.le_of_ble_eq_true rfl) (Nat.le_of_ble_eq_true rfl)
theorem c_Md_subject {G : GX} (S : AS) : CN G y_Md_subject b_Md_subject 1 (some (FieldType.int)) ({ frames := 4, cells := 0, slots := 0, locals := 90 } : Room) (some none) iI [.ref 70] S (f_Md_subject S) := cn_of_v (M := md_Md_subject) (ini := false) rfl (by decide +kernel) (fun h => nomatch h) rfl (Nat.le_of_ble_eq_true rfl) (v_Md_subject S)
noncomputable def f_Md_digits_L25 (J107 : Int32 → AS → Option (Int32 × AS)) : Nat → Int32 → Int32 → AS → Option (Int32 × AS)
  | 0, _, _, _ => none
  | n + 1, c1, c2, S => if (gi S 70 23) ≤ (gi S 70 22) then (J107 c1 S) else (chk (vp_in (gi S 70 22) 400) (bI (f_Md_isDigit (gi S 71 (ix (gi S 70 22))) S) fun r8 S7 => if r8 = 0 then (J107 c1 S7) else (if (gi S7 70 24) = 0 then (nm (fun (S9 : AS) => chk (vp_in (gi S9 70 22) 400) (nm (((10 * c1) + (gi S9 71 (ix (gi S9 70 22)))) - 48) fun v10 => nm (si S9 70 22 ((gi S9 70 22) + 1)) fun S11 => f_Md_digits_L25 J107 n v10 (c2 + 1) S11)) fun J73 => if c2 = 7 then (bV (f_Md_blame 1 (gi S7 70 22) S7) fun S12 => J73 S12) else (J73 S7)) else (J107 c1 S7))))
noncomputable def f_Md_digits (S : AS) : Option (Int32 × AS) := bI (f_Md_here S) fun r2 S1 => bI (f_Md_isDigit r2 S1) fun r4 S3 => if r4 = 0 then (bV (f_Md_blame 1 (gi S3 70 22) S3) fun S13 => some (0, S13)) else (nm (fun (a5 : Int32) (S6 : AS) => some (a5, S6)) fun J107 => f_Md_digits_L25 J107 FU 0 0 S3)
set_option maxHeartbeats 4000000 in
theorem v_Md_digits_L25 {G : GX} (J107 : Int32 → AS → Option (Int32 × AS)) (kJ107 : ∀ (a5 : Int32) (T : AS), V G md_Md_digits (QM G md_Md_digits iI) (fun _ => True) (some none) 107 [none, some (.int a5), none] [] 0 0 T (J107 a5 T)) : ∀ (n : Nat) (c1 : Int32) (c2 : Int32) (S : AS), V G md_Md_digits (QM G md_Md_digits iI) (fun _ => True) (some none) 25 [some (.ref 70), some (.int c1), some (.int c2)] [] 0 0 S (f_Md_digits_L25 J107 n c1 c2 S) := by
  intro n
  induction n with
  | zero => intro c1 c2 S; exact V.none
  | succ n ih =>
    intro c1 c2 S
    rw [f_Md_digits_L25]
    refine x_aload_n_ref d_Md_digits_25 rfl ?_
    refine x_geti d_Md_digits_26 fl_Md_77 ak_70 (q99 (by decide)) ?_
    refine x_aload_n_ref d_Md_digits_29 rfl ?_
    refine x_geti d_Md_digits_30 fl_Md_80 ak_70 (q99 (by decide)) ?_
    refine x_icmp_ge (tgt := 107) d_Md_digits_33 (by decide) (fun _ => ?_) (fun _ => ?_)
    · exact V.kw (kJ107 c1 S) ⟨rfl, trivial⟩
    · refine x_aload_n_ref d_Md_digits_36 rfl ?_
      refine x_getr d_Md_digits_37 fl_Md_7 ak_70 (q99 (by decide)) (shx sh_70_0) ?_
      refine x_aload_n_ref d_Md_digits_40 rfl ?_
      refine x_geti d_Md_digits_41 fl_Md_77 ak_70 (q99 (by decide)) ?_
      refine x_iald d_Md_digits_44 ak_71 (q99 (by decide)) ?_
      refine x_sI (b' := (some none)) (As := [.int (gi S 71 (ix (gi S 70 22)))]) d_Md_digits_45 ms_Md_195 rfl ⟨Nat.le_of_ble_eq_true rfl, Nat.le_of_ble_eq_true rfl⟩ (Nat.le_of_ble_eq_true rfl) ⟨Nat.le_of_ble_eq_true rfl, Nat.le_of_ble_eq_true rfl⟩ (fun _ h => h) (fun h => ⟨h, c_Md_isDigit (gi S 71 (ix (gi S 70 22))) _⟩) (fun r8 S7 => ?_)
      refine x_if_eq (tgt := 107) d_Md_digits_48 (by decide) (fun _ => ?_) (fun _ => ?_)
      · exact V.kw (kJ107 c1 S7) ⟨rfl, trivial⟩
      · refine x_aload_n_ref d_Md_digits_51 rfl ?_
        refine x_geti d_Md_digits_52 fl_Md_83 ak_70 (q99 (by decide)) ?_
        refine x_if_ne (tgt := 107) d_Md_digits_55 (by decide) (fun _ => ?_) (fun _ => ?_)
        · exact V.kw (kJ107 c1 S7) ⟨rfl, trivial⟩
        · refine x_iload_n d_Md_digits_58 rfl ?_
          refine x_bipush (v := 7) d_Md_digits_59 (by decide) ?_
          refine x_nm (fun J73 hJ73 => ?_)
          have kJ73 : ∀ (S9 : AS), V G md_Md_digits (QM G md_Md_digits iI) (fun _ => True) (some none) 73 [some (.ref 70), some (.int c1), some (.int c2)] [] 0 0 S9 (J73 S9) := by
            subst hJ73
            intro S9
            refine x_bipush (v := 10) d_Md_digits_73 (by decide) ?_
            refine x_iload_n d_Md_digits_75 rfl ?_
            refine x_imul d_Md_digits_76 ?_
            refine x_aload_n_ref d_Md_digits_77 rfl ?_
            refine x_getr d_Md_digits_78 fl_Md_7 ak_70 (q99 (by decide)) (shx sh_70_0) ?_
            refine x_aload_n_ref d_Md_digits_81 rfl ?_
            refine x_geti d_Md_digits_82 fl_Md_77 ak_70 (q99 (by decide)) ?_
            refine x_iald d_Md_digits_85 ak_71 (q99 (by decide)) ?_
            refine x_iadd d_Md_digits_86 ?_
            refine x_bipush (v := 48) d_Md_digits_87 (by decide) ?_
            refine x_isub d_Md_digits_89 ?_
            refine x_topi (fun v10 => ?_)
            refine x_istore_n (lc' := [some (.ref 70), some (.int v10), some (.int c2)]) d_Md_digits_90 (by decide) rfl ?_
            refine x_aload_n_ref d_Md_digits_91 rfl ?_
            refine x_dup d_Md_digits_92 rfl ?_
            refine x_geti d_Md_digits_93 fl_Md_77 ak_70 (q99 (by decide)) ?_
            refine x_iconst (v := 1) d_Md_digits_96 (by decide) ?_
            refine x_iadd d_Md_digits_97 ?_
            refine x_puti d_Md_digits_98 fl_Md_77 rfl ak_70 (q99 (by decide)) (fun h => nomatch h) (fun h => nomatch h) ?_
            refine x_nmS (fun S11 _ => ?_)
            refine x_iinc (w := c2 + 1) (lc' := [some (.ref 70), some (.int v10), some (.int (c2 + 1))]) d_Md_digits_101 (by decide) rfl rfl rfl ?_
            refine x_goto (tgt := 25) d_Md_digits_104 (by decide) ?_
            exact V.kw (ih v10 (c2 + 1) S11) ⟨rfl, rfl, rfl, trivial⟩
          clear hJ73
          refine x_icmp_ne (tgt := 73) d_Md_digits_61 (by decide) (fun _ => ?_) (fun _ => ?_)
          · exact V.kw (kJ73 S7) ⟨rfl, rfl, rfl, trivial⟩
          · refine x_aload_n_ref d_Md_digits_64 rfl ?_
            refine x_iconst (v := 1) d_Md_digits_65 (by decide) ?_
            refine x_aload_n_ref d_Md_digits_66 rfl ?_
            refine x_geti d_Md_digits_67 fl_Md_77 ak_70 (q99 (by decide)) ?_
            refine x_vV (b' := (some none)) (As := [.int 1, .int (gi S7 70 22)]) d_Md_digits_70 mv_Md_191 rfl (fun _ => ak_70) rfl (q99 (by decide)) ⟨Nat.le_of_ble_eq_true rfl, Nat.le_of_ble_eq_true rfl⟩ (Nat.le_of_ble_eq_true rfl) ⟨Nat.le_of_ble_eq_true rfl, Nat.le_of_ble_eq_true rfl⟩ (fun _ h => h) (fun h => ⟨h, c_Md_blame 1 (gi S7 70 22) _⟩) (fun S12 => ?_)
            exact V.kw (kJ73 S12) ⟨rfl, rfl, rfl, trivial⟩
set_option maxHeartbeats 4000000 in
theorem v_Md_digits {G : GX} (S : AS) : V G md_Md_digits (QM G md_Md_digits iI) (fun _ => True) (some none) 0 [some (.ref 70), none, none] [] 0 0 S (f_Md_digits S) := by
  unfold f_Md_digits
  refine x_aload_n_ref d_Md_digits_0 rfl ?_
  refine x_vI (b' := (some none)) (As := []) d_Md_digits_1 mv_Md_158 rfl (fun _ => ak_70) rfl (q99 (by decide)) ⟨Nat.le_of_ble_eq_true rfl, Nat.le_of_ble_eq_true rfl⟩ (Nat.le_of_ble_eq_true rfl) ⟨Nat.le_of_ble_eq_true rfl, Nat.le_of_ble_eq_true rfl⟩ (fun _ h => h) (fun h => ⟨h, c_Md_here _⟩) (fun r2 S1 => ?_)
  refine x_sI (b' := (some none)) (As := [.int r2]) d_Md_digits_4 ms_Md_195 rfl ⟨Nat.le_of_ble_eq_true rfl, Nat.le_of_ble_eq_true rfl⟩ (Nat.le_of_ble_eq_true rfl) ⟨Nat.le_of_ble_eq_true rfl, Nat.le_of_ble_eq_true rfl⟩ (fun _ h => h) (fun h => ⟨h, c_Md_isDigit r2 _⟩) (fun r4 S3 => ?_)
  refine x_if_ne (tgt := 21) d_Md_digits_7 (by decide) (fun _ => ?_) (fun _ => ?_)
  · refine x_iconst (v := 0) d_Md_digits_21 (by decide) ?_
    refine x_istore_n (lc' := [some (.ref 70), some (.int 0), none]) d_Md_digits_22 (by decide) rfl ?_
    refine x_iconst (v := 0) d_Md_digits_23 (by decide) ?_
    refine x_istore_n (lc' := [some (.ref 70), some (.int 0), some (.int 0)]) d_Md_digits_24 (by decide) rfl ?_
    refine x_nm (fun J107 hJ107 => ?_)
    have kJ107 : ∀ (a5 : Int32) (S6 : AS), V G md_Md_digits (QM G md_Md_digits iI) (fun _ => True) (some none) 107 [none, some (.int a5), none] [] 0 0 S6 (J107 a5 S6) := by
      subst hJ107
      intro a5 S6
      refine x_iload_n d_Md_digits_107 rfl ?_
      exact x_ret d_Md_digits_108 rfl rfl (Nat.le_of_ble_eq_true rfl) (Nat.le_of_ble_eq_true rfl)
    clear hJ107
    exact V.kw (v_Md_digits_L25 J107 kJ107 FU 0 0 S3) ⟨rfl, rfl, rfl, trivial⟩
  · refine x_aload_n_ref d_Md_digits_10 rfl ?_
    refine x_iconst (v := 1) d_Md_digits_11 (by decide) ?_
    refine x_aload_n_ref d_Md_digits_12 rfl ?_
    refine x_geti d_Md_digits_13 fl_Md_77 ak_70 (q99 (by decide)) ?_
    refine x_vV (b' := (some none)) (As := [.int 1, .int (gi S3 70 22)]) d_Md_digits_16 mv_Md_191 rfl (fun _ => ak_70) rfl (q99 (by decide)) ⟨Nat.le_of_ble_eq_true rfl, Nat.le_of_ble_eq_true rfl⟩ (Nat.le_of_ble_eq_true rfl) ⟨Nat.le_of_ble_eq_true rfl, Nat.le_of_ble_eq_true rfl⟩ (fun _ h => h) (fun h => ⟨h, c_Md_blame 1 (gi S3 70 22) _⟩) (fun S13 => ?_)
    refine x_iconst (v := 0) d_Md_digits_19 (by decide) ?_
    exact x_ret d_Md_digits_20 rfl rfl (Nat.le_of_ble_eq_true rfl) (Nat.le_of_ble_eq_true rfl)
theorem c_Md_digits {G : GX} (S : AS) : CN G y_Md_digits b_Md_digits 3 (some (FieldType.int)) ({ frames := 1, cells := 0, slots := 0, locals := 22 } : Room) (some none) iI [.ref 70] S (f_Md_digits S) := cn_of_v (M := md_Md_digits) (ini := false) rfl (by decide +kernel) (fun h => nomatch h) rfl (Nat.le_of_ble_eq_true rfl) (v_Md_digits S)
noncomputable def f_Md_add (p1 : Int32) (p2 : Int32) (p3 : Int32) (S : AS) : Option AS := chk (vp_in (gi S 70 21) 600) (nm (si S 84 (ix (gi S 70 21)) p1) fun S1 => chk (vp_in ((gi S1 70 21) + 1) 600) (nm (si S1 84 (ix ((gi S1 70 21) + 1)) p2) fun S2 => chk (vp_in ((gi S2 70 21) + 2) 600) (nm (si S2 84 (ix ((gi S2 70 21) + 2)) p3) fun S3 => nm (si S3 70 21 ((gi S3 70 21) + 3)) fun S4 => some S4)))
set_option maxHeartbeats 4000000 in
theorem v_Md_add {G : GX} (p1 : Int32) (p2 : Int32) (p3 : Int32) (S : AS) : V G md_Md_add (QM G md_Md_add iV) (fun _ => True) (some none) 0 [some (.ref 70), some (.int p1), some (.int p2), some (.int p3)] [] 0 0 S (f_Md_add p1 p2 p3 S) := by
  unfold f_Md_add
  refine x_aload_n_ref d_Md_add_0 rfl ?_
  refine x_getr d_Md_add_1 fl_Md_71 ak_70 (q99 (by decide)) (shx sh_70_20) ?_
  refine x_aload_n_ref d_Md_add_4 rfl ?_
  refine x_geti d_Md_add_5 fl_Md_74 ak_70 (q99 (by decide)) ?_
  refine x_iload_n d_Md_add_8 rfl ?_
  refine x_iast d_Md_add_9 ak_84 (q99 (by decide)) ?_
  refine x_nmS (fun S1 _ => ?_)
  refine x_aload_n_ref d_Md_add_10 rfl ?_
  refine x_getr d_Md_add_11 fl_Md_71 ak_70 (q99 (by decide)) (shx sh_70_20) ?_
  refine x_aload_n_ref d_Md_add_14 rfl ?_
  refine x_geti d_Md_add_15 fl_Md_74 ak_70 (q99 (by decide)) ?_
  refine x_iconst (v := 1) d_Md_add_18 (by decide) ?_
  refine x_iadd d_Md_add_19 ?_
  refine x_iload_n d_Md_add_20 rfl ?_
  refine x_iast d_Md_add_21 ak_84 (q99 (by decide)) ?_
  refine x_nmS (fun S2 _ => ?_)
  refine x_aload_n_ref d_Md_add_22 rfl ?_
  refine x_getr d_Md_add_23 fl_Md_71 ak_70 (q99 (by decide)) (shx sh_70_20) ?_
  refine x_aload_n_ref d_Md_add_26 rfl ?_
  refine x_geti d_Md_add_27 fl_Md_74 ak_70 (q99 (by decide)) ?_
  refine x_iconst (v := 2) d_Md_add_30 (by decide) ?_
  refine x_iadd d_Md_add_31 ?_
  refine x_iload_n d_Md_add_32 rfl ?_
  refine x_iast d_Md_add_33 ak_84 (q99 (by decide)) ?_
  refine x_nmS (fun S3 _ => ?_)
  refine x_aload_n_ref d_Md_add_34 rfl ?_
  refine x_dup d_Md_add_35 rfl ?_
  refine x_geti d_Md_add_36 fl_Md_74 ak_70 (q99 (by decide)) ?_
  refine x_iconst (v := 3) d_Md_add_39 (by decide) ?_
  refine x_iadd d_Md_add_40 ?_
  refine x_puti d_Md_add_41 fl_Md_74 rfl ak_70 (q99 (by decide)) (fun h => nomatch h) (fun h => nomatch h) ?_
  refine x_nmS (fun S4 _ => ?_)
  exact x_vret d_Md_add_44 rfl (Nat.le_of_ble_eq_true rfl) (Nat.le_of_ble_eq_true rfl)
theorem c_Md_add {G : GX} (p1 : Int32) (p2 : Int32) (p3 : Int32) (S : AS) : CN G y_Md_add b_Md_add 4 none ({ frames := 0, cells := 0, slots := 0, locals := 0 } : Room) (some none) iV [.ref 70, .int p1, .int p2, .int p3] S (f_Md_add p1 p2 p3 S) := cn_of_v (M := md_Md_add) (ini := false) rfl (by decide +kernel) (fun h => nomatch h) rfl (Nat.le_of_ble_eq_true rfl) (v_Md_add p1 p2 p3 S)
