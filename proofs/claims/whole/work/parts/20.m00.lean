noncomputable def f_RuleBook_copyFrom_4 (q : Nat) (S : AS) : Option AS := chk (acp 0 0 16 16 16) (nm (sa S (q + 1) (va_cpy (gi S 5) (gi S (q + 1)) (ix 0) (ix 0) (ix 16))) fun S1 => chk (acp 0 0 16 16 16) (nm (sa S1 (q + 2) (va_cpy (gi S1 6) (gi S1 (q + 2)) (ix 0) (ix 0) (ix 16))) fun S2 => chk (acp 0 0 16 16 16) (nm (sa S2 (q + 3) (va_cpy (gi S2 7) (gi S2 (q + 3)) (ix 0) (ix 0) (ix 16))) fun S3 => chk (acp 0 0 16 16 16) (nm (sa S3 (q + 4) (va_cpy (gi S3 8) (gi S3 (q + 4)) (ix 0) (ix 0) (ix 16))) fun S4 => chk (acp 0 0 64 64 64) (nm (sa S4 (q + 5) (va_cpy (gi S4 9) (gi S4 (q + 5)) (ix 0) (ix 0) (ix 64))) fun S5 => chk (acp 0 0 64 64 64) (nm (sa S5 (q + 6) (va_cpy (gi S5 10) (gi S5 (q + 6)) (ix 0) (ix 0) (ix 64))) fun S6 => chk (acp 0 0 64 64 64) (nm (sa S6 (q + 7) (va_cpy (gi S6 11) (gi S6 (q + 7)) (ix 0) (ix 0) (ix 64))) fun S7 => nm (si S7 q 4 (gi S7 4 4)) fun S8 => nm (si S8 q 8 (gi S8 4 8)) fun S9 => some S9)))))))
set_option maxHeartbeats 4000000 in
theorem v_RuleBook_copyFrom_4 {G : GX} (q : Nat) (hq : isq q) (S : AS) : V G md_RuleBook_copyFrom (QM G md_RuleBook_copyFrom iV) (fun _ => True) (some (some q)) 0 [some (.ref q), some (.ref 4)] [] 0 0 S (f_RuleBook_copyFrom_4 q S) := by
  unfold f_RuleBook_copyFrom_4
  refine x_aload_n_ref d_RuleBook_copyFrom_0 rfl ?_
  refine x_getr d_RuleBook_copyFrom_1 fl_RuleBook_9 ak_4 (q99 (by decide)) (fun h => bq_0 (sp_bk (Or.inl rfl) h.sh)) ?_
  refine x_iconst (v := 0) d_RuleBook_copyFrom_4 (by decide) ?_
  refine x_aload_n_ref d_RuleBook_copyFrom_5 rfl ?_
  refine x_getr d_RuleBook_copyFrom_6 fl_RuleBook_9 (ak_q q 0 hq (by decide)) (bq_lt (q := q) (i := 0) (by decide)) bq_0 ?_
  refine x_iconst (v := 0) d_RuleBook_copyFrom_9 (by decide) ?_
  refine x_bipush (v := 16) d_RuleBook_copyFrom_10 (by decide) ?_
  refine x_copy d_RuleBook_copyFrom_12 (List.mem_append_right _ (List.mem_append_right _ (List.mem_append_right _ (List.mem_append_left _ (List.mem_of_getElem? (i := 156) (by decide +kernel)))))) w_cp2 w_cp3 w_cp4 ak_5 (ak_q q 1 hq (by decide)) (q99 (by decide)) (bq_lt (q := q) (i := 1) (by decide)) (Nat.le_of_ble_eq_true rfl) (by decide) (by decide) ?_
  refine x_nmS (fun S1 _ => ?_)
  refine x_aload_n_ref d_RuleBook_copyFrom_15 rfl ?_
  refine x_getr d_RuleBook_copyFrom_16 fl_RuleBook_15 ak_4 (q99 (by decide)) (fun h => bq_1 (sp_bk (Or.inl rfl) h.sh)) ?_
  refine x_iconst (v := 0) d_RuleBook_copyFrom_19 (by decide) ?_
  refine x_aload_n_ref d_RuleBook_copyFrom_20 rfl ?_
  refine x_getr d_RuleBook_copyFrom_21 fl_RuleBook_15 (ak_q q 0 hq (by decide)) (bq_lt (q := q) (i := 0) (by decide)) bq_1 ?_
  refine x_iconst (v := 0) d_RuleBook_copyFrom_24 (by decide) ?_
  refine x_bipush (v := 16) d_RuleBook_copyFrom_25 (by decide) ?_
  refine x_copy d_RuleBook_copyFrom_27 (List.mem_append_right _ (List.mem_append_right _ (List.mem_append_right _ (List.mem_append_left _ (List.mem_of_getElem? (i := 156) (by decide +kernel)))))) w_cp2 w_cp3 w_cp4 ak_6 (ak_q q 2 hq (by decide)) (q99 (by decide)) (bq_lt (q := q) (i := 2) (by decide)) (Nat.le_of_ble_eq_true rfl) (by decide) (by decide) ?_
  refine x_nmS (fun S2 _ => ?_)
  refine x_aload_n_ref d_RuleBook_copyFrom_30 rfl ?_
  refine x_getr d_RuleBook_copyFrom_31 fl_RuleBook_18 ak_4 (q99 (by decide)) (fun h => bq_2 (sp_bk (Or.inl rfl) h.sh)) ?_
  refine x_iconst (v := 0) d_RuleBook_copyFrom_34 (by decide) ?_
  refine x_aload_n_ref d_RuleBook_copyFrom_35 rfl ?_
  refine x_getr d_RuleBook_copyFrom_36 fl_RuleBook_18 (ak_q q 0 hq (by decide)) (bq_lt (q := q) (i := 0) (by decide)) bq_2 ?_
  refine x_iconst (v := 0) d_RuleBook_copyFrom_39 (by decide) ?_
  refine x_bipush (v := 16) d_RuleBook_copyFrom_40 (by decide) ?_
  refine x_copy d_RuleBook_copyFrom_42 (List.mem_append_right _ (List.mem_append_right _ (List.mem_append_right _ (List.mem_append_left _ (List.mem_of_getElem? (i := 156) (by decide +kernel)))))) w_cp2 w_cp3 w_cp4 ak_7 (ak_q q 3 hq (by decide)) (q99 (by decide)) (bq_lt (q := q) (i := 3) (by decide)) (Nat.le_of_ble_eq_true rfl) (by decide) (by decide) ?_
  refine x_nmS (fun S3 _ => ?_)
  refine x_aload_n_ref d_RuleBook_copyFrom_45 rfl ?_
  refine x_getr d_RuleBook_copyFrom_46 fl_RuleBook_21 ak_4 (q99 (by decide)) (fun h => bq_3 (sp_bk (Or.inl rfl) h.sh)) ?_
  refine x_iconst (v := 0) d_RuleBook_copyFrom_49 (by decide) ?_
  refine x_aload_n_ref d_RuleBook_copyFrom_50 rfl ?_
  refine x_getr d_RuleBook_copyFrom_51 fl_RuleBook_21 (ak_q q 0 hq (by decide)) (bq_lt (q := q) (i := 0) (by decide)) bq_3 ?_
  refine x_iconst (v := 0) d_RuleBook_copyFrom_54 (by decide) ?_
  refine x_bipush (v := 16) d_RuleBook_copyFrom_55 (by decide) ?_
  refine x_copy d_RuleBook_copyFrom_57 (List.mem_append_right _ (List.mem_append_right _ (List.mem_append_right _ (List.mem_append_left _ (List.mem_of_getElem? (i := 156) (by decide +kernel)))))) w_cp2 w_cp3 w_cp4 ak_8 (ak_q q 4 hq (by decide)) (q99 (by decide)) (bq_lt (q := q) (i := 4) (by decide)) (Nat.le_of_ble_eq_true rfl) (by decide) (by decide) ?_
  refine x_nmS (fun S4 _ => ?_)
  refine x_aload_n_ref d_RuleBook_copyFrom_60 rfl ?_
  refine x_getr d_RuleBook_copyFrom_61 fl_RuleBook_24 ak_4 (q99 (by decide)) (fun h => bq_5 (sp_bk (Or.inl rfl) h.sh)) ?_
  refine x_iconst (v := 0) d_RuleBook_copyFrom_64 (by decide) ?_
  refine x_aload_n_ref d_RuleBook_copyFrom_65 rfl ?_
  refine x_getr d_RuleBook_copyFrom_66 fl_RuleBook_24 (ak_q q 0 hq (by decide)) (bq_lt (q := q) (i := 0) (by decide)) bq_5 ?_
  refine x_iconst (v := 0) d_RuleBook_copyFrom_69 (by decide) ?_
  refine x_bipush (v := 64) d_RuleBook_copyFrom_70 (by decide) ?_
  refine x_copy d_RuleBook_copyFrom_72 (List.mem_append_right _ (List.mem_append_right _ (List.mem_append_right _ (List.mem_append_left _ (List.mem_of_getElem? (i := 156) (by decide +kernel)))))) w_cp2 w_cp3 w_cp4 ak_9 (ak_q q 5 hq (by decide)) (q99 (by decide)) (bq_lt (q := q) (i := 5) (by decide)) (Nat.le_of_ble_eq_true rfl) (by decide) (by decide) ?_
  refine x_nmS (fun S5 _ => ?_)
  refine x_aload_n_ref d_RuleBook_copyFrom_75 rfl ?_
  refine x_getr d_RuleBook_copyFrom_76 fl_RuleBook_27 ak_4 (q99 (by decide)) (fun h => bq_6 (sp_bk (Or.inl rfl) h.sh)) ?_
  refine x_iconst (v := 0) d_RuleBook_copyFrom_79 (by decide) ?_
  refine x_aload_n_ref d_RuleBook_copyFrom_80 rfl ?_
  refine x_getr d_RuleBook_copyFrom_81 fl_RuleBook_27 (ak_q q 0 hq (by decide)) (bq_lt (q := q) (i := 0) (by decide)) bq_6 ?_
  refine x_iconst (v := 0) d_RuleBook_copyFrom_84 (by decide) ?_
  refine x_bipush (v := 64) d_RuleBook_copyFrom_85 (by decide) ?_
  refine x_copy d_RuleBook_copyFrom_87 (List.mem_append_right _ (List.mem_append_right _ (List.mem_append_right _ (List.mem_append_left _ (List.mem_of_getElem? (i := 156) (by decide +kernel)))))) w_cp2 w_cp3 w_cp4 ak_10 (ak_q q 6 hq (by decide)) (q99 (by decide)) (bq_lt (q := q) (i := 6) (by decide)) (Nat.le_of_ble_eq_true rfl) (by decide) (by decide) ?_
  refine x_nmS (fun S6 _ => ?_)
  refine x_aload_n_ref d_RuleBook_copyFrom_90 rfl ?_
  refine x_getr d_RuleBook_copyFrom_91 fl_RuleBook_30 ak_4 (q99 (by decide)) (fun h => bq_7 (sp_bk (Or.inl rfl) h.sh)) ?_
  refine x_iconst (v := 0) d_RuleBook_copyFrom_94 (by decide) ?_
  refine x_aload_n_ref d_RuleBook_copyFrom_95 rfl ?_
  refine x_getr d_RuleBook_copyFrom_96 fl_RuleBook_30 (ak_q q 0 hq (by decide)) (bq_lt (q := q) (i := 0) (by decide)) bq_7 ?_
  refine x_iconst (v := 0) d_RuleBook_copyFrom_99 (by decide) ?_
  refine x_bipush (v := 64) d_RuleBook_copyFrom_100 (by decide) ?_
  refine x_copy d_RuleBook_copyFrom_102 (List.mem_append_right _ (List.mem_append_right _ (List.mem_append_right _ (List.mem_append_left _ (List.mem_of_getElem? (i := 156) (by decide +kernel)))))) w_cp2 w_cp3 w_cp4 ak_11 (ak_q q 7 hq (by decide)) (q99 (by decide)) (bq_lt (q := q) (i := 7) (by decide)) (Nat.le_of_ble_eq_true rfl) (by decide) (by decide) ?_
  refine x_nmS (fun S7 _ => ?_)
  refine x_aload_n_ref d_RuleBook_copyFrom_105 rfl ?_
  refine x_aload_n_ref d_RuleBook_copyFrom_106 rfl ?_
  refine x_geti d_RuleBook_copyFrom_107 fl_RuleBook_33 ak_4 (q99 (by decide)) ?_
  refine x_puti d_RuleBook_copyFrom_110 fl_RuleBook_33 rfl (ak_q q 0 hq (by decide)) (bq_lt (q := q) (i := 0) (by decide)) (fun h => nomatch h) (fun h => nomatch h) ?_
  refine x_nmS (fun S8 _ => ?_)
  refine x_aload_n_ref d_RuleBook_copyFrom_113 rfl ?_
  refine x_aload_n_ref d_RuleBook_copyFrom_114 rfl ?_
  refine x_geti d_RuleBook_copyFrom_115 fl_RuleBook_37 ak_4 (q99 (by decide)) ?_
  refine x_puti d_RuleBook_copyFrom_118 fl_RuleBook_37 rfl (ak_q q 0 hq (by decide)) (bq_lt (q := q) (i := 0) (by decide)) (fun h => nomatch h) (fun h => nomatch h) ?_
  refine x_nmS (fun S9 _ => ?_)
  exact x_vret d_RuleBook_copyFrom_121 rfl (Nat.le_of_ble_eq_true rfl) (Nat.le_of_ble_eq_true rfl)
theorem c_RuleBook_copyFrom_4 {G : GX} (q : Nat) (hq : isq q) (S : AS) : CN G y_RuleBook_copyFrom b_RuleBook_copyFrom 2 none ({ frames := 1, cells := 0, slots := 0, locals := 60 } : Room) (some (some q)) iV [.ref q, .ref 4] S (f_RuleBook_copyFrom_4 q S) := cn_of_v (M := md_RuleBook_copyFrom) (ini := false) rfl (by decide +kernel) (fun h => nomatch h) rfl (Nat.le_of_ble_eq_true rfl) (v_RuleBook_copyFrom_4 q hq S)
noncomputable def f_RuleBook_clear (q : Nat) (S : AS) : Option AS := nm (si S q 4 0) fun S1 => nm (si S1 q 8 0) fun S2 => some S2
set_option maxHeartbeats 4000000 in
theorem v_RuleBook_clear {G : GX} (q : Nat) (hq : isq q) (S : AS) : V G md_RuleBook_clear (QM G md_RuleBook_clear iV) (fun _ => True) (some (some q)) 0 [some (.ref q)] [] 0 0 S (f_RuleBook_clear q S) := by
  unfold f_RuleBook_clear
  refine x_aload_n_ref d_RuleBook_clear_0 rfl ?_
  refine x_iconst (v := 0) d_RuleBook_clear_1 (by decide) ?_
  refine x_puti d_RuleBook_clear_2 fl_RuleBook_33 rfl (ak_q q 0 hq (by decide)) (bq_lt (q := q) (i := 0) (by decide)) (fun h => nomatch h) (fun h => nomatch h) ?_
  refine x_nmS (fun S1 _ => ?_)
  refine x_aload_n_ref d_RuleBook_clear_5 rfl ?_
  refine x_iconst (v := 0) d_RuleBook_clear_6 (by decide) ?_
  refine x_puti d_RuleBook_clear_7 fl_RuleBook_37 rfl (ak_q q 0 hq (by decide)) (bq_lt (q := q) (i := 0) (by decide)) (fun h => nomatch h) (fun h => nomatch h) ?_
  refine x_nmS (fun S2 _ => ?_)
  exact x_vret d_RuleBook_clear_10 rfl (Nat.le_of_ble_eq_true rfl) (Nat.le_of_ble_eq_true rfl)
theorem c_RuleBook_clear {G : GX} (q : Nat) (hq : isq q) (S : AS) : CN G y_RuleBook_clear b_RuleBook_clear 1 none ({ frames := 0, cells := 0, slots := 0, locals := 0 } : Room) (some (some q)) iV [.ref q] S (f_RuleBook_clear q S) := cn_of_v (M := md_RuleBook_clear) (ini := false) rfl (by decide +kernel) (fun h => nomatch h) rfl (Nat.le_of_ble_eq_true rfl) (v_RuleBook_clear q hq S)
noncomputable def f_TokenRow_skipBlanks_L2 (J47 : Int32 → AS → Option (Int32 × AS)) : Nat → Int32 → AS → Option (Int32 × AS)
  | 0, _, _ => none
  | n + 1, c2, S => if (gi S 1 1) ≤ c2 then (J47 c2 S) else (chk (vp_in c2 400) (nm (fun (S3 : AS) => f_TokenRow_skipBlanks_L2 J47 n (c2 + 1) S3) fun J41 => if (gi S 2 (ix c2)) = 32 then (J41 S) else (chk (vp_in c2 400) (if (gi S 2 (ix c2)) = 10 then (J41 S) else (J47 c2 S)))))
noncomputable def f_TokenRow_skipBlanks (p1 : Int32) (S : AS) : Option (Int32 × AS) := nm (fun (a1 : Int32) (S2 : AS) => some (a1, S2)) fun J47 => f_TokenRow_skipBlanks_L2 J47 FU p1 S
set_option maxHeartbeats 4000000 in
theorem v_TokenRow_skipBlanks_L2 {G : GX} (J47 : Int32 → AS → Option (Int32 × AS)) (kJ47 : ∀ (a1 : Int32) (T : AS), V G md_TokenRow_skipBlanks (QM G md_TokenRow_skipBlanks iI) (fun _ => True) (some none) 47 [none, none, some (.int a1)] [] 0 0 T (J47 a1 T)) : ∀ (n : Nat) (c2 : Int32) (S : AS), V G md_TokenRow_skipBlanks (QM G md_TokenRow_skipBlanks iI) (fun _ => True) (some none) 2 [some (.ref 12), none, some (.int c2)] [] 0 0 S (f_TokenRow_skipBlanks_L2 J47 n c2 S) := by
  intro n
  induction n with
  | zero => intro c2 S; exact V.none
  | succ n ih =>
    intro c2 S
    rw [f_TokenRow_skipBlanks_L2]
    refine x_iload_n d_TokenRow_skipBlanks_2 rfl ?_
    refine x_aload_n_ref d_TokenRow_skipBlanks_3 rfl ?_
    refine x_getr d_TokenRow_skipBlanks_4 fl_TokenRow_21 ak_12 (q99 (by decide)) (shx sh_12_0) ?_
    refine x_geti d_TokenRow_skipBlanks_7 fl_TokenRow_33 ak_1 (q99 (by decide)) ?_
    refine x_icmp_ge (tgt := 47) d_TokenRow_skipBlanks_10 (by decide) (fun _ => ?_) (fun _ => ?_)
    · exact V.kw (kJ47 c2 S) ⟨rfl, trivial⟩
    · refine x_aload_n_ref d_TokenRow_skipBlanks_13 rfl ?_
      refine x_getr d_TokenRow_skipBlanks_14 fl_TokenRow_21 ak_12 (q99 (by decide)) (shx sh_12_0) ?_
      refine x_getr d_TokenRow_skipBlanks_17 fl_TokenRow_47 ak_1 (q99 (by decide)) (shx sh_1_0) ?_
      refine x_iload_n d_TokenRow_skipBlanks_20 rfl ?_
      refine x_iald d_TokenRow_skipBlanks_21 ak_2 (q99 (by decide)) ?_
      refine x_bipush (v := 32) d_TokenRow_skipBlanks_22 (by decide) ?_
      refine x_nm (fun J41 hJ41 => ?_)
      have kJ41 : ∀ (S3 : AS), V G md_TokenRow_skipBlanks (QM G md_TokenRow_skipBlanks iI) (fun _ => True) (some none) 41 [some (.ref 12), none, some (.int c2)] [] 0 0 S3 (J41 S3) := by
        subst hJ41
        intro S3
        refine x_iinc (w := c2 + 1) (lc' := [some (.ref 12), none, some (.int (c2 + 1))]) d_TokenRow_skipBlanks_41 (by decide) rfl rfl rfl ?_
        refine x_goto (tgt := 2) d_TokenRow_skipBlanks_44 (by decide) ?_
        exact V.kw (ih (c2 + 1) S3) ⟨rfl, rfl, trivial⟩
      clear hJ41
      refine x_icmp_eq (tgt := 41) d_TokenRow_skipBlanks_24 (by decide) (fun _ => ?_) (fun _ => ?_)
      · exact V.kw (kJ41 S) ⟨rfl, rfl, trivial⟩
      · refine x_aload_n_ref d_TokenRow_skipBlanks_27 rfl ?_
        refine x_getr d_TokenRow_skipBlanks_28 fl_TokenRow_21 ak_12 (q99 (by decide)) (shx sh_12_0) ?_
        refine x_getr d_TokenRow_skipBlanks_31 fl_TokenRow_47 ak_1 (q99 (by decide)) (shx sh_1_0) ?_
        refine x_iload_n d_TokenRow_skipBlanks_34 rfl ?_
        refine x_iald d_TokenRow_skipBlanks_35 ak_2 (q99 (by decide)) ?_
        refine x_bipush (v := 10) d_TokenRow_skipBlanks_36 (by decide) ?_
        refine x_icmp_ne (tgt := 47) d_TokenRow_skipBlanks_38 (by decide) (fun _ => ?_) (fun _ => ?_)
        · exact V.kw (kJ47 c2 S) ⟨rfl, trivial⟩
        · exact V.kw (kJ41 S) ⟨rfl, rfl, trivial⟩
set_option maxHeartbeats 4000000 in
theorem v_TokenRow_skipBlanks {G : GX} (p1 : Int32) (S : AS) : V G md_TokenRow_skipBlanks (QM G md_TokenRow_skipBlanks iI) (fun _ => True) (some none) 0 [some (.ref 12), some (.int p1), none] [] 0 0 S (f_TokenRow_skipBlanks p1 S) := by
  unfold f_TokenRow_skipBlanks
  refine x_iload_n d_TokenRow_skipBlanks_0 rfl ?_
  refine x_istore_n (lc' := [some (.ref 12), some (.int p1), some (.int p1)]) d_TokenRow_skipBlanks_1 (by decide) rfl ?_
  refine x_nm (fun J47 hJ47 => ?_)
  have kJ47 : ∀ (a1 : Int32) (S2 : AS), V G md_TokenRow_skipBlanks (QM G md_TokenRow_skipBlanks iI) (fun _ => True) (some none) 47 [none, none, some (.int a1)] [] 0 0 S2 (J47 a1 S2) := by
    subst hJ47
    intro a1 S2
    refine x_iload_n d_TokenRow_skipBlanks_47 rfl ?_
    exact x_ret d_TokenRow_skipBlanks_48 rfl rfl (Nat.le_of_ble_eq_true rfl) (Nat.le_of_ble_eq_true rfl)
  clear hJ47
  exact V.kw (v_TokenRow_skipBlanks_L2 J47 kJ47 FU p1 S) ⟨rfl, rfl, trivial⟩
theorem c_TokenRow_skipBlanks {G : GX} (p1 : Int32) (S : AS) : CN G y_TokenRow_skipBlanks b_TokenRow_skipBlanks 3 (some (FieldType.int)) ({ frames := 0, cells := 0, slots := 0, locals := 0 } : Room) (some none) iI [.ref 12, .int p1] S (f_TokenRow_skipBlanks p1 S) := cn_of_v (M := md_TokenRow_skipBlanks) (ini := false) rfl (by decide +kernel) (fun h => nomatch h) rfl (Nat.le_of_ble_eq_true rfl) (v_TokenRow_skipBlanks p1 S)
noncomputable def f_TokenRow_isLetter (p0 : Int32) (S : AS) : Option (Int32 × AS) := nm (fun (S1 : AS) => some (0, S1)) fun J16 => if p0 < 97 then (J16 S) else (if 122 < p0 then (J16 S) else (some (1, S)))
set_option maxHeartbeats 4000000 in
theorem v_TokenRow_isLetter {G : GX} (p0 : Int32) (S : AS) : V G md_TokenRow_isLetter (QM G md_TokenRow_isLetter iI) (fun _ => True) (some none) 0 [some (.int p0)] [] 0 0 S (f_TokenRow_isLetter p0 S) := by
  unfold f_TokenRow_isLetter
  refine x_iload_n d_TokenRow_isLetter_0 rfl ?_
  refine x_bipush (v := 97) d_TokenRow_isLetter_1 (by decide) ?_
  refine x_nm (fun J16 hJ16 => ?_)
  have kJ16 : ∀ (S1 : AS), V G md_TokenRow_isLetter (QM G md_TokenRow_isLetter iI) (fun _ => True) (some none) 16 [none] [] 0 0 S1 (J16 S1) := by
    subst hJ16
    intro S1
    refine x_iconst (v := 0) d_TokenRow_isLetter_16 (by decide) ?_
    exact x_ret d_TokenRow_isLetter_17 rfl rfl (Nat.le_of_ble_eq_true rfl) (Nat.le_of_ble_eq_true rfl)
  clear hJ16
  refine x_icmp_lt (tgt := 16) d_TokenRow_isLetter_3 (by decide) (fun _ => ?_) (fun _ => ?_)
  · exact V.kw (kJ16 S) trivial
  · refine x_iload_n d_TokenRow_isLetter_6 rfl ?_
    refine x_bipush (v := 122) d_TokenRow_isLetter_7 (by decide) ?_
    refine x_icmp_gt (tgt := 16) d_TokenRow_isLetter_9 (by decide) (fun _ => ?_) (fun _ => ?_)
    · exact V.kw (kJ16 S) trivial
    · refine x_iconst (v := 1) d_TokenRow_isLetter_12 (by decide) ?_
      refine x_goto (tgt := 17) d_TokenRow_isLetter_13 (by decide) ?_
      exact x_ret d_TokenRow_isLetter_17 rfl rfl (Nat.le_of_ble_eq_true rfl) (Nat.le_of_ble_eq_true rfl)
theorem c_TokenRow_isLetter {G : GX} (p0 : Int32) (S : AS) : CN G y_TokenRow_isLetter b_TokenRow_isLetter 1 (some (FieldType.boolean)) ({ frames := 0, cells := 0, slots := 0, locals := 0 } : Room) (some none) iI [.int p0] S (f_TokenRow_isLetter p0 S) := cn_of_v (M := md_TokenRow_isLetter) (ini := false) rfl (by decide +kernel) (fun h => nomatch h) rfl (Nat.le_of_ble_eq_true rfl) (v_TokenRow_isLetter p0 S)
noncomputable def f_TokenRow_isDigit (p0 : Int32) (S : AS) : Option (Int32 × AS) := nm (fun (S1 : AS) => some (0, S1)) fun J16 => if p0 < 48 then (J16 S) else (if 57 < p0 then (J16 S) else (some (1, S)))
set_option maxHeartbeats 4000000 in
theorem v_TokenRow_isDigit {G : GX} (p0 : Int32) (S : AS) : V G md_TokenRow_isDigit (QM G md_TokenRow_isDigit iI) (fun _ => True) (some none) 0 [some (.int p0)] [] 0 0 S (f_TokenRow_isDigit p0 S) := by
  unfold f_TokenRow_isDigit
  refine x_iload_n d_TokenRow_isDigit_0 rfl ?_
  refine x_bipush (v := 48) d_TokenRow_isDigit_1 (by decide) ?_
  refine x_nm (fun J16 hJ16 => ?_)
  have kJ16 : ∀ (S1 : AS), V G md_TokenRow_isDigit (QM G md_TokenRow_isDigit iI) (fun _ => True) (some none) 16 [none] [] 0 0 S1 (J16 S1) := by
    subst hJ16
    intro S1
    refine x_iconst (v := 0) d_TokenRow_isDigit_16 (by decide) ?_
    exact x_ret d_TokenRow_isDigit_17 rfl rfl (Nat.le_of_ble_eq_true rfl) (Nat.le_of_ble_eq_true rfl)
  clear hJ16
  refine x_icmp_lt (tgt := 16) d_TokenRow_isDigit_3 (by decide) (fun _ => ?_) (fun _ => ?_)
  · exact V.kw (kJ16 S) trivial
  · refine x_iload_n d_TokenRow_isDigit_6 rfl ?_
    refine x_bipush (v := 57) d_TokenRow_isDigit_7 (by decide) ?_
    refine x_icmp_gt (tgt := 16) d_TokenRow_isDigit_9 (by decide) (fun _ => ?_) (fun _ => ?_)
    · exact V.kw (kJ16 S) trivial
    · refine x_iconst (v := 1) d_TokenRow_isDigit_12 (by decide) ?_
      refine x_goto (tgt := 17) d_TokenRow_isDigit_13 (by decide) ?_
      exact x_ret d_TokenRow_isDigit_17 rfl rfl (Nat.le_of_ble_eq_true rfl) (Nat.le_of_ble_eq_true rfl)
theorem c_TokenRow_isDigit {G : GX} (p0 : Int32) (S : AS) : CN G y_TokenRow_isDigit b_TokenRow_isDigit 1 (some (FieldType.boolean)) ({ frames := 0, cells := 0, slots := 0, locals := 0 } : Room) (some none) iI [.int p0] S (f_TokenRow_isDigit p0 S) := cn_of_v (M := md_TokenRow_isDigit) (ini := false) rfl (by decide +kernel) (fun h => nomatch h) rfl (Nat.le_of_ble_eq_true rfl) (v_TokenRow_isDigit p0 S)
noncomputable def f_TokenRow_takeMark (p1 : Int32) (S : AS) : Option AS := chk (vp_in (gi S 12 4) 401) (nm (si S 13 (ix (gi S 12 4)) 16) fun S1 => if p1 = 60 then (chk (vp_in (gi S1 12 4) 401) (nm (si S1 15 (ix (gi S1 12 4)) (-1)) fun S7 => some S7)) else (if p1 = 62 then (chk (vp_in (gi S1 12 4) 401) (nm (si S1 15 (ix (gi S1 12 4)) 1) fun S6 => some S6)) else (if p1 = 61 then (some S1) else (nm (fun (a2 : Int32) (a3 : Int32) (S4 : AS) => chk (vp_in a2 401) (nm (si S4 13 (ix a2) a3) fun S5 => some S5)) fun J76 => if p1 = 59 then (J76 (gi S1 12 4) 17 S1) else (J76 (gi S1 12 4) 18 S1)))))
set_option maxHeartbeats 4000000 in
theorem v_TokenRow_takeMark {G : GX} (p1 : Int32) (S : AS) : V G md_TokenRow_takeMark (QM G md_TokenRow_takeMark iV) (fun _ => True) (some none) 0 [some (.ref 12), some (.int p1)] [] 0 0 S (f_TokenRow_takeMark p1 S) := by
  unfold f_TokenRow_takeMark
  refine x_aload_n_ref d_TokenRow_takeMark_0 rfl ?_
  refine x_getr d_TokenRow_takeMark_1 fl_TokenRow_9 ak_12 (q99 (by decide)) (shx sh_12_1) ?_
  refine x_aload_n_ref d_TokenRow_takeMark_4 rfl ?_
  refine x_geti d_TokenRow_takeMark_5 fl_TokenRow_25 ak_12 (q99 (by decide)) ?_
  refine x_bipush (v := 16) d_TokenRow_takeMark_8 (by decide) ?_
  refine x_iast d_TokenRow_takeMark_10 ak_13 (q99 (by decide)) ?_
  refine x_nmS (fun S1 _ => ?_)
  refine x_iload_n d_TokenRow_takeMark_11 rfl ?_
  refine x_bipush (v := 60) d_TokenRow_takeMark_12 (by decide) ?_
  refine x_icmp_ne (tgt := 30) d_TokenRow_takeMark_14 (by decide) (fun _ => ?_) (fun _ => ?_)
  · refine x_iload_n d_TokenRow_takeMark_30 rfl ?_
    refine x_bipush (v := 62) d_TokenRow_takeMark_31 (by decide) ?_
    refine x_icmp_ne (tgt := 49) d_TokenRow_takeMark_33 (by decide) (fun _ => ?_) (fun _ => ?_)
    · refine x_iload_n d_TokenRow_takeMark_49 rfl ?_
      refine x_bipush (v := 61) d_TokenRow_takeMark_50 (by decide) ?_
      refine x_icmp_eq (tgt := 77) d_TokenRow_takeMark_52 (by decide) (fun _ => ?_) (fun _ => ?_)
      · exact x_vret d_TokenRow_takeMark_77 rfl (Nat.le_of_ble_eq_true rfl) (Nat.le_of_ble_eq_true rfl)
      · refine x_aload_n_ref d_TokenRow_takeMark_55 rfl ?_
        refine x_getr d_TokenRow_takeMark_56 fl_TokenRow_9 ak_12 (q99 (by decide)) (shx sh_12_1) ?_
        refine x_aload_n_ref d_TokenRow_takeMark_59 rfl ?_
        refine x_geti d_TokenRow_takeMark_60 fl_TokenRow_25 ak_12 (q99 (by decide)) ?_
        refine x_iload_n d_TokenRow_takeMark_63 rfl ?_
        refine x_bipush (v := 59) d_TokenRow_takeMark_64 (by decide) ?_
        refine x_nm (fun J76 hJ76 => ?_)
        have kJ76 : ∀ (a2 : Int32) (a3 : Int32) (S4 : AS), V G md_TokenRow_takeMark (QM G md_TokenRow_takeMark iV) (fun _ => True) (some none) 76 [none, none] [.int a3, .int a2, .ref 13] 0 0 S4 (J76 a2 a3 S4) := by
          subst hJ76
          intro a2 a3 S4
          refine x_iast d_TokenRow_takeMark_76 ak_13 (q99 (by decide)) ?_
          refine x_nmS (fun S5 _ => ?_)
          exact x_vret d_TokenRow_takeMark_77 rfl (Nat.le_of_ble_eq_true rfl) (Nat.le_of_ble_eq_true rfl)
        clear hJ76
        refine x_icmp_ne (tgt := 74) d_TokenRow_takeMark_66 (by decide) (fun _ => ?_) (fun _ => ?_)
        · refine x_bipush (v := 18) d_TokenRow_takeMark_74 (by decide) ?_
          exact V.kw (kJ76 (gi S1 12 4) 18 S1) trivial
        · refine x_bipush (v := 17) d_TokenRow_takeMark_69 (by decide) ?_
          refine x_goto (tgt := 76) d_TokenRow_takeMark_71 (by decide) ?_
          exact V.kw (kJ76 (gi S1 12 4) 17 S1) trivial
    · refine x_aload_n_ref d_TokenRow_takeMark_36 rfl ?_
      refine x_getr d_TokenRow_takeMark_37 fl_TokenRow_18 ak_12 (q99 (by decide)) (shx sh_12_3) ?_
      refine x_aload_n_ref d_TokenRow_takeMark_40 rfl ?_
      refine x_geti d_TokenRow_takeMark_41 fl_TokenRow_25 ak_12 (q99 (by decide)) ?_
      refine x_iconst (v := 1) d_TokenRow_takeMark_44 (by decide) ?_
      refine x_iast d_TokenRow_takeMark_45 ak_15 (q99 (by decide)) ?_
      refine x_nmS (fun S6 _ => ?_)
      refine x_goto (tgt := 77) d_TokenRow_takeMark_46 (by decide) ?_
      exact x_vret d_TokenRow_takeMark_77 rfl (Nat.le_of_ble_eq_true rfl) (Nat.le_of_ble_eq_true rfl)
  · refine x_aload_n_ref d_TokenRow_takeMark_17 rfl ?_
    refine x_getr d_TokenRow_takeMark_18 fl_TokenRow_18 ak_12 (q99 (by decide)) (shx sh_12_3) ?_
    refine x_aload_n_ref d_TokenRow_takeMark_21 rfl ?_
    refine x_geti d_TokenRow_takeMark_22 fl_TokenRow_25 ak_12 (q99 (by decide)) ?_
    refine x_iconst (v := -1) d_TokenRow_takeMark_25 (by decide) ?_
    refine x_iast d_TokenRow_takeMark_26 ak_15 (q99 (by decide)) ?_
    refine x_nmS (fun S7 _ => ?_)
    refine x_goto (tgt := 77) d_TokenRow_takeMark_27 (by decide) ?_
    exact x_vret d_TokenRow_takeMark_77 rfl (Nat.le_of_ble_eq_true rfl) (Nat.le_of_ble_eq_true rfl)
theorem c_TokenRow_takeMark {G : GX} (p1 : Int32) (S : AS) : CN G y_TokenRow_takeMark b_TokenRow_takeMark 2 none ({ frames := 0, cells := 0, slots := 0, locals := 0 } : Room) (some none) iV [.ref 12, .int p1] S (f_TokenRow_takeMark p1 S) := cn_of_v (M := md_TokenRow_takeMark) (ini := false) rfl (by decide +kernel) (fun h => nomatch h) rfl (Nat.le_of_ble_eq_true rfl) (v_TokenRow_takeMark p1 S)
noncomputable def f_TokenRow_takeNumber_L13 (J87 : Int32 → AS → Option (Int32 × AS)) (x1 : Int32) : Nat → Int32 → AS → Option (Int32 × AS)
  | 0, _, _ => none
  | n + 1, c2, S => if (gi S 1 1) ≤ c2 then (J87 c2 S) else (if 7 ≤ (c2 - x1) then (J87 c2 S) else (chk (vp_in c2 400) (bI (f_TokenRow_isDigit (gi S 2 (ix c2)) S) fun r5 S4 => if r5 = 0 then (J87 c2 S4) else (chk (vp_in (gi S4 12 4) 401) (chk (vp_in c2 400) (chk (vp_in (gi S4 12 4) 401) (nm (si S4 15 (ix (gi S4 12 4)) ((((gi S4 15 (ix (gi S4 12 4))) * 10) + (gi S4 2 (ix c2))) - 48)) fun S6 => f_TokenRow_takeNumber_L13 J87 x1 n (c2 + 1) S6)))))))
noncomputable def f_TokenRow_takeNumber (p1 : Int32) (S : AS) : Option (Int32 × AS) := chk (vp_in (gi S 12 4) 401) (nm (si S 13 (ix (gi S 12 4)) 15) fun S1 => nm (fun (a2 : Int32) (S3 : AS) => some (a2, S3)) fun J87 => f_TokenRow_takeNumber_L13 J87 p1 FU p1 S1)
set_option maxHeartbeats 4000000 in
theorem v_TokenRow_takeNumber_L13 {G : GX} (J87 : Int32 → AS → Option (Int32 × AS)) (x1 : Int32) (kJ87 : ∀ (a2 : Int32) (T : AS), V G md_TokenRow_takeNumber (QM G md_TokenRow_takeNumber iI) (fun _ => True) (some none) 87 [none, none, some (.int a2)] [] 0 0 T (J87 a2 T)) : ∀ (n : Nat) (c2 : Int32) (S : AS), V G md_TokenRow_takeNumber (QM G md_TokenRow_takeNumber iI) (fun _ => True) (some none) 13 [some (.ref 12), some (.int x1), some (.int c2)] [] 0 0 S (f_TokenRow_takeNumber_L13 J87 x1 n c2 S) := by
  intro n
  induction n with
  | zero => intro c2 S; exact V.none
  | succ n ih =>
    intro c2 S
    rw [f_TokenRow_takeNumber_L13]
    refine x_iload_n d_TokenRow_takeNumber_13 rfl ?_
    refine x_aload_n_ref d_TokenRow_takeNumber_14 rfl ?_
    refine x_getr d_TokenRow_takeNumber_15 fl_TokenRow_21 ak_12 (q99 (by decide)) (shx sh_12_0) ?_
    refine x_geti d_TokenRow_takeNumber_18 fl_TokenRow_33 ak_1 (q99 (by decide)) ?_
    refine x_icmp_ge (tgt := 87) d_TokenRow_takeNumber_21 (by decide) (fun _ => ?_) (fun _ => ?_)
    · exact V.kw (kJ87 c2 S) ⟨rfl, trivial⟩
    · refine x_iload_n d_TokenRow_takeNumber_24 rfl ?_
      refine x_iload_n d_TokenRow_takeNumber_25 rfl ?_
      refine x_isub d_TokenRow_takeNumber_26 ?_
      refine x_bipush (v := 7) d_TokenRow_takeNumber_27 (by decide) ?_
      refine x_icmp_ge (tgt := 87) d_TokenRow_takeNumber_29 (by decide) (fun _ => ?_) (fun _ => ?_)
      · exact V.kw (kJ87 c2 S) ⟨rfl, trivial⟩
      · refine x_aload_n_ref d_TokenRow_takeNumber_32 rfl ?_
        refine x_getr d_TokenRow_takeNumber_33 fl_TokenRow_21 ak_12 (q99 (by decide)) (shx sh_12_0) ?_
        refine x_getr d_TokenRow_takeNumber_36 fl_TokenRow_47 ak_1 (q99 (by decide)) (shx sh_1_0) ?_
        refine x_iload_n d_TokenRow_takeNumber_39 rfl ?_
        refine x_iald d_TokenRow_takeNumber_40 ak_2 (q99 (by decide)) ?_
        refine x_sI (b' := (some none)) (As := [.int (gi S 2 (ix c2))]) d_TokenRow_takeNumber_41 ms_TokenRow_57 rfl ⟨Nat.le_of_ble_eq_true rfl, Nat.le_of_ble_eq_true rfl⟩ (Nat.le_of_ble_eq_true rfl) ⟨Nat.le_of_ble_eq_true rfl, Nat.le_of_ble_eq_true rfl⟩ (fun _ h => h) (fun h => ⟨h, c_TokenRow_isDigit (gi S 2 (ix c2)) _⟩) (fun r5 S4 => ?_)
        refine x_if_eq (tgt := 87) d_TokenRow_takeNumber_44 (by decide) (fun _ => ?_) (fun _ => ?_)
        · exact V.kw (kJ87 c2 S4) ⟨rfl, trivial⟩
        · refine x_aload_n_ref d_TokenRow_takeNumber_47 rfl ?_
          refine x_getr d_TokenRow_takeNumber_48 fl_TokenRow_18 ak_12 (q99 (by decide)) (shx sh_12_3) ?_
          refine x_aload_n_ref d_TokenRow_takeNumber_51 rfl ?_
          refine x_geti d_TokenRow_takeNumber_52 fl_TokenRow_25 ak_12 (q99 (by decide)) ?_
          refine x_aload_n_ref d_TokenRow_takeNumber_55 rfl ?_
          refine x_getr d_TokenRow_takeNumber_56 fl_TokenRow_18 ak_12 (q99 (by decide)) (shx sh_12_3) ?_
          refine x_aload_n_ref d_TokenRow_takeNumber_59 rfl ?_
          refine x_geti d_TokenRow_takeNumber_60 fl_TokenRow_25 ak_12 (q99 (by decide)) ?_
          refine x_iald d_TokenRow_takeNumber_63 ak_15 (q99 (by decide)) ?_
          refine x_bipush (v := 10) d_TokenRow_takeNumber_64 (by decide) ?_
          refine x_imul d_TokenRow_takeNumber_66 ?_
          refine x_aload_n_ref d_TokenRow_takeNumber_67 rfl ?_
          refine x_getr d_TokenRow_takeNumber_68 fl_TokenRow_21 ak_12 (q99 (by decide)) (shx sh_12_0) ?_
          refine x_getr d_TokenRow_takeNumber_71 fl_TokenRow_47 ak_1 (q99 (by decide)) (shx sh_1_0) ?_
          refine x_iload_n d_TokenRow_takeNumber_74 rfl ?_
          refine x_iald d_TokenRow_takeNumber_75 ak_2 (q99 (by decide)) ?_
          refine x_iadd d_TokenRow_takeNumber_76 ?_
          refine x_bipush (v := 48) d_TokenRow_takeNumber_77 (by decide) ?_
          refine x_isub d_TokenRow_takeNumber_79 ?_
          refine x_iast d_TokenRow_takeNumber_80 ak_15 (q99 (by decide)) ?_
          refine x_nmS (fun S6 _ => ?_)
          refine x_iinc (w := c2 + 1) (lc' := [some (.ref 12), some (.int x1), some (.int (c2 + 1))]) d_TokenRow_takeNumber_81 (by decide) rfl rfl rfl ?_
          refine x_goto (tgt := 13) d_TokenRow_takeNumber_84 (by decide) ?_
          exact V.kw (ih (c2 + 1) S6) ⟨rfl, rfl, rfl, trivial⟩
set_option maxHeartbeats 4000000 in
theorem v_TokenRow_takeNumber {G : GX} (p1 : Int32) (S : AS) : V G md_TokenRow_takeNumber (QM G md_TokenRow_takeNumber iI) (fun _ => True) (some none) 0 [some (.ref 12), some (.int p1), none] [] 0 0 S (f_TokenRow_takeNumber p1 S) := by
  unfold f_TokenRow_takeNumber
  refine x_iload_n d_TokenRow_takeNumber_0 rfl ?_
  refine x_istore_n (lc' := [some (.ref 12), some (.int p1), some (.int p1)]) d_TokenRow_takeNumber_1 (by decide) rfl ?_
  refine x_aload_n_ref d_TokenRow_takeNumber_2 rfl ?_
  refine x_getr d_TokenRow_takeNumber_3 fl_TokenRow_9 ak_12 (q99 (by decide)) (shx sh_12_1) ?_
  refine x_aload_n_ref d_TokenRow_takeNumber_6 rfl ?_
  refine x_geti d_TokenRow_takeNumber_7 fl_TokenRow_25 ak_12 (q99 (by decide)) ?_
  refine x_bipush (v := 15) d_TokenRow_takeNumber_10 (by decide) ?_
  refine x_iast d_TokenRow_takeNumber_12 ak_13 (q99 (by decide)) ?_
  refine x_nmS (fun S1 _ => ?_)
  refine x_nm (fun J87 hJ87 => ?_)
  have kJ87 : ∀ (a2 : Int32) (S3 : AS), V G md_TokenRow_takeNumber (QM G md_TokenRow_takeNumber iI) (fun _ => True) (some none) 87 [none, none, some (.int a2)] [] 0 0 S3 (J87 a2 S3) := by
    subst hJ87
    intro a2 S3
    refine x_iload_n d_TokenRow_takeNumber_87 rfl ?_
    exact x_ret d_TokenRow_takeNumber_88 rfl rfl (Nat.le_of_ble_eq_true rfl) (Nat.le_of_ble_eq_true rfl)
  clear hJ87
  exact V.kw (v_TokenRow_takeNumber_L13 J87 p1 kJ87 FU p1 S1) ⟨rfl, rfl, rfl, trivial⟩
theorem c_TokenRow_takeNumber {G : GX} (p1 : Int32) (S : AS) : CN G y_TokenRow_takeNumber b_TokenRow_takeNumber 3 (some (FieldType.int)) ({ frames := 1, cells := 0, slots := 0, locals := 20 } : Room) (some none) iI [.ref 12, .int p1] S (f_TokenRow_takeNumber p1 S) := cn_of_v (M := md_TokenRow_takeNumber) (ini := false) rfl (by decide +kernel) (fun h => nomatch h) rfl (Nat.le_of_ble_eq_true rfl) (v_TokenRow_takeNumber p1 S)
noncomputable def f_TokenRow_isWord_L17 (J56 : AS → Option (Int32 × AS)) (x2 : Int32) (x3 : Int32) (x4 : Int32) : Nat → Int32 → AS → Option (Int32 × AS)
  | 0, _, _ => none
  | n + 1, c5, S => if x3 ≤ c5 then (J56 S) else (chk (vp_in (x4 + c5) 112) (chk (vp_in (x2 + c5) 400) (if (wch (x4 + c5)) = (gi S 2 (ix (x2 + c5))) then (f_TokenRow_isWord_L17 J56 x2 x3 x4 n (c5 + 1) S) else (some (0, S)))))
noncomputable def f_TokenRow_isWord (p1 : Int32) (p2 : Int32) (p3 : Int32) (S : AS) : Option (Int32 × AS) := if p3 < 8 then (nm (p1 * 8) fun v1 => nm (fun (S2 : AS) => chk (vp_in (v1 + p3) 112) (if (wch (v1 + p3)) = 32 then (some (1, S2)) else (some (0, S2)))) fun J56 => f_TokenRow_isWord_L17 J56 p2 p3 v1 FU 0 S) else (some (0, S))
set_option maxHeartbeats 4000000 in
theorem v_TokenRow_isWord_L17 {G : GX} (J56 : AS → Option (Int32 × AS)) (x2 : Int32) (x3 : Int32) (x4 : Int32) (kJ56 : ∀ (T : AS), V G md_TokenRow_isWord (QM G md_TokenRow_isWord iI) (fun _ => True) (some none) 56 [none, none, none, some (.int x3), some (.int x4), none] [] 0 0 T (J56 T)) : ∀ (n : Nat) (c5 : Int32) (S : AS), V G md_TokenRow_isWord (QM G md_TokenRow_isWord iI) (fun _ => True) (some none) 17 [some (.ref 12), none, some (.int x2), some (.int x3), some (.int x4), some (.int c5)] [] 0 0 S (f_TokenRow_isWord_L17 J56 x2 x3 x4 n c5 S) := by
  intro n
  induction n with
  | zero => intro c5 S; exact V.none
  | succ n ih =>
    intro c5 S
    rw [f_TokenRow_isWord_L17]
    refine x_iload d_TokenRow_isWord_17 rfl ?_
    refine x_iload_n d_TokenRow_isWord_19 rfl ?_
    refine x_icmp_ge (tgt := 56) d_TokenRow_isWord_20 (by decide) (fun _ => ?_) (fun _ => ?_)
    · exact V.kw (kJ56 S) ⟨rfl, rfl, trivial⟩
    · refine x_ldcS d_TokenRow_isWord_23 rfl rfl ?_
      refine x_iload d_TokenRow_isWord_25 rfl ?_
      refine x_iload d_TokenRow_isWord_27 rfl ?_
      refine x_iadd d_TokenRow_isWord_29 ?_
      refine x_charAt d_TokenRow_isWord_30 mv_cat_TokenRow_73 ⟨by decide, by decide⟩ (Nat.le_of_ble_eq_true rfl) (Nat.zero_le _) (Nat.zero_le _) ?_
      refine x_aload_n_ref d_TokenRow_isWord_33 rfl ?_
      refine x_getr d_TokenRow_isWord_34 fl_TokenRow_21 ak_12 (q99 (by decide)) (shx sh_12_0) ?_
      refine x_getr d_TokenRow_isWord_37 fl_TokenRow_47 ak_1 (q99 (by decide)) (shx sh_1_0) ?_
      refine x_iload_n d_TokenRow_isWord_40 rfl ?_
      refine x_iload d_TokenRow_isWord_41 rfl ?_
      refine x_iadd d_TokenRow_isWord_43 ?_
      refine x_iald d_TokenRow_isWord_44 ak_2 (q99 (by decide)) ?_
      refine x_icmp_eq (tgt := 50) d_TokenRow_isWord_45 (by decide) (fun _ => ?_) (fun _ => ?_)
      · refine x_iinc (w := c5 + 1) (lc' := [some (.ref 12), none, some (.int x2), some (.int x3), some (.int x4), some (.int (c5 + 1))]) d_TokenRow_isWord_50 (by decide) rfl rfl rfl ?_
        refine x_goto (tgt := 17) d_TokenRow_isWord_53 (by decide) ?_
        exact V.kw (ih (c5 + 1) S) ⟨rfl, rfl, rfl, rfl, rfl, trivial⟩
      · refine x_iconst (v := 0) d_TokenRow_isWord_48 (by decide) ?_
        exact x_ret d_TokenRow_isWord_49 rfl rfl (Nat.le_of_ble_eq_true rfl) (Nat.le_of_ble_eq_true rfl)
set_option maxHeartbeats 4000000 in
theorem v_TokenRow_isWord {G : GX} (p1 : Int32) (p2 : Int32) (p3 : Int32) (S : AS) : V G md_TokenRow_isWord (QM G md_TokenRow_isWord iI) (fun _ => True) (some none) 0 [some (.ref 12), some (.int p1), some (.int p2), some (.int p3), none, none] [] 0 0 S (f_TokenRow_isWord p1 p2 p3 S) := by
  unfold f_TokenRow_isWord
  refine x_iload_n d_TokenRow_isWord_0 rfl ?_
  refine x_bipush (v := 8) d_TokenRow_isWord_1 (by decide) ?_
  refine x_icmp_lt (tgt := 8) d_TokenRow_isWord_3 (by decide) (fun _ => ?_) (fun _ => ?_)
  · refine x_iload_n d_TokenRow_isWord_8 rfl ?_
    refine x_bipush (v := 8) d_TokenRow_isWord_9 (by decide) ?_
    refine x_imul d_TokenRow_isWord_11 ?_
    refine x_topi (fun v1 => ?_)
    refine x_istore (lc' := [some (.ref 12), some (.int p1), some (.int p2), some (.int p3), some (.int v1), none]) d_TokenRow_isWord_12 (by decide) rfl ?_
    refine x_iconst (v := 0) d_TokenRow_isWord_14 (by decide) ?_
    refine x_istore (lc' := [some (.ref 12), some (.int p1), some (.int p2), some (.int p3), some (.int v1), some (.int 0)]) d_TokenRow_isWord_15 (by decide) rfl ?_
    refine x_nm (fun J56 hJ56 => ?_)
    have kJ56 : ∀ (S2 : AS), V G md_TokenRow_isWord (QM G md_TokenRow_isWord iI) (fun _ => True) (some none) 56 [none, none, none, some (.int p3), some (.int v1), none] [] 0 0 S2 (J56 S2) := by
      subst hJ56
      intro S2
      refine x_ldcS d_TokenRow_isWord_56 rfl rfl ?_
      refine x_iload d_TokenRow_isWord_58 rfl ?_
      refine x_iload_n d_TokenRow_isWord_60 rfl ?_
      refine x_iadd d_TokenRow_isWord_61 ?_
      refine x_charAt d_TokenRow_isWord_62 mv_cat_TokenRow_73 ⟨by decide, by decide⟩ (Nat.le_of_ble_eq_true rfl) (Nat.zero_le _) (Nat.zero_le _) ?_
      refine x_bipush (v := 32) d_TokenRow_isWord_65 (by decide) ?_
      refine x_icmp_ne (tgt := 74) d_TokenRow_isWord_67 (by decide) (fun _ => ?_) (fun _ => ?_)
      · refine x_iconst (v := 0) d_TokenRow_isWord_74 (by decide) ?_
        exact x_ret d_TokenRow_isWord_75 rfl rfl (Nat.le_of_ble_eq_true rfl) (Nat.le_of_ble_eq_true rfl)
      · refine x_iconst (v := 1) d_TokenRow_isWord_70 (by decide) ?_
        refine x_goto (tgt := 75) d_TokenRow_isWord_71 (by decide) ?_
        exact x_ret d_TokenRow_isWord_75 rfl rfl (Nat.le_of_ble_eq_true rfl) (Nat.le_of_ble_eq_true rfl)
    clear hJ56
    exact V.kw (v_TokenRow_isWord_L17 J56 p2 p3 v1 kJ56 FU 0 S) ⟨rfl, rfl, rfl, rfl, rfl, trivial⟩
  · refine x_iconst (v := 0) d_TokenRow_isWord_6 (by decide) ?_
    exact x_ret d_TokenRow_isWord_7 rfl rfl (Nat.le_of_ble_eq_true rfl) (Nat.le_of_ble_eq_true rfl)
theorem c_TokenRow_isWord {G : GX} (p1 : Int32) (p2 : Int32) (p3 : Int32) (S : AS) : CN G y_TokenRow_isWord b_TokenRow_isWord 6 (some (FieldType.boolean)) ({ frames := 4, cells := 0, slots := 0, locals := 120 } : Room) (some none) iI [.ref 12, .int p1, .int p2, .int p3] S (f_TokenRow_isWord p1 p2 p3 S) := cn_of_v (M := md_TokenRow_isWord) (ini := false) rfl (by decide +kernel) (fun h => nomatch h) rfl (Nat.le_of_ble_eq_true rfl) (v_TokenRow_isWord p1 p2 p3 S)
noncomputable def f_TokenRow_takeWord_L100 (J148 : AS → Option (Int32 × AS)) (x1 : Int32) (x2 : Int32) : Nat → Int32 → AS → Option (Int32 × AS)
  | 0, _, _ => none
  | n + 1, c3, S => if 14 ≤ c3 then (J148 S) else (chk (vp_in (gi S 12 4) 401) (if (gi S 13 (ix (gi S 12 4))) = 18 then (bI (f_TokenRow_isWord c3 x1 (x2 - x1) S) fun r7 S6 => nm (fun (S8 : AS) => f_TokenRow_takeWord_L100 J148 x1 x2 n (c3 + 1) S8) fun J142 => if r7 = 0 then (J142 S6) else (chk (vp_in (gi S6 12 4) 401) (nm (si S6 13 (ix (gi S6 12 4)) c3) fun S9 => J142 S9))) else (J148 S)))
noncomputable def f_TokenRow_takeWord_L2 (J34 : Int32 → AS → Option (Int32 × AS)) (x1 : Int32) : Nat → Int32 → AS → Option (Int32 × AS)
  | 0, _, _ => none
  | n + 1, c2, S => if (gi S 1 1) ≤ c2 then (J34 c2 S) else (chk (vp_in c2 400) (bI (f_TokenRow_isLetter (gi S 2 (ix c2)) S) fun r13 S12 => if r13 = 0 then (J34 c2 S12) else (f_TokenRow_takeWord_L2 J34 x1 n (c2 + 1) S12)))
noncomputable def f_TokenRow_takeWord (p1 : Int32) (S : AS) : Option (Int32 × AS) := nm (fun (a1 : Int32) (S2 : AS) => chk (vp_in (gi S2 12 4) 401) (nm (si S2 13 (ix (gi S2 12 4)) 18) fun S3 => nm (fun (S4 : AS) => nm (fun (S5 : AS) => some (a1, S5)) fun J148 => f_TokenRow_takeWord_L100 J148 p1 a1 FU 0 S4) fun J98 => if (a1 - p1) = 1 then (chk (vp_in p1 400) (if 104 < (gi S3 2 (ix p1)) then (J98 S3) else (chk (vp_in (gi S3 12 4) 401) (nm (si S3 13 (ix (gi S3 12 4)) 14) fun S10 => chk (vp_in p1 400) (chk (vp_in (gi S10 12 4) 401) (nm (si S10 15 (ix (gi S10 12 4)) ((gi S10 2 (ix p1)) - 97)) fun S11 => J98 S11)))))) else (J98 S3))) fun J34 => f_TokenRow_takeWord_L2 J34 p1 FU p1 S
set_option maxHeartbeats 4000000 in
theorem v_TokenRow_takeWord_L100 {G : GX} (J148 : AS → Option (Int32 × AS)) (x1 : Int32) (x2 : Int32) (kJ148 : ∀ (T : AS), V G md_TokenRow_takeWord (QM G md_TokenRow_takeWord iI) (fun _ => True) (some none) 148 [none, none, some (.int x2), none] [] 0 0 T (J148 T)) : ∀ (n : Nat) (c3 : Int32) (S : AS), V G md_TokenRow_takeWord (QM G md_TokenRow_takeWord iI) (fun _ => True) (some none) 100 [some (.ref 12), some (.int x1), some (.int x2), some (.int c3)] [] 0 0 S (f_TokenRow_takeWord_L100 J148 x1 x2 n c3 S) := by
  intro n
  induction n with
  | zero => intro c3 S; exact V.none
  | succ n ih =>
    intro c3 S
    rw [f_TokenRow_takeWord_L100]
    refine x_iload_n d_TokenRow_takeWord_100 rfl ?_
    refine x_bipush (v := 14) d_TokenRow_takeWord_101 (by decide) ?_
    refine x_icmp_ge (tgt := 148) d_TokenRow_takeWord_103 (by decide) (fun _ => ?_) (fun _ => ?_)
    · exact V.kw (kJ148 S) ⟨rfl, trivial⟩
    · refine x_aload_n_ref d_TokenRow_takeWord_106 rfl ?_
      refine x_getr d_TokenRow_takeWord_107 fl_TokenRow_9 ak_12 (q99 (by decide)) (shx sh_12_1) ?_
      refine x_aload_n_ref d_TokenRow_takeWord_110 rfl ?_
      refine x_geti d_TokenRow_takeWord_111 fl_TokenRow_25 ak_12 (q99 (by decide)) ?_
      refine x_iald d_TokenRow_takeWord_114 ak_13 (q99 (by decide)) ?_
      refine x_bipush (v := 18) d_TokenRow_takeWord_115 (by decide) ?_
      refine x_icmp_ne (tgt := 148) d_TokenRow_takeWord_117 (by decide) (fun _ => ?_) (fun _ => ?_)
      · exact V.kw (kJ148 S) ⟨rfl, trivial⟩
      · refine x_aload_n_ref d_TokenRow_takeWord_120 rfl ?_
        refine x_iload_n d_TokenRow_takeWord_121 rfl ?_
        refine x_iload_n d_TokenRow_takeWord_122 rfl ?_
        refine x_iload_n d_TokenRow_takeWord_123 rfl ?_
        refine x_iload_n d_TokenRow_takeWord_124 rfl ?_
        refine x_isub d_TokenRow_takeWord_125 ?_
        refine x_vI (b' := (some none)) (As := [.int c3, .int x1, .int (x2 - x1)]) d_TokenRow_takeWord_126 mv_TokenRow_67 rfl (fun _ => ak_12) rfl (q99 (by decide)) ⟨Nat.le_of_ble_eq_true rfl, Nat.le_of_ble_eq_true rfl⟩ (Nat.le_of_ble_eq_true rfl) ⟨Nat.le_of_ble_eq_true rfl, Nat.le_of_ble_eq_true rfl⟩ (fun _ h => h) (fun h => ⟨h, c_TokenRow_isWord c3 x1 (x2 - x1) _⟩) (fun r7 S6 => ?_)
        refine x_nm (fun J142 hJ142 => ?_)
        have kJ142 : ∀ (S8 : AS), V G md_TokenRow_takeWord (QM G md_TokenRow_takeWord iI) (fun _ => True) (some none) 142 [some (.ref 12), some (.int x1), some (.int x2), some (.int c3)] [] 0 0 S8 (J142 S8) := by
          subst hJ142
          intro S8
          refine x_iinc (w := c3 + 1) (lc' := [some (.ref 12), some (.int x1), some (.int x2), some (.int (c3 + 1))]) d_TokenRow_takeWord_142 (by decide) rfl rfl rfl ?_
          refine x_goto (tgt := 100) d_TokenRow_takeWord_145 (by decide) ?_
          exact V.kw (ih (c3 + 1) S8) ⟨rfl, rfl, rfl, rfl, trivial⟩
        clear hJ142
        refine x_if_eq (tgt := 142) d_TokenRow_takeWord_129 (by decide) (fun _ => ?_) (fun _ => ?_)
        · exact V.kw (kJ142 S6) ⟨rfl, rfl, rfl, rfl, trivial⟩
        · refine x_aload_n_ref d_TokenRow_takeWord_132 rfl ?_
          refine x_getr d_TokenRow_takeWord_133 fl_TokenRow_9 ak_12 (q99 (by decide)) (shx sh_12_1) ?_
          refine x_aload_n_ref d_TokenRow_takeWord_136 rfl ?_
          refine x_geti d_TokenRow_takeWord_137 fl_TokenRow_25 ak_12 (q99 (by decide)) ?_
          refine x_iload_n d_TokenRow_takeWord_140 rfl ?_
          refine x_iast d_TokenRow_takeWord_141 ak_13 (q99 (by decide)) ?_
          refine x_nmS (fun S9 _ => ?_)
          exact V.kw (kJ142 S9) ⟨rfl, rfl, rfl, rfl, trivial⟩
set_option maxHeartbeats 4000000 in
theorem v_TokenRow_takeWord_L2 {G : GX} (J34 : Int32 → AS → Option (Int32 × AS)) (x1 : Int32) (kJ34 : ∀ (a1 : Int32) (T : AS), V G md_TokenRow_takeWord (QM G md_TokenRow_takeWord iI) (fun _ => True) (some none) 34 [some (.ref 12), some (.int x1), some (.int a1), none] [] 0 0 T (J34 a1 T)) : ∀ (n : Nat) (c2 : Int32) (S : AS), V G md_TokenRow_takeWord (QM G md_TokenRow_takeWord iI) (fun _ => True) (some none) 2 [some (.ref 12), some (.int x1), some (.int c2), none] [] 0 0 S (f_TokenRow_takeWord_L2 J34 x1 n c2 S) := by
  intro n
  induction n with
  | zero => intro c2 S; exact V.none
  | succ n ih =>
    intro c2 S
    rw [f_TokenRow_takeWord_L2]
    refine x_iload_n d_TokenRow_takeWord_2 rfl ?_
    refine x_aload_n_ref d_TokenRow_takeWord_3 rfl ?_
    refine x_getr d_TokenRow_takeWord_4 fl_TokenRow_21 ak_12 (q99 (by decide)) (shx sh_12_0) ?_
    refine x_geti d_TokenRow_takeWord_7 fl_TokenRow_33 ak_1 (q99 (by decide)) ?_
    refine x_icmp_ge (tgt := 34) d_TokenRow_takeWord_10 (by decide) (fun _ => ?_) (fun _ => ?_)
    · exact V.kw (kJ34 c2 S) ⟨rfl, rfl, rfl, trivial⟩
    · refine x_aload_n_ref d_TokenRow_takeWord_13 rfl ?_
      refine x_getr d_TokenRow_takeWord_14 fl_TokenRow_21 ak_12 (q99 (by decide)) (shx sh_12_0) ?_
      refine x_getr d_TokenRow_takeWord_17 fl_TokenRow_47 ak_1 (q99 (by decide)) (shx sh_1_0) ?_
      refine x_iload_n d_TokenRow_takeWord_20 rfl ?_
      refine x_iald d_TokenRow_takeWord_21 ak_2 (q99 (by decide)) ?_
      refine x_sI (b' := (some none)) (As := [.int (gi S 2 (ix c2))]) d_TokenRow_takeWord_22 ms_TokenRow_50 rfl ⟨Nat.le_of_ble_eq_true rfl, Nat.le_of_ble_eq_true rfl⟩ (Nat.le_of_ble_eq_true rfl) ⟨Nat.le_of_ble_eq_true rfl, Nat.le_of_ble_eq_true rfl⟩ (fun _ h => h) (fun h => ⟨h, c_TokenRow_isLetter (gi S 2 (ix c2)) _⟩) (fun r13 S12 => ?_)
      refine x_if_eq (tgt := 34) d_TokenRow_takeWord_25 (by decide) (fun _ => ?_) (fun _ => ?_)
      · exact V.kw (kJ34 c2 S12) ⟨rfl, rfl, rfl, trivial⟩
      · refine x_iinc (w := c2 + 1) (lc' := [some (.ref 12), some (.int x1), some (.int (c2 + 1)), none]) d_TokenRow_takeWord_28 (by decide) rfl rfl rfl ?_
        refine x_goto (tgt := 2) d_TokenRow_takeWord_31 (by decide) ?_
        exact V.kw (ih (c2 + 1) S12) ⟨rfl, rfl, rfl, trivial⟩
set_option maxHeartbeats 4000000 in
theorem v_TokenRow_takeWord {G : GX} (p1 : Int32) (S : AS) : V G md_TokenRow_takeWord (QM G md_TokenRow_takeWord iI) (fun _ => True) (some none) 0 [some (.ref 12), some (.int p1), none, none] [] 0 0 S (f_TokenRow_takeWord p1 S) := by
  unfold f_TokenRow_takeWord
  refine x_iload_n d_TokenRow_takeWord_0 rfl ?_
  refine x_istore_n (lc' := [some (.ref 12), some (.int p1), some (.int p1), none]) d_TokenRow_takeWord_1 (by decide) rfl ?_
  refine x_nm (fun J34 hJ34 => ?_)
  have kJ34 : ∀ (a1 : Int32) (S2 : AS), V G md_TokenRow_takeWord (QM G md_TokenRow_takeWord iI) (fun _ => True) (some none) 34 [some (.ref 12), some (.int p1), some (.int a1), none] [] 0 0 S2 (J34 a1 S2) := by
    subst hJ34
    intro a1 S2
    refine x_aload_n_ref d_TokenRow_takeWord_34 rfl ?_
    refine x_getr d_TokenRow_takeWord_35 fl_TokenRow_9 ak_12 (q99 (by decide)) (shx sh_12_1) ?_
    refine x_aload_n_ref d_TokenRow_takeWord_38 rfl ?_
    refine x_geti d_TokenRow_takeWord_39 fl_TokenRow_25 ak_12 (q99 (by decide)) ?_
    refine x_bipush (v := 18) d_TokenRow_takeWord_42 (by decide) ?_
    refine x_iast d_TokenRow_takeWord_44 ak_13 (q99 (by decide)) ?_
    refine x_nmS (fun S3 _ => ?_)
    refine x_iload_n d_TokenRow_takeWord_45 rfl ?_
    refine x_iload_n d_TokenRow_takeWord_46 rfl ?_
    refine x_isub d_TokenRow_takeWord_47 ?_
    refine x_iconst (v := 1) d_TokenRow_takeWord_48 (by decide) ?_
    refine x_nm (fun J98 hJ98 => ?_)
    have kJ98 : ∀ (S4 : AS), V G md_TokenRow_takeWord (QM G md_TokenRow_takeWord iI) (fun _ => True) (some none) 98 [some (.ref 12), some (.int p1), some (.int a1), none] [] 0 0 S4 (J98 S4) := by
      subst hJ98
      intro S4
      refine x_iconst (v := 0) d_TokenRow_takeWord_98 (by decide) ?_
      refine x_istore_n (lc' := [some (.ref 12), some (.int p1), some (.int a1), some (.int 0)]) d_TokenRow_takeWord_99 (by decide) rfl ?_
      refine x_nm (fun J148 hJ148 => ?_)
      have kJ148 : ∀ (S5 : AS), V G md_TokenRow_takeWord (QM G md_TokenRow_takeWord iI) (fun _ => True) (some none) 148 [none, none, some (.int a1), none] [] 0 0 S5 (J148 S5) := by
        subst hJ148
        intro S5
        refine x_iload_n d_TokenRow_takeWord_148 rfl ?_
        exact x_ret d_TokenRow_takeWord_149 rfl rfl (Nat.le_of_ble_eq_true rfl) (Nat.le_of_ble_eq_true rfl)
      clear hJ148
      exact V.kw (v_TokenRow_takeWord_L100 J148 p1 a1 kJ148 FU 0 S4) ⟨rfl, rfl, rfl, rfl, trivial⟩
    clear hJ98
    refine x_icmp_ne (tgt := 98) d_TokenRow_takeWord_49 (by decide) (fun _ => ?_) (fun _ => ?_)
    · exact V.kw (kJ98 S3) ⟨rfl, rfl, rfl, trivial⟩
    · refine x_aload_n_ref d_TokenRow_takeWord_52 rfl ?_
      refine x_getr d_TokenRow_takeWord_53 fl_TokenRow_21 ak_12 (q99 (by decide)) (shx sh_12_0) ?_
      refine x_getr d_TokenRow_takeWord_56 fl_TokenRow_47 ak_1 (q99 (by decide)) (shx sh_1_0) ?_
      refine x_iload_n d_TokenRow_takeWord_59 rfl ?_
      refine x_iald d_TokenRow_takeWord_60 ak_2 (q99 (by decide)) ?_
      refine x_bipush (v := 104) d_TokenRow_takeWord_61 (by decide) ?_
      refine x_icmp_gt (tgt := 98) d_TokenRow_takeWord_63 (by decide) (fun _ => ?_) (fun _ => ?_)
      · exact V.kw (kJ98 S3) ⟨rfl, rfl, rfl, trivial⟩
      · refine x_aload_n_ref d_TokenRow_takeWord_66 rfl ?_
        refine x_getr d_TokenRow_takeWord_67 fl_TokenRow_9 ak_12 (q99 (by decide)) (shx sh_12_1) ?_
        refine x_aload_n_ref d_TokenRow_takeWord_70 rfl ?_
        refine x_geti d_TokenRow_takeWord_71 fl_TokenRow_25 ak_12 (q99 (by decide)) ?_
        refine x_bipush (v := 14) d_TokenRow_takeWord_74 (by decide) ?_
        refine x_iast d_TokenRow_takeWord_76 ak_13 (q99 (by decide)) ?_
        refine x_nmS (fun S10 _ => ?_)
        refine x_aload_n_ref d_TokenRow_takeWord_77 rfl ?_
        refine x_getr d_TokenRow_takeWord_78 fl_TokenRow_18 ak_12 (q99 (by decide)) (shx sh_12_3) ?_
        refine x_aload_n_ref d_TokenRow_takeWord_81 rfl ?_
        refine x_geti d_TokenRow_takeWord_82 fl_TokenRow_25 ak_12 (q99 (by decide)) ?_
        refine x_aload_n_ref d_TokenRow_takeWord_85 rfl ?_
        refine x_getr d_TokenRow_takeWord_86 fl_TokenRow_21 ak_12 (q99 (by decide)) (shx sh_12_0) ?_
        refine x_getr d_TokenRow_takeWord_89 fl_TokenRow_47 ak_1 (q99 (by decide)) (shx sh_1_0) ?_
        refine x_iload_n d_TokenRow_takeWord_92 rfl ?_
        refine x_iald d_TokenRow_takeWord_93 ak_2 (q99 (by decide)) ?_
        refine x_bipush (v := 97) d_TokenRow_takeWord_94 (by decide) ?_
        refine x_isub d_TokenRow_takeWord_96 ?_
        refine x_iast d_TokenRow_takeWord_97 ak_15 (q99 (by decide)) ?_
        refine x_nmS (fun S11 _ => ?_)
        exact V.kw (kJ98 S11) ⟨rfl, rfl, rfl, trivial⟩
  clear hJ34
  exact V.kw (v_TokenRow_takeWord_L2 J34 p1 kJ34 FU p1 S) ⟨rfl, rfl, rfl, trivial⟩
theorem c_TokenRow_takeWord {G : GX} (p1 : Int32) (S : AS) : CN G y_TokenRow_takeWord b_TokenRow_takeWord 4 (some (FieldType.int)) ({ frames := 5, cells := 0, slots := 0, locals := 145 } : Room) (some none) iI [.ref 12, .int p1] S (f_TokenRow_takeWord p1 S) := cn_of_v (M := md_TokenRow_takeWord) (ini := false) rfl (by decide +kernel) (fun h => nomatch h) rfl (Nat.le_of_ble_eq_true rfl) (v_TokenRow_takeWord p1 S)
noncomputable def f_TokenRow_take (p1 : Int32) (S : AS) : Option (Int32 × AS) := chk (vp_in p1 400) (nm (gi S 2 (ix p1)) fun v1 => bI (f_TokenRow_isLetter v1 S) fun r3 S2 => if r3 = 0 then (bI (f_TokenRow_isDigit v1 S2) fun r5 S4 => if r5 = 0 then (bV (f_TokenRow_takeMark v1 S4) fun S6 => some (p1 + 1, S6)) else (bI (f_TokenRow_takeNumber p1 S4) fun r8 S7 => some (r8, S7))) else (bI (f_TokenRow_takeWord p1 S2) fun r10 S9 => some (r10, S9)))
set_option maxHeartbeats 4000000 in
theorem v_TokenRow_take {G : GX} (p1 : Int32) (S : AS) : V G md_TokenRow_take (QM G md_TokenRow_take iI) (fun _ => True) (some none) 0 [some (.ref 12), some (.int p1), none] [] 0 0 S (f_TokenRow_take p1 S) := by
  unfold f_TokenRow_take
  refine x_aload_n_ref d_TokenRow_take_0 rfl ?_
  refine x_getr d_TokenRow_take_1 fl_TokenRow_21 ak_12 (q99 (by decide)) (shx sh_12_0) ?_
  refine x_getr d_TokenRow_take_4 fl_TokenRow_47 ak_1 (q99 (by decide)) (shx sh_1_0) ?_
  refine x_iload_n d_TokenRow_take_7 rfl ?_
  refine x_iald d_TokenRow_take_8 ak_2 (q99 (by decide)) ?_
  refine x_topi (fun v1 => ?_)
  refine x_istore_n (lc' := [some (.ref 12), some (.int p1), some (.int v1)]) d_TokenRow_take_9 (by decide) rfl ?_
  refine x_iload_n d_TokenRow_take_10 rfl ?_
  refine x_sI (b' := (some none)) (As := [.int v1]) d_TokenRow_take_11 ms_TokenRow_50 rfl ⟨Nat.le_of_ble_eq_true rfl, Nat.le_of_ble_eq_true rfl⟩ (Nat.le_of_ble_eq_true rfl) ⟨Nat.le_of_ble_eq_true rfl, Nat.le_of_ble_eq_true rfl⟩ (fun _ h => h) (fun h => ⟨h, c_TokenRow_isLetter v1 _⟩) (fun r3 S2 => ?_)
  refine x_if_eq (tgt := 23) d_TokenRow_take_14 (by decide) (fun _ => ?_) (fun _ => ?_)
  · refine x_iload_n d_TokenRow_take_23 rfl ?_
    refine x_sI (b' := (some none)) (As := [.int v1]) d_TokenRow_take_24 ms_TokenRow_57 rfl ⟨Nat.le_of_ble_eq_true rfl, Nat.le_of_ble_eq_true rfl⟩ (Nat.le_of_ble_eq_true rfl) ⟨Nat.le_of_ble_eq_true rfl, Nat.le_of_ble_eq_true rfl⟩ (fun _ h => h) (fun h => ⟨h, c_TokenRow_isDigit v1 _⟩) (fun r5 S4 => ?_)
    refine x_if_eq (tgt := 36) d_TokenRow_take_27 (by decide) (fun _ => ?_) (fun _ => ?_)
    · refine x_aload_n_ref d_TokenRow_take_36 rfl ?_
      refine x_iload_n d_TokenRow_take_37 rfl ?_
      refine x_vV (b' := (some none)) (As := [.int v1]) d_TokenRow_take_38 mv_TokenRow_63 rfl (fun _ => ak_12) rfl (q99 (by decide)) ⟨Nat.le_of_ble_eq_true rfl, Nat.le_of_ble_eq_true rfl⟩ (Nat.le_of_ble_eq_true rfl) ⟨Nat.le_of_ble_eq_true rfl, Nat.le_of_ble_eq_true rfl⟩ (fun _ h => h) (fun h => ⟨h, c_TokenRow_takeMark v1 _⟩) (fun S6 => ?_)
      refine x_iload_n d_TokenRow_take_41 rfl ?_
      refine x_iconst (v := 1) d_TokenRow_take_42 (by decide) ?_
      refine x_iadd d_TokenRow_take_43 ?_
      exact x_ret d_TokenRow_take_44 rfl rfl (Nat.le_of_ble_eq_true rfl) (Nat.le_of_ble_eq_true rfl)
    · refine x_aload_n_ref d_TokenRow_take_30 rfl ?_
      refine x_iload_n d_TokenRow_take_31 rfl ?_
      refine x_vI (b' := (some none)) (As := [.int p1]) d_TokenRow_take_32 mv_TokenRow_60 rfl (fun _ => ak_12) rfl (q99 (by decide)) ⟨Nat.le_of_ble_eq_true rfl, Nat.le_of_ble_eq_true rfl⟩ (Nat.le_of_ble_eq_true rfl) ⟨Nat.le_of_ble_eq_true rfl, Nat.le_of_ble_eq_true rfl⟩ (fun _ h => h) (fun h => ⟨h, c_TokenRow_takeNumber p1 _⟩) (fun r8 S7 => ?_)
      exact x_ret d_TokenRow_take_35 rfl rfl (Nat.le_of_ble_eq_true rfl) (Nat.le_of_ble_eq_true rfl)
  · refine x_aload_n_ref d_TokenRow_take_17 rfl ?_
    refine x_iload_n d_TokenRow_take_18 rfl ?_
    refine x_vI (b' := (some none)) (As := [.int p1]) d_TokenRow_take_19 mv_TokenRow_54 rfl (fun _ => ak_12) rfl (q99 (by decide)) ⟨Nat.le_of_ble_eq_true rfl, Nat.le_of_ble_eq_true rfl⟩ (Nat.le_of_ble_eq_true rfl) ⟨Nat.le_of_ble_eq_true rfl, Nat.le_of_ble_eq_true rfl⟩ (fun _ h => h) (fun h => ⟨h, c_TokenRow_takeWord p1 _⟩) (fun r10 S9 => ?_)
    exact x_ret d_TokenRow_take_22 rfl rfl (Nat.le_of_ble_eq_true rfl) (Nat.le_of_ble_eq_true rfl)
theorem c_TokenRow_take {G : GX} (p1 : Int32) (S : AS) : CN G y_TokenRow_take b_TokenRow_take 3 (some (FieldType.int)) ({ frames := 6, cells := 0, slots := 0, locals := 168 } : Room) (some none) iI [.ref 12, .int p1] S (f_TokenRow_take p1 S) := cn_of_v (M := md_TokenRow_take) (ini := false) rfl (by decide +kernel) (fun h => nomatch h) rfl (Nat.le_of_ble_eq_true rfl) (v_TokenRow_take p1 S)
noncomputable def f_TokenRow_scan_L11 (J83 : AS → Option AS) : Nat → Int32 → AS → Option AS
  | 0, _, _ => none
  | n + 1, c1, S => if (gi S 1 1) ≤ c1 then (J83 S) else (if 400 ≤ (gi S 12 4) then (J83 S) else (chk (vp_in (gi S 12 4) 401) (nm (si S 14 (ix (gi S 12 4)) c1) fun S8 => chk (vp_in (gi S8 12 4) 401) (nm (si S8 15 (ix (gi S8 12 4)) 0) fun S9 => bI (f_TokenRow_take c1 S9) fun r11 S10 => nm (imx (c1 + 1) r11) fun v12 => nm (si S10 12 4 ((gi S10 12 4) + 1)) fun S13 => bI (f_TokenRow_skipBlanks v12 S13) fun r15 S14 => f_TokenRow_scan_L11 J83 n r15 S14))))
noncomputable def f_TokenRow_scan (S : AS) : Option AS := nm (si S 12 4 0) fun S1 => bI (f_TokenRow_skipBlanks 0 S1) fun r3 S2 => nm (fun (S4 : AS) => chk (vp_in (gi S4 12 4) 401) (nm (si S4 13 (ix (gi S4 12 4)) 19) fun S5 => chk (vp_in (gi S5 12 4) 401) (nm (si S5 14 (ix (gi S5 12 4)) (gi S5 1 1)) fun S6 => nm (si S6 12 4 ((gi S6 12 4) + 1)) fun S7 => some S7))) fun J83 => f_TokenRow_scan_L11 J83 FU r3 S2
set_option maxHeartbeats 4000000 in
theorem v_TokenRow_scan_L11 {G : GX} (J83 : AS → Option AS) (kJ83 : ∀ (T : AS), V G md_TokenRow_scan (QM G md_TokenRow_scan iV) (fun _ => True) (some none) 83 [some (.ref 12), none, none] [] 0 0 T (J83 T)) : ∀ (n : Nat) (c1 : Int32) (S : AS), V G md_TokenRow_scan (QM G md_TokenRow_scan iV) (fun _ => True) (some none) 11 [some (.ref 12), some (.int c1), none] [] 0 0 S (f_TokenRow_scan_L11 J83 n c1 S) := by
  intro n
  induction n with
  | zero => intro c1 S; exact V.none
  | succ n ih =>
    intro c1 S
    rw [f_TokenRow_scan_L11]
    refine x_iload_n d_TokenRow_scan_11 rfl ?_
    refine x_aload_n_ref d_TokenRow_scan_12 rfl ?_
    refine x_getr d_TokenRow_scan_13 fl_TokenRow_21 ak_12 (q99 (by decide)) (shx sh_12_0) ?_
    refine x_geti d_TokenRow_scan_16 fl_TokenRow_33 ak_1 (q99 (by decide)) ?_
    refine x_icmp_ge (tgt := 83) d_TokenRow_scan_19 (by decide) (fun _ => ?_) (fun _ => ?_)
    · exact V.kw (kJ83 S) ⟨rfl, trivial⟩
    · refine x_aload_n_ref d_TokenRow_scan_22 rfl ?_
      refine x_geti d_TokenRow_scan_23 fl_TokenRow_25 ak_12 (q99 (by decide)) ?_
      refine x_sipush (v := 400) d_TokenRow_scan_26 (by decide) ?_
      refine x_icmp_ge (tgt := 83) d_TokenRow_scan_29 (by decide) (fun _ => ?_) (fun _ => ?_)
      · exact V.kw (kJ83 S) ⟨rfl, trivial⟩
      · refine x_aload_n_ref d_TokenRow_scan_32 rfl ?_
        refine x_getr d_TokenRow_scan_33 fl_TokenRow_15 ak_12 (q99 (by decide)) (shx sh_12_2) ?_
        refine x_aload_n_ref d_TokenRow_scan_36 rfl ?_
        refine x_geti d_TokenRow_scan_37 fl_TokenRow_25 ak_12 (q99 (by decide)) ?_
        refine x_iload_n d_TokenRow_scan_40 rfl ?_
        refine x_iast d_TokenRow_scan_41 ak_14 (q99 (by decide)) ?_
        refine x_nmS (fun S8 _ => ?_)
        refine x_aload_n_ref d_TokenRow_scan_42 rfl ?_
        refine x_getr d_TokenRow_scan_43 fl_TokenRow_18 ak_12 (q99 (by decide)) (shx sh_12_3) ?_
        refine x_aload_n_ref d_TokenRow_scan_46 rfl ?_
        refine x_geti d_TokenRow_scan_47 fl_TokenRow_25 ak_12 (q99 (by decide)) ?_
        refine x_iconst (v := 0) d_TokenRow_scan_50 (by decide) ?_
        refine x_iast d_TokenRow_scan_51 ak_15 (q99 (by decide)) ?_
        refine x_nmS (fun S9 _ => ?_)
        refine x_iload_n d_TokenRow_scan_52 rfl ?_
        refine x_iconst (v := 1) d_TokenRow_scan_53 (by decide) ?_
        refine x_iadd d_TokenRow_scan_54 ?_
        refine x_aload_n_ref d_TokenRow_scan_55 rfl ?_
        refine x_iload_n d_TokenRow_scan_56 rfl ?_
        refine x_vI (b' := (some none)) (As := [.int c1]) d_TokenRow_scan_57 mv_TokenRow_38 rfl (fun _ => ak_12) rfl (q99 (by decide)) ⟨Nat.le_of_ble_eq_true rfl, Nat.le_of_ble_eq_true rfl⟩ (Nat.le_of_ble_eq_true rfl) ⟨Nat.le_of_ble_eq_true rfl, Nat.le_of_ble_eq_true rfl⟩ (fun _ h => h) (fun h => ⟨h, c_TokenRow_take c1 _⟩) (fun r11 S10 => ?_)
        refine x_max d_TokenRow_scan_60 (List.mem_append_right _ (List.mem_append_right _ (List.mem_append_right _ (List.mem_append_left _ (List.mem_of_getElem? (i := 96) (by decide +kernel)))))) w_max2 w_max3 w_max4 (Nat.le_of_ble_eq_true rfl) (by decide) (by decide) (Nat.zero_le _) (Nat.zero_le _) ?_
        refine x_topi (fun v12 => ?_)
        refine x_istore_n (lc' := [some (.ref 12), some (.int c1), some (.int v12)]) d_TokenRow_scan_63 (by decide) rfl ?_
        refine x_aload_n_ref d_TokenRow_scan_64 rfl ?_
        refine x_dup d_TokenRow_scan_65 rfl ?_
        refine x_geti d_TokenRow_scan_66 fl_TokenRow_25 ak_12 (q99 (by decide)) ?_
        refine x_iconst (v := 1) d_TokenRow_scan_69 (by decide) ?_
        refine x_iadd d_TokenRow_scan_70 ?_
        refine x_puti d_TokenRow_scan_71 fl_TokenRow_25 rfl ak_12 (q99 (by decide)) (fun h => nomatch h) (fun h => nomatch h) ?_
        refine x_nmS (fun S13 _ => ?_)
        refine x_aload_n_ref d_TokenRow_scan_74 rfl ?_
        refine x_iload_n d_TokenRow_scan_75 rfl ?_
        refine x_vI (b' := (some none)) (As := [.int v12]) d_TokenRow_scan_76 mv_TokenRow_29 rfl (fun _ => ak_12) rfl (q99 (by decide)) ⟨Nat.le_of_ble_eq_true rfl, Nat.le_of_ble_eq_true rfl⟩ (Nat.le_of_ble_eq_true rfl) ⟨Nat.le_of_ble_eq_true rfl, Nat.le_of_ble_eq_true rfl⟩ (fun _ h => h) (fun h => ⟨h, c_TokenRow_skipBlanks v12 _⟩) (fun r15 S14 => ?_)
        refine x_istore_n (lc' := [some (.ref 12), some (.int r15), some (.int v12)]) d_TokenRow_scan_79 (by decide) rfl ?_
        refine x_goto (tgt := 11) d_TokenRow_scan_80 (by decide) ?_
        exact V.kw (ih r15 S14) ⟨rfl, rfl, trivial⟩
set_option maxHeartbeats 4000000 in
theorem v_TokenRow_scan {G : GX} (S : AS) : V G md_TokenRow_scan (QM G md_TokenRow_scan iV) (fun _ => True) (some none) 0 [some (.ref 12), none, none] [] 0 0 S (f_TokenRow_scan S) := by
  unfold f_TokenRow_scan
  refine x_aload_n_ref d_TokenRow_scan_0 rfl ?_
  refine x_iconst (v := 0) d_TokenRow_scan_1 (by decide) ?_
  refine x_puti d_TokenRow_scan_2 fl_TokenRow_25 rfl ak_12 (q99 (by decide)) (fun h => nomatch h) (fun h => nomatch h) ?_
  refine x_nmS (fun S1 _ => ?_)
  refine x_aload_n_ref d_TokenRow_scan_5 rfl ?_
  refine x_iconst (v := 0) d_TokenRow_scan_6 (by decide) ?_
  refine x_vI (b' := (some none)) (As := [.int 0]) d_TokenRow_scan_7 mv_TokenRow_29 rfl (fun _ => ak_12) rfl (q99 (by decide)) ⟨Nat.le_of_ble_eq_true rfl, Nat.le_of_ble_eq_true rfl⟩ (Nat.le_of_ble_eq_true rfl) ⟨Nat.le_of_ble_eq_true rfl, Nat.le_of_ble_eq_true rfl⟩ (fun _ h => h) (fun h => ⟨h, c_TokenRow_skipBlanks 0 _⟩) (fun r3 S2 => ?_)
  refine x_istore_n (lc' := [some (.ref 12), some (.int r3), none]) d_TokenRow_scan_10 (by decide) rfl ?_
  refine x_nm (fun J83 hJ83 => ?_)
  have kJ83 : ∀ (S4 : AS), V G md_TokenRow_scan (QM G md_TokenRow_scan iV) (fun _ => True) (some none) 83 [some (.ref 12), none, none] [] 0 0 S4 (J83 S4) := by
    subst hJ83
    intro S4
    refine x_aload_n_ref d_TokenRow_scan_83 rfl ?_
    refine x_getr d_TokenRow_scan_84 fl_TokenRow_9 ak_12 (q99 (by decide)) (shx sh_12_1) ?_
    refine x_aload_n_ref d_TokenRow_scan_87 rfl ?_
    refine x_geti d_TokenRow_scan_88 fl_TokenRow_25 ak_12 (q99 (by decide)) ?_
    refine x_bipush (v := 19) d_TokenRow_scan_91 (by decide) ?_
    refine x_iast d_TokenRow_scan_93 ak_13 (q99 (by decide)) ?_
    refine x_nmS (fun S5 _ => ?_)
    refine x_aload_n_ref d_TokenRow_scan_94 rfl ?_
    refine x_getr d_TokenRow_scan_95 fl_TokenRow_15 ak_12 (q99 (by decide)) (shx sh_12_2) ?_
    refine x_aload_n_ref d_TokenRow_scan_98 rfl ?_
    refine x_geti d_TokenRow_scan_99 fl_TokenRow_25 ak_12 (q99 (by decide)) ?_
    refine x_aload_n_ref d_TokenRow_scan_102 rfl ?_
    refine x_getr d_TokenRow_scan_103 fl_TokenRow_21 ak_12 (q99 (by decide)) (shx sh_12_0) ?_
    refine x_geti d_TokenRow_scan_106 fl_TokenRow_33 ak_1 (q99 (by decide)) ?_
    refine x_iast d_TokenRow_scan_109 ak_14 (q99 (by decide)) ?_
    refine x_nmS (fun S6 _ => ?_)
    refine x_aload_n_ref d_TokenRow_scan_110 rfl ?_
    refine x_dup d_TokenRow_scan_111 rfl ?_
    refine x_geti d_TokenRow_scan_112 fl_TokenRow_25 ak_12 (q99 (by decide)) ?_
    refine x_iconst (v := 1) d_TokenRow_scan_115 (by decide) ?_
    refine x_iadd d_TokenRow_scan_116 ?_
    refine x_puti d_TokenRow_scan_117 fl_TokenRow_25 rfl ak_12 (q99 (by decide)) (fun h => nomatch h) (fun h => nomatch h) ?_
    refine x_nmS (fun S7 _ => ?_)
    exact x_vret d_TokenRow_scan_120 rfl (Nat.le_of_ble_eq_true rfl) (Nat.le_of_ble_eq_true rfl)
  clear hJ83
  exact V.kw (v_TokenRow_scan_L11 J83 kJ83 FU r3 S2) ⟨rfl, rfl, trivial⟩
theorem c_TokenRow_scan {G : GX} (S : AS) : CN G y_TokenRow_scan b_TokenRow_scan 3 none ({ frames := 7, cells := 0, slots := 0, locals := 190 } : Room) (some none) iV [.ref 12] S (f_TokenRow_scan S) := cn_of_v (M := md_TokenRow_scan) (ini := false) rfl (by decide +kernel) (fun h => nomatch h) rfl (Nat.le_of_ble_eq_true rfl) (v_TokenRow_scan S)
noncomputable def f_RuleBook_isFull (q : Nat) (S : AS) : Option (Int32 × AS) := if (gi S q 4) < 16 then (some (0, S)) else (some (1, S))
set_option maxHeartbeats 4000000 in
theorem v_RuleBook_isFull {G : GX} (q : Nat) (hq : isq q) (S : AS) : V G md_RuleBook_isFull (QM G md_RuleBook_isFull iI) (fun _ => True) (some (some q)) 0 [some (.ref q)] [] 0 0 S (f_RuleBook_isFull q S) := by
  unfold f_RuleBook_isFull
  refine x_aload_n_ref d_RuleBook_isFull_0 rfl ?_
  refine x_geti d_RuleBook_isFull_1 fl_RuleBook_33 (ak_q q 0 hq (by decide)) (bq_lt (q := q) (i := 0) (by decide)) ?_
  refine x_bipush (v := 16) d_RuleBook_isFull_4 (by decide) ?_
  refine x_icmp_lt (tgt := 13) d_RuleBook_isFull_6 (by decide) (fun _ => ?_) (fun _ => ?_)
  · refine x_iconst (v := 0) d_RuleBook_isFull_13 (by decide) ?_
    exact x_ret d_RuleBook_isFull_14 rfl rfl (Nat.le_of_ble_eq_true rfl) (Nat.le_of_ble_eq_true rfl)
  · refine x_iconst (v := 1) d_RuleBook_isFull_9 (by decide) ?_
    refine x_goto (tgt := 14) d_RuleBook_isFull_10 (by decide) ?_
    exact x_ret d_RuleBook_isFull_14 rfl rfl (Nat.le_of_ble_eq_true rfl) (Nat.le_of_ble_eq_true rfl)
theorem c_RuleBook_isFull {G : GX} (q : Nat) (hq : isq q) (S : AS) : CN G y_RuleBook_isFull b_RuleBook_isFull 1 (some (FieldType.boolean)) ({ frames := 0, cells := 0, slots := 0, locals := 0 } : Room) (some (some q)) iI [.ref q] S (f_RuleBook_isFull q S) := cn_of_v (M := md_RuleBook_isFull) (ini := false) rfl (by decide +kernel) (fun h => nomatch h) rfl (Nat.le_of_ble_eq_true rfl) (v_RuleBook_isFull q hq S)
noncomputable def f_RuleReader_failWith (p1 : Int32) (S : AS) : Option (Int32 × AS) := nm (si S 3 4 p1) fun S1 => chk (vp_in (gi S1 3 2) 401) (nm (si S1 3 5 (gi S1 14 (ix (gi S1 3 2)))) fun S2 => some (0, S2))
set_option maxHeartbeats 4000000 in
theorem v_RuleReader_failWith {G : GX} (p1 : Int32) (S : AS) : V G md_RuleReader_failWith (QM G md_RuleReader_failWith iI) (fun _ => True) (some none) 0 [some (.ref 3), some (.int p1)] [] 0 0 S (f_RuleReader_failWith p1 S) := by
  unfold f_RuleReader_failWith
  refine x_aload_n_ref d_RuleReader_failWith_0 rfl ?_
  refine x_iload_n d_RuleReader_failWith_1 rfl ?_
  refine x_puti d_RuleReader_failWith_2 fl_RuleReader_31 rfl ak_3 (q99 (by decide)) (fun h => nomatch h) (fun h => nomatch h) ?_
  refine x_nmS (fun S1 _ => ?_)
  refine x_aload_n_ref d_RuleReader_failWith_5 rfl ?_
  refine x_aload_n_ref d_RuleReader_failWith_6 rfl ?_
  refine x_getr d_RuleReader_failWith_7 fl_RuleReader_23 ak_3 (q99 (by decide)) (shx sh_3_0) ?_
  refine x_getr d_RuleReader_failWith_10 fl_RuleReader_57 ak_12 (q99 (by decide)) (shx sh_12_2) ?_
  refine x_aload_n_ref d_RuleReader_failWith_13 rfl ?_
  refine x_geti d_RuleReader_failWith_14 fl_RuleReader_40 ak_3 (q99 (by decide)) ?_
  refine x_iald d_RuleReader_failWith_17 ak_14 (q99 (by decide)) ?_
  refine x_puti d_RuleReader_failWith_18 fl_RuleReader_27 rfl ak_3 (q99 (by decide)) (fun h => nomatch h) (fun h => nomatch h) ?_
  refine x_nmS (fun S2 _ => ?_)
  refine x_iconst (v := 0) d_RuleReader_failWith_21 (by decide) ?_
  exact x_ret d_RuleReader_failWith_22 rfl rfl (Nat.le_of_ble_eq_true rfl) (Nat.le_of_ble_eq_true rfl)
theorem c_RuleReader_failWith {G : GX} (p1 : Int32) (S : AS) : CN G y_RuleReader_failWith b_RuleReader_failWith 2 (some (FieldType.boolean)) ({ frames := 0, cells := 0, slots := 0, locals := 0 } : Room) (some none) iI [.ref 3, .int p1] S (f_RuleReader_failWith p1 S) := cn_of_v (M := md_RuleReader_failWith) (ini := false) rfl (by decide +kernel) (fun h => nomatch h) rfl (Nat.le_of_ble_eq_true rfl) (v_RuleReader_failWith p1 S)
noncomputable def f_RuleReader_advance (S : AS) : Option AS := nm (fun (S1 : AS) => chk (vp_in (gi S1 3 2) 401) (nm (si S1 3 3 (gi S1 13 (ix (gi S1 3 2)))) fun S2 => some S2)) fun J26 => if ((gi S 12 4) - 1) ≤ (gi S 3 2) then (J26 S) else (nm (si S 3 2 ((gi S 3 2) + 1)) fun S3 => J26 S3)
set_option maxHeartbeats 4000000 in
theorem v_RuleReader_advance {G : GX} (S : AS) : V G md_RuleReader_advance (QM G md_RuleReader_advance iV) (fun _ => True) (some none) 0 [some (.ref 3)] [] 0 0 S (f_RuleReader_advance S) := by
  unfold f_RuleReader_advance
  refine x_aload_n_ref d_RuleReader_advance_0 rfl ?_
  refine x_geti d_RuleReader_advance_1 fl_RuleReader_40 ak_3 (q99 (by decide)) ?_
  refine x_aload_n_ref d_RuleReader_advance_4 rfl ?_
  refine x_getr d_RuleReader_advance_5 fl_RuleReader_23 ak_3 (q99 (by decide)) (shx sh_3_0) ?_
  refine x_geti d_RuleReader_advance_8 fl_RuleReader_54 ak_12 (q99 (by decide)) ?_
  refine x_iconst (v := 1) d_RuleReader_advance_11 (by decide) ?_
  refine x_isub d_RuleReader_advance_12 ?_
  refine x_nm (fun J26 hJ26 => ?_)
  have kJ26 : ∀ (S1 : AS), V G md_RuleReader_advance (QM G md_RuleReader_advance iV) (fun _ => True) (some none) 26 [some (.ref 3)] [] 0 0 S1 (J26 S1) := by
    subst hJ26
    intro S1
    refine x_aload_n_ref d_RuleReader_advance_26 rfl ?_
    refine x_aload_n_ref d_RuleReader_advance_27 rfl ?_
    refine x_getr d_RuleReader_advance_28 fl_RuleReader_23 ak_3 (q99 (by decide)) (shx sh_3_0) ?_
    refine x_getr d_RuleReader_advance_31 fl_RuleReader_43 ak_12 (q99 (by decide)) (shx sh_12_1) ?_
    refine x_aload_n_ref d_RuleReader_advance_34 rfl ?_
    refine x_geti d_RuleReader_advance_35 fl_RuleReader_40 ak_3 (q99 (by decide)) ?_
    refine x_iald d_RuleReader_advance_38 ak_13 (q99 (by decide)) ?_
    refine x_puti d_RuleReader_advance_39 fl_RuleReader_47 rfl ak_3 (q99 (by decide)) (fun h => nomatch h) (fun h => nomatch h) ?_
    refine x_nmS (fun S2 _ => ?_)
    exact x_vret d_RuleReader_advance_42 rfl (Nat.le_of_ble_eq_true rfl) (Nat.le_of_ble_eq_true rfl)
  clear hJ26
  refine x_icmp_ge (tgt := 26) d_RuleReader_advance_13 (by decide) (fun _ => ?_) (fun _ => ?_)
  · exact V.kw (kJ26 S) ⟨rfl, trivial⟩
  · refine x_aload_n_ref d_RuleReader_advance_16 rfl ?_
    refine x_dup d_RuleReader_advance_17 rfl ?_
    refine x_geti d_RuleReader_advance_18 fl_RuleReader_40 ak_3 (q99 (by decide)) ?_
    refine x_iconst (v := 1) d_RuleReader_advance_21 (by decide) ?_
    refine x_iadd d_RuleReader_advance_22 ?_
    refine x_puti d_RuleReader_advance_23 fl_RuleReader_40 rfl ak_3 (q99 (by decide)) (fun h => nomatch h) (fun h => nomatch h) ?_
    refine x_nmS (fun S3 _ => ?_)
    exact V.kw (kJ26 S3) ⟨rfl, trivial⟩
theorem c_RuleReader_advance {G : GX} (S : AS) : CN G y_RuleReader_advance b_RuleReader_advance 1 none ({ frames := 0, cells := 0, slots := 0, locals := 0 } : Room) (some none) iV [.ref 3] S (f_RuleReader_advance S) := cn_of_v (M := md_RuleReader_advance) (ini := false) rfl (by decide +kernel) (fun h => nomatch h) rfl (Nat.le_of_ble_eq_true rfl) (v_RuleReader_advance S)
noncomputable def f_RuleBook_addRule (q : Nat) (p1 : Int32) (p2 : Int32) (S : AS) : Option AS := bI (f_RuleBook_isFull q S) fun r2 S1 => if r2 = 0 then (chk (vp_in (gi S1 q 4) 16) (nm (si S1 (q + 1) (ix (gi S1 q 4)) p1) fun S3 => chk (vp_in (gi S3 q 4) 16) (nm (si S3 (q + 2) (ix (gi S3 q 4)) p2) fun S4 => chk (vp_in (gi S4 q 4) 16) (nm (si S4 (q + 3) (ix (gi S4 q 4)) (gi S4 q 8)) fun S5 => chk (vp_in (gi S5 q 4) 16) (nm (si S5 (q + 4) (ix (gi S5 q 4)) (gi S5 q 8)) fun S6 => nm (si S6 q 4 ((gi S6 q 4) + 1)) fun S7 => some S7))))) else (some S1)
set_option maxHeartbeats 4000000 in
theorem v_RuleBook_addRule {G : GX} (q : Nat) (hq : isq q) (p1 : Int32) (p2 : Int32) (S : AS) : V G md_RuleBook_addRule (QM G md_RuleBook_addRule iV) (fun _ => True) (some (some q)) 0 [some (.ref q), some (.int p1), some (.int p2)] [] 0 0 S (f_RuleBook_addRule q p1 p2 S) := by
  unfold f_RuleBook_addRule
  refine x_aload_n_ref d_RuleBook_addRule_0 rfl ?_
  refine x_vI (b' := (some (some q))) (As := []) d_RuleBook_addRule_1 mv_RuleBook_46 rfl (fun _ => (ak_q q 0 hq (by decide))) rfl (bq_lt (q := q) (i := 0) (by decide)) ⟨Nat.le_of_ble_eq_true rfl, Nat.le_of_ble_eq_true rfl⟩ (Nat.le_of_ble_eq_true rfl) ⟨Nat.le_of_ble_eq_true rfl, Nat.le_of_ble_eq_true rfl⟩ (fun _ h => h) (fun h => ⟨h, c_RuleBook_isFull q hq _⟩) (fun r2 S1 => ?_)
  refine x_if_eq (tgt := 8) d_RuleBook_addRule_4 (by decide) (fun _ => ?_) (fun _ => ?_)
  · refine x_aload_n_ref d_RuleBook_addRule_8 rfl ?_
    refine x_getr d_RuleBook_addRule_9 fl_RuleBook_9 (ak_q q 0 hq (by decide)) (bq_lt (q := q) (i := 0) (by decide)) bq_0 ?_
    refine x_aload_n_ref d_RuleBook_addRule_12 rfl ?_
    refine x_geti d_RuleBook_addRule_13 fl_RuleBook_33 (ak_q q 0 hq (by decide)) (bq_lt (q := q) (i := 0) (by decide)) ?_
    refine x_iload_n d_RuleBook_addRule_16 rfl ?_
    refine x_iast d_RuleBook_addRule_17 (ak_q q 1 hq (by decide)) (bq_lt (q := q) (i := 1) (by decide)) ?_
    refine x_nmS (fun S3 _ => ?_)
    refine x_aload_n_ref d_RuleBook_addRule_18 rfl ?_
    refine x_getr d_RuleBook_addRule_19 fl_RuleBook_15 (ak_q q 0 hq (by decide)) (bq_lt (q := q) (i := 0) (by decide)) bq_1 ?_
    refine x_aload_n_ref d_RuleBook_addRule_22 rfl ?_
    refine x_geti d_RuleBook_addRule_23 fl_RuleBook_33 (ak_q q 0 hq (by decide)) (bq_lt (q := q) (i := 0) (by decide)) ?_
    refine x_iload_n d_RuleBook_addRule_26 rfl ?_
    refine x_iast d_RuleBook_addRule_27 (ak_q q 2 hq (by decide)) (bq_lt (q := q) (i := 2) (by decide)) ?_
    refine x_nmS (fun S4 _ => ?_)
    refine x_aload_n_ref d_RuleBook_addRule_28 rfl ?_
    refine x_getr d_RuleBook_addRule_29 fl_RuleBook_18 (ak_q q 0 hq (by decide)) (bq_lt (q := q) (i := 0) (by decide)) bq_2 ?_
    refine x_aload_n_ref d_RuleBook_addRule_32 rfl ?_
    refine x_geti d_RuleBook_addRule_33 fl_RuleBook_33 (ak_q q 0 hq (by decide)) (bq_lt (q := q) (i := 0) (by decide)) ?_
    refine x_aload_n_ref d_RuleBook_addRule_36 rfl ?_
    refine x_geti d_RuleBook_addRule_37 fl_RuleBook_37 (ak_q q 0 hq (by decide)) (bq_lt (q := q) (i := 0) (by decide)) ?_
    refine x_iast d_RuleBook_addRule_40 (ak_q q 3 hq (by decide)) (bq_lt (q := q) (i := 3) (by decide)) ?_
    refine x_nmS (fun S5 _ => ?_)
    refine x_aload_n_ref d_RuleBook_addRule_41 rfl ?_
    refine x_getr d_RuleBook_addRule_42 fl_RuleBook_21 (ak_q q 0 hq (by decide)) (bq_lt (q := q) (i := 0) (by decide)) bq_3 ?_
    refine x_aload_n_ref d_RuleBook_addRule_45 rfl ?_
    refine x_geti d_RuleBook_addRule_46 fl_RuleBook_33 (ak_q q 0 hq (by decide)) (bq_lt (q := q) (i := 0) (by decide)) ?_
    refine x_aload_n_ref d_RuleBook_addRule_49 rfl ?_
    refine x_geti d_RuleBook_addRule_50 fl_RuleBook_37 (ak_q q 0 hq (by decide)) (bq_lt (q := q) (i := 0) (by decide)) ?_
    refine x_iast d_RuleBook_addRule_53 (ak_q q 4 hq (by decide)) (bq_lt (q := q) (i := 4) (by decide)) ?_
    refine x_nmS (fun S6 _ => ?_)
    refine x_aload_n_ref d_RuleBook_addRule_54 rfl ?_
    refine x_dup d_RuleBook_addRule_55 rfl ?_
    refine x_geti d_RuleBook_addRule_56 fl_RuleBook_33 (ak_q q 0 hq (by decide)) (bq_lt (q := q) (i := 0) (by decide)) ?_
    refine x_iconst (v := 1) d_RuleBook_addRule_59 (by decide) ?_
    refine x_iadd d_RuleBook_addRule_60 ?_
    refine x_puti d_RuleBook_addRule_61 fl_RuleBook_33 rfl (ak_q q 0 hq (by decide)) (bq_lt (q := q) (i := 0) (by decide)) (fun h => nomatch h) (fun h => nomatch h) ?_
    refine x_nmS (fun S7 _ => ?_)
    exact x_vret d_RuleBook_addRule_64 rfl (Nat.le_of_ble_eq_true rfl) (Nat.le_of_ble_eq_true rfl)
  · exact x_vret d_RuleBook_addRule_7 rfl (Nat.le_of_ble_eq_true rfl) (Nat.le_of_ble_eq_true rfl)
theorem c_RuleBook_addRule {G : GX} (q : Nat) (hq : isq q) (p1 : Int32) (p2 : Int32) (S : AS) : CN G y_RuleBook_addRule b_RuleBook_addRule 3 none ({ frames := 1, cells := 0, slots := 0, locals := 20 } : Room) (some (some q)) iV [.ref q, .int p1, .int p2] S (f_RuleBook_addRule q p1 p2 S) := cn_of_v (M := md_RuleBook_addRule) (ini := false) rfl (by decide +kernel) (fun h => nomatch h) rfl (Nat.le_of_ble_eq_true rfl) (v_RuleBook_addRule q hq p1 p2 S)
noncomputable def f_RuleReader_readKey (S : AS) : Option (Int32 × AS) := nm (gi S 3 3) fun v1 => nm (fun (S2 : AS) => bI (f_RuleReader_failWith 1 S2) fun r4 S3 => chk (isb r4) (some (r4, S3))) fun J17 => if v1 < 7 then (J17 S) else (if v1 ≤ 10 then (bV (f_RuleReader_advance S) fun S5 => if v1 = 8 then (bV (f_RuleBook_addRule 4 8 0 S5) fun S15 => some (1, S15)) else (nm (fun (S6 : AS) => nm (fun (a7 : Int32) (a8 : Int32) (S9 : AS) => bV (f_RuleBook_addRule 4 a7 a8 S9) fun S10 => bV (f_RuleReader_advance S10) fun S11 => some (1, S11)) fun J108 => if v1 = 7 then (chk (vp_in (gi S6 3 2) 401) (J108 v1 (gi S6 15 (ix (gi S6 3 2))) S6)) else (J108 v1 (gi S6 3 3) S6)) fun J78 => nm (fun (S12 : AS) => bI (f_RuleReader_failWith 1 S12) fun r14 S13 => chk (isb r14) (some (r14, S13))) fun J72 => if v1 = 7 then (if (gi S5 3 3) = 14 then (J78 S5) else (J72 S5)) else (if (gi S5 3 3) ≤ 6 then (J78 S5) else (J72 S5)))) else (J17 S))
set_option maxHeartbeats 4000000 in
theorem v_RuleReader_readKey {G : GX} (S : AS) : V G md_RuleReader_readKey (QM G md_RuleReader_readKey iI) (fun _ => True) (some none) 0 [some (.ref 3), none] [] 0 0 S (f_RuleReader_readKey S) := by
  unfold f_RuleReader_readKey
  refine x_aload_n_ref d_RuleReader_readKey_0 rfl ?_
  refine x_geti d_RuleReader_readKey_1 fl_RuleReader_47 ak_3 (q99 (by decide)) ?_
  refine x_topi (fun v1 => ?_)
  refine x_istore_n (lc' := [some (.ref 3), some (.int v1)]) d_RuleReader_readKey_4 (by decide) rfl ?_
  refine x_iload_n d_RuleReader_readKey_5 rfl ?_
  refine x_bipush (v := 7) d_RuleReader_readKey_6 (by decide) ?_
  refine x_nm (fun J17 hJ17 => ?_)
  have kJ17 : ∀ (S2 : AS), V G md_RuleReader_readKey (QM G md_RuleReader_readKey iI) (fun _ => True) (some none) 17 [some (.ref 3), none] [] 0 0 S2 (J17 S2) := by
    subst hJ17
    intro S2
    refine x_aload_n_ref d_RuleReader_readKey_17 rfl ?_
    refine x_iconst (v := 1) d_RuleReader_readKey_18 (by decide) ?_
    refine x_vI (b' := (some none)) (As := [.int 1]) d_RuleReader_readKey_19 mv_RuleReader_63 rfl (fun _ => ak_3) rfl (q99 (by decide)) ⟨Nat.le_of_ble_eq_true rfl, Nat.le_of_ble_eq_true rfl⟩ (Nat.le_of_ble_eq_true rfl) ⟨Nat.le_of_ble_eq_true rfl, Nat.le_of_ble_eq_true rfl⟩ (fun _ h => h) (fun h => ⟨h, c_RuleReader_failWith 1 _⟩) (fun r4 S3 => ?_)
    exact x_zretc d_RuleReader_readKey_22 rfl (Nat.le_of_ble_eq_true rfl) (Nat.le_of_ble_eq_true rfl)
  clear hJ17
  refine x_icmp_lt (tgt := 17) d_RuleReader_readKey_8 (by decide) (fun _ => ?_) (fun _ => ?_)
  · exact V.kw (kJ17 S) ⟨rfl, trivial⟩
  · refine x_iload_n d_RuleReader_readKey_11 rfl ?_
    refine x_bipush (v := 10) d_RuleReader_readKey_12 (by decide) ?_
    refine x_icmp_le (tgt := 23) d_RuleReader_readKey_14 (by decide) (fun _ => ?_) (fun _ => ?_)
    · refine x_aload_n_ref d_RuleReader_readKey_23 rfl ?_
      refine x_vV (b' := (some none)) (As := []) d_RuleReader_readKey_24 mv_RuleReader_71 rfl (fun _ => ak_3) rfl (q99 (by decide)) ⟨Nat.le_of_ble_eq_true rfl, Nat.le_of_ble_eq_true rfl⟩ (Nat.le_of_ble_eq_true rfl) ⟨Nat.le_of_ble_eq_true rfl, Nat.le_of_ble_eq_true rfl⟩ (fun _ h => h) (fun h => ⟨h, c_RuleReader_advance _⟩) (fun S5 => ?_)
      refine x_iload_n d_RuleReader_readKey_27 rfl ?_
      refine x_bipush (v := 8) d_RuleReader_readKey_28 (by decide) ?_
      refine x_icmp_ne (tgt := 45) d_RuleReader_readKey_30 (by decide) (fun _ => ?_) (fun _ => ?_)
      · refine x_iload_n d_RuleReader_readKey_45 rfl ?_
        refine x_bipush (v := 7) d_RuleReader_readKey_46 (by decide) ?_
        refine x_nm (fun J78 hJ78 => ?_)
        have kJ78 : ∀ (S6 : AS), V G md_RuleReader_readKey (QM G md_RuleReader_readKey iI) (fun _ => True) (some none) 78 [some (.ref 3), some (.int v1)] [] 0 0 S6 (J78 S6) := by
          subst hJ78
          intro S6
          refine x_aload_n_ref d_RuleReader_readKey_78 rfl ?_
          refine x_getr d_RuleReader_readKey_79 fl_RuleReader_12 ak_3 (q99 (by decide)) (shx sh_3_1) ?_
          refine x_iload_n d_RuleReader_readKey_82 rfl ?_
          refine x_iload_n d_RuleReader_readKey_83 rfl ?_
          refine x_bipush (v := 7) d_RuleReader_readKey_84 (by decide) ?_
          refine x_nm (fun J108 hJ108 => ?_)
          have kJ108 : ∀ (a7 : Int32) (a8 : Int32) (S9 : AS), V G md_RuleReader_readKey (QM G md_RuleReader_readKey iI) (fun _ => True) (some none) 108 [some (.ref 3), none] [.int a8, .int a7, .ref 4] 0 0 S9 (J108 a7 a8 S9) := by
            subst hJ108
            intro a7 a8 S9
            refine x_vV (b' := (some (some 4))) (As := [.int a7, .int a8]) d_RuleReader_readKey_108 mv_RuleReader_67 rfl (fun _ => ak_4) rfl (q99 (by decide)) ⟨Nat.le_of_ble_eq_true rfl, Nat.le_of_ble_eq_true rfl⟩ (Nat.le_of_ble_eq_true rfl) ⟨Nat.le_of_ble_eq_true rfl, Nat.le_of_ble_eq_true rfl⟩ (fun _ h => h.1) (fun h => ⟨sp_bk (Or.inl rfl) h, c_RuleBook_addRule 4 (Or.inl rfl) a7 a8 _⟩) (fun S10 => ?_)
            refine x_aload_n_ref d_RuleReader_readKey_111 rfl ?_
            refine x_vV (b' := (some none)) (As := []) d_RuleReader_readKey_112 mv_RuleReader_71 rfl (fun _ => ak_3) rfl (q99 (by decide)) ⟨Nat.le_of_ble_eq_true rfl, Nat.le_of_ble_eq_true rfl⟩ (Nat.le_of_ble_eq_true rfl) ⟨Nat.le_of_ble_eq_true rfl, Nat.le_of_ble_eq_true rfl⟩ (fun _ h => h) (fun h => ⟨h, c_RuleReader_advance _⟩) (fun S11 => ?_)
            refine x_iconst (v := 1) d_RuleReader_readKey_115 (by decide) ?_
            exact x_ret d_RuleReader_readKey_116 rfl rfl (Nat.le_of_ble_eq_true rfl) (Nat.le_of_ble_eq_true rfl)
          clear hJ108
          refine x_icmp_ne (tgt := 104) d_RuleReader_readKey_86 (by decide) (fun _ => ?_) (fun _ => ?_)
          · refine x_aload_n_ref d_RuleReader_readKey_104 rfl ?_
            refine x_geti d_RuleReader_readKey_105 fl_RuleReader_47 ak_3 (q99 (by decide)) ?_
            exact V.kw (kJ108 v1 (gi S6 3 3) S6) ⟨rfl, trivial⟩
          · refine x_aload_n_ref d_RuleReader_readKey_89 rfl ?_
            refine x_getr d_RuleReader_readKey_90 fl_RuleReader_23 ak_3 (q99 (by decide)) (shx sh_3_0) ?_
            refine x_getr d_RuleReader_readKey_93 fl_RuleReader_86 ak_12 (q99 (by decide)) (shx sh_12_3) ?_
            refine x_aload_n_ref d_RuleReader_readKey_96 rfl ?_
            refine x_geti d_RuleReader_readKey_97 fl_RuleReader_40 ak_3 (q99 (by decide)) ?_
            refine x_iald d_RuleReader_readKey_100 ak_15 (q99 (by decide)) ?_
            refine x_goto (tgt := 108) d_RuleReader_readKey_101 (by decide) ?_
            exact V.kw (kJ108 v1 (gi S6 15 (ix (gi S6 3 2))) S6) ⟨rfl, trivial⟩
        clear hJ78
        refine x_nm (fun J72 hJ72 => ?_)
        have kJ72 : ∀ (S12 : AS), V G md_RuleReader_readKey (QM G md_RuleReader_readKey iI) (fun _ => True) (some none) 72 [some (.ref 3), none] [] 0 0 S12 (J72 S12) := by
          subst hJ72
          intro S12
          refine x_aload_n_ref d_RuleReader_readKey_72 rfl ?_
          refine x_iconst (v := 1) d_RuleReader_readKey_73 (by decide) ?_
          refine x_vI (b' := (some none)) (As := [.int 1]) d_RuleReader_readKey_74 mv_RuleReader_63 rfl (fun _ => ak_3) rfl (q99 (by decide)) ⟨Nat.le_of_ble_eq_true rfl, Nat.le_of_ble_eq_true rfl⟩ (Nat.le_of_ble_eq_true rfl) ⟨Nat.le_of_ble_eq_true rfl, Nat.le_of_ble_eq_true rfl⟩ (fun _ h => h) (fun h => ⟨h, c_RuleReader_failWith 1 _⟩) (fun r14 S13 => ?_)
          exact x_zretc d_RuleReader_readKey_77 rfl (Nat.le_of_ble_eq_true rfl) (Nat.le_of_ble_eq_true rfl)
        clear hJ72
        refine x_icmp_ne (tgt := 63) d_RuleReader_readKey_48 (by decide) (fun _ => ?_) (fun _ => ?_)
        · refine x_aload_n_ref d_RuleReader_readKey_63 rfl ?_
          refine x_geti d_RuleReader_readKey_64 fl_RuleReader_47 ak_3 (q99 (by decide)) ?_
          refine x_bipush (v := 6) d_RuleReader_readKey_67 (by decide) ?_
          refine x_icmp_le (tgt := 78) d_RuleReader_readKey_69 (by decide) (fun _ => ?_) (fun _ => ?_)
          · exact V.kw (kJ78 S5) ⟨rfl, rfl, trivial⟩
          · exact V.kw (kJ72 S5) ⟨rfl, trivial⟩
        · refine x_aload_n_ref d_RuleReader_readKey_51 rfl ?_
          refine x_geti d_RuleReader_readKey_52 fl_RuleReader_47 ak_3 (q99 (by decide)) ?_
          refine x_bipush (v := 14) d_RuleReader_readKey_55 (by decide) ?_
          refine x_icmp_eq (tgt := 78) d_RuleReader_readKey_57 (by decide) (fun _ => ?_) (fun _ => ?_)
          · exact V.kw (kJ78 S5) ⟨rfl, rfl, trivial⟩
          · refine x_goto (tgt := 72) d_RuleReader_readKey_60 (by decide) ?_
            exact V.kw (kJ72 S5) ⟨rfl, trivial⟩
      · refine x_aload_n_ref d_RuleReader_readKey_33 rfl ?_
        refine x_getr d_RuleReader_readKey_34 fl_RuleReader_12 ak_3 (q99 (by decide)) (shx sh_3_1) ?_
        refine x_bipush (v := 8) d_RuleReader_readKey_37 (by decide) ?_
        refine x_iconst (v := 0) d_RuleReader_readKey_39 (by decide) ?_
        refine x_vV (b' := (some (some 4))) (As := [.int 8, .int 0]) d_RuleReader_readKey_40 mv_RuleReader_67 rfl (fun _ => ak_4) rfl (q99 (by decide)) ⟨Nat.le_of_ble_eq_true rfl, Nat.le_of_ble_eq_true rfl⟩ (Nat.le_of_ble_eq_true rfl) ⟨Nat.le_of_ble_eq_true rfl, Nat.le_of_ble_eq_true rfl⟩ (fun _ h => h.1) (fun h => ⟨sp_bk (Or.inl rfl) h, c_RuleBook_addRule 4 (Or.inl rfl) 8 0 _⟩) (fun S15 => ?_)
        refine x_iconst (v := 1) d_RuleReader_readKey_43 (by decide) ?_
        exact x_ret d_RuleReader_readKey_44 rfl rfl (Nat.le_of_ble_eq_true rfl) (Nat.le_of_ble_eq_true rfl)
    · exact V.kw (kJ17 S) ⟨rfl, trivial⟩
theorem c_RuleReader_readKey {G : GX} (S : AS) : CN G y_RuleReader_readKey b_RuleReader_readKey 2 (some (FieldType.boolean)) ({ frames := 2, cells := 0, slots := 0, locals := 42 } : Room) (some none) iI [.ref 3] S (f_RuleReader_readKey S) := cn_of_v (M := md_RuleReader_readKey) (ini := false) rfl (by decide +kernel) (fun h => nomatch h) rfl (Nat.le_of_ble_eq_true rfl) (v_RuleReader_readKey S)
noncomputable def f_RuleReader_pass (p1 : Int32) (S : AS) : Option (Int32 × AS) := if (gi S 3 3) = p1 then (bV (f_RuleReader_advance S) fun S1 => some (1, S1)) else (bI (f_RuleReader_failWith 1 S) fun r3 S2 => chk (isb r3) (some (r3, S2)))
set_option maxHeartbeats 4000000 in
theorem v_RuleReader_pass {G : GX} (p1 : Int32) (S : AS) : V G md_RuleReader_pass (QM G md_RuleReader_pass iI) (fun _ => True) (some none) 0 [some (.ref 3), some (.int p1)] [] 0 0 S (f_RuleReader_pass p1 S) := by
  unfold f_RuleReader_pass
  refine x_aload_n_ref d_RuleReader_pass_0 rfl ?_
  refine x_geti d_RuleReader_pass_1 fl_RuleReader_47 ak_3 (q99 (by decide)) ?_
  refine x_iload_n d_RuleReader_pass_4 rfl ?_
  refine x_icmp_eq (tgt := 14) d_RuleReader_pass_5 (by decide) (fun _ => ?_) (fun _ => ?_)
  · refine x_aload_n_ref d_RuleReader_pass_14 rfl ?_
    refine x_vV (b' := (some none)) (As := []) d_RuleReader_pass_15 mv_RuleReader_71 rfl (fun _ => ak_3) rfl (q99 (by decide)) ⟨Nat.le_of_ble_eq_true rfl, Nat.le_of_ble_eq_true rfl⟩ (Nat.le_of_ble_eq_true rfl) ⟨Nat.le_of_ble_eq_true rfl, Nat.le_of_ble_eq_true rfl⟩ (fun _ h => h) (fun h => ⟨h, c_RuleReader_advance _⟩) (fun S1 => ?_)
    refine x_iconst (v := 1) d_RuleReader_pass_18 (by decide) ?_
    exact x_ret d_RuleReader_pass_19 rfl rfl (Nat.le_of_ble_eq_true rfl) (Nat.le_of_ble_eq_true rfl)
  · refine x_aload_n_ref d_RuleReader_pass_8 rfl ?_
    refine x_iconst (v := 1) d_RuleReader_pass_9 (by decide) ?_
    refine x_vI (b' := (some none)) (As := [.int 1]) d_RuleReader_pass_10 mv_RuleReader_63 rfl (fun _ => ak_3) rfl (q99 (by decide)) ⟨Nat.le_of_ble_eq_true rfl, Nat.le_of_ble_eq_true rfl⟩ (Nat.le_of_ble_eq_true rfl) ⟨Nat.le_of_ble_eq_true rfl, Nat.le_of_ble_eq_true rfl⟩ (fun _ h => h) (fun h => ⟨h, c_RuleReader_failWith 1 _⟩) (fun r3 S2 => ?_)
    exact x_zretc d_RuleReader_pass_13 rfl (Nat.le_of_ble_eq_true rfl) (Nat.le_of_ble_eq_true rfl)
theorem c_RuleReader_pass {G : GX} (p1 : Int32) (S : AS) : CN G y_RuleReader_pass b_RuleReader_pass 2 (some (FieldType.boolean)) ({ frames := 1, cells := 0, slots := 0, locals := 21 } : Room) (some none) iI [.ref 3, .int p1] S (f_RuleReader_pass p1 S) := cn_of_v (M := md_RuleReader_pass) (ini := false) rfl (by decide +kernel) (fun h => nomatch h) rfl (Nat.le_of_ble_eq_true rfl) (v_RuleReader_pass p1 S)
noncomputable def f_RuleBook_addTest (q : Nat) (p1 : Int32) (p2 : Int32) (p3 : Int32) (S : AS) : Option AS := if 64 ≤ (gi S q 8) then (some S) else (if (gi S q 4) = 0 then (some S) else (chk (vp_in (gi S q 8) 64) (nm (si S (q + 5) (ix (gi S q 8)) p1) fun S1 => chk (vp_in (gi S1 q 8) 64) (nm (si S1 (q + 6) (ix (gi S1 q 8)) p2) fun S2 => chk (vp_in (gi S2 q 8) 64) (nm (si S2 (q + 7) (ix (gi S2 q 8)) p3) fun S3 => nm (si S3 q 8 ((gi S3 q 8) + 1)) fun S4 => chk (vp_in ((gi S4 q 4) - 1) 16) (nm (si S4 (q + 4) (ix ((gi S4 q 4) - 1)) (gi S4 q 8)) fun S5 => some S5))))))
set_option maxHeartbeats 4000000 in
theorem v_RuleBook_addTest {G : GX} (q : Nat) (hq : isq q) (p1 : Int32) (p2 : Int32) (p3 : Int32) (S : AS) : V G md_RuleBook_addTest (QM G md_RuleBook_addTest iV) (fun _ => True) (some (some q)) 0 [some (.ref q), some (.int p1), some (.int p2), some (.int p3)] [] 0 0 S (f_RuleBook_addTest q p1 p2 p3 S) := by
  unfold f_RuleBook_addTest
  refine x_aload_n_ref d_RuleBook_addTest_0 rfl ?_
  refine x_geti d_RuleBook_addTest_1 fl_RuleBook_37 (ak_q q 0 hq (by decide)) (bq_lt (q := q) (i := 0) (by decide)) ?_
  refine x_bipush (v := 64) d_RuleBook_addTest_4 (by decide) ?_
  refine x_icmp_ge (tgt := 16) d_RuleBook_addTest_6 (by decide) (fun _ => ?_) (fun _ => ?_)
  · exact x_vret d_RuleBook_addTest_16 rfl (Nat.le_of_ble_eq_true rfl) (Nat.le_of_ble_eq_true rfl)
  · refine x_aload_n_ref d_RuleBook_addTest_9 rfl ?_
    refine x_geti d_RuleBook_addTest_10 fl_RuleBook_33 (ak_q q 0 hq (by decide)) (bq_lt (q := q) (i := 0) (by decide)) ?_
    refine x_if_ne (tgt := 17) d_RuleBook_addTest_13 (by decide) (fun _ => ?_) (fun _ => ?_)
    · refine x_aload_n_ref d_RuleBook_addTest_17 rfl ?_
      refine x_getr d_RuleBook_addTest_18 fl_RuleBook_24 (ak_q q 0 hq (by decide)) (bq_lt (q := q) (i := 0) (by decide)) bq_5 ?_
      refine x_aload_n_ref d_RuleBook_addTest_21 rfl ?_
      refine x_geti d_RuleBook_addTest_22 fl_RuleBook_37 (ak_q q 0 hq (by decide)) (bq_lt (q := q) (i := 0) (by decide)) ?_
      refine x_iload_n d_RuleBook_addTest_25 rfl ?_
      refine x_iast d_RuleBook_addTest_26 (ak_q q 5 hq (by decide)) (bq_lt (q := q) (i := 5) (by decide)) ?_
      refine x_nmS (fun S1 _ => ?_)
      refine x_aload_n_ref d_RuleBook_addTest_27 rfl ?_
      refine x_getr d_RuleBook_addTest_28 fl_RuleBook_27 (ak_q q 0 hq (by decide)) (bq_lt (q := q) (i := 0) (by decide)) bq_6 ?_
      refine x_aload_n_ref d_RuleBook_addTest_31 rfl ?_
      refine x_geti d_RuleBook_addTest_32 fl_RuleBook_37 (ak_q q 0 hq (by decide)) (bq_lt (q := q) (i := 0) (by decide)) ?_
      refine x_iload_n d_RuleBook_addTest_35 rfl ?_
      refine x_iast d_RuleBook_addTest_36 (ak_q q 6 hq (by decide)) (bq_lt (q := q) (i := 6) (by decide)) ?_
      refine x_nmS (fun S2 _ => ?_)
      refine x_aload_n_ref d_RuleBook_addTest_37 rfl ?_
      refine x_getr d_RuleBook_addTest_38 fl_RuleBook_30 (ak_q q 0 hq (by decide)) (bq_lt (q := q) (i := 0) (by decide)) bq_7 ?_
      refine x_aload_n_ref d_RuleBook_addTest_41 rfl ?_
      refine x_geti d_RuleBook_addTest_42 fl_RuleBook_37 (ak_q q 0 hq (by decide)) (bq_lt (q := q) (i := 0) (by decide)) ?_
      refine x_iload_n d_RuleBook_addTest_45 rfl ?_
      refine x_iast d_RuleBook_addTest_46 (ak_q q 7 hq (by decide)) (bq_lt (q := q) (i := 7) (by decide)) ?_
      refine x_nmS (fun S3 _ => ?_)
      refine x_aload_n_ref d_RuleBook_addTest_47 rfl ?_
      refine x_dup d_RuleBook_addTest_48 rfl ?_
      refine x_geti d_RuleBook_addTest_49 fl_RuleBook_37 (ak_q q 0 hq (by decide)) (bq_lt (q := q) (i := 0) (by decide)) ?_
      refine x_iconst (v := 1) d_RuleBook_addTest_52 (by decide) ?_
      refine x_iadd d_RuleBook_addTest_53 ?_
      refine x_puti d_RuleBook_addTest_54 fl_RuleBook_37 rfl (ak_q q 0 hq (by decide)) (bq_lt (q := q) (i := 0) (by decide)) (fun h => nomatch h) (fun h => nomatch h) ?_
      refine x_nmS (fun S4 _ => ?_)
      refine x_aload_n_ref d_RuleBook_addTest_57 rfl ?_
      refine x_getr d_RuleBook_addTest_58 fl_RuleBook_21 (ak_q q 0 hq (by decide)) (bq_lt (q := q) (i := 0) (by decide)) bq_3 ?_
      refine x_aload_n_ref d_RuleBook_addTest_61 rfl ?_
      refine x_geti d_RuleBook_addTest_62 fl_RuleBook_33 (ak_q q 0 hq (by decide)) (bq_lt (q := q) (i := 0) (by decide)) ?_
      refine x_iconst (v := 1) d_RuleBook_addTest_65 (by decide) ?_
      refine x_isub d_RuleBook_addTest_66 ?_
      refine x_aload_n_ref d_RuleBook_addTest_67 rfl ?_
      refine x_geti d_RuleBook_addTest_68 fl_RuleBook_37 (ak_q q 0 hq (by decide)) (bq_lt (q := q) (i := 0) (by decide)) ?_
      refine x_iast d_RuleBook_addTest_71 (ak_q q 4 hq (by decide)) (bq_lt (q := q) (i := 4) (by decide)) ?_
      refine x_nmS (fun S5 _ => ?_)
      exact x_vret d_RuleBook_addTest_72 rfl (Nat.le_of_ble_eq_true rfl) (Nat.le_of_ble_eq_true rfl)
    · exact x_vret d_RuleBook_addTest_16 rfl (Nat.le_of_ble_eq_true rfl) (Nat.le_of_ble_eq_true rfl)
theorem c_RuleBook_addTest {G : GX} (q : Nat) (hq : isq q) (p1 : Int32) (p2 : Int32) (p3 : Int32) (S : AS) : CN G y_RuleBook_addTest b_RuleBook_addTest 4 none ({ frames := 0, cells := 0, slots := 0, locals := 0 } : Room) (some (some q)) iV [.ref q, .int p1, .int p2, .int p3] S (f_RuleBook_addTest q p1 p2 p3 S) := cn_of_v (M := md_RuleBook_addTest) (ini := false) rfl (by decide +kernel) (fun h => nomatch h) rfl (Nat.le_of_ble_eq_true rfl) (v_RuleBook_addTest q hq p1 p2 p3 S)
noncomputable def f_RuleReader_readTest (p1 : Int32) (S : AS) : Option (Int32 × AS) := nm (gi S 3 3) fun v1 => if v1 ≤ p1 then (bV (f_RuleReader_advance S) fun S2 => chk (vp_in (gi S2 3 2) 401) (nm (gi S2 15 (ix (gi S2 3 2))) fun v3 => bI (f_RuleReader_pass 16 S2) fun r5 S4 => if r5 = 0 then (some (0, S4)) else (chk (vp_in (gi S4 3 2) 401) (nm (gi S4 15 (ix (gi S4 3 2))) fun v6 => bI (f_RuleReader_pass 15 S4) fun r8 S7 => if r8 = 0 then (some (0, S7)) else (bV (f_RuleBook_addTest 4 v1 v3 v6 S7) fun S9 => some (1, S9)))))) else (nm (fun (a10 : Int32) (S11 : AS) => bI (f_RuleReader_failWith a10 S11) fun r13 S12 => chk (isb r13) (some (r13, S12))) fun J22 => if v1 ≤ 6 then (J22 2 S) else (J22 1 S))
set_option maxHeartbeats 4000000 in
theorem v_RuleReader_readTest {G : GX} (p1 : Int32) (S : AS) : V G md_RuleReader_readTest (QM G md_RuleReader_readTest iI) (fun _ => True) (some none) 0 [some (.ref 3), some (.int p1), none, none, none] [] 0 0 S (f_RuleReader_readTest p1 S) := by
  unfold f_RuleReader_readTest
  refine x_aload_n_ref d_RuleReader_readTest_0 rfl ?_
  refine x_geti d_RuleReader_readTest_1 fl_RuleReader_47 ak_3 (q99 (by decide)) ?_
  refine x_topi (fun v1 => ?_)
  refine x_istore_n (lc' := [some (.ref 3), some (.int p1), some (.int v1), none, none]) d_RuleReader_readTest_4 (by decide) rfl ?_
  refine x_iload_n d_RuleReader_readTest_5 rfl ?_
  refine x_iload_n d_RuleReader_readTest_6 rfl ?_
  refine x_icmp_le (tgt := 26) d_RuleReader_readTest_7 (by decide) (fun _ => ?_) (fun _ => ?_)
  · refine x_aload_n_ref d_RuleReader_readTest_26 rfl ?_
    refine x_vV (b' := (some none)) (As := []) d_RuleReader_readTest_27 mv_RuleReader_71 rfl (fun _ => ak_3) rfl (q99 (by decide)) ⟨Nat.le_of_ble_eq_true rfl, Nat.le_of_ble_eq_true rfl⟩ (Nat.le_of_ble_eq_true rfl) ⟨Nat.le_of_ble_eq_true rfl, Nat.le_of_ble_eq_true rfl⟩ (fun _ h => h) (fun h => ⟨h, c_RuleReader_advance _⟩) (fun S2 => ?_)
    refine x_aload_n_ref d_RuleReader_readTest_30 rfl ?_
    refine x_getr d_RuleReader_readTest_31 fl_RuleReader_23 ak_3 (q99 (by decide)) (shx sh_3_0) ?_
    refine x_getr d_RuleReader_readTest_34 fl_RuleReader_86 ak_12 (q99 (by decide)) (shx sh_12_3) ?_
    refine x_aload_n_ref d_RuleReader_readTest_37 rfl ?_
    refine x_geti d_RuleReader_readTest_38 fl_RuleReader_40 ak_3 (q99 (by decide)) ?_
    refine x_iald d_RuleReader_readTest_41 ak_15 (q99 (by decide)) ?_
    refine x_topi (fun v3 => ?_)
    refine x_istore_n (lc' := [some (.ref 3), some (.int p1), some (.int v1), some (.int v3), none]) d_RuleReader_readTest_42 (by decide) rfl ?_
    refine x_aload_n_ref d_RuleReader_readTest_43 rfl ?_
    refine x_bipush (v := 16) d_RuleReader_readTest_44 (by decide) ?_
    refine x_vI (b' := (some none)) (As := [.int 16]) d_RuleReader_readTest_46 mv_RuleReader_77 rfl (fun _ => ak_3) rfl (q99 (by decide)) ⟨Nat.le_of_ble_eq_true rfl, Nat.le_of_ble_eq_true rfl⟩ (Nat.le_of_ble_eq_true rfl) ⟨Nat.le_of_ble_eq_true rfl, Nat.le_of_ble_eq_true rfl⟩ (fun _ h => h) (fun h => ⟨h, c_RuleReader_pass 16 _⟩) (fun r5 S4 => ?_)
    refine x_if_ne (tgt := 54) d_RuleReader_readTest_49 (by decide) (fun _ => ?_) (fun _ => ?_)
    · refine x_aload_n_ref d_RuleReader_readTest_54 rfl ?_
      refine x_getr d_RuleReader_readTest_55 fl_RuleReader_23 ak_3 (q99 (by decide)) (shx sh_3_0) ?_
      refine x_getr d_RuleReader_readTest_58 fl_RuleReader_86 ak_12 (q99 (by decide)) (shx sh_12_3) ?_
      refine x_aload_n_ref d_RuleReader_readTest_61 rfl ?_
      refine x_geti d_RuleReader_readTest_62 fl_RuleReader_40 ak_3 (q99 (by decide)) ?_
      refine x_iald d_RuleReader_readTest_65 ak_15 (q99 (by decide)) ?_
      refine x_topi (fun v6 => ?_)
      refine x_istore (lc' := [some (.ref 3), some (.int p1), some (.int v1), some (.int v3), some (.int v6)]) d_RuleReader_readTest_66 (by decide) rfl ?_
      refine x_aload_n_ref d_RuleReader_readTest_68 rfl ?_
      refine x_bipush (v := 15) d_RuleReader_readTest_69 (by decide) ?_
      refine x_vI (b' := (some none)) (As := [.int 15]) d_RuleReader_readTest_71 mv_RuleReader_77 rfl (fun _ => ak_3) rfl (q99 (by decide)) ⟨Nat.le_of_ble_eq_true rfl, Nat.le_of_ble_eq_true rfl⟩ (Nat.le_of_ble_eq_true rfl) ⟨Nat.le_of_ble_eq_true rfl, Nat.le_of_ble_eq_true rfl⟩ (fun _ h => h) (fun h => ⟨h, c_RuleReader_pass 15 _⟩) (fun r8 S7 => ?_)
      refine x_if_ne (tgt := 79) d_RuleReader_readTest_74 (by decide) (fun _ => ?_) (fun _ => ?_)
      · refine x_aload_n_ref d_RuleReader_readTest_79 rfl ?_
        refine x_getr d_RuleReader_readTest_80 fl_RuleReader_12 ak_3 (q99 (by decide)) (shx sh_3_1) ?_
        refine x_iload_n d_RuleReader_readTest_83 rfl ?_
        refine x_iload_n d_RuleReader_readTest_84 rfl ?_
        refine x_iload d_RuleReader_readTest_85 rfl ?_
        refine x_vV (b' := (some (some 4))) (As := [.int v1, .int v3, .int v6]) d_RuleReader_readTest_87 mv_RuleReader_92 rfl (fun _ => ak_4) rfl (q99 (by decide)) ⟨Nat.le_of_ble_eq_true rfl, Nat.le_of_ble_eq_true rfl⟩ (Nat.le_of_ble_eq_true rfl) ⟨Nat.le_of_ble_eq_true rfl, Nat.le_of_ble_eq_true rfl⟩ (fun _ h => h.1) (fun h => ⟨sp_bk (Or.inl rfl) h, c_RuleBook_addTest 4 (Or.inl rfl) v1 v3 v6 _⟩) (fun S9 => ?_)
        refine x_iconst (v := 1) d_RuleReader_readTest_90 (by decide) ?_
        exact x_ret d_RuleReader_readTest_91 rfl rfl (Nat.le_of_ble_eq_true rfl) (Nat.le_of_ble_eq_true rfl)
      · refine x_iconst (v := 0) d_RuleReader_readTest_77 (by decide) ?_
        exact x_ret d_RuleReader_readTest_78 rfl rfl (Nat.le_of_ble_eq_true rfl) (Nat.le_of_ble_eq_true rfl)
    · refine x_iconst (v := 0) d_RuleReader_readTest_52 (by decide) ?_
      exact x_ret d_RuleReader_readTest_53 rfl rfl (Nat.le_of_ble_eq_true rfl) (Nat.le_of_ble_eq_true rfl)
  · refine x_aload_n_ref d_RuleReader_readTest_10 rfl ?_
    refine x_iload_n d_RuleReader_readTest_11 rfl ?_
    refine x_bipush (v := 6) d_RuleReader_readTest_12 (by decide) ?_
    refine x_nm (fun J22 hJ22 => ?_)
    have kJ22 : ∀ (a10 : Int32) (S11 : AS), V G md_RuleReader_readTest (QM G md_RuleReader_readTest iI) (fun _ => True) (some none) 22 [none, none, none, none, none] [.int a10, .ref 3] 0 0 S11 (J22 a10 S11) := by
      subst hJ22
      intro a10 S11
      refine x_vI (b' := (some none)) (As := [.int a10]) d_RuleReader_readTest_22 mv_RuleReader_63 rfl (fun _ => ak_3) rfl (q99 (by decide)) ⟨Nat.le_of_ble_eq_true rfl, Nat.le_of_ble_eq_true rfl⟩ (Nat.le_of_ble_eq_true rfl) ⟨Nat.le_of_ble_eq_true rfl, Nat.le_of_ble_eq_true rfl⟩ (fun _ h => h) (fun h => ⟨h, c_RuleReader_failWith a10 _⟩) (fun r13 S12 => ?_)
      exact x_zretc d_RuleReader_readTest_25 rfl (Nat.le_of_ble_eq_true rfl) (Nat.le_of_ble_eq_true rfl)
    clear hJ22
    refine x_icmp_le (tgt := 21) d_RuleReader_readTest_14 (by decide) (fun _ => ?_) (fun _ => ?_)
    · refine x_iconst (v := 2) d_RuleReader_readTest_21 (by decide) ?_
      exact V.kw (kJ22 2 S) trivial
    · refine x_iconst (v := 1) d_RuleReader_readTest_17 (by decide) ?_
      refine x_goto (tgt := 22) d_RuleReader_readTest_18 (by decide) ?_
      exact V.kw (kJ22 1 S) trivial
theorem c_RuleReader_readTest {G : GX} (p1 : Int32) (S : AS) : CN G y_RuleReader_readTest b_RuleReader_readTest 5 (some (FieldType.boolean)) ({ frames := 2, cells := 0, slots := 0, locals := 42 } : Room) (some none) iI [.ref 3, .int p1] S (f_RuleReader_readTest p1 S) := cn_of_v (M := md_RuleReader_readTest) (ini := false) rfl (by decide +kernel) (fun h => nomatch h) rfl (Nat.le_of_ble_eq_true rfl) (v_RuleReader_readTest p1 S)
noncomputable def f_RuleReader_readTests_L2 (J39 : AS → Option (Int32 × AS)) (x1 : Int32) : Nat → Int32 → AS → Option (Int32 × AS)
  | 0, _, _ => none
  | n + 1, c2, S => if 64 ≤ c2 then (J39 S) else (bI (f_RuleReader_readTest x1 S) fun r5 S4 => if r5 = 0 then (some (0, S4)) else (if (gi S4 3 3) = 13 then (bV (f_RuleReader_advance S4) fun S6 => f_RuleReader_readTests_L2 J39 x1 n (c2 + 1) S6) else (some (1, S4))))
noncomputable def f_RuleReader_readTests (p1 : Int32) (S : AS) : Option (Int32 × AS) := nm (fun (S1 : AS) => bI (f_RuleReader_failWith 1 S1) fun r3 S2 => chk (isb r3) (some (r3, S2))) fun J39 => f_RuleReader_readTests_L2 J39 p1 FU 0 S
set_option maxHeartbeats 4000000 in
theorem v_RuleReader_readTests_L2 {G : GX} (J39 : AS → Option (Int32 × AS)) (x1 : Int32) (kJ39 : ∀ (T : AS), V G md_RuleReader_readTests (QM G md_RuleReader_readTests iI) (fun _ => True) (some none) 39 [some (.ref 3), none, none] [] 0 0 T (J39 T)) : ∀ (n : Nat) (c2 : Int32) (S : AS), V G md_RuleReader_readTests (QM G md_RuleReader_readTests iI) (fun _ => True) (some none) 2 [some (.ref 3), some (.int x1), some (.int c2)] [] 0 0 S (f_RuleReader_readTests_L2 J39 x1 n c2 S) := by
  intro n
  induction n with
  | zero => intro c2 S; exact V.none
  | succ n ih =>
    intro c2 S
    rw [f_RuleReader_readTests_L2]
    refine x_iload_n d_RuleReader_readTests_2 rfl ?_
    refine x_bipush (v := 64) d_RuleReader_readTests_3 (by decide) ?_
    refine x_icmp_ge (tgt := 39) d_RuleReader_readTests_5 (by decide) (fun _ => ?_) (fun _ => ?_)
    · exact V.kw (kJ39 S) ⟨rfl, trivial⟩
    · refine x_aload_n_ref d_RuleReader_readTests_8 rfl ?_
      refine x_iload_n d_RuleReader_readTests_9 rfl ?_
      refine x_vI (b' := (some none)) (As := [.int x1]) d_RuleReader_readTests_10 mv_RuleReader_89 rfl (fun _ => ak_3) rfl (q99 (by decide)) ⟨Nat.le_of_ble_eq_true rfl, Nat.le_of_ble_eq_true rfl⟩ (Nat.le_of_ble_eq_true rfl) ⟨Nat.le_of_ble_eq_true rfl, Nat.le_of_ble_eq_true rfl⟩ (fun _ h => h) (fun h => ⟨h, c_RuleReader_readTest x1 _⟩) (fun r5 S4 => ?_)
      refine x_if_ne (tgt := 18) d_RuleReader_readTests_13 (by decide) (fun _ => ?_) (fun _ => ?_)
      · refine x_aload_n_ref d_RuleReader_readTests_18 rfl ?_
        refine x_geti d_RuleReader_readTests_19 fl_RuleReader_47 ak_3 (q99 (by decide)) ?_
        refine x_bipush (v := 13) d_RuleReader_readTests_22 (by decide) ?_
        refine x_icmp_eq (tgt := 29) d_RuleReader_readTests_24 (by decide) (fun _ => ?_) (fun _ => ?_)
        · refine x_aload_n_ref d_RuleReader_readTests_29 rfl ?_
          refine x_vV (b' := (some none)) (As := []) d_RuleReader_readTests_30 mv_RuleReader_71 rfl (fun _ => ak_3) rfl (q99 (by decide)) ⟨Nat.le_of_ble_eq_true rfl, Nat.le_of_ble_eq_true rfl⟩ (Nat.le_of_ble_eq_true rfl) ⟨Nat.le_of_ble_eq_true rfl, Nat.le_of_ble_eq_true rfl⟩ (fun _ h => h) (fun h => ⟨h, c_RuleReader_advance _⟩) (fun S6 => ?_)
          refine x_iinc (w := c2 + 1) (lc' := [some (.ref 3), some (.int x1), some (.int (c2 + 1))]) d_RuleReader_readTests_33 (by decide) rfl rfl rfl ?_
          refine x_goto (tgt := 2) d_RuleReader_readTests_36 (by decide) ?_
          exact V.kw (ih (c2 + 1) S6) ⟨rfl, rfl, rfl, trivial⟩
        · refine x_iconst (v := 1) d_RuleReader_readTests_27 (by decide) ?_
          exact x_ret d_RuleReader_readTests_28 rfl rfl (Nat.le_of_ble_eq_true rfl) (Nat.le_of_ble_eq_true rfl)
      · refine x_iconst (v := 0) d_RuleReader_readTests_16 (by decide) ?_
        exact x_ret d_RuleReader_readTests_17 rfl rfl (Nat.le_of_ble_eq_true rfl) (Nat.le_of_ble_eq_true rfl)
set_option maxHeartbeats 4000000 in
theorem v_RuleReader_readTests {G : GX} (p1 : Int32) (S : AS) : V G md_RuleReader_readTests (QM G md_RuleReader_readTests iI) (fun _ => True) (some none) 0 [some (.ref 3), some (.int p1), none] [] 0 0 S (f_RuleReader_readTests p1 S) := by
  unfold f_RuleReader_readTests
  refine x_iconst (v := 0) d_RuleReader_readTests_0 (by decide) ?_
  refine x_istore_n (lc' := [some (.ref 3), some (.int p1), some (.int 0)]) d_RuleReader_readTests_1 (by decide) rfl ?_
  refine x_nm (fun J39 hJ39 => ?_)
  have kJ39 : ∀ (S1 : AS), V G md_RuleReader_readTests (QM G md_RuleReader_readTests iI) (fun _ => True) (some none) 39 [some (.ref 3), none, none] [] 0 0 S1 (J39 S1) := by
    subst hJ39
    intro S1
    refine x_aload_n_ref d_RuleReader_readTests_39 rfl ?_
    refine x_iconst (v := 1) d_RuleReader_readTests_40 (by decide) ?_
    refine x_vI (b' := (some none)) (As := [.int 1]) d_RuleReader_readTests_41 mv_RuleReader_63 rfl (fun _ => ak_3) rfl (q99 (by decide)) ⟨Nat.le_of_ble_eq_true rfl, Nat.le_of_ble_eq_true rfl⟩ (Nat.le_of_ble_eq_true rfl) ⟨Nat.le_of_ble_eq_true rfl, Nat.le_of_ble_eq_true rfl⟩ (fun _ h => h) (fun h => ⟨h, c_RuleReader_failWith 1 _⟩) (fun r3 S2 => ?_)
    exact x_zretc d_RuleReader_readTests_44 rfl (Nat.le_of_ble_eq_true rfl) (Nat.le_of_ble_eq_true rfl)
  clear hJ39
  exact V.kw (v_RuleReader_readTests_L2 J39 p1 kJ39 FU 0 S) ⟨rfl, rfl, rfl, trivial⟩
theorem c_RuleReader_readTests {G : GX} (p1 : Int32) (S : AS) : CN G y_RuleReader_readTests b_RuleReader_readTests 3 (some (FieldType.boolean)) ({ frames := 3, cells := 0, slots := 0, locals := 66 } : Room) (some none) iI [.ref 3, .int p1] S (f_RuleReader_readTests p1 S) := cn_of_v (M := md_RuleReader_readTests) (ini := false) rfl (by decide +kernel) (fun h => nomatch h) rfl (Nat.le_of_ble_eq_true rfl) (v_RuleReader_readTests p1 S)
noncomputable def f_RuleReader_readCondition (S : AS) : Option (Int32 × AS) := if (gi S 3 3) = 12 then (bV (f_RuleReader_advance S) fun S1 => bI (f_RuleReader_readTests 1 S1) fun r3 S2 => chk (isb r3) (some (r3, S2))) else (some (1, S))
set_option maxHeartbeats 4000000 in
theorem v_RuleReader_readCondition {G : GX} (S : AS) : V G md_RuleReader_readCondition (QM G md_RuleReader_readCondition iI) (fun _ => True) (some none) 0 [some (.ref 3)] [] 0 0 S (f_RuleReader_readCondition S) := by
  unfold f_RuleReader_readCondition
  refine x_aload_n_ref d_RuleReader_readCondition_0 rfl ?_
  refine x_geti d_RuleReader_readCondition_1 fl_RuleReader_47 ak_3 (q99 (by decide)) ?_
  refine x_bipush (v := 12) d_RuleReader_readCondition_4 (by decide) ?_
  refine x_icmp_eq (tgt := 11) d_RuleReader_readCondition_6 (by decide) (fun _ => ?_) (fun _ => ?_)
  · refine x_aload_n_ref d_RuleReader_readCondition_11 rfl ?_
    refine x_vV (b' := (some none)) (As := []) d_RuleReader_readCondition_12 mv_RuleReader_71 rfl (fun _ => ak_3) rfl (q99 (by decide)) ⟨Nat.le_of_ble_eq_true rfl, Nat.le_of_ble_eq_true rfl⟩ (Nat.le_of_ble_eq_true rfl) ⟨Nat.le_of_ble_eq_true rfl, Nat.le_of_ble_eq_true rfl⟩ (fun _ h => h) (fun h => ⟨h, c_RuleReader_advance _⟩) (fun S1 => ?_)
    refine x_aload_n_ref d_RuleReader_readCondition_15 rfl ?_
    refine x_iconst (v := 1) d_RuleReader_readCondition_16 (by decide) ?_
    refine x_vI (b' := (some none)) (As := [.int 1]) d_RuleReader_readCondition_17 mv_RuleReader_74 rfl (fun _ => ak_3) rfl (q99 (by decide)) ⟨Nat.le_of_ble_eq_true rfl, Nat.le_of_ble_eq_true rfl⟩ (Nat.le_of_ble_eq_true rfl) ⟨Nat.le_of_ble_eq_true rfl, Nat.le_of_ble_eq_true rfl⟩ (fun _ h => h) (fun h => ⟨h, c_RuleReader_readTests 1 _⟩) (fun r3 S2 => ?_)
    exact x_zretc d_RuleReader_readCondition_20 rfl (Nat.le_of_ble_eq_true rfl) (Nat.le_of_ble_eq_true rfl)
  · refine x_iconst (v := 1) d_RuleReader_readCondition_9 (by decide) ?_
    exact x_ret d_RuleReader_readCondition_10 rfl rfl (Nat.le_of_ble_eq_true rfl) (Nat.le_of_ble_eq_true rfl)
theorem c_RuleReader_readCondition {G : GX} (S : AS) : CN G y_RuleReader_readCondition b_RuleReader_readCondition 1 (some (FieldType.boolean)) ({ frames := 4, cells := 0, slots := 0, locals := 88 } : Room) (some none) iI [.ref 3] S (f_RuleReader_readCondition S) := cn_of_v (M := md_RuleReader_readCondition) (ini := false) rfl (by decide +kernel) (fun h => nomatch h) rfl (Nat.le_of_ble_eq_true rfl) (v_RuleReader_readCondition S)
