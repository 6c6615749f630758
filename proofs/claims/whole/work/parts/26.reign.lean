noncomputable def f_Chan_reign (p1 : Int32) (S : AS) : Option (Int32 × AS) := bI (f_RuleReader_read S) fun r2 S1 => bI (f_Tape_cutTo 0 S1) fun r4 S3 => if r2 = 0 then (some ((-1), S3)) else (bI (f_Chan_isTime p1 S3) fun r6 S5 => nm (fun (S7 : AS) => some ((-2), S7)) fun J42 => if r6 = 0 then (J42 S5) else (if (gi S5 38 3) < 6 then (bV (f_Reigns_add_4 p1 S5) fun S8 => nm (si S8 16 8 ((gi S8 16 8) + 1)) fun S9 => some (gi S9 4 4, S9)) else (J42 S5)))
set_option maxHeartbeats 4000000 in
theorem v_Chan_reign {G : GX} (p1 : Int32) (S : AS) : V G md_Chan_reign (QM G md_Chan_reign iI) (fun _ => True) (some none) 0 [some (.ref 0), some (.int p1), none] [] 0 0 S (f_Chan_reign p1 S) := by
  unfold f_Chan_reign
  refine x_aload_n_ref d_Chan_reign_0 rfl ?_
  refine x_getr d_Chan_reign_1 fl_Chan_21 ak_0 (q99 (by decide)) (shx sh_0_1) ?_
  refine x_vI (b' := (some none)) (As := []) d_Chan_reign_4 mv_Chan_126 rfl (fun _ => ak_3) rfl (q99 (by decide)) ⟨Nat.le_of_ble_eq_true rfl, Nat.le_of_ble_eq_true rfl⟩ (Nat.le_of_ble_eq_true rfl) ⟨Nat.le_of_ble_eq_true rfl, Nat.le_of_ble_eq_true rfl⟩ (fun _ h => h) (fun h => ⟨h, c_RuleReader_read _⟩) (fun r2 S1 => ?_)
  refine x_istore_n (lc' := [some (.ref 0), some (.int p1), some (.int r2)]) d_Chan_reign_7 (by decide) rfl ?_
  refine x_aload_n_ref d_Chan_reign_8 rfl ?_
  refine x_getr d_Chan_reign_9 fl_Chan_10 ak_0 (q99 (by decide)) (shx sh_0_0) ?_
  refine x_iconst (v := 0) d_Chan_reign_12 (by decide) ?_
  refine x_vI (b' := (some none)) (As := [.int 0]) d_Chan_reign_13 mv_Chan_97 rfl (fun _ => ak_1) rfl (q99 (by decide)) ⟨Nat.le_of_ble_eq_true rfl, Nat.le_of_ble_eq_true rfl⟩ (Nat.le_of_ble_eq_true rfl) ⟨Nat.le_of_ble_eq_true rfl, Nat.le_of_ble_eq_true rfl⟩ (fun _ h => h) (fun h => ⟨h, c_Tape_cutTo 0 _⟩) (fun r4 S3 => ?_)
  refine x_pop d_Chan_reign_16 rfl ?_
  refine x_iload_n d_Chan_reign_17 rfl ?_
  refine x_if_ne (tgt := 23) d_Chan_reign_18 (by decide) (fun _ => ?_) (fun _ => ?_)
  · refine x_iload_n d_Chan_reign_23 rfl ?_
    refine x_sI (b' := (some none)) (As := [.int p1]) d_Chan_reign_24 ms_Chan_129 rfl ⟨Nat.le_of_ble_eq_true rfl, Nat.le_of_ble_eq_true rfl⟩ (Nat.le_of_ble_eq_true rfl) ⟨Nat.le_of_ble_eq_true rfl, Nat.le_of_ble_eq_true rfl⟩ (fun _ h => h) (fun h => ⟨h, c_Chan_isTime p1 _⟩) (fun r6 S5 => ?_)
    refine x_nm (fun J42 hJ42 => ?_)
    have kJ42 : ∀ (S7 : AS), V G md_Chan_reign (QM G md_Chan_reign iI) (fun _ => True) (some none) 42 [none, none, none] [] 0 0 S7 (J42 S7) := by
      subst hJ42
      intro S7
      refine x_bipush (v := -2) d_Chan_reign_42 (by decide) ?_
      exact x_ret d_Chan_reign_44 rfl rfl (Nat.le_of_ble_eq_true rfl) (Nat.le_of_ble_eq_true rfl)
    clear hJ42
    refine x_if_eq (tgt := 42) d_Chan_reign_27 (by decide) (fun _ => ?_) (fun _ => ?_)
    · exact V.kw (kJ42 S5) trivial
    · refine x_aload_n_ref d_Chan_reign_30 rfl ?_
      refine x_getr d_Chan_reign_31 fl_Chan_49 ak_0 (q99 (by decide)) (shx sh_0_5) ?_
      refine x_geti d_Chan_reign_34 fl_Chan_132 ak_38 (q99 (by decide)) ?_
      refine x_bipush (v := 6) d_Chan_reign_37 (by decide) ?_
      refine x_icmp_lt (tgt := 45) d_Chan_reign_39 (by decide) (fun _ => ?_) (fun _ => ?_)
      · refine x_aload_n_ref d_Chan_reign_45 rfl ?_
        refine x_getr d_Chan_reign_46 fl_Chan_49 ak_0 (q99 (by decide)) (shx sh_0_5) ?_
        refine x_iload_n d_Chan_reign_49 rfl ?_
        refine x_aload_n_ref d_Chan_reign_50 rfl ?_
        refine x_getr d_Chan_reign_51 fl_Chan_21 ak_0 (q99 (by decide)) (shx sh_0_1) ?_
        refine x_getr d_Chan_reign_54 fl_Chan_133 ak_3 (q99 (by decide)) (shx sh_3_1) ?_
        refine x_vV (b' := (some none)) (As := [.int p1, .ref 4]) d_Chan_reign_57 mv_Chan_137 rfl (fun _ => ak_38) rfl (q99 (by decide)) ⟨Nat.le_of_ble_eq_true rfl, Nat.le_of_ble_eq_true rfl⟩ (Nat.le_of_ble_eq_true rfl) ⟨Nat.le_of_ble_eq_true rfl, Nat.le_of_ble_eq_true rfl⟩ (fun _ h => h) (fun h => ⟨h, c_Reigns_add_4 p1 _⟩) (fun S8 => ?_)
        refine x_aload_n_ref d_Chan_reign_60 rfl ?_
        refine x_getr d_Chan_reign_61 fl_Chan_28 ak_0 (q99 (by decide)) (shx sh_0_2) ?_
        refine x_dup d_Chan_reign_64 rfl ?_
        refine x_geti d_Chan_reign_65 fl_Chan_141 ak_16 (q99 (by decide)) ?_
        refine x_iconst (v := 1) d_Chan_reign_68 (by decide) ?_
        refine x_iadd d_Chan_reign_69 ?_
        refine x_puti d_Chan_reign_70 fl_Chan_141 rfl ak_16 (q99 (by decide)) (fun h => nomatch h) (fun h => nomatch h) ?_
        refine x_nmS (fun S9 _ => ?_)
        refine x_aload_n_ref d_Chan_reign_73 rfl ?_
        refine x_getr d_Chan_reign_74 fl_Chan_21 ak_0 (q99 (by decide)) (shx sh_0_1) ?_
        refine x_getr d_Chan_reign_77 fl_Chan_133 ak_3 (q99 (by decide)) (shx sh_3_1) ?_
        refine x_geti d_Chan_reign_80 fl_Chan_144 ak_4 (q99 (by decide)) ?_
        exact x_ret d_Chan_reign_83 rfl rfl (Nat.le_of_ble_eq_true rfl) (Nat.le_of_ble_eq_true rfl)
      · exact V.kw (kJ42 S5) trivial
  · refine x_iconst (v := -1) d_Chan_reign_21 (by decide) ?_
    exact x_ret d_Chan_reign_22 rfl rfl (Nat.le_of_ble_eq_true rfl) (Nat.le_of_ble_eq_true rfl)
theorem c_Chan_reign {G : GX} (p1 : Int32) (S : AS) : CN G y_Chan_reign b_Chan_reign 3 (some (FieldType.int)) ({ frames := 9, cells := 8, slots := 265, locals := 234 } : Room) (some none) iI [.ref 0, .int p1] S (f_Chan_reign p1 S) := cn_of_v (M := md_Chan_reign) (ini := false) rfl (by decide +kernel) (fun h => nomatch h) rfl (Nat.le_of_ble_eq_true rfl) (v_Chan_reign p1 S)
