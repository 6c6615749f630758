noncomputable def f_Md_tests_L4 (J147 : Int32 → AS → Option (Int32 × AS)) (x1 : Int32) : Nat → Int32 → Int32 → AS → Option (Int32 × AS)
  | 0, _, _, _ => none
  | n + 1, c2, c3, S => if c3 = 0 then (J147 c2 S) else (if (gi S 70 24) = 0 then (bI (f_Md_here S) fun r4 S3 => nm (gi S3 70 22) fun v5 => bI (f_Md_subject S3) fun r7 S6 => nm (fun (S8 : AS) => bI (f_Md_here S8) fun r10 S9 => nm (fun (S11 : AS) => nm (si S11 70 22 ((gi S11 70 22) + 1)) fun S12 => nm (fun (a13 : Int32) (S14 : AS) => if (gi S14 70 24) ≤ 0 then (bV (f_Md_add r7 r10 a13 S14) fun S15 => bI (f_Md_passes 6385252 3 S15) fun r17 S16 => f_Md_tests_L4 J147 x1 n (c2 + 1) r17 S16) else (f_Md_tests_L4 J147 x1 n c2 c3 S14)) fun J110 => if (gi S12 70 24) = 0 then (bI (f_Md_digits S12) fun r19 S18 => J110 r19 S18) else (J110 0 S12)) fun J85 => if r10 = 60 then (J85 S9) else (if r10 = 62 then (J85 S9) else (if r10 = 61 then (J85 S9) else (bV (f_Md_blame 1 (gi S9 70 22) S9) fun S20 => J85 S20)))) fun J49 => if x1 = 0 then (if r7 ≤ 1 then (J49 S6) else (bV (f_Md_blame 2 v5 S6) fun S21 => J49 S21)) else (J49 S6)) else (J147 c2 S))
noncomputable def f_Md_tests (p1 : Int32) (S : AS) : Option (Int32 × AS) := nm (fun (a1 : Int32) (S2 : AS) => some (a1, S2)) fun J147 => f_Md_tests_L4 J147 p1 FU 0 1 S
set_option maxHeartbeats 4000000 in
theorem v_Md_tests_L4 {G : GX} (J147 : Int32 → AS → Option (Int32 × AS)) (x1 : Int32) (kJ147 : ∀ (a1 : Int32) (T : AS), V G md_Md_tests (QM G md_Md_tests iI) (fun _ => True) (some none) 147 [none, none, some (.int a1), none, none, none, none, none] [] 0 0 T (J147 a1 T)) : ∀ (n : Nat) (c2 : Int32) (c3 : Int32) (S : AS), V G md_Md_tests (QM G md_Md_tests iI) (fun _ => True) (some none) 4 [some (.ref 70), some (.int x1), some (.int c2), some (.int c3), none, none, none, none] [] 0 0 S (f_Md_tests_L4 J147 x1 n c2 c3 S) := by
  intro n
  induction n with
  | zero => intro c2 c3 S; exact V.none
  | succ n ih =>
    intro c2 c3 S
    rw [f_Md_tests_L4]
    refine x_iload_n d_Md_tests_4 rfl ?_
    refine x_if_eq (tgt := 147) d_Md_tests_5 (by decide) (fun _ => ?_) (fun _ => ?_)
    · exact V.kw (kJ147 c2 S) ⟨rfl, trivial⟩
    · refine x_aload_n_ref d_Md_tests_8 rfl ?_
      refine x_geti d_Md_tests_9 fl_Md_83 ak_70 (q99 (by decide)) ?_
      refine x_if_ne (tgt := 147) d_Md_tests_12 (by decide) (fun _ => ?_) (fun _ => ?_)
      · exact V.kw (kJ147 c2 S) ⟨rfl, trivial⟩
      · refine x_aload_n_ref d_Md_tests_15 rfl ?_
        refine x_vI (b' := (some none)) (As := []) d_Md_tests_16 mv_Md_158 rfl (fun _ => ak_70) rfl (q99 (by decide)) ⟨Nat.le_of_ble_eq_true rfl, Nat.le_of_ble_eq_true rfl⟩ (Nat.le_of_ble_eq_true rfl) ⟨Nat.le_of_ble_eq_true rfl, Nat.le_of_ble_eq_true rfl⟩ (fun _ h => h) (fun h => ⟨h, c_Md_here _⟩) (fun r4 S3 => ?_)
        refine x_pop d_Md_tests_19 rfl ?_
        refine x_aload_n_ref d_Md_tests_20 rfl ?_
        refine x_geti d_Md_tests_21 fl_Md_77 ak_70 (q99 (by decide)) ?_
        refine x_topi (fun v5 => ?_)
        refine x_istore (lc' := [some (.ref 70), some (.int x1), some (.int c2), some (.int c3), some (.int v5), none, none, none]) d_Md_tests_24 (by decide) rfl ?_
        refine x_aload_n_ref d_Md_tests_26 rfl ?_
        refine x_vI (b' := (some none)) (As := []) d_Md_tests_27 mv_Md_198 rfl (fun _ => ak_70) rfl (q99 (by decide)) ⟨Nat.le_of_ble_eq_true rfl, Nat.le_of_ble_eq_true rfl⟩ (Nat.le_of_ble_eq_true rfl) ⟨Nat.le_of_ble_eq_true rfl, Nat.le_of_ble_eq_true rfl⟩ (fun _ h => h) (fun h => ⟨h, c_Md_subject _⟩) (fun r7 S6 => ?_)
        refine x_istore (lc' := [some (.ref 70), some (.int x1), some (.int c2), some (.int c3), some (.int v5), some (.int r7), none, none]) d_Md_tests_30 (by decide) rfl ?_
        refine x_iload_n d_Md_tests_32 rfl ?_
        refine x_nm (fun J49 hJ49 => ?_)
        have kJ49 : ∀ (S8 : AS), V G md_Md_tests (QM G md_Md_tests iI) (fun _ => True) (some none) 49 [some (.ref 70), some (.int x1), some (.int c2), some (.int c3), none, some (.int r7), none, none] [] 0 0 S8 (J49 S8) := by
          subst hJ49
          intro S8
          refine x_aload_n_ref d_Md_tests_49 rfl ?_
          refine x_vI (b' := (some none)) (As := []) d_Md_tests_50 mv_Md_158 rfl (fun _ => ak_70) rfl (q99 (by decide)) ⟨Nat.le_of_ble_eq_true rfl, Nat.le_of_ble_eq_true rfl⟩ (Nat.le_of_ble_eq_true rfl) ⟨Nat.le_of_ble_eq_true rfl, Nat.le_of_ble_eq_true rfl⟩ (fun _ h => h) (fun h => ⟨h, c_Md_here _⟩) (fun r10 S9 => ?_)
          refine x_istore (lc' := [some (.ref 70), some (.int x1), some (.int c2), some (.int c3), none, some (.int r7), some (.int r10), none]) d_Md_tests_53 (by decide) rfl ?_
          refine x_iload d_Md_tests_55 rfl ?_
          refine x_bipush (v := 60) d_Md_tests_57 (by decide) ?_
          refine x_nm (fun J85 hJ85 => ?_)
          have kJ85 : ∀ (S11 : AS), V G md_Md_tests (QM G md_Md_tests iI) (fun _ => True) (some none) 85 [some (.ref 70), some (.int x1), some (.int c2), some (.int c3), none, some (.int r7), some (.int r10), none] [] 0 0 S11 (J85 S11) := by
            subst hJ85
            intro S11
            refine x_aload_n_ref d_Md_tests_85 rfl ?_
            refine x_dup d_Md_tests_86 rfl ?_
            refine x_geti d_Md_tests_87 fl_Md_77 ak_70 (q99 (by decide)) ?_
            refine x_iconst (v := 1) d_Md_tests_90 (by decide) ?_
            refine x_iadd d_Md_tests_91 ?_
            refine x_puti d_Md_tests_92 fl_Md_77 rfl ak_70 (q99 (by decide)) (fun h => nomatch h) (fun h => nomatch h) ?_
            refine x_nmS (fun S12 _ => ?_)
            refine x_aload_n_ref d_Md_tests_95 rfl ?_
            refine x_geti d_Md_tests_96 fl_Md_83 ak_70 (q99 (by decide)) ?_
            refine x_nm (fun J110 hJ110 => ?_)
            have kJ110 : ∀ (a13 : Int32) (S14 : AS), V G md_Md_tests (QM G md_Md_tests iI) (fun _ => True) (some none) 110 [some (.ref 70), some (.int x1), some (.int c2), some (.int c3), none, some (.int r7), some (.int r10), none] [.int a13] 0 0 S14 (J110 a13 S14) := by
              subst hJ110
              intro a13 S14
              refine x_istore (lc' := [some (.ref 70), some (.int x1), some (.int c2), some (.int c3), none, some (.int r7), some (.int r10), some (.int a13)]) d_Md_tests_110 (by decide) rfl ?_
              refine x_aload_n_ref d_Md_tests_112 rfl ?_
              refine x_geti d_Md_tests_113 fl_Md_83 ak_70 (q99 (by decide)) ?_
              refine x_if_le (tgt := 122) d_Md_tests_116 (by decide) (fun _ => ?_) (fun _ => ?_)
              · refine x_aload_n_ref d_Md_tests_122 rfl ?_
                refine x_iload d_Md_tests_123 rfl ?_
                refine x_iload d_Md_tests_125 rfl ?_
                refine x_iload d_Md_tests_127 rfl ?_
                refine x_vV (b' := (some none)) (As := [.int r7, .int r10, .int a13]) d_Md_tests_129 mv_Md_204 rfl (fun _ => ak_70) rfl (q99 (by decide)) ⟨Nat.le_of_ble_eq_true rfl, Nat.le_of_ble_eq_true rfl⟩ (Nat.le_of_ble_eq_true rfl) ⟨Nat.le_of_ble_eq_true rfl, Nat.le_of_ble_eq_true rfl⟩ (fun _ h => h) (fun h => ⟨h, c_Md_add r7 r10 a13 _⟩) (fun S15 => ?_)
                refine x_iinc (w := c2 + 1) (lc' := [some (.ref 70), some (.int x1), some (.int (c2 + 1)), some (.int c3), none, some (.int r7), some (.int r10), some (.int a13)]) d_Md_tests_132 (by decide) rfl rfl rfl ?_
                refine x_aload_n_ref d_Md_tests_135 rfl ?_
                refine x_ldc2 (v := 6385252) (List.mem_append_right _ (List.mem_append_right _ (List.mem_append_right _ (List.mem_append_right _ (List.mem_append_right _ (List.mem_append_left _ (List.mem_of_getElem? (i := 186) (by decide +kernel)))))))) d_Md_tests_136 ?_
                refine x_iconst (v := 3) d_Md_tests_139 (by decide) ?_
                refine x_vI (b' := (some none)) (As := [.long 6385252, .int 3]) d_Md_tests_140 mv_Md_176 rfl (fun _ => ak_70) rfl (q99 (by decide)) ⟨Nat.le_of_ble_eq_true rfl, Nat.le_of_ble_eq_true rfl⟩ (Nat.le_of_ble_eq_true rfl) ⟨Nat.le_of_ble_eq_true rfl, Nat.le_of_ble_eq_true rfl⟩ (fun _ h => h) (fun h => ⟨h, c_Md_passes 6385252 3 _⟩) (fun r17 S16 => ?_)
                refine x_istore_n (lc' := [some (.ref 70), some (.int x1), some (.int (c2 + 1)), some (.int r17), none, some (.int r7), some (.int r10), some (.int a13)]) d_Md_tests_143 (by decide) rfl ?_
                refine x_goto (tgt := 4) d_Md_tests_144 (by decide) ?_
                exact V.kw (ih (c2 + 1) r17 S16) ⟨rfl, rfl, rfl, rfl, trivial⟩
              · refine x_goto (tgt := 4) d_Md_tests_119 (by decide) ?_
                exact V.kw (ih c2 c3 S14) ⟨rfl, rfl, rfl, rfl, trivial⟩
            clear hJ110
            refine x_if_ne (tgt := 109) d_Md_tests_99 (by decide) (fun _ => ?_) (fun _ => ?_)
            · refine x_iconst (v := 0) d_Md_tests_109 (by decide) ?_
              exact V.kw (kJ110 0 S12) ⟨rfl, rfl, rfl, rfl, rfl, rfl, trivial⟩
            · refine x_aload_n_ref d_Md_tests_102 rfl ?_
              refine x_vI (b' := (some none)) (As := []) d_Md_tests_103 mv_Md_201 rfl (fun _ => ak_70) rfl (q99 (by decide)) ⟨Nat.le_of_ble_eq_true rfl, Nat.le_of_ble_eq_true rfl⟩ (Nat.le_of_ble_eq_true rfl) ⟨Nat.le_of_ble_eq_true rfl, Nat.le_of_ble_eq_true rfl⟩ (fun _ h => h) (fun h => ⟨h, c_Md_digits _⟩) (fun r19 S18 => ?_)
              refine x_goto (tgt := 110) d_Md_tests_106 (by decide) ?_
              exact V.kw (kJ110 r19 S18) ⟨rfl, rfl, rfl, rfl, rfl, rfl, trivial⟩
          clear hJ85
          refine x_icmp_eq (tgt := 85) d_Md_tests_59 (by decide) (fun _ => ?_) (fun _ => ?_)
          · exact V.kw (kJ85 S9) ⟨rfl, rfl, rfl, rfl, rfl, rfl, trivial⟩
          · refine x_iload d_Md_tests_62 rfl ?_
            refine x_bipush (v := 62) d_Md_tests_64 (by decide) ?_
            refine x_icmp_eq (tgt := 85) d_Md_tests_66 (by decide) (fun _ => ?_) (fun _ => ?_)
            · exact V.kw (kJ85 S9) ⟨rfl, rfl, rfl, rfl, rfl, rfl, trivial⟩
            · refine x_iload d_Md_tests_69 rfl ?_
              refine x_bipush (v := 61) d_Md_tests_71 (by decide) ?_
              refine x_icmp_eq (tgt := 85) d_Md_tests_73 (by decide) (fun _ => ?_) (fun _ => ?_)
              · exact V.kw (kJ85 S9) ⟨rfl, rfl, rfl, rfl, rfl, rfl, trivial⟩
              · refine x_aload_n_ref d_Md_tests_76 rfl ?_
                refine x_iconst (v := 1) d_Md_tests_77 (by decide) ?_
                refine x_aload_n_ref d_Md_tests_78 rfl ?_
                refine x_geti d_Md_tests_79 fl_Md_77 ak_70 (q99 (by decide)) ?_
                refine x_vV (b' := (some none)) (As := [.int 1, .int (gi S9 70 22)]) d_Md_tests_82 mv_Md_191 rfl (fun _ => ak_70) rfl (q99 (by decide)) ⟨Nat.le_of_ble_eq_true rfl, Nat.le_of_ble_eq_true rfl⟩ (Nat.le_of_ble_eq_true rfl) ⟨Nat.le_of_ble_eq_true rfl, Nat.le_of_ble_eq_true rfl⟩ (fun _ h => h) (fun h => ⟨h, c_Md_blame 1 (gi S9 70 22) _⟩) (fun S20 => ?_)
                exact V.kw (kJ85 S20) ⟨rfl, rfl, rfl, rfl, rfl, rfl, trivial⟩
        clear hJ49
        refine x_if_ne (tgt := 49) d_Md_tests_33 (by decide) (fun _ => ?_) (fun _ => ?_)
        · exact V.kw (kJ49 S6) ⟨rfl, rfl, rfl, rfl, rfl, trivial⟩
        · refine x_iload d_Md_tests_36 rfl ?_
          refine x_iconst (v := 1) d_Md_tests_38 (by decide) ?_
          refine x_icmp_le (tgt := 49) d_Md_tests_39 (by decide) (fun _ => ?_) (fun _ => ?_)
          · exact V.kw (kJ49 S6) ⟨rfl, rfl, rfl, rfl, rfl, trivial⟩
          · refine x_aload_n_ref d_Md_tests_42 rfl ?_
            refine x_iconst (v := 2) d_Md_tests_43 (by decide) ?_
            refine x_iload d_Md_tests_44 rfl ?_
            refine x_vV (b' := (some none)) (As := [.int 2, .int v5]) d_Md_tests_46 mv_Md_191 rfl (fun _ => ak_70) rfl (q99 (by decide)) ⟨Nat.le_of_ble_eq_true rfl, Nat.le_of_ble_eq_true rfl⟩ (Nat.le_of_ble_eq_true rfl) ⟨Nat.le_of_ble_eq_true rfl, Nat.le_of_ble_eq_true rfl⟩ (fun _ h => h) (fun h => ⟨h, c_Md_blame 2 v5 _⟩) (fun S21 => ?_)
            exact V.kw (kJ49 S21) ⟨rfl, rfl, rfl, rfl, rfl, trivial⟩
set_option maxHeartbeats 4000000 in
theorem v_Md_tests {G : GX} (p1 : Int32) (S : AS) : V G md_Md_tests (QM G md_Md_tests iI) (fun _ => True) (some none) 0 [some (.ref 70), some (.int p1), none, none, none, none, none, none] [] 0 0 S (f_Md_tests p1 S) := by
  unfold f_Md_tests
  refine x_iconst (v := 0) d_Md_tests_0 (by decide) ?_
  refine x_istore_n (lc' := [some (.ref 70), some (.int p1), some (.int 0), none, none, none, none, none]) d_Md_tests_1 (by decide) rfl ?_
  refine x_iconst (v := 1) d_Md_tests_2 (by decide) ?_
  refine x_istore_n (lc' := [some (.ref 70), some (.int p1), some (.int 0), some (.int 1), none, none, none, none]) d_Md_tests_3 (by decide) rfl ?_
  refine x_nm (fun J147 hJ147 => ?_)
  have kJ147 : ∀ (a1 : Int32) (S2 : AS), V G md_Md_tests (QM G md_Md_tests iI) (fun _ => True) (some none) 147 [none, none, some (.int a1), none, none, none, none, none] [] 0 0 S2 (J147 a1 S2) := by
    subst hJ147
    intro a1 S2
    refine x_iload_n d_Md_tests_147 rfl ?_
    exact x_ret d_Md_tests_148 rfl rfl (Nat.le_of_ble_eq_true rfl) (Nat.le_of_ble_eq_true rfl)
  clear hJ147
  exact V.kw (v_Md_tests_L4 J147 p1 kJ147 FU 0 1 S) ⟨rfl, rfl, rfl, rfl, trivial⟩
theorem c_Md_tests {G : GX} (p1 : Int32) (S : AS) : CN G y_Md_tests b_Md_tests 8 (some (FieldType.int)) ({ frames := 5, cells := 0, slots := 0, locals := 110 } : Room) (some none) iI [.ref 70, .int p1] S (f_Md_tests p1 S) := cn_of_v (M := md_Md_tests) (ini := false) rfl (by decide +kernel) (fun h => nomatch h) rfl (Nat.le_of_ble_eq_true rfl) (v_Md_tests p1 S)
noncomputable def f_Md_rule (S : AS) : Option AS := nm (gi S 70 21) fun v1 => bI (f_Md_passes 2003399784 4 S) fun r3 S2 => nm (fun (a4 : Int32) (a5 : Int32) (S6 : AS) => if (gi S6 70 24) ≤ 0 then (bV (f_Md_add a4 a5 0 S6) fun S7 => nm (fun (S8 : AS) => bI (f_Md_here S8) fun r10 S9 => nm (fun (S11 : AS) => nm (si S11 70 22 ((gi S11 70 22) + 1)) fun S12 => some S12) fun J249 => if r10 = 59 then (J249 S9) else (bV (f_Md_blame 1 (gi S9 70 22) S9) fun S13 => J249 S13)) fun J231 => if a4 = 4 then (bI (f_Md_tests 1 S7) fun r20 S19 => chk (vp_in (v1 + 2) 600) (nm (si S19 84 (ix (v1 + 2)) r20) fun S21 => J231 S21)) else (bI (f_Md_passes 26982 2 S7) fun r15 S14 => if r15 = 0 then (J231 S14) else (bI (f_Md_tests 0 S14) fun r17 S16 => chk (vp_in (v1 + 2) 600) (nm (si S16 84 (ix (v1 + 2)) r17) fun S18 => J231 S18)))) else (some S6)) fun J171 => if r3 = 0 then (bI (f_Md_passes 1752132965 4 S2) fun r23 S22 => if r23 = 0 then (bI (f_Md_passes 1751738216 4 S22) fun r25 S24 => if r25 = 0 then (bI (f_Md_passes 7106423 3 S24) fun r27 S26 => if r27 = 0 then (bI (f_Md_passes 6447474 3 S26) fun r29 S28 => if r29 = 0 then (bV (f_Md_blame 1 (gi S28 70 22) S28) fun S30 => J171 0 0 S30) else (J171 4 0 S28)) else (bI (f_Md_subject S26) fun r32 S31 => J171 3 r32 S31)) else (bI (f_Md_subject S24) fun r34 S33 => J171 2 r34 S33)) else (J171 1 0 S22)) else (bI (f_Md_wordSize S2) fun r36 S35 => nm (fun (S37 : AS) => nm (fun (a38 : Int32) (S39 : AS) => nm (si S39 70 22 ((gi S39 70 22) + 1)) fun S40 => J171 0 a38 S40) fun J75 => if (gi S37 70 24) = 0 then (chk (vp_in (gi S37 70 22) 400) (nm ((gi S37 71 (ix (gi S37 70 22))) - 97) fun v41 => J75 v41 S37)) else (J75 0 S37)) fun J55 => nm (fun (S42 : AS) => bV (f_Md_blame 1 (gi S42 70 22) S42) fun S43 => J55 S43) fun J46 => if r36 = 1 then (chk (vp_in (gi S35 70 22) 400) (if (gi S35 71 (ix (gi S35 70 22))) ≤ 104 then (J55 S35) else (J46 S35))) else (J46 S35))
set_option maxHeartbeats 4000000 in
theorem v_Md_rule {G : GX} (S : AS) : V G md_Md_rule (QM G md_Md_rule iV) (fun _ => True) (some none) 0 [some (.ref 70), none, none, none, none] [] 0 0 S (f_Md_rule S) := by
  unfold f_Md_rule
  refine x_aload_n_ref d_Md_rule_0 rfl ?_
  refine x_geti d_Md_rule_1 fl_Md_74 ak_70 (q99 (by decide)) ?_
  refine x_topi (fun v1 => ?_)
  refine x_istore_n (lc' := [some (.ref 70), some (.int v1), none, none, none]) d_Md_rule_4 (by decide) rfl ?_
  refine x_iconst (v := 0) d_Md_rule_5 (by decide) ?_
  refine x_istore_n (lc' := [some (.ref 70), some (.int v1), some (.int 0), none, none]) d_Md_rule_6 (by decide) rfl ?_
  refine x_iconst (v := 0) d_Md_rule_7 (by decide) ?_
  refine x_istore_n (lc' := [some (.ref 70), some (.int v1), some (.int 0), some (.int 0), none]) d_Md_rule_8 (by decide) rfl ?_
  refine x_aload_n_ref d_Md_rule_9 rfl ?_
  refine x_ldc2 (v := 2003399784) (List.mem_append_right _ (List.mem_append_right _ (List.mem_append_right _ (List.mem_append_right _ (List.mem_append_right _ (List.mem_append_left _ (List.mem_of_getElem? (i := 139) (by decide +kernel)))))))) d_Md_rule_10 ?_
  refine x_iconst (v := 4) d_Md_rule_13 (by decide) ?_
  refine x_vI (b' := (some none)) (As := [.long 2003399784, .int 4]) d_Md_rule_14 mv_Md_176 rfl (fun _ => ak_70) rfl (q99 (by decide)) ⟨Nat.le_of_ble_eq_true rfl, Nat.le_of_ble_eq_true rfl⟩ (Nat.le_of_ble_eq_true rfl) ⟨Nat.le_of_ble_eq_true rfl, Nat.le_of_ble_eq_true rfl⟩ (fun _ h => h) (fun h => ⟨h, c_Md_passes 2003399784 4 _⟩) (fun r3 S2 => ?_)
  refine x_nm (fun J171 hJ171 => ?_)
  have kJ171 : ∀ (a4 : Int32) (a5 : Int32) (S6 : AS), V G md_Md_rule (QM G md_Md_rule iV) (fun _ => True) (some none) 171 [some (.ref 70), some (.int v1), some (.int a4), some (.int a5), none] [] 0 0 S6 (J171 a4 a5 S6) := by
    subst hJ171
    intro a4 a5 S6
    refine x_aload_n_ref d_Md_rule_171 rfl ?_
    refine x_geti d_Md_rule_172 fl_Md_83 ak_70 (q99 (by decide)) ?_
    refine x_if_le (tgt := 179) d_Md_rule_175 (by decide) (fun _ => ?_) (fun _ => ?_)
    · refine x_aload_n_ref d_Md_rule_179 rfl ?_
      refine x_iload_n d_Md_rule_180 rfl ?_
      refine x_iload_n d_Md_rule_181 rfl ?_
      refine x_iconst (v := 0) d_Md_rule_182 (by decide) ?_
      refine x_vV (b' := (some none)) (As := [.int a4, .int a5, .int 0]) d_Md_rule_183 mv_Md_204 rfl (fun _ => ak_70) rfl (q99 (by decide)) ⟨Nat.le_of_ble_eq_true rfl, Nat.le_of_ble_eq_true rfl⟩ (Nat.le_of_ble_eq_true rfl) ⟨Nat.le_of_ble_eq_true rfl, Nat.le_of_ble_eq_true rfl⟩ (fun _ h => h) (fun h => ⟨h, c_Md_add a4 a5 0 _⟩) (fun S7 => ?_)
      refine x_iload_n d_Md_rule_186 rfl ?_
      refine x_iconst (v := 4) d_Md_rule_187 (by decide) ?_
      refine x_nm (fun J231 hJ231 => ?_)
      have kJ231 : ∀ (S8 : AS), V G md_Md_rule (QM G md_Md_rule iV) (fun _ => True) (some none) 231 [some (.ref 70), none, none, none, none] [] 0 0 S8 (J231 S8) := by
        subst hJ231
        intro S8
        refine x_aload_n_ref d_Md_rule_231 rfl ?_
        refine x_vI (b' := (some none)) (As := []) d_Md_rule_232 mv_Md_158 rfl (fun _ => ak_70) rfl (q99 (by decide)) ⟨Nat.le_of_ble_eq_true rfl, Nat.le_of_ble_eq_true rfl⟩ (Nat.le_of_ble_eq_true rfl) ⟨Nat.le_of_ble_eq_true rfl, Nat.le_of_ble_eq_true rfl⟩ (fun _ h => h) (fun h => ⟨h, c_Md_here _⟩) (fun r10 S9 => ?_)
        refine x_bipush (v := 59) d_Md_rule_235 (by decide) ?_
        refine x_nm (fun J249 hJ249 => ?_)
        have kJ249 : ∀ (S11 : AS), V G md_Md_rule (QM G md_Md_rule iV) (fun _ => True) (some none) 249 [some (.ref 70), none, none, none, none] [] 0 0 S11 (J249 S11) := by
          subst hJ249
          intro S11
          refine x_aload_n_ref d_Md_rule_249 rfl ?_
          refine x_dup d_Md_rule_250 rfl ?_
          refine x_geti d_Md_rule_251 fl_Md_77 ak_70 (q99 (by decide)) ?_
          refine x_iconst (v := 1) d_Md_rule_254 (by decide) ?_
          refine x_iadd d_Md_rule_255 ?_
          refine x_puti d_Md_rule_256 fl_Md_77 rfl ak_70 (q99 (by decide)) (fun h => nomatch h) (fun h => nomatch h) ?_
          refine x_nmS (fun S12 _ => ?_)
          exact x_vret d_Md_rule_259 rfl (Nat.le_of_ble_eq_true rfl) (Nat.le_of_ble_eq_true rfl)
        clear hJ249
        refine x_icmp_eq (tgt := 249) d_Md_rule_237 (by decide) (fun _ => ?_) (fun _ => ?_)
        · exact V.kw (kJ249 S9) ⟨rfl, trivial⟩
        · refine x_aload_n_ref d_Md_rule_240 rfl ?_
          refine x_iconst (v := 1) d_Md_rule_241 (by decide) ?_
          refine x_aload_n_ref d_Md_rule_242 rfl ?_
          refine x_geti d_Md_rule_243 fl_Md_77 ak_70 (q99 (by decide)) ?_
          refine x_vV (b' := (some none)) (As := [.int 1, .int (gi S9 70 22)]) d_Md_rule_246 mv_Md_191 rfl (fun _ => ak_70) rfl (q99 (by decide)) ⟨Nat.le_of_ble_eq_true rfl, Nat.le_of_ble_eq_true rfl⟩ (Nat.le_of_ble_eq_true rfl) ⟨Nat.le_of_ble_eq_true rfl, Nat.le_of_ble_eq_true rfl⟩ (fun _ h => h) (fun h => ⟨h, c_Md_blame 1 (gi S9 70 22) _⟩) (fun S13 => ?_)
          exact V.kw (kJ249 S13) ⟨rfl, trivial⟩
      clear hJ231
      refine x_icmp_ne (tgt := 207) d_Md_rule_188 (by decide) (fun _ => ?_) (fun _ => ?_)
      · refine x_aload_n_ref d_Md_rule_207 rfl ?_
        refine x_ldc2 (v := 26982) (List.mem_append_right _ (List.mem_append_right _ (List.mem_append_right _ (List.mem_append_right _ (List.mem_append_right _ (List.mem_append_left _ (List.mem_of_getElem? (i := 187) (by decide +kernel)))))))) d_Md_rule_208 ?_
        refine x_iconst (v := 2) d_Md_rule_211 (by decide) ?_
        refine x_vI (b' := (some none)) (As := [.long 26982, .int 2]) d_Md_rule_212 mv_Md_176 rfl (fun _ => ak_70) rfl (q99 (by decide)) ⟨Nat.le_of_ble_eq_true rfl, Nat.le_of_ble_eq_true rfl⟩ (Nat.le_of_ble_eq_true rfl) ⟨Nat.le_of_ble_eq_true rfl, Nat.le_of_ble_eq_true rfl⟩ (fun _ h => h) (fun h => ⟨h, c_Md_passes 26982 2 _⟩) (fun r15 S14 => ?_)
        refine x_if_eq (tgt := 231) d_Md_rule_215 (by decide) (fun _ => ?_) (fun _ => ?_)
        · exact V.kw (kJ231 S14) ⟨rfl, trivial⟩
        · refine x_aload_n_ref d_Md_rule_218 rfl ?_
          refine x_getr d_Md_rule_219 fl_Md_71 ak_70 (q99 (by decide)) (shx sh_70_20) ?_
          refine x_iload_n d_Md_rule_222 rfl ?_
          refine x_iconst (v := 2) d_Md_rule_223 (by decide) ?_
          refine x_iadd d_Md_rule_224 ?_
          refine x_aload_n_ref d_Md_rule_225 rfl ?_
          refine x_iconst (v := 0) d_Md_rule_226 (by decide) ?_
          refine x_vI (b' := (some none)) (As := [.int 0]) d_Md_rule_227 mv_Md_220 rfl (fun _ => ak_70) rfl (q99 (by decide)) ⟨Nat.le_of_ble_eq_true rfl, Nat.le_of_ble_eq_true rfl⟩ (Nat.le_of_ble_eq_true rfl) ⟨Nat.le_of_ble_eq_true rfl, Nat.le_of_ble_eq_true rfl⟩ (fun _ h => h) (fun h => ⟨h, c_Md_tests 0 _⟩) (fun r17 S16 => ?_)
          refine x_iast d_Md_rule_230 ak_84 (q99 (by decide)) ?_
          refine x_nmS (fun S18 _ => ?_)
          exact V.kw (kJ231 S18) ⟨rfl, trivial⟩
      · refine x_aload_n_ref d_Md_rule_191 rfl ?_
        refine x_getr d_Md_rule_192 fl_Md_71 ak_70 (q99 (by decide)) (shx sh_70_20) ?_
        refine x_iload_n d_Md_rule_195 rfl ?_
        refine x_iconst (v := 2) d_Md_rule_196 (by decide) ?_
        refine x_iadd d_Md_rule_197 ?_
        refine x_aload_n_ref d_Md_rule_198 rfl ?_
        refine x_iconst (v := 1) d_Md_rule_199 (by decide) ?_
        refine x_vI (b' := (some none)) (As := [.int 1]) d_Md_rule_200 mv_Md_220 rfl (fun _ => ak_70) rfl (q99 (by decide)) ⟨Nat.le_of_ble_eq_true rfl, Nat.le_of_ble_eq_true rfl⟩ (Nat.le_of_ble_eq_true rfl) ⟨Nat.le_of_ble_eq_true rfl, Nat.le_of_ble_eq_true rfl⟩ (fun _ h => h) (fun h => ⟨h, c_Md_tests 1 _⟩) (fun r20 S19 => ?_)
        refine x_iast d_Md_rule_203 ak_84 (q99 (by decide)) ?_
        refine x_nmS (fun S21 _ => ?_)
        refine x_goto (tgt := 231) d_Md_rule_204 (by decide) ?_
        exact V.kw (kJ231 S21) ⟨rfl, trivial⟩
    · exact x_vret d_Md_rule_178 rfl (Nat.le_of_ble_eq_true rfl) (Nat.le_of_ble_eq_true rfl)
  clear hJ171
  refine x_if_eq (tgt := 88) d_Md_rule_17 (by decide) (fun _ => ?_) (fun _ => ?_)
  · refine x_aload_n_ref d_Md_rule_88 rfl ?_
    refine x_ldc2 (v := 1752132965) (List.mem_append_right _ (List.mem_append_right _ (List.mem_append_right _ (List.mem_append_right _ (List.mem_append_right _ (List.mem_append_left _ (List.mem_of_getElem? (i := 156) (by decide +kernel)))))))) d_Md_rule_89 ?_
    refine x_iconst (v := 4) d_Md_rule_92 (by decide) ?_
    refine x_vI (b' := (some none)) (As := [.long 1752132965, .int 4]) d_Md_rule_93 mv_Md_176 rfl (fun _ => ak_70) rfl (q99 (by decide)) ⟨Nat.le_of_ble_eq_true rfl, Nat.le_of_ble_eq_true rfl⟩ (Nat.le_of_ble_eq_true rfl) ⟨Nat.le_of_ble_eq_true rfl, Nat.le_of_ble_eq_true rfl⟩ (fun _ h => h) (fun h => ⟨h, c_Md_passes 1752132965 4 _⟩) (fun r23 S22 => ?_)
    refine x_if_eq (tgt := 104) d_Md_rule_96 (by decide) (fun _ => ?_) (fun _ => ?_)
    · refine x_aload_n_ref d_Md_rule_104 rfl ?_
      refine x_ldc2 (v := 1751738216) (List.mem_append_right _ (List.mem_append_right _ (List.mem_append_right _ (List.mem_append_right _ (List.mem_append_right _ (List.mem_append_left _ (List.mem_of_getElem? (i := 157) (by decide +kernel)))))))) d_Md_rule_105 ?_
      refine x_iconst (v := 4) d_Md_rule_108 (by decide) ?_
      refine x_vI (b' := (some none)) (As := [.long 1751738216, .int 4]) d_Md_rule_109 mv_Md_176 rfl (fun _ => ak_70) rfl (q99 (by decide)) ⟨Nat.le_of_ble_eq_true rfl, Nat.le_of_ble_eq_true rfl⟩ (Nat.le_of_ble_eq_true rfl) ⟨Nat.le_of_ble_eq_true rfl, Nat.le_of_ble_eq_true rfl⟩ (fun _ h => h) (fun h => ⟨h, c_Md_passes 1751738216 4 _⟩) (fun r25 S24 => ?_)
      refine x_if_eq (tgt := 125) d_Md_rule_112 (by decide) (fun _ => ?_) (fun _ => ?_)
      · refine x_aload_n_ref d_Md_rule_125 rfl ?_
        refine x_ldc2 (v := 7106423) (List.mem_append_right _ (List.mem_append_right _ (List.mem_append_right _ (List.mem_append_right _ (List.mem_append_right _ (List.mem_append_left _ (List.mem_of_getElem? (i := 169) (by decide +kernel)))))))) d_Md_rule_126 ?_
        refine x_iconst (v := 3) d_Md_rule_129 (by decide) ?_
        refine x_vI (b' := (some none)) (As := [.long 7106423, .int 3]) d_Md_rule_130 mv_Md_176 rfl (fun _ => ak_70) rfl (q99 (by decide)) ⟨Nat.le_of_ble_eq_true rfl, Nat.le_of_ble_eq_true rfl⟩ (Nat.le_of_ble_eq_true rfl) ⟨Nat.le_of_ble_eq_true rfl, Nat.le_of_ble_eq_true rfl⟩ (fun _ h => h) (fun h => ⟨h, c_Md_passes 7106423 3 _⟩) (fun r27 S26 => ?_)
        refine x_if_eq (tgt := 146) d_Md_rule_133 (by decide) (fun _ => ?_) (fun _ => ?_)
        · refine x_aload_n_ref d_Md_rule_146 rfl ?_
          refine x_ldc2 (v := 6447474) (List.mem_append_right _ (List.mem_append_right _ (List.mem_append_right _ (List.mem_append_right _ (List.mem_append_right _ (List.mem_append_left _ (List.mem_of_getElem? (i := 170) (by decide +kernel)))))))) d_Md_rule_147 ?_
          refine x_iconst (v := 3) d_Md_rule_150 (by decide) ?_
          refine x_vI (b' := (some none)) (As := [.long 6447474, .int 3]) d_Md_rule_151 mv_Md_176 rfl (fun _ => ak_70) rfl (q99 (by decide)) ⟨Nat.le_of_ble_eq_true rfl, Nat.le_of_ble_eq_true rfl⟩ (Nat.le_of_ble_eq_true rfl) ⟨Nat.le_of_ble_eq_true rfl, Nat.le_of_ble_eq_true rfl⟩ (fun _ h => h) (fun h => ⟨h, c_Md_passes 6447474 3 _⟩) (fun r29 S28 => ?_)
          refine x_if_eq (tgt := 162) d_Md_rule_154 (by decide) (fun _ => ?_) (fun _ => ?_)
          · refine x_aload_n_ref d_Md_rule_162 rfl ?_
            refine x_iconst (v := 1) d_Md_rule_163 (by decide) ?_
            refine x_aload_n_ref d_Md_rule_164 rfl ?_
            refine x_geti d_Md_rule_165 fl_Md_77 ak_70 (q99 (by decide)) ?_
            refine x_vV (b' := (some none)) (As := [.int 1, .int (gi S28 70 22)]) d_Md_rule_168 mv_Md_191 rfl (fun _ => ak_70) rfl (q99 (by decide)) ⟨Nat.le_of_ble_eq_true rfl, Nat.le_of_ble_eq_true rfl⟩ (Nat.le_of_ble_eq_true rfl) ⟨Nat.le_of_ble_eq_true rfl, Nat.le_of_ble_eq_true rfl⟩ (fun _ h => h) (fun h => ⟨h, c_Md_blame 1 (gi S28 70 22) _⟩) (fun S30 => ?_)
            exact V.kw (kJ171 0 0 S30) ⟨rfl, rfl, rfl, rfl, trivial⟩
          · refine x_iconst (v := 4) d_Md_rule_157 (by decide) ?_
            refine x_istore_n (lc' := [some (.ref 70), some (.int v1), some (.int 4), some (.int 0), none]) d_Md_rule_158 (by decide) rfl ?_
            refine x_goto (tgt := 171) d_Md_rule_159 (by decide) ?_
            exact V.kw (kJ171 4 0 S28) ⟨rfl, rfl, rfl, rfl, trivial⟩
        · refine x_iconst (v := 3) d_Md_rule_136 (by decide) ?_
          refine x_istore_n (lc' := [some (.ref 70), some (.int v1), some (.int 3), some (.int 0), none]) d_Md_rule_137 (by decide) rfl ?_
          refine x_aload_n_ref d_Md_rule_138 rfl ?_
          refine x_vI (b' := (some none)) (As := []) d_Md_rule_139 mv_Md_198 rfl (fun _ => ak_70) rfl (q99 (by decide)) ⟨Nat.le_of_ble_eq_true rfl, Nat.le_of_ble_eq_true rfl⟩ (Nat.le_of_ble_eq_true rfl) ⟨Nat.le_of_ble_eq_true rfl, Nat.le_of_ble_eq_true rfl⟩ (fun _ h => h) (fun h => ⟨h, c_Md_subject _⟩) (fun r32 S31 => ?_)
          refine x_istore_n (lc' := [some (.ref 70), some (.int v1), some (.int 3), some (.int r32), none]) d_Md_rule_142 (by decide) rfl ?_
          refine x_goto (tgt := 171) d_Md_rule_143 (by decide) ?_
          exact V.kw (kJ171 3 r32 S31) ⟨rfl, rfl, rfl, rfl, trivial⟩
      · refine x_iconst (v := 2) d_Md_rule_115 (by decide) ?_
        refine x_istore_n (lc' := [some (.ref 70), some (.int v1), some (.int 2), some (.int 0), none]) d_Md_rule_116 (by decide) rfl ?_
        refine x_aload_n_ref d_Md_rule_117 rfl ?_
        refine x_vI (b' := (some none)) (As := []) d_Md_rule_118 mv_Md_198 rfl (fun _ => ak_70) rfl (q99 (by decide)) ⟨Nat.le_of_ble_eq_true rfl, Nat.le_of_ble_eq_true rfl⟩ (Nat.le_of_ble_eq_true rfl) ⟨Nat.le_of_ble_eq_true rfl, Nat.le_of_ble_eq_true rfl⟩ (fun _ h => h) (fun h => ⟨h, c_Md_subject _⟩) (fun r34 S33 => ?_)
        refine x_istore_n (lc' := [some (.ref 70), some (.int v1), some (.int 2), some (.int r34), none]) d_Md_rule_121 (by decide) rfl ?_
        refine x_goto (tgt := 171) d_Md_rule_122 (by decide) ?_
        exact V.kw (kJ171 2 r34 S33) ⟨rfl, rfl, rfl, rfl, trivial⟩
    · refine x_iconst (v := 1) d_Md_rule_99 (by decide) ?_
      refine x_istore_n (lc' := [some (.ref 70), some (.int v1), some (.int 1), some (.int 0), none]) d_Md_rule_100 (by decide) rfl ?_
      refine x_goto (tgt := 171) d_Md_rule_101 (by decide) ?_
      exact V.kw (kJ171 1 0 S22) ⟨rfl, rfl, rfl, rfl, trivial⟩
  · refine x_aload_n_ref d_Md_rule_20 rfl ?_
    refine x_vI (b' := (some none)) (As := []) d_Md_rule_21 mv_Md_165 rfl (fun _ => ak_70) rfl (q99 (by decide)) ⟨Nat.le_of_ble_eq_true rfl, Nat.le_of_ble_eq_true rfl⟩ (Nat.le_of_ble_eq_true rfl) ⟨Nat.le_of_ble_eq_true rfl, Nat.le_of_ble_eq_true rfl⟩ (fun _ h => h) (fun h => ⟨h, c_Md_wordSize _⟩) (fun r36 S35 => ?_)
    refine x_istore (lc' := [some (.ref 70), some (.int v1), some (.int 0), some (.int 0), some (.int r36)]) d_Md_rule_24 (by decide) rfl ?_
    refine x_iload d_Md_rule_26 rfl ?_
    refine x_iconst (v := 1) d_Md_rule_28 (by decide) ?_
    refine x_nm (fun J55 hJ55 => ?_)
    have kJ55 : ∀ (S37 : AS), V G md_Md_rule (QM G md_Md_rule iV) (fun _ => True) (some none) 55 [some (.ref 70), some (.int v1), some (.int 0), some (.int 0), none] [] 0 0 S37 (J55 S37) := by
      subst hJ55
      intro S37
      refine x_aload_n_ref d_Md_rule_55 rfl ?_
      refine x_geti d_Md_rule_56 fl_Md_83 ak_70 (q99 (by decide)) ?_
      refine x_nm (fun J75 hJ75 => ?_)
      have kJ75 : ∀ (a38 : Int32) (S39 : AS), V G md_Md_rule (QM G md_Md_rule iV) (fun _ => True) (some none) 75 [some (.ref 70), some (.int v1), some (.int 0), some (.int a38), none] [] 0 0 S39 (J75 a38 S39) := by
        subst hJ75
        intro a38 S39
        refine x_aload_n_ref d_Md_rule_75 rfl ?_
        refine x_dup d_Md_rule_76 rfl ?_
        refine x_geti d_Md_rule_77 fl_Md_77 ak_70 (q99 (by decide)) ?_
        refine x_iconst (v := 1) d_Md_rule_80 (by decide) ?_
        refine x_iadd d_Md_rule_81 ?_
        refine x_puti d_Md_rule_82 fl_Md_77 rfl ak_70 (q99 (by decide)) (fun h => nomatch h) (fun h => nomatch h) ?_
        refine x_nmS (fun S40 _ => ?_)
        refine x_goto (tgt := 171) d_Md_rule_85 (by decide) ?_
        exact V.kw (kJ171 0 a38 S40) ⟨rfl, rfl, rfl, rfl, trivial⟩
      clear hJ75
      refine x_if_ne (tgt := 75) d_Md_rule_59 (by decide) (fun _ => ?_) (fun _ => ?_)
      · exact V.kw (kJ75 0 S37) ⟨rfl, rfl, rfl, rfl, trivial⟩
      · refine x_aload_n_ref d_Md_rule_62 rfl ?_
        refine x_getr d_Md_rule_63 fl_Md_7 ak_70 (q99 (by decide)) (shx sh_70_0) ?_
        refine x_aload_n_ref d_Md_rule_66 rfl ?_
        refine x_geti d_Md_rule_67 fl_Md_77 ak_70 (q99 (by decide)) ?_
        refine x_iald d_Md_rule_70 ak_71 (q99 (by decide)) ?_
        refine x_bipush (v := 97) d_Md_rule_71 (by decide) ?_
        refine x_isub d_Md_rule_73 ?_
        refine x_topi (fun v41 => ?_)
        refine x_istore_n (lc' := [some (.ref 70), some (.int v1), some (.int 0), some (.int v41), none]) d_Md_rule_74 (by decide) rfl ?_
        exact V.kw (kJ75 v41 S37) ⟨rfl, rfl, rfl, rfl, trivial⟩
    clear hJ55
    refine x_nm (fun J46 hJ46 => ?_)
    have kJ46 : ∀ (S42 : AS), V G md_Md_rule (QM G md_Md_rule iV) (fun _ => True) (some none) 46 [some (.ref 70), some (.int v1), some (.int 0), some (.int 0), none] [] 0 0 S42 (J46 S42) := by
      subst hJ46
      intro S42
      refine x_aload_n_ref d_Md_rule_46 rfl ?_
      refine x_iconst (v := 1) d_Md_rule_47 (by decide) ?_
      refine x_aload_n_ref d_Md_rule_48 rfl ?_
      refine x_geti d_Md_rule_49 fl_Md_77 ak_70 (q99 (by decide)) ?_
      refine x_vV (b' := (some none)) (As := [.int 1, .int (gi S42 70 22)]) d_Md_rule_52 mv_Md_191 rfl (fun _ => ak_70) rfl (q99 (by decide)) ⟨Nat.le_of_ble_eq_true rfl, Nat.le_of_ble_eq_true rfl⟩ (Nat.le_of_ble_eq_true rfl) ⟨Nat.le_of_ble_eq_true rfl, Nat.le_of_ble_eq_true rfl⟩ (fun _ h => h) (fun h => ⟨h, c_Md_blame 1 (gi S42 70 22) _⟩) (fun S43 => ?_)
      exact V.kw (kJ55 S43) ⟨rfl, rfl, rfl, rfl, trivial⟩
    clear hJ46
    refine x_icmp_ne (tgt := 46) d_Md_rule_29 (by decide) (fun _ => ?_) (fun _ => ?_)
    · exact V.kw (kJ46 S35) ⟨rfl, rfl, rfl, rfl, trivial⟩
    · refine x_aload_n_ref d_Md_rule_32 rfl ?_
      refine x_getr d_Md_rule_33 fl_Md_7 ak_70 (q99 (by decide)) (shx sh_70_0) ?_
      refine x_aload_n_ref d_Md_rule_36 rfl ?_
      refine x_geti d_Md_rule_37 fl_Md_77 ak_70 (q99 (by decide)) ?_
      refine x_iald d_Md_rule_40 ak_71 (q99 (by decide)) ?_
      refine x_bipush (v := 104) d_Md_rule_41 (by decide) ?_
      refine x_icmp_le (tgt := 55) d_Md_rule_43 (by decide) (fun _ => ?_) (fun _ => ?_)
      · exact V.kw (kJ55 S35) ⟨rfl, rfl, rfl, rfl, trivial⟩
      · exact V.kw (kJ46 S35) ⟨rfl, rfl, rfl, rfl, trivial⟩
theorem c_Md_rule {G : GX} (S : AS) : CN G y_Md_rule b_Md_rule 5 none ({ frames := 6, cells := 0, slots := 0, locals := 137 } : Room) (some none) iV [.ref 70] S (f_Md_rule S) := cn_of_v (M := md_Md_rule) (ini := false) rfl (by decide +kernel) (fun h => nomatch h) rfl (Nat.le_of_ble_eq_true rfl) (v_Md_rule S)
noncomputable def f_Md_reign_L115 (J150 : AS → Option (Int32 × AS)) (x1 : Int32) (x2 : Int32) : Nat → Int32 → AS → Option (Int32 × AS)
  | 0, _, _ => none
  | n + 1, c3, S => if (gi S 70 21) ≤ c3 then (J150 S) else (chk (vp_in c3 600) (chk (vp_in ((600 * (gi S 70 15)) + c3) 3600) (nm (si S 83 (ix ((600 * (gi S 70 15)) + c3)) (gi S 84 (ix c3))) fun S17 => f_Md_reign_L115 J150 x1 x2 n (c3 + 1) S17)))
noncomputable def f_Md_reign_L35 (J82 : Int32 → AS → Option (Int32 × AS)) (x1 : Int32) : Nat → Int32 → AS → Option (Int32 × AS)
  | 0, _, _ => none
  | n + 1, c2, S => bI (f_Md_here S) fun r19 S18 => if r19 = (-1) then (J82 c2 S18) else (if (gi S18 70 24) = 0 then (nm (fun (S20 : AS) => nm (fun (S21 : AS) => f_Md_reign_L35 J82 x1 n (c2 + 1) S21) fun J76 => if (gi S20 70 24) = 0 then (bV (f_Md_rule S20) fun S22 => J76 S22) else (J76 S20)) fun J65 => if c2 = 16 then (bV (f_Md_blame 1 (gi S18 70 22) S18) fun S23 => J65 S23) else (J65 S18)) else (J82 c2 S18))
noncomputable def f_Md_reign (p1 : Int32) (S : AS) : Option (Int32 × AS) := nm (si S 70 23 (gi S 70 1)) fun S1 => nm (si S1 70 1 0) fun S2 => nm (si S2 70 22 0) fun S3 => nm (si S3 70 21 0) fun S4 => nm (si S4 70 24 0) fun S5 => nm (si S5 70 25 (-1)) fun S6 => nm (fun (a7 : Int32) (S8 : AS) => if (gi S8 70 24) ≤ 0 then (bI (f_Md_is p1 0 9999999 S8) fun r10 S9 => nm (fun (S11 : AS) => some ((-2), S11)) fun J110 => if r10 = 0 then (J110 S9) else (if (gi S9 70 15) = 6 then (J110 S9) else (nm (fun (S12 : AS) => chk (vp_in (gi S12 70 15) 6) (nm (si S12 80 (ix (gi S12 70 15)) p1) fun S13 => chk (vp_in (gi S13 70 15) 6) (nm (si S13 81 (ix (gi S13 70 15)) a7) fun S14 => chk (vp_in (gi S14 70 15) 6) (nm (si S14 82 (ix (gi S14 70 15)) (gi S14 70 21)) fun S15 => nm (si S15 70 15 ((gi S15 70 15) + 1)) fun S16 => some (a7, S16))))) fun J150 => f_Md_reign_L115 J150 p1 a7 FU 0 S9))) else (some ((-1), S8))) fun J82 => f_Md_reign_L35 J82 p1 FU 0 S6
set_option maxHeartbeats 4000000 in
theorem v_Md_reign_L115 {G : GX} (J150 : AS → Option (Int32 × AS)) (x1 : Int32) (x2 : Int32) (kJ150 : ∀ (T : AS), V G md_Md_reign (QM G md_Md_reign iI) (fun _ => True) (some none) 150 [some (.ref 70), some (.int x1), some (.int x2), none] [] 0 0 T (J150 T)) : ∀ (n : Nat) (c3 : Int32) (S : AS), V G md_Md_reign (QM G md_Md_reign iI) (fun _ => True) (some none) 115 [some (.ref 70), some (.int x1), some (.int x2), some (.int c3)] [] 0 0 S (f_Md_reign_L115 J150 x1 x2 n c3 S) := by
  intro n
  induction n with
  | zero => intro c3 S; exact V.none
  | succ n ih =>
    intro c3 S
    rw [f_Md_reign_L115]
    refine x_iload_n d_Md_reign_115 rfl ?_
    refine x_aload_n_ref d_Md_reign_116 rfl ?_
    refine x_geti d_Md_reign_117 fl_Md_74 ak_70 (q99 (by decide)) ?_
    refine x_icmp_ge (tgt := 150) d_Md_reign_120 (by decide) (fun _ => ?_) (fun _ => ?_)
    · exact V.kw (kJ150 S) ⟨rfl, rfl, rfl, trivial⟩
    · refine x_aload_n_ref d_Md_reign_123 rfl ?_
      refine x_getr d_Md_reign_124 fl_Md_68 ak_70 (q99 (by decide)) (shx sh_70_19) ?_
      refine x_sipush (v := 600) d_Md_reign_127 (by decide) ?_
      refine x_aload_n_ref d_Md_reign_130 rfl ?_
      refine x_geti d_Md_reign_131 fl_Md_56 ak_70 (q99 (by decide)) ?_
      refine x_imul d_Md_reign_134 ?_
      refine x_iload_n d_Md_reign_135 rfl ?_
      refine x_iadd d_Md_reign_136 ?_
      refine x_aload_n_ref d_Md_reign_137 rfl ?_
      refine x_getr d_Md_reign_138 fl_Md_71 ak_70 (q99 (by decide)) (shx sh_70_20) ?_
      refine x_iload_n d_Md_reign_141 rfl ?_
      refine x_iald d_Md_reign_142 ak_84 (q99 (by decide)) ?_
      refine x_iast d_Md_reign_143 ak_83 (q99 (by decide)) ?_
      refine x_nmS (fun S17 _ => ?_)
      refine x_iinc (w := c3 + 1) (lc' := [some (.ref 70), some (.int x1), some (.int x2), some (.int (c3 + 1))]) d_Md_reign_144 (by decide) rfl rfl rfl ?_
      refine x_goto (tgt := 115) d_Md_reign_147 (by decide) ?_
      exact V.kw (ih (c3 + 1) S17) ⟨rfl, rfl, rfl, rfl, trivial⟩
set_option maxHeartbeats 4000000 in
theorem v_Md_reign_L35 {G : GX} (J82 : Int32 → AS → Option (Int32 × AS)) (x1 : Int32) (kJ82 : ∀ (a7 : Int32) (T : AS), V G md_Md_reign (QM G md_Md_reign iI) (fun _ => True) (some none) 82 [some (.ref 70), some (.int x1), some (.int a7), none] [] 0 0 T (J82 a7 T)) : ∀ (n : Nat) (c2 : Int32) (S : AS), V G md_Md_reign (QM G md_Md_reign iI) (fun _ => True) (some none) 35 [some (.ref 70), some (.int x1), some (.int c2), none] [] 0 0 S (f_Md_reign_L35 J82 x1 n c2 S) := by
  intro n
  induction n with
  | zero => intro c2 S; exact V.none
  | succ n ih =>
    intro c2 S
    rw [f_Md_reign_L35]
    refine x_aload_n_ref d_Md_reign_35 rfl ?_
    refine x_vI (b' := (some none)) (As := []) d_Md_reign_36 mv_Md_158 rfl (fun _ => ak_70) rfl (q99 (by decide)) ⟨Nat.le_of_ble_eq_true rfl, Nat.le_of_ble_eq_true rfl⟩ (Nat.le_of_ble_eq_true rfl) ⟨Nat.le_of_ble_eq_true rfl, Nat.le_of_ble_eq_true rfl⟩ (fun _ h => h) (fun h => ⟨h, c_Md_here _⟩) (fun r19 S18 => ?_)
    refine x_iconst (v := -1) d_Md_reign_39 (by decide) ?_
    refine x_icmp_eq (tgt := 82) d_Md_reign_40 (by decide) (fun _ => ?_) (fun _ => ?_)
    · exact V.kw (kJ82 c2 S18) ⟨rfl, rfl, rfl, trivial⟩
    · refine x_aload_n_ref d_Md_reign_43 rfl ?_
      refine x_geti d_Md_reign_44 fl_Md_83 ak_70 (q99 (by decide)) ?_
      refine x_if_ne (tgt := 82) d_Md_reign_47 (by decide) (fun _ => ?_) (fun _ => ?_)
      · exact V.kw (kJ82 c2 S18) ⟨rfl, rfl, rfl, trivial⟩
      · refine x_iload_n d_Md_reign_50 rfl ?_
        refine x_bipush (v := 16) d_Md_reign_51 (by decide) ?_
        refine x_nm (fun J65 hJ65 => ?_)
        have kJ65 : ∀ (S20 : AS), V G md_Md_reign (QM G md_Md_reign iI) (fun _ => True) (some none) 65 [some (.ref 70), some (.int x1), some (.int c2), none] [] 0 0 S20 (J65 S20) := by
          subst hJ65
          intro S20
          refine x_aload_n_ref d_Md_reign_65 rfl ?_
          refine x_geti d_Md_reign_66 fl_Md_83 ak_70 (q99 (by decide)) ?_
          refine x_nm (fun J76 hJ76 => ?_)
          have kJ76 : ∀ (S21 : AS), V G md_Md_reign (QM G md_Md_reign iI) (fun _ => True) (some none) 76 [some (.ref 70), some (.int x1), some (.int c2), none] [] 0 0 S21 (J76 S21) := by
            subst hJ76
            intro S21
            refine x_iinc (w := c2 + 1) (lc' := [some (.ref 70), some (.int x1), some (.int (c2 + 1)), none]) d_Md_reign_76 (by decide) rfl rfl rfl ?_
            refine x_goto (tgt := 35) d_Md_reign_79 (by decide) ?_
            exact V.kw (ih (c2 + 1) S21) ⟨rfl, rfl, rfl, trivial⟩
          clear hJ76
          refine x_if_ne (tgt := 76) d_Md_reign_69 (by decide) (fun _ => ?_) (fun _ => ?_)
          · exact V.kw (kJ76 S20) ⟨rfl, rfl, rfl, trivial⟩
          · refine x_aload_n_ref d_Md_reign_72 rfl ?_
            refine x_vV (b' := (some none)) (As := []) d_Md_reign_73 mv_Md_226 rfl (fun _ => ak_70) rfl (q99 (by decide)) ⟨Nat.le_of_ble_eq_true rfl, Nat.le_of_ble_eq_true rfl⟩ (Nat.le_of_ble_eq_true rfl) ⟨Nat.le_of_ble_eq_true rfl, Nat.le_of_ble_eq_true rfl⟩ (fun _ h => h) (fun h => ⟨h, c_Md_rule _⟩) (fun S22 => ?_)
            exact V.kw (kJ76 S22) ⟨rfl, rfl, rfl, trivial⟩
        clear hJ65
        refine x_icmp_ne (tgt := 65) d_Md_reign_53 (by decide) (fun _ => ?_) (fun _ => ?_)
        · exact V.kw (kJ65 S18) ⟨rfl, rfl, rfl, trivial⟩
        · refine x_aload_n_ref d_Md_reign_56 rfl ?_
          refine x_iconst (v := 1) d_Md_reign_57 (by decide) ?_
          refine x_aload_n_ref d_Md_reign_58 rfl ?_
          refine x_geti d_Md_reign_59 fl_Md_77 ak_70 (q99 (by decide)) ?_
          refine x_vV (b' := (some none)) (As := [.int 1, .int (gi S18 70 22)]) d_Md_reign_62 mv_Md_191 rfl (fun _ => ak_70) rfl (q99 (by decide)) ⟨Nat.le_of_ble_eq_true rfl, Nat.le_of_ble_eq_true rfl⟩ (Nat.le_of_ble_eq_true rfl) ⟨Nat.le_of_ble_eq_true rfl, Nat.le_of_ble_eq_true rfl⟩ (fun _ h => h) (fun h => ⟨h, c_Md_blame 1 (gi S18 70 22) _⟩) (fun S23 => ?_)
          exact V.kw (kJ65 S23) ⟨rfl, rfl, rfl, trivial⟩
set_option maxHeartbeats 4000000 in
theorem v_Md_reign {G : GX} (p1 : Int32) (S : AS) : V G md_Md_reign (QM G md_Md_reign iI) (fun _ => True) (some none) 0 [some (.ref 70), some (.int p1), none, none] [] 0 0 S (f_Md_reign p1 S) := by
  unfold f_Md_reign
  refine x_aload_n_ref d_Md_reign_0 rfl ?_
  refine x_aload_n_ref d_Md_reign_1 rfl ?_
  refine x_geti d_Md_reign_2 fl_Md_13 ak_70 (q99 (by decide)) ?_
  refine x_puti d_Md_reign_5 fl_Md_80 rfl ak_70 (q99 (by decide)) (fun h => nomatch h) (fun h => nomatch h) ?_
  refine x_nmS (fun S1 _ => ?_)
  refine x_aload_n_ref d_Md_reign_8 rfl ?_
  refine x_iconst (v := 0) d_Md_reign_9 (by decide) ?_
  refine x_puti d_Md_reign_10 fl_Md_13 rfl ak_70 (q99 (by decide)) (fun h => nomatch h) (fun h => nomatch h) ?_
  refine x_nmS (fun S2 _ => ?_)
  refine x_aload_n_ref d_Md_reign_13 rfl ?_
  refine x_iconst (v := 0) d_Md_reign_14 (by decide) ?_
  refine x_puti d_Md_reign_15 fl_Md_77 rfl ak_70 (q99 (by decide)) (fun h => nomatch h) (fun h => nomatch h) ?_
  refine x_nmS (fun S3 _ => ?_)
  refine x_aload_n_ref d_Md_reign_18 rfl ?_
  refine x_iconst (v := 0) d_Md_reign_19 (by decide) ?_
  refine x_puti d_Md_reign_20 fl_Md_74 rfl ak_70 (q99 (by decide)) (fun h => nomatch h) (fun h => nomatch h) ?_
  refine x_nmS (fun S4 _ => ?_)
  refine x_aload_n_ref d_Md_reign_23 rfl ?_
  refine x_iconst (v := 0) d_Md_reign_24 (by decide) ?_
  refine x_puti d_Md_reign_25 fl_Md_83 rfl ak_70 (q99 (by decide)) (fun h => nomatch h) (fun h => nomatch h) ?_
  refine x_nmS (fun S5 _ => ?_)
  refine x_aload_n_ref d_Md_reign_28 rfl ?_
  refine x_iconst (v := -1) d_Md_reign_29 (by decide) ?_
  refine x_puti d_Md_reign_30 fl_Md_86 rfl ak_70 (q99 (by decide)) (fun h => nomatch h) (fun h => nomatch h) ?_
  refine x_nmS (fun S6 _ => ?_)
  refine x_iconst (v := 0) d_Md_reign_33 (by decide) ?_
  refine x_istore_n (lc' := [some (.ref 70), some (.int p1), some (.int 0), none]) d_Md_reign_34 (by decide) rfl ?_
  refine x_nm (fun J82 hJ82 => ?_)
  have kJ82 : ∀ (a7 : Int32) (S8 : AS), V G md_Md_reign (QM G md_Md_reign iI) (fun _ => True) (some none) 82 [some (.ref 70), some (.int p1), some (.int a7), none] [] 0 0 S8 (J82 a7 S8) := by
    subst hJ82
    intro a7 S8
    refine x_aload_n_ref d_Md_reign_82 rfl ?_
    refine x_geti d_Md_reign_83 fl_Md_83 ak_70 (q99 (by decide)) ?_
    refine x_if_le (tgt := 91) d_Md_reign_86 (by decide) (fun _ => ?_) (fun _ => ?_)
    · refine x_iload_n d_Md_reign_91 rfl ?_
      refine x_iconst (v := 0) d_Md_reign_92 (by decide) ?_
      refine x_ldc (v := 9999999) (List.mem_append_right _ (List.mem_append_right _ (List.mem_append_right _ (List.mem_append_right _ (List.mem_append_right _ (List.mem_append_left _ (List.mem_of_getElem? (i := 188) (by decide +kernel)))))))) d_Md_reign_93 ?_
      refine x_sI (b' := (some none)) (As := [.int p1, .int 0, .int 9999999]) d_Md_reign_95 ms_Md_147 rfl ⟨Nat.le_of_ble_eq_true rfl, Nat.le_of_ble_eq_true rfl⟩ (Nat.le_of_ble_eq_true rfl) ⟨Nat.le_of_ble_eq_true rfl, Nat.le_of_ble_eq_true rfl⟩ (fun _ h => h) (fun h => ⟨h, c_Md_is p1 0 9999999 _⟩) (fun r10 S9 => ?_)
      refine x_nm (fun J110 hJ110 => ?_)
      have kJ110 : ∀ (S11 : AS), V G md_Md_reign (QM G md_Md_reign iI) (fun _ => True) (some none) 110 [none, none, none, none] [] 0 0 S11 (J110 S11) := by
        subst hJ110
        intro S11
        refine x_bipush (v := -2) d_Md_reign_110 (by decide) ?_
        exact x_ret d_Md_reign_112 rfl rfl (Nat.le_of_ble_eq_true rfl) (Nat.le_of_ble_eq_true rfl)
      clear hJ110
      refine x_if_eq (tgt := 110) d_Md_reign_98 (by decide) (fun _ => ?_) (fun _ => ?_)
      · exact V.kw (kJ110 S9) trivial
      · refine x_aload_n_ref d_Md_reign_101 rfl ?_
        refine x_geti d_Md_reign_102 fl_Md_56 ak_70 (q99 (by decide)) ?_
        refine x_bipush (v := 6) d_Md_reign_105 (by decide) ?_
        refine x_icmp_ne (tgt := 113) d_Md_reign_107 (by decide) (fun _ => ?_) (fun _ => ?_)
        · refine x_iconst (v := 0) d_Md_reign_113 (by decide) ?_
          refine x_istore_n (lc' := [some (.ref 70), some (.int p1), some (.int a7), some (.int 0)]) d_Md_reign_114 (by decide) rfl ?_
          refine x_nm (fun J150 hJ150 => ?_)
          have kJ150 : ∀ (S12 : AS), V G md_Md_reign (QM G md_Md_reign iI) (fun _ => True) (some none) 150 [some (.ref 70), some (.int p1), some (.int a7), none] [] 0 0 S12 (J150 S12) := by
            subst hJ150
            intro S12
            refine x_aload_n_ref d_Md_reign_150 rfl ?_
            refine x_getr d_Md_reign_151 fl_Md_59 ak_70 (q99 (by decide)) (shx sh_70_16) ?_
            refine x_aload_n_ref d_Md_reign_154 rfl ?_
            refine x_geti d_Md_reign_155 fl_Md_56 ak_70 (q99 (by decide)) ?_
            refine x_iload_n d_Md_reign_158 rfl ?_
            refine x_iast d_Md_reign_159 ak_80 (q99 (by decide)) ?_
            refine x_nmS (fun S13 _ => ?_)
            refine x_aload_n_ref d_Md_reign_160 rfl ?_
            refine x_getr d_Md_reign_161 fl_Md_62 ak_70 (q99 (by decide)) (shx sh_70_17) ?_
            refine x_aload_n_ref d_Md_reign_164 rfl ?_
            refine x_geti d_Md_reign_165 fl_Md_56 ak_70 (q99 (by decide)) ?_
            refine x_iload_n d_Md_reign_168 rfl ?_
            refine x_iast d_Md_reign_169 ak_81 (q99 (by decide)) ?_
            refine x_nmS (fun S14 _ => ?_)
            refine x_aload_n_ref d_Md_reign_170 rfl ?_
            refine x_getr d_Md_reign_171 fl_Md_65 ak_70 (q99 (by decide)) (shx sh_70_18) ?_
            refine x_aload_n_ref d_Md_reign_174 rfl ?_
            refine x_geti d_Md_reign_175 fl_Md_56 ak_70 (q99 (by decide)) ?_
            refine x_aload_n_ref d_Md_reign_178 rfl ?_
            refine x_geti d_Md_reign_179 fl_Md_74 ak_70 (q99 (by decide)) ?_
            refine x_iast d_Md_reign_182 ak_82 (q99 (by decide)) ?_
            refine x_nmS (fun S15 _ => ?_)
            refine x_aload_n_ref d_Md_reign_183 rfl ?_
            refine x_dup d_Md_reign_184 rfl ?_
            refine x_geti d_Md_reign_185 fl_Md_56 ak_70 (q99 (by decide)) ?_
            refine x_iconst (v := 1) d_Md_reign_188 (by decide) ?_
            refine x_iadd d_Md_reign_189 ?_
            refine x_puti d_Md_reign_190 fl_Md_56 rfl ak_70 (q99 (by decide)) (fun h => nomatch h) (fun h => nomatch h) ?_
            refine x_nmS (fun S16 _ => ?_)
            refine x_iload_n d_Md_reign_193 rfl ?_
            exact x_ret d_Md_reign_194 rfl rfl (Nat.le_of_ble_eq_true rfl) (Nat.le_of_ble_eq_true rfl)
          clear hJ150
          exact V.kw (v_Md_reign_L115 J150 p1 a7 kJ150 FU 0 S9) ⟨rfl, rfl, rfl, rfl, trivial⟩
        · exact V.kw (kJ110 S9) trivial
    · refine x_iconst (v := -1) d_Md_reign_89 (by decide) ?_
      exact x_ret d_Md_reign_90 rfl rfl (Nat.le_of_ble_eq_true rfl) (Nat.le_of_ble_eq_true rfl)
  clear hJ82
  exact V.kw (v_Md_reign_L35 J82 p1 kJ82 FU 0 S6) ⟨rfl, rfl, rfl, trivial⟩
theorem c_Md_reign {G : GX} (p1 : Int32) (S : AS) : CN G y_Md_reign b_Md_reign 4 (some (FieldType.int)) ({ frames := 7, cells := 0, slots := 0, locals := 161 } : Room) (some none) iI [.ref 70, .int p1] S (f_Md_reign p1 S) := cn_of_v (M := md_Md_reign) (ini := false) rfl (by decide +kernel) (fun h => nomatch h) rfl (Nat.le_of_ble_eq_true rfl) (v_Md_reign p1 S)
noncomputable def f_Md_fault (p1 : Int32) (S : AS) : Option (Int32 × AS) := if p1 = 0 then (some (gi S 70 24, S)) else (if p1 = 1 then (some (gi S 70 25, S)) else (some ((-1), S)))
set_option maxHeartbeats 4000000 in
theorem v_Md_fault {G : GX} (p1 : Int32) (S : AS) : V G md_Md_fault (QM G md_Md_fault iI) (fun _ => True) (some none) 0 [some (.ref 70), some (.int p1)] [] 0 0 S (f_Md_fault p1 S) := by
  unfold f_Md_fault
  refine x_iload_n d_Md_fault_0 rfl ?_
  refine x_if_ne (tgt := 11) d_Md_fault_1 (by decide) (fun _ => ?_) (fun _ => ?_)
  · refine x_iload_n d_Md_fault_11 rfl ?_
    refine x_iconst (v := 1) d_Md_fault_12 (by decide) ?_
    refine x_icmp_ne (tgt := 23) d_Md_fault_13 (by decide) (fun _ => ?_) (fun _ => ?_)
    · refine x_iconst (v := -1) d_Md_fault_23 (by decide) ?_
      exact x_ret d_Md_fault_24 rfl rfl (Nat.le_of_ble_eq_true rfl) (Nat.le_of_ble_eq_true rfl)
    · refine x_aload_n_ref d_Md_fault_16 rfl ?_
      refine x_geti d_Md_fault_17 fl_Md_86 ak_70 (q99 (by decide)) ?_
      refine x_goto (tgt := 24) d_Md_fault_20 (by decide) ?_
      exact x_ret d_Md_fault_24 rfl rfl (Nat.le_of_ble_eq_true rfl) (Nat.le_of_ble_eq_true rfl)
  · refine x_aload_n_ref d_Md_fault_4 rfl ?_
    refine x_geti d_Md_fault_5 fl_Md_83 ak_70 (q99 (by decide)) ?_
    refine x_goto (tgt := 24) d_Md_fault_8 (by decide) ?_
    exact x_ret d_Md_fault_24 rfl rfl (Nat.le_of_ble_eq_true rfl) (Nat.le_of_ble_eq_true rfl)
theorem c_Md_fault {G : GX} (p1 : Int32) (S : AS) : CN G y_Md_fault b_Md_fault 2 (some (FieldType.int)) ({ frames := 0, cells := 0, slots := 0, locals := 0 } : Room) (some none) iI [.ref 70, .int p1] S (f_Md_fault p1 S) := cn_of_v (M := md_Md_fault) (ini := false) rfl (by decide +kernel) (fun h => nomatch h) rfl (Nat.le_of_ble_eq_true rfl) (v_Md_fault p1 S)
noncomputable def f_Md_force_L4 (J54 : Int32 → AS → Option (Int32 × AS)) (x1 : Int32) : Nat → Int32 → Int32 → AS → Option (Int32 × AS)
  | 0, _, _, _ => none
  | n + 1, c2, c3, S => if (gi S 70 15) ≤ c3 then (J54 c2 S) else (chk (vp_in c3 6) (nm (fun (a3 : Int32) (S4 : AS) => f_Md_force_L4 J54 x1 n a3 (c3 + 1) S4) fun J47 => nm (fun (S5 : AS) => J47 c2 S5) fun J46 => if x1 < (gi S 80 (ix c3)) then (J46 S) else (nm (fun (S6 : AS) => J47 c3 S6) fun J42 => if c2 = (-1) then (J42 S) else (chk (vp_in c3 6) (chk (vp_in c2 6) (if (gi S 80 (ix c3)) < (gi S 80 (ix c2)) then (J46 S) else (J42 S)))))))
noncomputable def f_Md_force (p1 : Int32) (S : AS) : Option (Int32 × AS) := nm (fun (a1 : Int32) (S2 : AS) => some (a1, S2)) fun J54 => f_Md_force_L4 J54 p1 FU (-1) 0 S
set_option maxHeartbeats 4000000 in
theorem v_Md_force_L4 {G : GX} (J54 : Int32 → AS → Option (Int32 × AS)) (x1 : Int32) (kJ54 : ∀ (a1 : Int32) (T : AS), V G md_Md_force (QM G md_Md_force iI) (fun _ => True) (some none) 54 [none, none, some (.int a1), none] [] 0 0 T (J54 a1 T)) : ∀ (n : Nat) (c2 : Int32) (c3 : Int32) (S : AS), V G md_Md_force (QM G md_Md_force iI) (fun _ => True) (some none) 4 [some (.ref 70), some (.int x1), some (.int c2), some (.int c3)] [] 0 0 S (f_Md_force_L4 J54 x1 n c2 c3 S) := by
  intro n
  induction n with
  | zero => intro c2 c3 S; exact V.none
  | succ n ih =>
    intro c2 c3 S
    rw [f_Md_force_L4]
    refine x_iload_n d_Md_force_4 rfl ?_
    refine x_aload_n_ref d_Md_force_5 rfl ?_
    refine x_geti d_Md_force_6 fl_Md_56 ak_70 (q99 (by decide)) ?_
    refine x_icmp_ge (tgt := 54) d_Md_force_9 (by decide) (fun _ => ?_) (fun _ => ?_)
    · exact V.kw (kJ54 c2 S) ⟨rfl, trivial⟩
    · refine x_aload_n_ref d_Md_force_12 rfl ?_
      refine x_getr d_Md_force_13 fl_Md_59 ak_70 (q99 (by decide)) (shx sh_70_16) ?_
      refine x_iload_n d_Md_force_16 rfl ?_
      refine x_iald d_Md_force_17 ak_80 (q99 (by decide)) ?_
      refine x_iload_n d_Md_force_18 rfl ?_
      refine x_nm (fun J47 hJ47 => ?_)
      have kJ47 : ∀ (a3 : Int32) (S4 : AS), V G md_Md_force (QM G md_Md_force iI) (fun _ => True) (some none) 47 [some (.ref 70), some (.int x1), none, some (.int c3)] [.int a3] 0 0 S4 (J47 a3 S4) := by
        subst hJ47
        intro a3 S4
        refine x_istore_n (lc' := [some (.ref 70), some (.int x1), some (.int a3), some (.int c3)]) d_Md_force_47 (by decide) rfl ?_
        refine x_iinc (w := c3 + 1) (lc' := [some (.ref 70), some (.int x1), some (.int a3), some (.int (c3 + 1))]) d_Md_force_48 (by decide) rfl rfl rfl ?_
        refine x_goto (tgt := 4) d_Md_force_51 (by decide) ?_
        exact V.kw (ih a3 (c3 + 1) S4) ⟨rfl, rfl, rfl, rfl, trivial⟩
      clear hJ47
      refine x_nm (fun J46 hJ46 => ?_)
      have kJ46 : ∀ (S5 : AS), V G md_Md_force (QM G md_Md_force iI) (fun _ => True) (some none) 46 [some (.ref 70), some (.int x1), some (.int c2), some (.int c3)] [] 0 0 S5 (J46 S5) := by
        subst hJ46
        intro S5
        refine x_iload_n d_Md_force_46 rfl ?_
        exact V.kw (kJ47 c2 S5) ⟨rfl, rfl, rfl, trivial⟩
      clear hJ46
      refine x_icmp_gt (tgt := 46) d_Md_force_19 (by decide) (fun _ => ?_) (fun _ => ?_)
      · exact V.kw (kJ46 S) ⟨rfl, rfl, rfl, rfl, trivial⟩
      · refine x_iload_n d_Md_force_22 rfl ?_
        refine x_iconst (v := -1) d_Md_force_23 (by decide) ?_
        refine x_nm (fun J42 hJ42 => ?_)
        have kJ42 : ∀ (S6 : AS), V G md_Md_force (QM G md_Md_force iI) (fun _ => True) (some none) 42 [some (.ref 70), some (.int x1), none, some (.int c3)] [] 0 0 S6 (J42 S6) := by
          subst hJ42
          intro S6
          refine x_iload_n d_Md_force_42 rfl ?_
          refine x_goto (tgt := 47) d_Md_force_43 (by decide) ?_
          exact V.kw (kJ47 c3 S6) ⟨rfl, rfl, rfl, trivial⟩
        clear hJ42
        refine x_icmp_eq (tgt := 42) d_Md_force_24 (by decide) (fun _ => ?_) (fun _ => ?_)
        · exact V.kw (kJ42 S) ⟨rfl, rfl, rfl, trivial⟩
        · refine x_aload_n_ref d_Md_force_27 rfl ?_
          refine x_getr d_Md_force_28 fl_Md_59 ak_70 (q99 (by decide)) (shx sh_70_16) ?_
          refine x_iload_n d_Md_force_31 rfl ?_
          refine x_iald d_Md_force_32 ak_80 (q99 (by decide)) ?_
          refine x_aload_n_ref d_Md_force_33 rfl ?_
          refine x_getr d_Md_force_34 fl_Md_59 ak_70 (q99 (by decide)) (shx sh_70_16) ?_
          refine x_iload_n d_Md_force_37 rfl ?_
          refine x_iald d_Md_force_38 ak_80 (q99 (by decide)) ?_
          refine x_icmp_lt (tgt := 46) d_Md_force_39 (by decide) (fun _ => ?_) (fun _ => ?_)
          · exact V.kw (kJ46 S) ⟨rfl, rfl, rfl, rfl, trivial⟩
          · exact V.kw (kJ42 S) ⟨rfl, rfl, rfl, trivial⟩
set_option maxHeartbeats 4000000 in
theorem v_Md_force {G : GX} (p1 : Int32) (S : AS) : V G md_Md_force (QM G md_Md_force iI) (fun _ => True) (some none) 0 [some (.ref 70), some (.int p1), none, none] [] 0 0 S (f_Md_force p1 S) := by
  unfold f_Md_force
  refine x_iconst (v := -1) d_Md_force_0 (by decide) ?_
  refine x_istore_n (lc' := [some (.ref 70), some (.int p1), some (.int (-1)), none]) d_Md_force_1 (by decide) rfl ?_
  refine x_iconst (v := 0) d_Md_force_2 (by decide) ?_
  refine x_istore_n (lc' := [some (.ref 70), some (.int p1), some (.int (-1)), some (.int 0)]) d_Md_force_3 (by decide) rfl ?_
  refine x_nm (fun J54 hJ54 => ?_)
  have kJ54 : ∀ (a1 : Int32) (S2 : AS), V G md_Md_force (QM G md_Md_force iI) (fun _ => True) (some none) 54 [none, none, some (.int a1), none] [] 0 0 S2 (J54 a1 S2) := by
    subst hJ54
    intro a1 S2
    refine x_iload_n d_Md_force_54 rfl ?_
    exact x_ret d_Md_force_55 rfl rfl (Nat.le_of_ble_eq_true rfl) (Nat.le_of_ble_eq_true rfl)
  clear hJ54
  exact V.kw (v_Md_force_L4 J54 p1 kJ54 FU (-1) 0 S) ⟨rfl, rfl, rfl, rfl, trivial⟩
theorem c_Md_force {G : GX} (p1 : Int32) (S : AS) : CN G y_Md_force b_Md_force 4 (some (FieldType.int)) ({ frames := 0, cells := 0, slots := 0, locals := 0 } : Room) (some none) iI [.ref 70, .int p1] S (f_Md_force p1 S) := cn_of_v (M := md_Md_force) (ini := false) rfl (by decide +kernel) (fun h => nomatch h) rfl (Nat.le_of_ble_eq_true rfl) (v_Md_force p1 S)
noncomputable def f_Md_can (p1 : Int32) (S : AS) : Option (Int32 × AS) := bI (f_Md_is p1 0 9999999 S) fun r2 S1 => nm (fun (S3 : AS) => some (0, S3)) fun J24 => if r2 = 0 then (J24 S1) else (if 160 ≤ (gi S1 70 6) then (J24 S1) else (some (1, S1)))
set_option maxHeartbeats 4000000 in
theorem v_Md_can {G : GX} (p1 : Int32) (S : AS) : V G md_Md_can (QM G md_Md_can iI) (fun _ => True) (some none) 0 [some (.ref 70), some (.int p1)] [] 0 0 S (f_Md_can p1 S) := by
  unfold f_Md_can
  refine x_iload_n d_Md_can_0 rfl ?_
  refine x_iconst (v := 0) d_Md_can_1 (by decide) ?_
  refine x_ldc (v := 9999999) (List.mem_append_right _ (List.mem_append_right _ (List.mem_append_right _ (List.mem_append_right _ (List.mem_append_right _ (List.mem_append_left _ (List.mem_of_getElem? (i := 188) (by decide +kernel)))))))) d_Md_can_2 ?_
  refine x_sI (b' := (some none)) (As := [.int p1, .int 0, .int 9999999]) d_Md_can_4 ms_Md_147 rfl ⟨Nat.le_of_ble_eq_true rfl, Nat.le_of_ble_eq_true rfl⟩ (Nat.le_of_ble_eq_true rfl) ⟨Nat.le_of_ble_eq_true rfl, Nat.le_of_ble_eq_true rfl⟩ (fun _ h => h) (fun h => ⟨h, c_Md_is p1 0 9999999 _⟩) (fun r2 S1 => ?_)
  refine x_nm (fun J24 hJ24 => ?_)
  have kJ24 : ∀ (S3 : AS), V G md_Md_can (QM G md_Md_can iI) (fun _ => True) (some none) 24 [none, none] [] 0 0 S3 (J24 S3) := by
    subst hJ24
    intro S3
    refine x_iconst (v := 0) d_Md_can_24 (by decide) ?_
    exact x_ret d_Md_can_25 rfl rfl (Nat.le_of_ble_eq_true rfl) (Nat.le_of_ble_eq_true rfl)
  clear hJ24
  refine x_if_eq (tgt := 24) d_Md_can_7 (by decide) (fun _ => ?_) (fun _ => ?_)
  · exact V.kw (kJ24 S1) trivial
  · refine x_aload_n_ref d_Md_can_10 rfl ?_
    refine x_geti d_Md_can_11 fl_Md_29 ak_70 (q99 (by decide)) ?_
    refine x_sipush (v := 160) d_Md_can_14 (by decide) ?_
    refine x_icmp_ge (tgt := 24) d_Md_can_17 (by decide) (fun _ => ?_) (fun _ => ?_)
    · exact V.kw (kJ24 S1) trivial
    · refine x_iconst (v := 1) d_Md_can_20 (by decide) ?_
      refine x_goto (tgt := 25) d_Md_can_21 (by decide) ?_
      exact x_ret d_Md_can_25 rfl rfl (Nat.le_of_ble_eq_true rfl) (Nat.le_of_ble_eq_true rfl)
theorem c_Md_can {G : GX} (p1 : Int32) (S : AS) : CN G y_Md_can b_Md_can 2 (some (FieldType.boolean)) ({ frames := 1, cells := 0, slots := 0, locals := 22 } : Room) (some none) iI [.ref 70, .int p1] S (f_Md_can p1 S) := cn_of_v (M := md_Md_can) (ini := false) rfl (by decide +kernel) (fun h => nomatch h) rfl (Nat.le_of_ble_eq_true rfl) (v_Md_can p1 S)
noncomputable def f_Md_tell (p1 : Int32) (p2 : Int32) (p3 : Int32) (p4 : Int32) (S : AS) : Option (Int32 × AS) := nm (si S 70 6 ((gi S 70 6) + 1)) fun S1 => chk (vp_in (gi S1 70 6) 161) (nm (si S1 74 (ix (gi S1 70 6)) p1) fun S2 => chk (vp_in (gi S2 70 6) 161) (nm (si S2 75 (ix (gi S2 70 6)) p2) fun S3 => chk (vp_in (gi S3 70 6) 161) (nm (si S3 76 (ix (gi S3 70 6)) p3) fun S4 => chk (vp_in (gi S4 70 6) 161) (nm (si S4 77 (ix (gi S4 70 6)) p4) fun S5 => some (gi S5 70 6, S5)))))
set_option maxHeartbeats 4000000 in
theorem v_Md_tell {G : GX} (p1 : Int32) (p2 : Int32) (p3 : Int32) (p4 : Int32) (S : AS) : V G md_Md_tell (QM G md_Md_tell iI) (fun _ => True) (some none) 0 [some (.ref 70), some (.int p1), some (.int p2), some (.int p3), some (.int p4)] [] 0 0 S (f_Md_tell p1 p2 p3 p4 S) := by
  unfold f_Md_tell
  refine x_aload_n_ref d_Md_tell_0 rfl ?_
  refine x_dup d_Md_tell_1 rfl ?_
  refine x_geti d_Md_tell_2 fl_Md_29 ak_70 (q99 (by decide)) ?_
  refine x_iconst (v := 1) d_Md_tell_5 (by decide) ?_
  refine x_iadd d_Md_tell_6 ?_
  refine x_puti d_Md_tell_7 fl_Md_29 rfl ak_70 (q99 (by decide)) (fun h => nomatch h) (fun h => nomatch h) ?_
  refine x_nmS (fun S1 _ => ?_)
  refine x_aload_n_ref d_Md_tell_10 rfl ?_
  refine x_getr d_Md_tell_11 fl_Md_32 ak_70 (q99 (by decide)) (shx sh_70_7) ?_
  refine x_aload_n_ref d_Md_tell_14 rfl ?_
  refine x_geti d_Md_tell_15 fl_Md_29 ak_70 (q99 (by decide)) ?_
  refine x_iload_n d_Md_tell_18 rfl ?_
  refine x_iast d_Md_tell_19 ak_74 (q99 (by decide)) ?_
  refine x_nmS (fun S2 _ => ?_)
  refine x_aload_n_ref d_Md_tell_20 rfl ?_
  refine x_getr d_Md_tell_21 fl_Md_35 ak_70 (q99 (by decide)) (shx sh_70_8) ?_
  refine x_aload_n_ref d_Md_tell_24 rfl ?_
  refine x_geti d_Md_tell_25 fl_Md_29 ak_70 (q99 (by decide)) ?_
  refine x_iload_n d_Md_tell_28 rfl ?_
  refine x_iast d_Md_tell_29 ak_75 (q99 (by decide)) ?_
  refine x_nmS (fun S3 _ => ?_)
  refine x_aload_n_ref d_Md_tell_30 rfl ?_
  refine x_getr d_Md_tell_31 fl_Md_38 ak_70 (q99 (by decide)) (shx sh_70_9) ?_
  refine x_aload_n_ref d_Md_tell_34 rfl ?_
  refine x_geti d_Md_tell_35 fl_Md_29 ak_70 (q99 (by decide)) ?_
  refine x_iload_n d_Md_tell_38 rfl ?_
  refine x_iast d_Md_tell_39 ak_76 (q99 (by decide)) ?_
  refine x_nmS (fun S4 _ => ?_)
  refine x_aload_n_ref d_Md_tell_40 rfl ?_
  refine x_getr d_Md_tell_41 fl_Md_41 ak_70 (q99 (by decide)) (shx sh_70_10) ?_
  refine x_aload_n_ref d_Md_tell_44 rfl ?_
  refine x_geti d_Md_tell_45 fl_Md_29 ak_70 (q99 (by decide)) ?_
  refine x_iload d_Md_tell_48 rfl ?_
  refine x_iast d_Md_tell_50 ak_77 (q99 (by decide)) ?_
  refine x_nmS (fun S5 _ => ?_)
  refine x_aload_n_ref d_Md_tell_51 rfl ?_
  refine x_geti d_Md_tell_52 fl_Md_29 ak_70 (q99 (by decide)) ?_
  exact x_ret d_Md_tell_55 rfl rfl (Nat.le_of_ble_eq_true rfl) (Nat.le_of_ble_eq_true rfl)
theorem c_Md_tell {G : GX} (p1 : Int32) (p2 : Int32) (p3 : Int32) (p4 : Int32) (S : AS) : CN G y_Md_tell b_Md_tell 5 (some (FieldType.int)) ({ frames := 0, cells := 0, slots := 0, locals := 0 } : Room) (some none) iI [.ref 70, .int p1, .int p2, .int p3, .int p4] S (f_Md_tell p1 p2 p3 p4 S) := cn_of_v (M := md_Md_tell) (ini := false) rfl (by decide +kernel) (fun h => nomatch h) rfl (Nat.le_of_ble_eq_true rfl) (v_Md_tell p1 p2 p3 p4 S)
noncomputable def f_Md_paper (p1 : Int32) (p2 : Int32) (p3 : Int32) (p4 : Int32) (p5 : Int32) (p6 : Int32) (S : AS) : Option (Int32 × AS) := bI (f_Md_isPerson p1 S) fun r2 S1 => if r2 = 0 then (some ((-1), S1)) else (bI (f_Md_can p2 S1) fun r4 S3 => if r4 = 0 then (some ((-1), S3)) else (bI (f_Md_is p3 0 255 S3) fun r6 S5 => if r6 = 0 then (some ((-1), S5)) else (bI (f_Md_is p4 0 255 S5) fun r8 S7 => if r8 = 0 then (some ((-1), S7)) else (bI (f_Md_is p5 1 1000 S7) fun r10 S9 => if r10 = 0 then (some ((-1), S9)) else (bI (f_Md_is p6 p5 1000 S9) fun r12 S11 => if r12 = 0 then (some ((-1), S11)) else (if (gi S11 70 11) = 48 then (some ((-1), S11)) else (nm (7 * (gi S11 70 11)) fun v13 => chk (vp_in v13 336) (nm (si S11 78 (ix v13) p1) fun S14 => chk (vp_in (v13 + 1) 336) (nm (si S14 78 (ix (v13 + 1)) p2) fun S15 => chk (vp_in (v13 + 2) 336) (nm (si S15 78 (ix (v13 + 2)) p3) fun S16 => chk (vp_in (v13 + 3) 336) (nm (si S16 78 (ix (v13 + 3)) p4) fun S17 => chk (vp_in (v13 + 4) 336) (nm (si S17 78 (ix (v13 + 4)) p5) fun S18 => chk (vp_in (v13 + 5) 336) (nm (si S18 78 (ix (v13 + 5)) p6) fun S19 => chk (vp_in (gi S19 70 11) 48) (nm (si S19 79 (ix (gi S19 70 11)) 0) fun S20 => bI (f_Md_tell 0 p2 (gi S20 70 11) 0 S20) fun r22 S21 => chk (vp_in (v13 + 6) 336) (nm (si S21 78 (ix (v13 + 6)) r22) fun S23 => nm (si S23 70 11 ((gi S23 70 11) + 1)) fun S24 => some (gi S24 70 6, S24))))))))))))))))
set_option maxHeartbeats 4000000 in
theorem v_Md_paper {G : GX} (p1 : Int32) (p2 : Int32) (p3 : Int32) (p4 : Int32) (p5 : Int32) (p6 : Int32) (S : AS) : V G md_Md_paper (QM G md_Md_paper iI) (fun _ => True) (some none) 0 [some (.ref 70), some (.int p1), some (.int p2), some (.int p3), some (.int p4), some (.int p5), some (.int p6), none] [] 0 0 S (f_Md_paper p1 p2 p3 p4 p5 p6 S) := by
  unfold f_Md_paper
  refine x_aload_n_ref d_Md_paper_0 rfl ?_
  refine x_iload_n d_Md_paper_1 rfl ?_
  refine x_vI (b' := (some none)) (As := [.int p1]) d_Md_paper_2 mv_Md_155 rfl (fun _ => ak_70) rfl (q99 (by decide)) ⟨Nat.le_of_ble_eq_true rfl, Nat.le_of_ble_eq_true rfl⟩ (Nat.le_of_ble_eq_true rfl) ⟨Nat.le_of_ble_eq_true rfl, Nat.le_of_ble_eq_true rfl⟩ (fun _ h => h) (fun h => ⟨h, c_Md_isPerson p1 _⟩) (fun r2 S1 => ?_)
  refine x_if_eq (tgt := 73) d_Md_paper_5 (by decide) (fun _ => ?_) (fun _ => ?_)
  · refine x_iconst (v := -1) d_Md_paper_73 (by decide) ?_
    exact x_ret d_Md_paper_74 rfl rfl (Nat.le_of_ble_eq_true rfl) (Nat.le_of_ble_eq_true rfl)
  · refine x_aload_n_ref d_Md_paper_8 rfl ?_
    refine x_iload_n d_Md_paper_9 rfl ?_
    refine x_vI (b' := (some none)) (As := [.int p2]) d_Md_paper_10 mv_Md_230 rfl (fun _ => ak_70) rfl (q99 (by decide)) ⟨Nat.le_of_ble_eq_true rfl, Nat.le_of_ble_eq_true rfl⟩ (Nat.le_of_ble_eq_true rfl) ⟨Nat.le_of_ble_eq_true rfl, Nat.le_of_ble_eq_true rfl⟩ (fun _ h => h) (fun h => ⟨h, c_Md_can p2 _⟩) (fun r4 S3 => ?_)
    refine x_if_eq (tgt := 73) d_Md_paper_13 (by decide) (fun _ => ?_) (fun _ => ?_)
    · refine x_iconst (v := -1) d_Md_paper_73 (by decide) ?_
      exact x_ret d_Md_paper_74 rfl rfl (Nat.le_of_ble_eq_true rfl) (Nat.le_of_ble_eq_true rfl)
    · refine x_iload_n d_Md_paper_16 rfl ?_
      refine x_iconst (v := 0) d_Md_paper_17 (by decide) ?_
      refine x_sipush (v := 255) d_Md_paper_18 (by decide) ?_
      refine x_sI (b' := (some none)) (As := [.int p3, .int 0, .int 255]) d_Md_paper_21 ms_Md_147 rfl ⟨Nat.le_of_ble_eq_true rfl, Nat.le_of_ble_eq_true rfl⟩ (Nat.le_of_ble_eq_true rfl) ⟨Nat.le_of_ble_eq_true rfl, Nat.le_of_ble_eq_true rfl⟩ (fun _ h => h) (fun h => ⟨h, c_Md_is p3 0 255 _⟩) (fun r6 S5 => ?_)
      refine x_if_eq (tgt := 73) d_Md_paper_24 (by decide) (fun _ => ?_) (fun _ => ?_)
      · refine x_iconst (v := -1) d_Md_paper_73 (by decide) ?_
        exact x_ret d_Md_paper_74 rfl rfl (Nat.le_of_ble_eq_true rfl) (Nat.le_of_ble_eq_true rfl)
      · refine x_iload d_Md_paper_27 rfl ?_
        refine x_iconst (v := 0) d_Md_paper_29 (by decide) ?_
        refine x_sipush (v := 255) d_Md_paper_30 (by decide) ?_
        refine x_sI (b' := (some none)) (As := [.int p4, .int 0, .int 255]) d_Md_paper_33 ms_Md_147 rfl ⟨Nat.le_of_ble_eq_true rfl, Nat.le_of_ble_eq_true rfl⟩ (Nat.le_of_ble_eq_true rfl) ⟨Nat.le_of_ble_eq_true rfl, Nat.le_of_ble_eq_true rfl⟩ (fun _ h => h) (fun h => ⟨h, c_Md_is p4 0 255 _⟩) (fun r8 S7 => ?_)
        refine x_if_eq (tgt := 73) d_Md_paper_36 (by decide) (fun _ => ?_) (fun _ => ?_)
        · refine x_iconst (v := -1) d_Md_paper_73 (by decide) ?_
          exact x_ret d_Md_paper_74 rfl rfl (Nat.le_of_ble_eq_true rfl) (Nat.le_of_ble_eq_true rfl)
        · refine x_iload d_Md_paper_39 rfl ?_
          refine x_iconst (v := 1) d_Md_paper_41 (by decide) ?_
          refine x_sipush (v := 1000) d_Md_paper_42 (by decide) ?_
          refine x_sI (b' := (some none)) (As := [.int p5, .int 1, .int 1000]) d_Md_paper_45 ms_Md_147 rfl ⟨Nat.le_of_ble_eq_true rfl, Nat.le_of_ble_eq_true rfl⟩ (Nat.le_of_ble_eq_true rfl) ⟨Nat.le_of_ble_eq_true rfl, Nat.le_of_ble_eq_true rfl⟩ (fun _ h => h) (fun h => ⟨h, c_Md_is p5 1 1000 _⟩) (fun r10 S9 => ?_)
          refine x_if_eq (tgt := 73) d_Md_paper_48 (by decide) (fun _ => ?_) (fun _ => ?_)
          · refine x_iconst (v := -1) d_Md_paper_73 (by decide) ?_
            exact x_ret d_Md_paper_74 rfl rfl (Nat.le_of_ble_eq_true rfl) (Nat.le_of_ble_eq_true rfl)
          · refine x_iload d_Md_paper_51 rfl ?_
            refine x_iload d_Md_paper_53 rfl ?_
            refine x_sipush (v := 1000) d_Md_paper_55 (by decide) ?_
            refine x_sI (b' := (some none)) (As := [.int p6, .int p5, .int 1000]) d_Md_paper_58 ms_Md_147 rfl ⟨Nat.le_of_ble_eq_true rfl, Nat.le_of_ble_eq_true rfl⟩ (Nat.le_of_ble_eq_true rfl) ⟨Nat.le_of_ble_eq_true rfl, Nat.le_of_ble_eq_true rfl⟩ (fun _ h => h) (fun h => ⟨h, c_Md_is p6 p5 1000 _⟩) (fun r12 S11 => ?_)
            refine x_if_eq (tgt := 73) d_Md_paper_61 (by decide) (fun _ => ?_) (fun _ => ?_)
            · refine x_iconst (v := -1) d_Md_paper_73 (by decide) ?_
              exact x_ret d_Md_paper_74 rfl rfl (Nat.le_of_ble_eq_true rfl) (Nat.le_of_ble_eq_true rfl)
            · refine x_aload_n_ref d_Md_paper_64 rfl ?_
              refine x_geti d_Md_paper_65 fl_Md_44 ak_70 (q99 (by decide)) ?_
              refine x_bipush (v := 48) d_Md_paper_68 (by decide) ?_
              refine x_icmp_ne (tgt := 75) d_Md_paper_70 (by decide) (fun _ => ?_) (fun _ => ?_)
              · refine x_bipush (v := 7) d_Md_paper_75 (by decide) ?_
                refine x_aload_n_ref d_Md_paper_77 rfl ?_
                refine x_geti d_Md_paper_78 fl_Md_44 ak_70 (q99 (by decide)) ?_
                refine x_imul d_Md_paper_81 ?_
                refine x_topi (fun v13 => ?_)
                refine x_istore (lc' := [some (.ref 70), some (.int p1), some (.int p2), some (.int p3), some (.int p4), some (.int p5), some (.int p6), some (.int v13)]) d_Md_paper_82 (by decide) rfl ?_
                refine x_aload_n_ref d_Md_paper_84 rfl ?_
                refine x_getr d_Md_paper_85 fl_Md_47 ak_70 (q99 (by decide)) (shx sh_70_12) ?_
                refine x_iload d_Md_paper_88 rfl ?_
                refine x_iload_n d_Md_paper_90 rfl ?_
                refine x_iast d_Md_paper_91 ak_78 (q99 (by decide)) ?_
                refine x_nmS (fun S14 _ => ?_)
                refine x_aload_n_ref d_Md_paper_92 rfl ?_
                refine x_getr d_Md_paper_93 fl_Md_47 ak_70 (q99 (by decide)) (shx sh_70_12) ?_
                refine x_iload d_Md_paper_96 rfl ?_
                refine x_iconst (v := 1) d_Md_paper_98 (by decide) ?_
                refine x_iadd d_Md_paper_99 ?_
                refine x_iload_n d_Md_paper_100 rfl ?_
                refine x_iast d_Md_paper_101 ak_78 (q99 (by decide)) ?_
                refine x_nmS (fun S15 _ => ?_)
                refine x_aload_n_ref d_Md_paper_102 rfl ?_
                refine x_getr d_Md_paper_103 fl_Md_47 ak_70 (q99 (by decide)) (shx sh_70_12) ?_
                refine x_iload d_Md_paper_106 rfl ?_
                refine x_iconst (v := 2) d_Md_paper_108 (by decide) ?_
                refine x_iadd d_Md_paper_109 ?_
                refine x_iload_n d_Md_paper_110 rfl ?_
                refine x_iast d_Md_paper_111 ak_78 (q99 (by decide)) ?_
                refine x_nmS (fun S16 _ => ?_)
                refine x_aload_n_ref d_Md_paper_112 rfl ?_
                refine x_getr d_Md_paper_113 fl_Md_47 ak_70 (q99 (by decide)) (shx sh_70_12) ?_
                refine x_iload d_Md_paper_116 rfl ?_
                refine x_iconst (v := 3) d_Md_paper_118 (by decide) ?_
                refine x_iadd d_Md_paper_119 ?_
                refine x_iload d_Md_paper_120 rfl ?_
                refine x_iast d_Md_paper_122 ak_78 (q99 (by decide)) ?_
                refine x_nmS (fun S17 _ => ?_)
                refine x_aload_n_ref d_Md_paper_123 rfl ?_
                refine x_getr d_Md_paper_124 fl_Md_47 ak_70 (q99 (by decide)) (shx sh_70_12) ?_
                refine x_iload d_Md_paper_127 rfl ?_
                refine x_iconst (v := 4) d_Md_paper_129 (by decide) ?_
                refine x_iadd d_Md_paper_130 ?_
                refine x_iload d_Md_paper_131 rfl ?_
                refine x_iast d_Md_paper_133 ak_78 (q99 (by decide)) ?_
                refine x_nmS (fun S18 _ => ?_)
                refine x_aload_n_ref d_Md_paper_134 rfl ?_
                refine x_getr d_Md_paper_135 fl_Md_47 ak_70 (q99 (by decide)) (shx sh_70_12) ?_
                refine x_iload d_Md_paper_138 rfl ?_
                refine x_iconst (v := 5) d_Md_paper_140 (by decide) ?_
                refine x_iadd d_Md_paper_141 ?_
                refine x_iload d_Md_paper_142 rfl ?_
                refine x_iast d_Md_paper_144 ak_78 (q99 (by decide)) ?_
                refine x_nmS (fun S19 _ => ?_)
                refine x_aload_n_ref d_Md_paper_145 rfl ?_
                refine x_getr d_Md_paper_146 fl_Md_50 ak_70 (q99 (by decide)) (shx sh_70_13) ?_
                refine x_aload_n_ref d_Md_paper_149 rfl ?_
                refine x_geti d_Md_paper_150 fl_Md_44 ak_70 (q99 (by decide)) ?_
                refine x_iconst (v := 0) d_Md_paper_153 (by decide) ?_
                refine x_iast d_Md_paper_154 ak_79 (q99 (by decide)) ?_
                refine x_nmS (fun S20 _ => ?_)
                refine x_aload_n_ref d_Md_paper_155 rfl ?_
                refine x_getr d_Md_paper_156 fl_Md_47 ak_70 (q99 (by decide)) (shx sh_70_12) ?_
                refine x_iload d_Md_paper_159 rfl ?_
                refine x_bipush (v := 6) d_Md_paper_161 (by decide) ?_
                refine x_iadd d_Md_paper_163 ?_
                refine x_aload_n_ref d_Md_paper_164 rfl ?_
                refine x_iconst (v := 0) d_Md_paper_165 (by decide) ?_
                refine x_iload_n d_Md_paper_166 rfl ?_
                refine x_aload_n_ref d_Md_paper_167 rfl ?_
                refine x_geti d_Md_paper_168 fl_Md_44 ak_70 (q99 (by decide)) ?_
                refine x_iconst (v := 0) d_Md_paper_171 (by decide) ?_
                refine x_vI (b' := (some none)) (As := [.int 0, .int p2, .int (gi S20 70 11), .int 0]) d_Md_paper_172 mv_Md_233 rfl (fun _ => ak_70) rfl (q99 (by decide)) ⟨Nat.le_of_ble_eq_true rfl, Nat.le_of_ble_eq_true rfl⟩ (Nat.le_of_ble_eq_true rfl) ⟨Nat.le_of_ble_eq_true rfl, Nat.le_of_ble_eq_true rfl⟩ (fun _ h => h) (fun h => ⟨h, c_Md_tell 0 p2 (gi S20 70 11) 0 _⟩) (fun r22 S21 => ?_)
                refine x_iast d_Md_paper_175 ak_78 (q99 (by decide)) ?_
                refine x_nmS (fun S23 _ => ?_)
                refine x_aload_n_ref d_Md_paper_176 rfl ?_
                refine x_dup d_Md_paper_177 rfl ?_
                refine x_geti d_Md_paper_178 fl_Md_44 ak_70 (q99 (by decide)) ?_
                refine x_iconst (v := 1) d_Md_paper_181 (by decide) ?_
                refine x_iadd d_Md_paper_182 ?_
                refine x_puti d_Md_paper_183 fl_Md_44 rfl ak_70 (q99 (by decide)) (fun h => nomatch h) (fun h => nomatch h) ?_
                refine x_nmS (fun S24 _ => ?_)
                refine x_aload_n_ref d_Md_paper_186 rfl ?_
                refine x_geti d_Md_paper_187 fl_Md_29 ak_70 (q99 (by decide)) ?_
                exact x_ret d_Md_paper_190 rfl rfl (Nat.le_of_ble_eq_true rfl) (Nat.le_of_ble_eq_true rfl)
              · refine x_iconst (v := -1) d_Md_paper_73 (by decide) ?_
                exact x_ret d_Md_paper_74 rfl rfl (Nat.le_of_ble_eq_true rfl) (Nat.le_of_ble_eq_true rfl)
theorem c_Md_paper {G : GX} (p1 : Int32) (p2 : Int32) (p3 : Int32) (p4 : Int32) (p5 : Int32) (p6 : Int32) (S : AS) : CN G y_Md_paper b_Md_paper 8 (some (FieldType.int)) ({ frames := 2, cells := 0, slots := 0, locals := 43 } : Room) (some none) iI [.ref 70, .int p1, .int p2, .int p3, .int p4, .int p5, .int p6] S (f_Md_paper p1 p2 p3 p4 p5 p6 S) := cn_of_v (M := md_Md_paper) (ini := false) rfl (by decide +kernel) (fun h => nomatch h) rfl (Nat.le_of_ble_eq_true rfl) (v_Md_paper p1 p2 p3 p4 p5 p6 S)
noncomputable def f_Md_death (p1 : Int32) (p2 : Int32) (S : AS) : Option (Int32 × AS) := bI (f_Md_isPerson p1 S) fun r2 S1 => nm (fun (S3 : AS) => some ((-1), S3)) fun J16 => if r2 = 0 then (J16 S1) else (bI (f_Md_can p2 S1) fun r5 S4 => if r5 = 0 then (J16 S4) else (bI (f_Md_tell 1 p2 p1 0 S4) fun r7 S6 => some (r7, S6)))
set_option maxHeartbeats 4000000 in
theorem v_Md_death {G : GX} (p1 : Int32) (p2 : Int32) (S : AS) : V G md_Md_death (QM G md_Md_death iI) (fun _ => True) (some none) 0 [some (.ref 70), some (.int p1), some (.int p2)] [] 0 0 S (f_Md_death p1 p2 S) := by
  unfold f_Md_death
  refine x_aload_n_ref d_Md_death_0 rfl ?_
  refine x_iload_n d_Md_death_1 rfl ?_
  refine x_vI (b' := (some none)) (As := [.int p1]) d_Md_death_2 mv_Md_155 rfl (fun _ => ak_70) rfl (q99 (by decide)) ⟨Nat.le_of_ble_eq_true rfl, Nat.le_of_ble_eq_true rfl⟩ (Nat.le_of_ble_eq_true rfl) ⟨Nat.le_of_ble_eq_true rfl, Nat.le_of_ble_eq_true rfl⟩ (fun _ h => h) (fun h => ⟨h, c_Md_isPerson p1 _⟩) (fun r2 S1 => ?_)
  refine x_nm (fun J16 hJ16 => ?_)
  have kJ16 : ∀ (S3 : AS), V G md_Md_death (QM G md_Md_death iI) (fun _ => True) (some none) 16 [none, none, none] [] 0 0 S3 (J16 S3) := by
    subst hJ16
    intro S3
    refine x_iconst (v := -1) d_Md_death_16 (by decide) ?_
    refine x_goto (tgt := 28) d_Md_death_17 (by decide) ?_
    exact x_ret d_Md_death_28 rfl rfl (Nat.le_of_ble_eq_true rfl) (Nat.le_of_ble_eq_true rfl)
  clear hJ16
  refine x_if_eq (tgt := 16) d_Md_death_5 (by decide) (fun _ => ?_) (fun _ => ?_)
  · exact V.kw (kJ16 S1) trivial
  · refine x_aload_n_ref d_Md_death_8 rfl ?_
    refine x_iload_n d_Md_death_9 rfl ?_
    refine x_vI (b' := (some none)) (As := [.int p2]) d_Md_death_10 mv_Md_230 rfl (fun _ => ak_70) rfl (q99 (by decide)) ⟨Nat.le_of_ble_eq_true rfl, Nat.le_of_ble_eq_true rfl⟩ (Nat.le_of_ble_eq_true rfl) ⟨Nat.le_of_ble_eq_true rfl, Nat.le_of_ble_eq_true rfl⟩ (fun _ h => h) (fun h => ⟨h, c_Md_can p2 _⟩) (fun r5 S4 => ?_)
    refine x_if_ne (tgt := 20) d_Md_death_13 (by decide) (fun _ => ?_) (fun _ => ?_)
    · refine x_aload_n_ref d_Md_death_20 rfl ?_
      refine x_iconst (v := 1) d_Md_death_21 (by decide) ?_
      refine x_iload_n d_Md_death_22 rfl ?_
      refine x_iload_n d_Md_death_23 rfl ?_
      refine x_iconst (v := 0) d_Md_death_24 (by decide) ?_
      refine x_vI (b' := (some none)) (As := [.int 1, .int p2, .int p1, .int 0]) d_Md_death_25 mv_Md_233 rfl (fun _ => ak_70) rfl (q99 (by decide)) ⟨Nat.le_of_ble_eq_true rfl, Nat.le_of_ble_eq_true rfl⟩ (Nat.le_of_ble_eq_true rfl) ⟨Nat.le_of_ble_eq_true rfl, Nat.le_of_ble_eq_true rfl⟩ (fun _ h => h) (fun h => ⟨h, c_Md_tell 1 p2 p1 0 _⟩) (fun r7 S6 => ?_)
      exact x_ret d_Md_death_28 rfl rfl (Nat.le_of_ble_eq_true rfl) (Nat.le_of_ble_eq_true rfl)
    · exact V.kw (kJ16 S4) trivial
theorem c_Md_death {G : GX} (p1 : Int32) (p2 : Int32) (S : AS) : CN G y_Md_death b_Md_death 3 (some (FieldType.int)) ({ frames := 2, cells := 0, slots := 0, locals := 43 } : Room) (some none) iI [.ref 70, .int p1, .int p2] S (f_Md_death p1 p2 S) := cn_of_v (M := md_Md_death) (ini := false) rfl (by decide +kernel) (fun h => nomatch h) rfl (Nat.le_of_ble_eq_true rfl) (v_Md_death p1 p2 S)
noncomputable def f_Md_resign (p1 : Int32) (p2 : Int32) (p3 : Int32) (S : AS) : Option (Int32 × AS) := bI (f_Md_isPost p1 S) fun r2 S1 => nm (fun (S3 : AS) => some ((-1), S3)) fun J24 => if r2 = 0 then (J24 S1) else (bI (f_Md_isPerson p2 S1) fun r5 S4 => if r5 = 0 then (J24 S4) else (bI (f_Md_can p3 S4) fun r7 S6 => if r7 = 0 then (J24 S6) else (bI (f_Md_tell 2 p3 p1 p2 S6) fun r9 S8 => some (r9, S8))))
set_option maxHeartbeats 4000000 in
theorem v_Md_resign {G : GX} (p1 : Int32) (p2 : Int32) (p3 : Int32) (S : AS) : V G md_Md_resign (QM G md_Md_resign iI) (fun _ => True) (some none) 0 [some (.ref 70), some (.int p1), some (.int p2), some (.int p3)] [] 0 0 S (f_Md_resign p1 p2 p3 S) := by
  unfold f_Md_resign
  refine x_aload_n_ref d_Md_resign_0 rfl ?_
  refine x_iload_n d_Md_resign_1 rfl ?_
  refine x_vI (b' := (some none)) (As := [.int p1]) d_Md_resign_2 mv_Md_151 rfl (fun _ => ak_70) rfl (q99 (by decide)) ⟨Nat.le_of_ble_eq_true rfl, Nat.le_of_ble_eq_true rfl⟩ (Nat.le_of_ble_eq_true rfl) ⟨Nat.le_of_ble_eq_true rfl, Nat.le_of_ble_eq_true rfl⟩ (fun _ h => h) (fun h => ⟨h, c_Md_isPost p1 _⟩) (fun r2 S1 => ?_)
  refine x_nm (fun J24 hJ24 => ?_)
  have kJ24 : ∀ (S3 : AS), V G md_Md_resign (QM G md_Md_resign iI) (fun _ => True) (some none) 24 [none, none, none, none] [] 0 0 S3 (J24 S3) := by
    subst hJ24
    intro S3
    refine x_iconst (v := -1) d_Md_resign_24 (by decide) ?_
    refine x_goto (tgt := 36) d_Md_resign_25 (by decide) ?_
    exact x_ret d_Md_resign_36 rfl rfl (Nat.le_of_ble_eq_true rfl) (Nat.le_of_ble_eq_true rfl)
  clear hJ24
  refine x_if_eq (tgt := 24) d_Md_resign_5 (by decide) (fun _ => ?_) (fun _ => ?_)
  · exact V.kw (kJ24 S1) trivial
  · refine x_aload_n_ref d_Md_resign_8 rfl ?_
    refine x_iload_n d_Md_resign_9 rfl ?_
    refine x_vI (b' := (some none)) (As := [.int p2]) d_Md_resign_10 mv_Md_155 rfl (fun _ => ak_70) rfl (q99 (by decide)) ⟨Nat.le_of_ble_eq_true rfl, Nat.le_of_ble_eq_true rfl⟩ (Nat.le_of_ble_eq_true rfl) ⟨Nat.le_of_ble_eq_true rfl, Nat.le_of_ble_eq_true rfl⟩ (fun _ h => h) (fun h => ⟨h, c_Md_isPerson p2 _⟩) (fun r5 S4 => ?_)
    refine x_if_eq (tgt := 24) d_Md_resign_13 (by decide) (fun _ => ?_) (fun _ => ?_)
    · exact V.kw (kJ24 S4) trivial
    · refine x_aload_n_ref d_Md_resign_16 rfl ?_
      refine x_iload_n d_Md_resign_17 rfl ?_
      refine x_vI (b' := (some none)) (As := [.int p3]) d_Md_resign_18 mv_Md_230 rfl (fun _ => ak_70) rfl (q99 (by decide)) ⟨Nat.le_of_ble_eq_true rfl, Nat.le_of_ble_eq_true rfl⟩ (Nat.le_of_ble_eq_true rfl) ⟨Nat.le_of_ble_eq_true rfl, Nat.le_of_ble_eq_true rfl⟩ (fun _ h => h) (fun h => ⟨h, c_Md_can p3 _⟩) (fun r7 S6 => ?_)
      refine x_if_ne (tgt := 28) d_Md_resign_21 (by decide) (fun _ => ?_) (fun _ => ?_)
      · refine x_aload_n_ref d_Md_resign_28 rfl ?_
        refine x_iconst (v := 2) d_Md_resign_29 (by decide) ?_
        refine x_iload_n d_Md_resign_30 rfl ?_
        refine x_iload_n d_Md_resign_31 rfl ?_
        refine x_iload_n d_Md_resign_32 rfl ?_
        refine x_vI (b' := (some none)) (As := [.int 2, .int p3, .int p1, .int p2]) d_Md_resign_33 mv_Md_233 rfl (fun _ => ak_70) rfl (q99 (by decide)) ⟨Nat.le_of_ble_eq_true rfl, Nat.le_of_ble_eq_true rfl⟩ (Nat.le_of_ble_eq_true rfl) ⟨Nat.le_of_ble_eq_true rfl, Nat.le_of_ble_eq_true rfl⟩ (fun _ h => h) (fun h => ⟨h, c_Md_tell 2 p3 p1 p2 _⟩) (fun r9 S8 => ?_)
        exact x_ret d_Md_resign_36 rfl rfl (Nat.le_of_ble_eq_true rfl) (Nat.le_of_ble_eq_true rfl)
      · exact V.kw (kJ24 S6) trivial
theorem c_Md_resign {G : GX} (p1 : Int32) (p2 : Int32) (p3 : Int32) (S : AS) : CN G y_Md_resign b_Md_resign 4 (some (FieldType.int)) ({ frames := 2, cells := 0, slots := 0, locals := 43 } : Room) (some none) iI [.ref 70, .int p1, .int p2, .int p3] S (f_Md_resign p1 p2 p3 S) := cn_of_v (M := md_Md_resign) (ini := false) rfl (by decide +kernel) (fun h => nomatch h) rfl (Nat.le_of_ble_eq_true rfl) (v_Md_resign p1 p2 p3 S)
noncomputable def f_Md_swap (p1 : Int32) (p2 : Int32) (p3 : Int32) (S : AS) : Option (Int32 × AS) := bI (f_Md_isPost p1 S) fun r2 S1 => nm (fun (S3 : AS) => some ((-1), S3)) fun J29 => if r2 = 0 then (J29 S1) else (bI (f_Md_isPost p2 S1) fun r5 S4 => if r5 = 0 then (J29 S4) else (if p1 = p2 then (J29 S4) else (bI (f_Md_can p3 S4) fun r7 S6 => if r7 = 0 then (J29 S6) else (bI (f_Md_tell 3 p3 p1 p2 S6) fun r9 S8 => some (r9, S8)))))
set_option maxHeartbeats 4000000 in
theorem v_Md_swap {G : GX} (p1 : Int32) (p2 : Int32) (p3 : Int32) (S : AS) : V G md_Md_swap (QM G md_Md_swap iI) (fun _ => True) (some none) 0 [some (.ref 70), some (.int p1), some (.int p2), some (.int p3)] [] 0 0 S (f_Md_swap p1 p2 p3 S) := by
  unfold f_Md_swap
  refine x_aload_n_ref d_Md_swap_0 rfl ?_
  refine x_iload_n d_Md_swap_1 rfl ?_
  refine x_vI (b' := (some none)) (As := [.int p1]) d_Md_swap_2 mv_Md_151 rfl (fun _ => ak_70) rfl (q99 (by decide)) ⟨Nat.le_of_ble_eq_true rfl, Nat.le_of_ble_eq_true rfl⟩ (Nat.le_of_ble_eq_true rfl) ⟨Nat.le_of_ble_eq_true rfl, Nat.le_of_ble_eq_true rfl⟩ (fun _ h => h) (fun h => ⟨h, c_Md_isPost p1 _⟩) (fun r2 S1 => ?_)
  refine x_nm (fun J29 hJ29 => ?_)
  have kJ29 : ∀ (S3 : AS), V G md_Md_swap (QM G md_Md_swap iI) (fun _ => True) (some none) 29 [none, none, none, none] [] 0 0 S3 (J29 S3) := by
    subst hJ29
    intro S3
    refine x_iconst (v := -1) d_Md_swap_29 (by decide) ?_
    refine x_goto (tgt := 41) d_Md_swap_30 (by decide) ?_
    exact x_ret d_Md_swap_41 rfl rfl (Nat.le_of_ble_eq_true rfl) (Nat.le_of_ble_eq_true rfl)
  clear hJ29
  refine x_if_eq (tgt := 29) d_Md_swap_5 (by decide) (fun _ => ?_) (fun _ => ?_)
  · exact V.kw (kJ29 S1) trivial
  · refine x_aload_n_ref d_Md_swap_8 rfl ?_
    refine x_iload_n d_Md_swap_9 rfl ?_
    refine x_vI (b' := (some none)) (As := [.int p2]) d_Md_swap_10 mv_Md_151 rfl (fun _ => ak_70) rfl (q99 (by decide)) ⟨Nat.le_of_ble_eq_true rfl, Nat.le_of_ble_eq_true rfl⟩ (Nat.le_of_ble_eq_true rfl) ⟨Nat.le_of_ble_eq_true rfl, Nat.le_of_ble_eq_true rfl⟩ (fun _ h => h) (fun h => ⟨h, c_Md_isPost p2 _⟩) (fun r5 S4 => ?_)
    refine x_if_eq (tgt := 29) d_Md_swap_13 (by decide) (fun _ => ?_) (fun _ => ?_)
    · exact V.kw (kJ29 S4) trivial
    · refine x_iload_n d_Md_swap_16 rfl ?_
      refine x_iload_n d_Md_swap_17 rfl ?_
      refine x_icmp_eq (tgt := 29) d_Md_swap_18 (by decide) (fun _ => ?_) (fun _ => ?_)
      · exact V.kw (kJ29 S4) trivial
      · refine x_aload_n_ref d_Md_swap_21 rfl ?_
        refine x_iload_n d_Md_swap_22 rfl ?_
        refine x_vI (b' := (some none)) (As := [.int p3]) d_Md_swap_23 mv_Md_230 rfl (fun _ => ak_70) rfl (q99 (by decide)) ⟨Nat.le_of_ble_eq_true rfl, Nat.le_of_ble_eq_true rfl⟩ (Nat.le_of_ble_eq_true rfl) ⟨Nat.le_of_ble_eq_true rfl, Nat.le_of_ble_eq_true rfl⟩ (fun _ h => h) (fun h => ⟨h, c_Md_can p3 _⟩) (fun r7 S6 => ?_)
        refine x_if_ne (tgt := 33) d_Md_swap_26 (by decide) (fun _ => ?_) (fun _ => ?_)
        · refine x_aload_n_ref d_Md_swap_33 rfl ?_
          refine x_iconst (v := 3) d_Md_swap_34 (by decide) ?_
          refine x_iload_n d_Md_swap_35 rfl ?_
          refine x_iload_n d_Md_swap_36 rfl ?_
          refine x_iload_n d_Md_swap_37 rfl ?_
          refine x_vI (b' := (some none)) (As := [.int 3, .int p3, .int p1, .int p2]) d_Md_swap_38 mv_Md_233 rfl (fun _ => ak_70) rfl (q99 (by decide)) ⟨Nat.le_of_ble_eq_true rfl, Nat.le_of_ble_eq_true rfl⟩ (Nat.le_of_ble_eq_true rfl) ⟨Nat.le_of_ble_eq_true rfl, Nat.le_of_ble_eq_true rfl⟩ (fun _ h => h) (fun h => ⟨h, c_Md_tell 3 p3 p1 p2 _⟩) (fun r9 S8 => ?_)
          exact x_ret d_Md_swap_41 rfl rfl (Nat.le_of_ble_eq_true rfl) (Nat.le_of_ble_eq_true rfl)
        · exact V.kw (kJ29 S6) trivial
theorem c_Md_swap {G : GX} (p1 : Int32) (p2 : Int32) (p3 : Int32) (S : AS) : CN G y_Md_swap b_Md_swap 4 (some (FieldType.int)) ({ frames := 2, cells := 0, slots := 0, locals := 43 } : Room) (some none) iI [.ref 70, .int p1, .int p2, .int p3] S (f_Md_swap p1 p2 p3 S) := cn_of_v (M := md_Md_swap) (ini := false) rfl (by decide +kernel) (fun h => nomatch h) rfl (Nat.le_of_ble_eq_true rfl) (v_Md_swap p1 p2 p3 S)
noncomputable def f_Md_disprove (p1 : Int32) (S : AS) : Option (Int32 × AS) := if p1 < 0 then (some ((-1), S)) else (if (gi S 70 11) ≤ p1 then (some ((-1), S)) else (chk (vp_in p1 48) (if 0 < (gi S 79 (ix p1)) then (some ((-1), S)) else (if (gi S 70 6) = 160 then (some ((-1), S)) else (bI (f_Md_tell 4 0 p1 0 S) fun r2 S1 => chk (vp_in p1 48) (nm (si S1 79 (ix p1) r2) fun S3 => chk (vp_in p1 48) (some (gi S3 79 (ix p1), S3))))))))
set_option maxHeartbeats 4000000 in
theorem v_Md_disprove {G : GX} (p1 : Int32) (S : AS) : V G md_Md_disprove (QM G md_Md_disprove iI) (fun _ => True) (some none) 0 [some (.ref 70), some (.int p1)] [] 0 0 S (f_Md_disprove p1 S) := by
  unfold f_Md_disprove
  refine x_iload_n d_Md_disprove_0 rfl ?_
  refine x_if_lt (tgt := 31) d_Md_disprove_1 (by decide) (fun _ => ?_) (fun _ => ?_)
  · refine x_iconst (v := -1) d_Md_disprove_31 (by decide) ?_
    exact x_ret d_Md_disprove_32 rfl rfl (Nat.le_of_ble_eq_true rfl) (Nat.le_of_ble_eq_true rfl)
  · refine x_iload_n d_Md_disprove_4 rfl ?_
    refine x_aload_n_ref d_Md_disprove_5 rfl ?_
    refine x_geti d_Md_disprove_6 fl_Md_44 ak_70 (q99 (by decide)) ?_
    refine x_icmp_ge (tgt := 31) d_Md_disprove_9 (by decide) (fun _ => ?_) (fun _ => ?_)
    · refine x_iconst (v := -1) d_Md_disprove_31 (by decide) ?_
      exact x_ret d_Md_disprove_32 rfl rfl (Nat.le_of_ble_eq_true rfl) (Nat.le_of_ble_eq_true rfl)
    · refine x_aload_n_ref d_Md_disprove_12 rfl ?_
      refine x_getr d_Md_disprove_13 fl_Md_50 ak_70 (q99 (by decide)) (shx sh_70_13) ?_
      refine x_iload_n d_Md_disprove_16 rfl ?_
      refine x_iald d_Md_disprove_17 ak_79 (q99 (by decide)) ?_
      refine x_if_gt (tgt := 31) d_Md_disprove_18 (by decide) (fun _ => ?_) (fun _ => ?_)
      · refine x_iconst (v := -1) d_Md_disprove_31 (by decide) ?_
        exact x_ret d_Md_disprove_32 rfl rfl (Nat.le_of_ble_eq_true rfl) (Nat.le_of_ble_eq_true rfl)
      · refine x_aload_n_ref d_Md_disprove_21 rfl ?_
        refine x_geti d_Md_disprove_22 fl_Md_29 ak_70 (q99 (by decide)) ?_
        refine x_sipush (v := 160) d_Md_disprove_25 (by decide) ?_
        refine x_icmp_ne (tgt := 33) d_Md_disprove_28 (by decide) (fun _ => ?_) (fun _ => ?_)
        · refine x_aload_n_ref d_Md_disprove_33 rfl ?_
          refine x_getr d_Md_disprove_34 fl_Md_50 ak_70 (q99 (by decide)) (shx sh_70_13) ?_
          refine x_iload_n d_Md_disprove_37 rfl ?_
          refine x_aload_n_ref d_Md_disprove_38 rfl ?_
          refine x_iconst (v := 4) d_Md_disprove_39 (by decide) ?_
          refine x_iconst (v := 0) d_Md_disprove_40 (by decide) ?_
          refine x_iload_n d_Md_disprove_41 rfl ?_
          refine x_iconst (v := 0) d_Md_disprove_42 (by decide) ?_
          refine x_vI (b' := (some none)) (As := [.int 4, .int 0, .int p1, .int 0]) d_Md_disprove_43 mv_Md_233 rfl (fun _ => ak_70) rfl (q99 (by decide)) ⟨Nat.le_of_ble_eq_true rfl, Nat.le_of_ble_eq_true rfl⟩ (Nat.le_of_ble_eq_true rfl) ⟨Nat.le_of_ble_eq_true rfl, Nat.le_of_ble_eq_true rfl⟩ (fun _ h => h) (fun h => ⟨h, c_Md_tell 4 0 p1 0 _⟩) (fun r2 S1 => ?_)
          refine x_iast d_Md_disprove_46 ak_79 (q99 (by decide)) ?_
          refine x_nmS (fun S3 _ => ?_)
          refine x_aload_n_ref d_Md_disprove_47 rfl ?_
          refine x_getr d_Md_disprove_48 fl_Md_50 ak_70 (q99 (by decide)) (shx sh_70_13) ?_
          refine x_iload_n d_Md_disprove_51 rfl ?_
          refine x_iald d_Md_disprove_52 ak_79 (q99 (by decide)) ?_
          exact x_ret d_Md_disprove_53 rfl rfl (Nat.le_of_ble_eq_true rfl) (Nat.le_of_ble_eq_true rfl)
        · refine x_iconst (v := -1) d_Md_disprove_31 (by decide) ?_
          exact x_ret d_Md_disprove_32 rfl rfl (Nat.le_of_ble_eq_true rfl) (Nat.le_of_ble_eq_true rfl)
theorem c_Md_disprove {G : GX} (p1 : Int32) (S : AS) : CN G y_Md_disprove b_Md_disprove 2 (some (FieldType.int)) ({ frames := 1, cells := 0, slots := 0, locals := 24 } : Room) (some none) iI [.ref 70, .int p1] S (f_Md_disprove p1 S) := cn_of_v (M := md_Md_disprove) (ini := false) rfl (by decide +kernel) (fun h => nomatch h) rfl (Nat.le_of_ble_eq_true rfl) (v_Md_disprove p1 S)
noncomputable def f_Md_as (p1 : Int32) (S : AS) : Option (Int32 × AS) := bI (f_Md_is p1 (-1) (gi S 70 6) S) fun r2 S1 => if r2 = 0 then (some (0, S1)) else (nm (si S1 70 14 p1) fun S3 => some (1, S3))
set_option maxHeartbeats 4000000 in
theorem v_Md_as {G : GX} (p1 : Int32) (S : AS) : V G md_Md_as (QM G md_Md_as iI) (fun _ => True) (some none) 0 [some (.ref 70), some (.int p1)] [] 0 0 S (f_Md_as p1 S) := by
  unfold f_Md_as
  refine x_iload_n d_Md_as_0 rfl ?_
  refine x_iconst (v := -1) d_Md_as_1 (by decide) ?_
  refine x_aload_n_ref d_Md_as_2 rfl ?_
  refine x_geti d_Md_as_3 fl_Md_29 ak_70 (q99 (by decide)) ?_
  refine x_sI (b' := (some none)) (As := [.int p1, .int (-1), .int (gi S 70 6)]) d_Md_as_6 ms_Md_147 rfl ⟨Nat.le_of_ble_eq_true rfl, Nat.le_of_ble_eq_true rfl⟩ (Nat.le_of_ble_eq_true rfl) ⟨Nat.le_of_ble_eq_true rfl, Nat.le_of_ble_eq_true rfl⟩ (fun _ h => h) (fun h => ⟨h, c_Md_is p1 (-1) (gi S 70 6) _⟩) (fun r2 S1 => ?_)
  refine x_if_ne (tgt := 14) d_Md_as_9 (by decide) (fun _ => ?_) (fun _ => ?_)
  · refine x_aload_n_ref d_Md_as_14 rfl ?_
    refine x_iload_n d_Md_as_15 rfl ?_
    refine x_puti d_Md_as_16 fl_Md_53 rfl ak_70 (q99 (by decide)) (fun h => nomatch h) (fun h => nomatch h) ?_
    refine x_nmS (fun S3 _ => ?_)
    refine x_iconst (v := 1) d_Md_as_19 (by decide) ?_
    exact x_ret d_Md_as_20 rfl rfl (Nat.le_of_ble_eq_true rfl) (Nat.le_of_ble_eq_true rfl)
  · refine x_iconst (v := 0) d_Md_as_12 (by decide) ?_
    exact x_ret d_Md_as_13 rfl rfl (Nat.le_of_ble_eq_true rfl) (Nat.le_of_ble_eq_true rfl)
theorem c_Md_as {G : GX} (p1 : Int32) (S : AS) : CN G y_Md_as b_Md_as 2 (some (FieldType.boolean)) ({ frames := 1, cells := 0, slots := 0, locals := 22 } : Room) (some none) iI [.ref 70, .int p1] S (f_Md_as p1 S) := cn_of_v (M := md_Md_as) (ini := false) rfl (by decide +kernel) (fun h => nomatch h) rfl (Nat.le_of_ble_eq_true rfl) (v_Md_as p1 S)
noncomputable def f_Md_known (S : AS) : Option (Int32 × AS) := if (gi S 70 14) = (-1) then (some (gi S 70 6, S)) else (some (gi S 70 14, S))
set_option maxHeartbeats 4000000 in
theorem v_Md_known {G : GX} (S : AS) : V G md_Md_known (QM G md_Md_known iI) (fun _ => True) (some none) 0 [some (.ref 70)] [] 0 0 S (f_Md_known S) := by
  unfold f_Md_known
  refine x_aload_n_ref d_Md_known_0 rfl ?_
  refine x_geti d_Md_known_1 fl_Md_53 ak_70 (q99 (by decide)) ?_
  refine x_iconst (v := -1) d_Md_known_4 (by decide) ?_
  refine x_icmp_ne (tgt := 15) d_Md_known_5 (by decide) (fun _ => ?_) (fun _ => ?_)
  · refine x_aload_n_ref d_Md_known_15 rfl ?_
    refine x_geti d_Md_known_16 fl_Md_53 ak_70 (q99 (by decide)) ?_
    exact x_ret d_Md_known_19 rfl rfl (Nat.le_of_ble_eq_true rfl) (Nat.le_of_ble_eq_true rfl)
  · refine x_aload_n_ref d_Md_known_8 rfl ?_
    refine x_geti d_Md_known_9 fl_Md_29 ak_70 (q99 (by decide)) ?_
    refine x_goto (tgt := 19) d_Md_known_12 (by decide) ?_
    exact x_ret d_Md_known_19 rfl rfl (Nat.le_of_ble_eq_true rfl) (Nat.le_of_ble_eq_true rfl)
theorem c_Md_known {G : GX} (S : AS) : CN G y_Md_known b_Md_known 1 (some (FieldType.int)) ({ frames := 0, cells := 0, slots := 0, locals := 0 } : Room) (some none) iI [.ref 70] S (f_Md_known S) := cn_of_v (M := md_Md_known) (ini := false) rfl (by decide +kernel) (fun h => nomatch h) rfl (Nat.le_of_ble_eq_true rfl) (v_Md_known S)
noncomputable def f_Md_held_L4 (J36 : Int32 → AS → Option (Int32 × AS)) (x1 : Int32) : Nat → Int32 → Int32 → AS → Option (Int32 × AS)
  | 0, _, _, _ => none
  | n + 1, c2, c3, S => if (gi S 70 4) ≤ c3 then (J36 c2 S) else (chk (vp_in c3 16) (nm (fun (a3 : Int32) (a4 : Int32) (S5 : AS) => nm (a3 + a4) fun v6 => f_Md_held_L4 J36 x1 n v6 (c3 + 1) S5) fun J28 => if (gi S 85 (ix c3)) = x1 then (J28 c2 1 S) else (J28 c2 0 S)))
noncomputable def f_Md_held (p1 : Int32) (S : AS) : Option (Int32 × AS) := nm (fun (a1 : Int32) (S2 : AS) => some (a1, S2)) fun J36 => f_Md_held_L4 J36 p1 FU 0 0 S
set_option maxHeartbeats 4000000 in
theorem v_Md_held_L4 {G : GX} (J36 : Int32 → AS → Option (Int32 × AS)) (x1 : Int32) (kJ36 : ∀ (a1 : Int32) (T : AS), V G md_Md_held (QM G md_Md_held iI) (fun _ => True) (some none) 36 [none, none, some (.int a1), none] [] 0 0 T (J36 a1 T)) : ∀ (n : Nat) (c2 : Int32) (c3 : Int32) (S : AS), V G md_Md_held (QM G md_Md_held iI) (fun _ => True) (some none) 4 [some (.ref 70), some (.int x1), some (.int c2), some (.int c3)] [] 0 0 S (f_Md_held_L4 J36 x1 n c2 c3 S) := by
  intro n
  induction n with
  | zero => intro c2 c3 S; exact V.none
  | succ n ih =>
    intro c2 c3 S
    rw [f_Md_held_L4]
    refine x_iload_n d_Md_held_4 rfl ?_
    refine x_aload_n_ref d_Md_held_5 rfl ?_
    refine x_geti d_Md_held_6 fl_Md_23 ak_70 (q99 (by decide)) ?_
    refine x_icmp_ge (tgt := 36) d_Md_held_9 (by decide) (fun _ => ?_) (fun _ => ?_)
    · exact V.kw (kJ36 c2 S) ⟨rfl, trivial⟩
    · refine x_iload_n d_Md_held_12 rfl ?_
      refine x_aload_n_ref d_Md_held_13 rfl ?_
      refine x_getr d_Md_held_14 fl_Md_89 ak_70 (q99 (by decide)) (shx sh_70_26) ?_
      refine x_iload_n d_Md_held_17 rfl ?_
      refine x_iald d_Md_held_18 ak_85 (q99 (by decide)) ?_
      refine x_iload_n d_Md_held_19 rfl ?_
      refine x_nm (fun J28 hJ28 => ?_)
      have kJ28 : ∀ (a3 : Int32) (a4 : Int32) (S5 : AS), V G md_Md_held (QM G md_Md_held iI) (fun _ => True) (some none) 28 [some (.ref 70), some (.int x1), none, some (.int c3)] [.int a4, .int a3] 0 0 S5 (J28 a3 a4 S5) := by
        subst hJ28
        intro a3 a4 S5
        refine x_iadd d_Md_held_28 ?_
        refine x_topi (fun v6 => ?_)
        refine x_istore_n (lc' := [some (.ref 70), some (.int x1), some (.int v6), some (.int c3)]) d_Md_held_29 (by decide) rfl ?_
        refine x_iinc (w := c3 + 1) (lc' := [some (.ref 70), some (.int x1), some (.int v6), some (.int (c3 + 1))]) d_Md_held_30 (by decide) rfl rfl rfl ?_
        refine x_goto (tgt := 4) d_Md_held_33 (by decide) ?_
        exact V.kw (ih v6 (c3 + 1) S5) ⟨rfl, rfl, rfl, rfl, trivial⟩
      clear hJ28
      refine x_icmp_ne (tgt := 27) d_Md_held_20 (by decide) (fun _ => ?_) (fun _ => ?_)
      · refine x_iconst (v := 0) d_Md_held_27 (by decide) ?_
        exact V.kw (kJ28 c2 0 S) ⟨rfl, rfl, rfl, trivial⟩
      · refine x_iconst (v := 1) d_Md_held_23 (by decide) ?_
        refine x_goto (tgt := 28) d_Md_held_24 (by decide) ?_
        exact V.kw (kJ28 c2 1 S) ⟨rfl, rfl, rfl, trivial⟩
set_option maxHeartbeats 4000000 in
theorem v_Md_held {G : GX} (p1 : Int32) (S : AS) : V G md_Md_held (QM G md_Md_held iI) (fun _ => True) (some none) 0 [some (.ref 70), some (.int p1), none, none] [] 0 0 S (f_Md_held p1 S) := by
  unfold f_Md_held
  refine x_iconst (v := 0) d_Md_held_0 (by decide) ?_
  refine x_istore_n (lc' := [some (.ref 70), some (.int p1), some (.int 0), none]) d_Md_held_1 (by decide) rfl ?_
  refine x_iconst (v := 0) d_Md_held_2 (by decide) ?_
  refine x_istore_n (lc' := [some (.ref 70), some (.int p1), some (.int 0), some (.int 0)]) d_Md_held_3 (by decide) rfl ?_
  refine x_nm (fun J36 hJ36 => ?_)
  have kJ36 : ∀ (a1 : Int32) (S2 : AS), V G md_Md_held (QM G md_Md_held iI) (fun _ => True) (some none) 36 [none, none, some (.int a1), none] [] 0 0 S2 (J36 a1 S2) := by
    subst hJ36
    intro a1 S2
    refine x_iload_n d_Md_held_36 rfl ?_
    exact x_ret d_Md_held_37 rfl rfl (Nat.le_of_ble_eq_true rfl) (Nat.le_of_ble_eq_true rfl)
  clear hJ36
  exact V.kw (v_Md_held_L4 J36 p1 kJ36 FU 0 0 S) ⟨rfl, rfl, rfl, rfl, trivial⟩
theorem c_Md_held {G : GX} (p1 : Int32) (S : AS) : CN G y_Md_held b_Md_held 4 (some (FieldType.int)) ({ frames := 0, cells := 0, slots := 0, locals := 0 } : Room) (some none) iI [.ref 70, .int p1] S (f_Md_held p1 S) := cn_of_v (M := md_Md_held) (ini := false) rfl (by decide +kernel) (fun h => nomatch h) rfl (Nat.le_of_ble_eq_true rfl) (v_Md_held p1 S)
