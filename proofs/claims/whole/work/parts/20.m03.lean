noncomputable def f_Md_subjectOf (p1 : Int32) (p2 : Int32) (p3 : Int32) (p4 : Int32) (p5 : Int32) (S : AS) : Option (Int32 × AS) := if p1 = 0 then (chk (vp_in ((3 * p2) + 1) 48) (some (gi S 73 (ix ((3 * p2) + 1)), S))) else (if p1 = 1 then (chk (vp_in (3 * p2) 48) (some (gi S 73 (ix (3 * p2)), S))) else (if p1 = 2 then (chk (vp_in (3 * p3) 72) (some (gi S 72 (ix (3 * p3)), S))) else (if p1 = 3 then (chk (vp_in ((3 * p3) + 1) 72) (some (gi S 72 (ix ((3 * p3) + 1)), S))) else (if p1 = 4 then (bI (f_Md_held p3 S) fun r2 S1 => some (r2, S1)) else (if p1 = 5 then (if p4 = (-1) then (some (0, S)) else (chk (vp_in ((7 * p4) + 1) 336) (some (gi S 78 (ix ((7 * p4) + 1)), S)))) else (nm (fun (S3 : AS) => some (0, S3)) fun J132 => if p4 = (-1) then (J132 S) else (chk (vp_in ((7 * p4) + 1) 336) (if (gi S 78 (ix ((7 * p4) + 1))) ≤ p5 then (chk (vp_in ((7 * p4) + 1) 336) (some ((p5 - (gi S 78 (ix ((7 * p4) + 1)))) / 1440, S))) else (J132 S)))))))))
set_option maxHeartbeats 4000000 in
theorem v_Md_subjectOf {G : GX} (p1 : Int32) (p2 : Int32) (p3 : Int32) (p4 : Int32) (p5 : Int32) (S : AS) : V G md_Md_subjectOf (QM G md_Md_subjectOf iI) (fun _ => True) (some none) 0 [some (.ref 70), some (.int p1), some (.int p2), some (.int p3), some (.int p4), some (.int p5)] [] 0 0 S (f_Md_subjectOf p1 p2 p3 p4 p5 S) := by
  unfold f_Md_subjectOf
  refine x_iload_n d_Md_subjectOf_0 rfl ?_
  refine x_ite (fun hs9 => ?_) (fun hs9 => ?_)
  · refine x_tsw_in (c := 0) (tgt := 40) d_Md_subjectOf_1 hs9 (by decide) (by decide) rfl (by decide) ?_
    refine x_aload_n_ref d_Md_subjectOf_40 rfl ?_
    refine x_getr d_Md_subjectOf_41 fl_Md_26 ak_70 (q99 (by decide)) (shx sh_70_5) ?_
    refine x_iconst (v := 3) d_Md_subjectOf_44 (by decide) ?_
    refine x_iload_n d_Md_subjectOf_45 rfl ?_
    refine x_imul d_Md_subjectOf_46 ?_
    refine x_iconst (v := 1) d_Md_subjectOf_47 (by decide) ?_
    refine x_iadd d_Md_subjectOf_48 ?_
    refine x_iald d_Md_subjectOf_49 ak_73 (q99 (by decide)) ?_
    exact x_ret d_Md_subjectOf_50 rfl rfl (Nat.le_of_ble_eq_true rfl) (Nat.le_of_ble_eq_true rfl)
  · refine x_ite (fun hs8 => ?_) (fun hs8 => ?_)
    · refine x_tsw_in (c := 1) (tgt := 51) d_Md_subjectOf_1 hs8 (by decide) (by decide) rfl (by decide) ?_
      refine x_aload_n_ref d_Md_subjectOf_51 rfl ?_
      refine x_getr d_Md_subjectOf_52 fl_Md_26 ak_70 (q99 (by decide)) (shx sh_70_5) ?_
      refine x_iconst (v := 3) d_Md_subjectOf_55 (by decide) ?_
      refine x_iload_n d_Md_subjectOf_56 rfl ?_
      refine x_imul d_Md_subjectOf_57 ?_
      refine x_iald d_Md_subjectOf_58 ak_73 (q99 (by decide)) ?_
      exact x_ret d_Md_subjectOf_59 rfl rfl (Nat.le_of_ble_eq_true rfl) (Nat.le_of_ble_eq_true rfl)
    · refine x_ite (fun hs7 => ?_) (fun hs7 => ?_)
      · refine x_tsw_in (c := 2) (tgt := 60) d_Md_subjectOf_1 hs7 (by decide) (by decide) rfl (by decide) ?_
        refine x_aload_n_ref d_Md_subjectOf_60 rfl ?_
        refine x_getr d_Md_subjectOf_61 fl_Md_20 ak_70 (q99 (by decide)) (shx sh_70_3) ?_
        refine x_iconst (v := 3) d_Md_subjectOf_64 (by decide) ?_
        refine x_iload_n d_Md_subjectOf_65 rfl ?_
        refine x_imul d_Md_subjectOf_66 ?_
        refine x_iald d_Md_subjectOf_67 ak_72 (q99 (by decide)) ?_
        exact x_ret d_Md_subjectOf_68 rfl rfl (Nat.le_of_ble_eq_true rfl) (Nat.le_of_ble_eq_true rfl)
      · refine x_ite (fun hs6 => ?_) (fun hs6 => ?_)
        · refine x_tsw_in (c := 3) (tgt := 69) d_Md_subjectOf_1 hs6 (by decide) (by decide) rfl (by decide) ?_
          refine x_aload_n_ref d_Md_subjectOf_69 rfl ?_
          refine x_getr d_Md_subjectOf_70 fl_Md_20 ak_70 (q99 (by decide)) (shx sh_70_3) ?_
          refine x_iconst (v := 3) d_Md_subjectOf_73 (by decide) ?_
          refine x_iload_n d_Md_subjectOf_74 rfl ?_
          refine x_imul d_Md_subjectOf_75 ?_
          refine x_iconst (v := 1) d_Md_subjectOf_76 (by decide) ?_
          refine x_iadd d_Md_subjectOf_77 ?_
          refine x_iald d_Md_subjectOf_78 ak_72 (q99 (by decide)) ?_
          exact x_ret d_Md_subjectOf_79 rfl rfl (Nat.le_of_ble_eq_true rfl) (Nat.le_of_ble_eq_true rfl)
        · refine x_ite (fun hs5 => ?_) (fun hs5 => ?_)
          · refine x_tsw_in (c := 4) (tgt := 80) d_Md_subjectOf_1 hs5 (by decide) (by decide) rfl (by decide) ?_
            refine x_aload_n_ref d_Md_subjectOf_80 rfl ?_
            refine x_iload_n d_Md_subjectOf_81 rfl ?_
            refine x_vI (b' := (some none)) (As := [.int p3]) d_Md_subjectOf_82 mv_Md_237 rfl (fun _ => ak_70) rfl (q99 (by decide)) ⟨Nat.le_of_ble_eq_true rfl, Nat.le_of_ble_eq_true rfl⟩ (Nat.le_of_ble_eq_true rfl) ⟨Nat.le_of_ble_eq_true rfl, Nat.le_of_ble_eq_true rfl⟩ (fun _ h => h) (fun h => ⟨h, c_Md_held p3 _⟩) (fun r2 S1 => ?_)
            exact x_ret d_Md_subjectOf_85 rfl rfl (Nat.le_of_ble_eq_true rfl) (Nat.le_of_ble_eq_true rfl)
          · refine x_ite (fun hs4 => ?_) (fun hs4 => ?_)
            · refine x_tsw_in (c := 5) (tgt := 86) d_Md_subjectOf_1 hs4 (by decide) (by decide) rfl (by decide) ?_
              refine x_iload d_Md_subjectOf_86 rfl ?_
              refine x_iconst (v := -1) d_Md_subjectOf_88 (by decide) ?_
              refine x_icmp_ne (tgt := 96) d_Md_subjectOf_89 (by decide) (fun _ => ?_) (fun _ => ?_)
              · refine x_aload_n_ref d_Md_subjectOf_96 rfl ?_
                refine x_getr d_Md_subjectOf_97 fl_Md_47 ak_70 (q99 (by decide)) (shx sh_70_12) ?_
                refine x_bipush (v := 7) d_Md_subjectOf_100 (by decide) ?_
                refine x_iload d_Md_subjectOf_102 rfl ?_
                refine x_imul d_Md_subjectOf_104 ?_
                refine x_iconst (v := 1) d_Md_subjectOf_105 (by decide) ?_
                refine x_iadd d_Md_subjectOf_106 ?_
                refine x_iald d_Md_subjectOf_107 ak_78 (q99 (by decide)) ?_
                exact x_ret d_Md_subjectOf_108 rfl rfl (Nat.le_of_ble_eq_true rfl) (Nat.le_of_ble_eq_true rfl)
              · refine x_iconst (v := 0) d_Md_subjectOf_92 (by decide) ?_
                refine x_goto (tgt := 108) d_Md_subjectOf_93 (by decide) ?_
                exact x_ret d_Md_subjectOf_108 rfl rfl (Nat.le_of_ble_eq_true rfl) (Nat.le_of_ble_eq_true rfl)
            · refine x_tsw_out (n := 6) (tgt := 109) d_Md_subjectOf_1 (by decide) (fun j hj => by rcases (by omega : j = 0 ∨ j = 1 ∨ j = 2 ∨ j = 3 ∨ j = 4 ∨ j = 5) with rfl | rfl | rfl | rfl | rfl | rfl <;> assumption) (by decide) ?_
              refine x_iload d_Md_subjectOf_109 rfl ?_
              refine x_iconst (v := -1) d_Md_subjectOf_111 (by decide) ?_
              refine x_nm (fun J132 hJ132 => ?_)
              have kJ132 : ∀ (S3 : AS), V G md_Md_subjectOf (QM G md_Md_subjectOf iI) (fun _ => True) (some none) 132 [none, none, none, none, none, none] [] 0 0 S3 (J132 S3) := by
                subst hJ132
                intro S3
                refine x_iconst (v := 0) d_Md_subjectOf_132 (by decide) ?_
                refine x_goto (tgt := 155) d_Md_subjectOf_133 (by decide) ?_
                exact x_ret d_Md_subjectOf_155 rfl rfl (Nat.le_of_ble_eq_true rfl) (Nat.le_of_ble_eq_true rfl)
              clear hJ132
              refine x_icmp_eq (tgt := 132) d_Md_subjectOf_112 (by decide) (fun _ => ?_) (fun _ => ?_)
              · exact V.kw (kJ132 S) trivial
              · refine x_iload d_Md_subjectOf_115 rfl ?_
                refine x_aload_n_ref d_Md_subjectOf_117 rfl ?_
                refine x_getr d_Md_subjectOf_118 fl_Md_47 ak_70 (q99 (by decide)) (shx sh_70_12) ?_
                refine x_bipush (v := 7) d_Md_subjectOf_121 (by decide) ?_
                refine x_iload d_Md_subjectOf_123 rfl ?_
                refine x_imul d_Md_subjectOf_125 ?_
                refine x_iconst (v := 1) d_Md_subjectOf_126 (by decide) ?_
                refine x_iadd d_Md_subjectOf_127 ?_
                refine x_iald d_Md_subjectOf_128 ak_78 (q99 (by decide)) ?_
                refine x_icmp_ge (tgt := 136) d_Md_subjectOf_129 (by decide) (fun _ => ?_) (fun _ => ?_)
                · refine x_iload d_Md_subjectOf_136 rfl ?_
                  refine x_aload_n_ref d_Md_subjectOf_138 rfl ?_
                  refine x_getr d_Md_subjectOf_139 fl_Md_47 ak_70 (q99 (by decide)) (shx sh_70_12) ?_
                  refine x_bipush (v := 7) d_Md_subjectOf_142 (by decide) ?_
                  refine x_iload d_Md_subjectOf_144 rfl ?_
                  refine x_imul d_Md_subjectOf_146 ?_
                  refine x_iconst (v := 1) d_Md_subjectOf_147 (by decide) ?_
                  refine x_iadd d_Md_subjectOf_148 ?_
                  refine x_iald d_Md_subjectOf_149 ak_78 (q99 (by decide)) ?_
                  refine x_isub d_Md_subjectOf_150 ?_
                  refine x_sipush (v := 1440) d_Md_subjectOf_151 (by decide) ?_
                  refine x_idiv (by decide) d_Md_subjectOf_154 ?_
                  exact x_ret d_Md_subjectOf_155 rfl rfl (Nat.le_of_ble_eq_true rfl) (Nat.le_of_ble_eq_true rfl)
                · exact V.kw (kJ132 S) trivial
theorem c_Md_subjectOf {G : GX} (p1 : Int32) (p2 : Int32) (p3 : Int32) (p4 : Int32) (p5 : Int32) (S : AS) : CN G y_Md_subjectOf b_Md_subjectOf 6 (some (FieldType.int)) ({ frames := 1, cells := 0, slots := 0, locals := 23 } : Room) (some none) iI [.ref 70, .int p1, .int p2, .int p3, .int p4, .int p5] S (f_Md_subjectOf p1 p2 p3 p4 p5 S) := cn_of_v (M := md_Md_subjectOf) (ini := false) rfl (by decide +kernel) (fun h => nomatch h) rfl (Nat.le_of_ble_eq_true rfl) (v_Md_subjectOf p1 p2 p3 p4 p5 S)
noncomputable def f_Md_holds_L6 (J141 : Int32 → AS → Option (Int32 × AS)) (x1 : Int32) (x2 : Int32) (x3 : Int32) (x4 : Int32) (x5 : Int32) : Nat → Int32 → Int32 → AS → Option (Int32 × AS)
  | 0, _, _, _ => none
  | n + 1, c6, c7, S => chk (vp_in (x1 + 2) 3600) (if (gi S 83 (ix (x1 + 2))) < c7 then (J141 c6 S) else (if c6 = 0 then (J141 c6 S) else (chk (vp_in (x1 + (3 * c7)) 3600) (bI (f_Md_subjectOf (gi S 83 (ix (x1 + (3 * c7)))) x2 x3 x4 x5 S) fun r4 S3 => chk (vp_in ((x1 + (3 * c7)) + 1) 3600) (nm (gi S3 83 (ix ((x1 + (3 * c7)) + 1))) fun v5 => chk (vp_in ((x1 + (3 * c7)) + 2) 3600) (nm (gi S3 83 (ix ((x1 + (3 * c7)) + 2))) fun v6 => nm (fun (a7 : Int32) (S8 : AS) => f_Md_holds_L6 J141 x1 x2 x3 x4 x5 n a7 (c7 + 1) S8) fun J133 => if v5 = 60 then (if v6 ≤ r4 then (J133 0 S3) else (J133 1 S3)) else (if v5 = 62 then (if r4 ≤ v6 then (J133 0 S3) else (J133 1 S3)) else (if r4 = v6 then (J133 1 S3) else (J133 0 S3)))))))))
noncomputable def f_Md_holds (p1 : Int32) (p2 : Int32) (p3 : Int32) (p4 : Int32) (p5 : Int32) (S : AS) : Option (Int32 × AS) := nm (fun (a1 : Int32) (S2 : AS) => chk (isb a1) (some (a1, S2))) fun J141 => f_Md_holds_L6 J141 p1 p2 p3 p4 p5 FU 1 1 S
set_option maxHeartbeats 4000000 in
theorem v_Md_holds_L6 {G : GX} (J141 : Int32 → AS → Option (Int32 × AS)) (x1 : Int32) (x2 : Int32) (x3 : Int32) (x4 : Int32) (x5 : Int32) (kJ141 : ∀ (a1 : Int32) (T : AS), V G md_Md_holds (QM G md_Md_holds iI) (fun _ => True) (some none) 141 [none, none, none, none, none, none, some (.int a1), none, none, none, none] [] 0 0 T (J141 a1 T)) : ∀ (n : Nat) (c6 : Int32) (c7 : Int32) (S : AS), V G md_Md_holds (QM G md_Md_holds iI) (fun _ => True) (some none) 6 [some (.ref 70), some (.int x1), some (.int x2), some (.int x3), some (.int x4), some (.int x5), some (.int c6), some (.int c7), none, none, none] [] 0 0 S (f_Md_holds_L6 J141 x1 x2 x3 x4 x5 n c6 c7 S) := by
  intro n
  induction n with
  | zero => intro c6 c7 S; exact V.none
  | succ n ih =>
    intro c6 c7 S
    rw [f_Md_holds_L6]
    refine x_iload d_Md_holds_6 rfl ?_
    refine x_aload_n_ref d_Md_holds_8 rfl ?_
    refine x_getr d_Md_holds_9 fl_Md_68 ak_70 (q99 (by decide)) (shx sh_70_19) ?_
    refine x_iload_n d_Md_holds_12 rfl ?_
    refine x_iconst (v := 2) d_Md_holds_13 (by decide) ?_
    refine x_iadd d_Md_holds_14 ?_
    refine x_iald d_Md_holds_15 ak_83 (q99 (by decide)) ?_
    refine x_icmp_gt (tgt := 141) d_Md_holds_16 (by decide) (fun _ => ?_) (fun _ => ?_)
    · exact V.kw (kJ141 c6 S) ⟨rfl, trivial⟩
    · refine x_iload d_Md_holds_19 rfl ?_
      refine x_if_eq (tgt := 141) d_Md_holds_21 (by decide) (fun _ => ?_) (fun _ => ?_)
      · exact V.kw (kJ141 c6 S) ⟨rfl, trivial⟩
      · refine x_aload_n_ref d_Md_holds_24 rfl ?_
        refine x_aload_n_ref d_Md_holds_25 rfl ?_
        refine x_getr d_Md_holds_26 fl_Md_68 ak_70 (q99 (by decide)) (shx sh_70_19) ?_
        refine x_iload_n d_Md_holds_29 rfl ?_
        refine x_iconst (v := 3) d_Md_holds_30 (by decide) ?_
        refine x_iload d_Md_holds_31 rfl ?_
        refine x_imul d_Md_holds_33 ?_
        refine x_iadd d_Md_holds_34 ?_
        refine x_iald d_Md_holds_35 ak_83 (q99 (by decide)) ?_
        refine x_iload_n d_Md_holds_36 rfl ?_
        refine x_iload_n d_Md_holds_37 rfl ?_
        refine x_iload d_Md_holds_38 rfl ?_
        refine x_iload d_Md_holds_40 rfl ?_
        refine x_vI (b' := (some none)) (As := [.int (gi S 83 (ix (x1 + (3 * c7)))), .int x2, .int x3, .int x4, .int x5]) d_Md_holds_42 mv_Md_241 rfl (fun _ => ak_70) rfl (q99 (by decide)) ⟨Nat.le_of_ble_eq_true rfl, Nat.le_of_ble_eq_true rfl⟩ (Nat.le_of_ble_eq_true rfl) ⟨Nat.le_of_ble_eq_true rfl, Nat.le_of_ble_eq_true rfl⟩ (fun _ h => h) (fun h => ⟨h, c_Md_subjectOf (gi S 83 (ix (x1 + (3 * c7)))) x2 x3 x4 x5 _⟩) (fun r4 S3 => ?_)
        refine x_istore (lc' := [some (.ref 70), some (.int x1), some (.int x2), some (.int x3), some (.int x4), some (.int x5), some (.int c6), some (.int c7), some (.int r4), none, none]) d_Md_holds_45 (by decide) rfl ?_
        refine x_aload_n_ref d_Md_holds_47 rfl ?_
        refine x_getr d_Md_holds_48 fl_Md_68 ak_70 (q99 (by decide)) (shx sh_70_19) ?_
        refine x_iload_n d_Md_holds_51 rfl ?_
        refine x_iconst (v := 3) d_Md_holds_52 (by decide) ?_
        refine x_iload d_Md_holds_53 rfl ?_
        refine x_imul d_Md_holds_55 ?_
        refine x_iadd d_Md_holds_56 ?_
        refine x_iconst (v := 1) d_Md_holds_57 (by decide) ?_
        refine x_iadd d_Md_holds_58 ?_
        refine x_iald d_Md_holds_59 ak_83 (q99 (by decide)) ?_
        refine x_topi (fun v5 => ?_)
        refine x_istore (lc' := [some (.ref 70), some (.int x1), some (.int x2), some (.int x3), some (.int x4), some (.int x5), some (.int c6), some (.int c7), some (.int r4), some (.int v5), none]) d_Md_holds_60 (by decide) rfl ?_
        refine x_aload_n_ref d_Md_holds_62 rfl ?_
        refine x_getr d_Md_holds_63 fl_Md_68 ak_70 (q99 (by decide)) (shx sh_70_19) ?_
        refine x_iload_n d_Md_holds_66 rfl ?_
        refine x_iconst (v := 3) d_Md_holds_67 (by decide) ?_
        refine x_iload d_Md_holds_68 rfl ?_
        refine x_imul d_Md_holds_70 ?_
        refine x_iadd d_Md_holds_71 ?_
        refine x_iconst (v := 2) d_Md_holds_72 (by decide) ?_
        refine x_iadd d_Md_holds_73 ?_
        refine x_iald d_Md_holds_74 ak_83 (q99 (by decide)) ?_
        refine x_topi (fun v6 => ?_)
        refine x_istore (lc' := [some (.ref 70), some (.int x1), some (.int x2), some (.int x3), some (.int x4), some (.int x5), some (.int c6), some (.int c7), some (.int r4), some (.int v5), some (.int v6)]) d_Md_holds_75 (by decide) rfl ?_
        refine x_iload d_Md_holds_77 rfl ?_
        refine x_bipush (v := 60) d_Md_holds_79 (by decide) ?_
        refine x_nm (fun J133 hJ133 => ?_)
        have kJ133 : ∀ (a7 : Int32) (S8 : AS), V G md_Md_holds (QM G md_Md_holds iI) (fun _ => True) (some none) 133 [some (.ref 70), some (.int x1), some (.int x2), some (.int x3), some (.int x4), some (.int x5), none, some (.int c7), none, none, none] [.int a7] 0 0 S8 (J133 a7 S8) := by
          subst hJ133
          intro a7 S8
          refine x_istore (lc' := [some (.ref 70), some (.int x1), some (.int x2), some (.int x3), some (.int x4), some (.int x5), some (.int a7), some (.int c7), none, none, none]) d_Md_holds_133 (by decide) rfl ?_
          refine x_iinc (w := c7 + 1) (lc' := [some (.ref 70), some (.int x1), some (.int x2), some (.int x3), some (.int x4), some (.int x5), some (.int a7), some (.int (c7 + 1)), none, none, none]) d_Md_holds_135 (by decide) rfl rfl rfl ?_
          refine x_goto (tgt := 6) d_Md_holds_138 (by decide) ?_
          exact V.kw (ih a7 (c7 + 1) S8) ⟨rfl, rfl, rfl, rfl, rfl, rfl, rfl, rfl, trivial⟩
        clear hJ133
        refine x_icmp_ne (tgt := 99) d_Md_holds_81 (by decide) (fun _ => ?_) (fun _ => ?_)
        · refine x_iload d_Md_holds_99 rfl ?_
          refine x_bipush (v := 62) d_Md_holds_101 (by decide) ?_
          refine x_icmp_ne (tgt := 121) d_Md_holds_103 (by decide) (fun _ => ?_) (fun _ => ?_)
          · refine x_iload d_Md_holds_121 rfl ?_
            refine x_iload d_Md_holds_123 rfl ?_
            refine x_icmp_ne (tgt := 132) d_Md_holds_125 (by decide) (fun _ => ?_) (fun _ => ?_)
            · refine x_iconst (v := 0) d_Md_holds_132 (by decide) ?_
              exact V.kw (kJ133 0 S3) ⟨rfl, rfl, rfl, rfl, rfl, rfl, rfl, trivial⟩
            · refine x_iconst (v := 1) d_Md_holds_128 (by decide) ?_
              refine x_goto (tgt := 133) d_Md_holds_129 (by decide) ?_
              exact V.kw (kJ133 1 S3) ⟨rfl, rfl, rfl, rfl, rfl, rfl, rfl, trivial⟩
          · refine x_iload d_Md_holds_106 rfl ?_
            refine x_iload d_Md_holds_108 rfl ?_
            refine x_icmp_le (tgt := 117) d_Md_holds_110 (by decide) (fun _ => ?_) (fun _ => ?_)
            · refine x_iconst (v := 0) d_Md_holds_117 (by decide) ?_
              refine x_goto (tgt := 133) d_Md_holds_118 (by decide) ?_
              exact V.kw (kJ133 0 S3) ⟨rfl, rfl, rfl, rfl, rfl, rfl, rfl, trivial⟩
            · refine x_iconst (v := 1) d_Md_holds_113 (by decide) ?_
              refine x_goto (tgt := 133) d_Md_holds_114 (by decide) ?_
              exact V.kw (kJ133 1 S3) ⟨rfl, rfl, rfl, rfl, rfl, rfl, rfl, trivial⟩
        · refine x_iload d_Md_holds_84 rfl ?_
          refine x_iload d_Md_holds_86 rfl ?_
          refine x_icmp_ge (tgt := 95) d_Md_holds_88 (by decide) (fun _ => ?_) (fun _ => ?_)
          · refine x_iconst (v := 0) d_Md_holds_95 (by decide) ?_
            refine x_goto (tgt := 133) d_Md_holds_96 (by decide) ?_
            exact V.kw (kJ133 0 S3) ⟨rfl, rfl, rfl, rfl, rfl, rfl, rfl, trivial⟩
          · refine x_iconst (v := 1) d_Md_holds_91 (by decide) ?_
            refine x_goto (tgt := 133) d_Md_holds_92 (by decide) ?_
            exact V.kw (kJ133 1 S3) ⟨rfl, rfl, rfl, rfl, rfl, rfl, rfl, trivial⟩
set_option maxHeartbeats 4000000 in
theorem v_Md_holds {G : GX} (p1 : Int32) (p2 : Int32) (p3 : Int32) (p4 : Int32) (p5 : Int32) (S : AS) : V G md_Md_holds (QM G md_Md_holds iI) (fun _ => True) (some none) 0 [some (.ref 70), some (.int p1), some (.int p2), some (.int p3), some (.int p4), some (.int p5), none, none, none, none, none] [] 0 0 S (f_Md_holds p1 p2 p3 p4 p5 S) := by
  unfold f_Md_holds
  refine x_iconst (v := 1) d_Md_holds_0 (by decide) ?_
  refine x_istore (lc' := [some (.ref 70), some (.int p1), some (.int p2), some (.int p3), some (.int p4), some (.int p5), some (.int 1), none, none, none, none]) d_Md_holds_1 (by decide) rfl ?_
  refine x_iconst (v := 1) d_Md_holds_3 (by decide) ?_
  refine x_istore (lc' := [some (.ref 70), some (.int p1), some (.int p2), some (.int p3), some (.int p4), some (.int p5), some (.int 1), some (.int 1), none, none, none]) d_Md_holds_4 (by decide) rfl ?_
  refine x_nm (fun J141 hJ141 => ?_)
  have kJ141 : ∀ (a1 : Int32) (S2 : AS), V G md_Md_holds (QM G md_Md_holds iI) (fun _ => True) (some none) 141 [none, none, none, none, none, none, some (.int a1), none, none, none, none] [] 0 0 S2 (J141 a1 S2) := by
    subst hJ141
    intro a1 S2
    refine x_iload d_Md_holds_141 rfl ?_
    exact x_zretc d_Md_holds_143 rfl (Nat.le_of_ble_eq_true rfl) (Nat.le_of_ble_eq_true rfl)
  clear hJ141
  exact V.kw (v_Md_holds_L6 J141 p1 p2 p3 p4 p5 kJ141 FU 1 1 S) ⟨rfl, rfl, rfl, rfl, rfl, rfl, rfl, rfl, trivial⟩
theorem c_Md_holds {G : GX} (p1 : Int32) (p2 : Int32) (p3 : Int32) (p4 : Int32) (p5 : Int32) (S : AS) : CN G y_Md_holds b_Md_holds 11 (some (FieldType.boolean)) ({ frames := 2, cells := 0, slots := 0, locals := 48 } : Room) (some none) iI [.ref 70, .int p1, .int p2, .int p3, .int p4, .int p5] S (f_Md_holds p1 p2 p3 p4 p5 S) := cn_of_v (M := md_Md_holds) (ini := false) rfl (by decide +kernel) (fun h => nomatch h) rfl (Nat.le_of_ble_eq_true rfl) (v_Md_holds p1 p2 p3 p4 p5 S)
noncomputable def f_Md_isBarred_L23 (J90 : AS → Option (Int32 × AS)) (x1 : Int32) (x2 : Int32) (x3 : Int32) (x4 : Int32) (x5 : Int32) : Nat → Int32 → AS → Option (Int32 × AS)
  | 0, _, _ => none
  | n + 1, c6, S => chk (vp_in x5 6) (if ((600 * x5) + (gi S 82 (ix x5))) ≤ c6 then (J90 S) else (chk (vp_in c6 3600) (nm (fun (S5 : AS) => chk (vp_in (c6 + 2) 3600) (nm (c6 + (3 + (3 * (gi S5 83 (ix (c6 + 2)))))) fun v6 => f_Md_isBarred_L23 J90 x1 x2 x3 x4 x5 n v6 S5)) fun J69 => if (gi S 83 (ix c6)) = 4 then (bI (f_Md_holds c6 x1 x2 x3 x4 S) fun r8 S7 => if r8 = 0 then (J69 S7) else (some (1, S7))) else (J69 S))))
noncomputable def f_Md_isBarred (p1 : Int32) (p2 : Int32) (p3 : Int32) (p4 : Int32) (S : AS) : Option (Int32 × AS) := bI (f_Md_force p4 S) fun r2 S1 => if 0 ≤ r2 then (nm (600 * r2) fun v3 => nm (fun (S4 : AS) => some (0, S4)) fun J90 => f_Md_isBarred_L23 J90 p1 p2 p3 p4 r2 FU v3 S1) else (some (0, S1))
set_option maxHeartbeats 4000000 in
theorem v_Md_isBarred_L23 {G : GX} (J90 : AS → Option (Int32 × AS)) (x1 : Int32) (x2 : Int32) (x3 : Int32) (x4 : Int32) (x5 : Int32) (kJ90 : ∀ (T : AS), V G md_Md_isBarred (QM G md_Md_isBarred iI) (fun _ => True) (some none) 90 [none, none, none, none, none, none, none] [] 0 0 T (J90 T)) : ∀ (n : Nat) (c6 : Int32) (S : AS), V G md_Md_isBarred (QM G md_Md_isBarred iI) (fun _ => True) (some none) 23 [some (.ref 70), some (.int x1), some (.int x2), some (.int x3), some (.int x4), some (.int x5), some (.int c6)] [] 0 0 S (f_Md_isBarred_L23 J90 x1 x2 x3 x4 x5 n c6 S) := by
  intro n
  induction n with
  | zero => intro c6 S; exact V.none
  | succ n ih =>
    intro c6 S
    rw [f_Md_isBarred_L23]
    refine x_iload d_Md_isBarred_23 rfl ?_
    refine x_sipush (v := 600) d_Md_isBarred_25 (by decide) ?_
    refine x_iload d_Md_isBarred_28 rfl ?_
    refine x_imul d_Md_isBarred_30 ?_
    refine x_aload_n_ref d_Md_isBarred_31 rfl ?_
    refine x_getr d_Md_isBarred_32 fl_Md_65 ak_70 (q99 (by decide)) (shx sh_70_18) ?_
    refine x_iload d_Md_isBarred_35 rfl ?_
    refine x_iald d_Md_isBarred_37 ak_82 (q99 (by decide)) ?_
    refine x_iadd d_Md_isBarred_38 ?_
    refine x_icmp_ge (tgt := 90) d_Md_isBarred_39 (by decide) (fun _ => ?_) (fun _ => ?_)
    · exact V.kw (kJ90 S) trivial
    · refine x_aload_n_ref d_Md_isBarred_42 rfl ?_
      refine x_getr d_Md_isBarred_43 fl_Md_68 ak_70 (q99 (by decide)) (shx sh_70_19) ?_
      refine x_iload d_Md_isBarred_46 rfl ?_
      refine x_iald d_Md_isBarred_48 ak_83 (q99 (by decide)) ?_
      refine x_iconst (v := 4) d_Md_isBarred_49 (by decide) ?_
      refine x_nm (fun J69 hJ69 => ?_)
      have kJ69 : ∀ (S5 : AS), V G md_Md_isBarred (QM G md_Md_isBarred iI) (fun _ => True) (some none) 69 [some (.ref 70), some (.int x1), some (.int x2), some (.int x3), some (.int x4), some (.int x5), some (.int c6)] [] 0 0 S5 (J69 S5) := by
        subst hJ69
        intro S5
        refine x_iload d_Md_isBarred_69 rfl ?_
        refine x_iconst (v := 3) d_Md_isBarred_71 (by decide) ?_
        refine x_iconst (v := 3) d_Md_isBarred_72 (by decide) ?_
        refine x_aload_n_ref d_Md_isBarred_73 rfl ?_
        refine x_getr d_Md_isBarred_74 fl_Md_68 ak_70 (q99 (by decide)) (shx sh_70_19) ?_
        refine x_iload d_Md_isBarred_77 rfl ?_
        refine x_iconst (v := 2) d_Md_isBarred_79 (by decide) ?_
        refine x_iadd d_Md_isBarred_80 ?_
        refine x_iald d_Md_isBarred_81 ak_83 (q99 (by decide)) ?_
        refine x_imul d_Md_isBarred_82 ?_
        refine x_iadd d_Md_isBarred_83 ?_
        refine x_iadd d_Md_isBarred_84 ?_
        refine x_topi (fun v6 => ?_)
        refine x_istore (lc' := [some (.ref 70), some (.int x1), some (.int x2), some (.int x3), some (.int x4), some (.int x5), some (.int v6)]) d_Md_isBarred_85 (by decide) rfl ?_
        refine x_goto (tgt := 23) d_Md_isBarred_87 (by decide) ?_
        exact V.kw (ih v6 S5) ⟨rfl, rfl, rfl, rfl, rfl, rfl, rfl, trivial⟩
      clear hJ69
      refine x_icmp_ne (tgt := 69) d_Md_isBarred_50 (by decide) (fun _ => ?_) (fun _ => ?_)
      · exact V.kw (kJ69 S) ⟨rfl, rfl, rfl, rfl, rfl, rfl, rfl, trivial⟩
      · refine x_aload_n_ref d_Md_isBarred_53 rfl ?_
        refine x_iload d_Md_isBarred_54 rfl ?_
        refine x_iload_n d_Md_isBarred_56 rfl ?_
        refine x_iload_n d_Md_isBarred_57 rfl ?_
        refine x_iload_n d_Md_isBarred_58 rfl ?_
        refine x_iload d_Md_isBarred_59 rfl ?_
        refine x_vI (b' := (some none)) (As := [.int c6, .int x1, .int x2, .int x3, .int x4]) d_Md_isBarred_61 mv_Md_248 rfl (fun _ => ak_70) rfl (q99 (by decide)) ⟨Nat.le_of_ble_eq_true rfl, Nat.le_of_ble_eq_true rfl⟩ (Nat.le_of_ble_eq_true rfl) ⟨Nat.le_of_ble_eq_true rfl, Nat.le_of_ble_eq_true rfl⟩ (fun _ h => h) (fun h => ⟨h, c_Md_holds c6 x1 x2 x3 x4 _⟩) (fun r8 S7 => ?_)
        refine x_if_eq (tgt := 69) d_Md_isBarred_64 (by decide) (fun _ => ?_) (fun _ => ?_)
        · exact V.kw (kJ69 S7) ⟨rfl, rfl, rfl, rfl, rfl, rfl, rfl, trivial⟩
        · refine x_iconst (v := 1) d_Md_isBarred_67 (by decide) ?_
          exact x_ret d_Md_isBarred_68 rfl rfl (Nat.le_of_ble_eq_true rfl) (Nat.le_of_ble_eq_true rfl)
set_option maxHeartbeats 4000000 in
theorem v_Md_isBarred {G : GX} (p1 : Int32) (p2 : Int32) (p3 : Int32) (p4 : Int32) (S : AS) : V G md_Md_isBarred (QM G md_Md_isBarred iI) (fun _ => True) (some none) 0 [some (.ref 70), some (.int p1), some (.int p2), some (.int p3), some (.int p4), none, none] [] 0 0 S (f_Md_isBarred p1 p2 p3 p4 S) := by
  unfold f_Md_isBarred
  refine x_aload_n_ref d_Md_isBarred_0 rfl ?_
  refine x_iload d_Md_isBarred_1 rfl ?_
  refine x_vI (b' := (some none)) (As := [.int p4]) d_Md_isBarred_3 mv_Md_245 rfl (fun _ => ak_70) rfl (q99 (by decide)) ⟨Nat.le_of_ble_eq_true rfl, Nat.le_of_ble_eq_true rfl⟩ (Nat.le_of_ble_eq_true rfl) ⟨Nat.le_of_ble_eq_true rfl, Nat.le_of_ble_eq_true rfl⟩ (fun _ h => h) (fun h => ⟨h, c_Md_force p4 _⟩) (fun r2 S1 => ?_)
  refine x_istore (lc' := [some (.ref 70), some (.int p1), some (.int p2), some (.int p3), some (.int p4), some (.int r2), none]) d_Md_isBarred_6 (by decide) rfl ?_
  refine x_iload d_Md_isBarred_8 rfl ?_
  refine x_if_ge (tgt := 15) d_Md_isBarred_10 (by decide) (fun _ => ?_) (fun _ => ?_)
  · refine x_sipush (v := 600) d_Md_isBarred_15 (by decide) ?_
    refine x_iload d_Md_isBarred_18 rfl ?_
    refine x_imul d_Md_isBarred_20 ?_
    refine x_topi (fun v3 => ?_)
    refine x_istore (lc' := [some (.ref 70), some (.int p1), some (.int p2), some (.int p3), some (.int p4), some (.int r2), some (.int v3)]) d_Md_isBarred_21 (by decide) rfl ?_
    refine x_nm (fun J90 hJ90 => ?_)
    have kJ90 : ∀ (S4 : AS), V G md_Md_isBarred (QM G md_Md_isBarred iI) (fun _ => True) (some none) 90 [none, none, none, none, none, none, none] [] 0 0 S4 (J90 S4) := by
      subst hJ90
      intro S4
      refine x_iconst (v := 0) d_Md_isBarred_90 (by decide) ?_
      exact x_ret d_Md_isBarred_91 rfl rfl (Nat.le_of_ble_eq_true rfl) (Nat.le_of_ble_eq_true rfl)
    clear hJ90
    exact V.kw (v_Md_isBarred_L23 J90 p1 p2 p3 p4 r2 kJ90 FU v3 S1) ⟨rfl, rfl, rfl, rfl, rfl, rfl, rfl, trivial⟩
  · refine x_iconst (v := 0) d_Md_isBarred_13 (by decide) ?_
    exact x_ret d_Md_isBarred_14 rfl rfl (Nat.le_of_ble_eq_true rfl) (Nat.le_of_ble_eq_true rfl)
theorem c_Md_isBarred {G : GX} (p1 : Int32) (p2 : Int32) (p3 : Int32) (p4 : Int32) (S : AS) : CN G y_Md_isBarred b_Md_isBarred 7 (some (FieldType.boolean)) ({ frames := 3, cells := 0, slots := 0, locals := 78 } : Room) (some none) iI [.ref 70, .int p1, .int p2, .int p3, .int p4] S (f_Md_isBarred p1 p2 p3 p4 S) := cn_of_v (M := md_Md_isBarred) (ini := false) rfl (by decide +kernel) (fun h => nomatch h) rfl (Nat.le_of_ble_eq_true rfl) (v_Md_isBarred p1 p2 p3 p4 S)
noncomputable def f_Md_differ (p1 : Int32) (p2 : Int32) (p3 : Int32) (p4 : Int32) (p5 : Int32) (S : AS) : Option (Int32 × AS) := chk (vp_in (p1 + 1) 3600) (nm (gi S 83 (ix (p1 + 1))) fun v1 => chk (vp_in (7 * p3) 336) (nm (gi S 78 (ix (7 * p3))) fun v2 => chk (vp_in (7 * p4) 336) (nm (gi S 78 (ix (7 * p4))) fun v3 => chk (vp_in p1 3600) (if (gi S 83 (ix p1)) = 0 then (chk (vp_in ((7 * p3) + 2) 336) (chk (vp_in ((7 * p4) + 2) 336) (some ((((gi S 78 (ix ((7 * p3) + 2))) >>> (v1 &&& 31)) &&& 1) - (((gi S 78 (ix ((7 * p4) + 2))) >>> (v1 &&& 31)) &&& 1), S)))) else (if (gi S 83 (ix p1)) = 1 then (chk (vp_in ((3 * v2) + 2) 72) (chk (vp_in (3 * p2) 48) (nm (fun (a4 : Int32) (S5 : AS) => chk (vp_in ((3 * v3) + 2) 72) (chk (vp_in (3 * p2) 48) (nm (fun (a6 : Int32) (a7 : Int32) (S8 : AS) => some (a6 - a7, S8)) fun J153 => if (gi S5 72 (ix ((3 * v3) + 2))) = (gi S5 73 (ix (3 * p2))) then (J153 a4 1 S5) else (J153 a4 0 S5)))) fun J126 => if (gi S 72 (ix ((3 * v2) + 2))) = (gi S 73 (ix (3 * p2))) then (J126 1 S) else (J126 0 S)))) else (if (gi S 83 (ix p1)) = 2 then (bI (f_Md_subjectOf v1 p2 v2 p3 p5 S) fun r10 S9 => bI (f_Md_subjectOf v1 p2 v3 p4 p5 S9) fun r12 S11 => some (r10 - r12, S11)) else (bI (f_Md_subjectOf v1 p2 v3 p4 p5 S) fun r14 S13 => bI (f_Md_subjectOf v1 p2 v2 p3 p5 S13) fun r16 S15 => some (r14 - r16, S15))))))))
set_option maxHeartbeats 4000000 in
theorem v_Md_differ {G : GX} (p1 : Int32) (p2 : Int32) (p3 : Int32) (p4 : Int32) (p5 : Int32) (S : AS) : V G md_Md_differ (QM G md_Md_differ iI) (fun _ => True) (some none) 0 [some (.ref 70), some (.int p1), some (.int p2), some (.int p3), some (.int p4), some (.int p5), none, none, none] [] 0 0 S (f_Md_differ p1 p2 p3 p4 p5 S) := by
  unfold f_Md_differ
  refine x_aload_n_ref d_Md_differ_0 rfl ?_
  refine x_getr d_Md_differ_1 fl_Md_68 ak_70 (q99 (by decide)) (shx sh_70_19) ?_
  refine x_iload_n d_Md_differ_4 rfl ?_
  refine x_iconst (v := 1) d_Md_differ_5 (by decide) ?_
  refine x_iadd d_Md_differ_6 ?_
  refine x_iald d_Md_differ_7 ak_83 (q99 (by decide)) ?_
  refine x_topi (fun v1 => ?_)
  refine x_istore (lc' := [some (.ref 70), some (.int p1), some (.int p2), some (.int p3), some (.int p4), some (.int p5), some (.int v1), none, none]) d_Md_differ_8 (by decide) rfl ?_
  refine x_aload_n_ref d_Md_differ_10 rfl ?_
  refine x_getr d_Md_differ_11 fl_Md_47 ak_70 (q99 (by decide)) (shx sh_70_12) ?_
  refine x_bipush (v := 7) d_Md_differ_14 (by decide) ?_
  refine x_iload_n d_Md_differ_16 rfl ?_
  refine x_imul d_Md_differ_17 ?_
  refine x_iald d_Md_differ_18 ak_78 (q99 (by decide)) ?_
  refine x_topi (fun v2 => ?_)
  refine x_istore (lc' := [some (.ref 70), some (.int p1), some (.int p2), some (.int p3), some (.int p4), some (.int p5), some (.int v1), some (.int v2), none]) d_Md_differ_19 (by decide) rfl ?_
  refine x_aload_n_ref d_Md_differ_21 rfl ?_
  refine x_getr d_Md_differ_22 fl_Md_47 ak_70 (q99 (by decide)) (shx sh_70_12) ?_
  refine x_bipush (v := 7) d_Md_differ_25 (by decide) ?_
  refine x_iload d_Md_differ_27 rfl ?_
  refine x_imul d_Md_differ_29 ?_
  refine x_iald d_Md_differ_30 ak_78 (q99 (by decide)) ?_
  refine x_topi (fun v3 => ?_)
  refine x_istore (lc' := [some (.ref 70), some (.int p1), some (.int p2), some (.int p3), some (.int p4), some (.int p5), some (.int v1), some (.int v2), some (.int v3)]) d_Md_differ_31 (by decide) rfl ?_
  refine x_aload_n_ref d_Md_differ_33 rfl ?_
  refine x_getr d_Md_differ_34 fl_Md_68 ak_70 (q99 (by decide)) (shx sh_70_19) ?_
  refine x_iload_n d_Md_differ_37 rfl ?_
  refine x_iald d_Md_differ_38 ak_83 (q99 (by decide)) ?_
  refine x_ite (fun hs19 => ?_) (fun hs19 => ?_)
  · refine x_tsw_in (c := 0) (tgt := 64) d_Md_differ_39 hs19 (by decide) (by decide) rfl (by decide) ?_
    refine x_aload_n_ref d_Md_differ_64 rfl ?_
    refine x_getr d_Md_differ_65 fl_Md_47 ak_70 (q99 (by decide)) (shx sh_70_12) ?_
    refine x_bipush (v := 7) d_Md_differ_68 (by decide) ?_
    refine x_iload_n d_Md_differ_70 rfl ?_
    refine x_imul d_Md_differ_71 ?_
    refine x_iconst (v := 2) d_Md_differ_72 (by decide) ?_
    refine x_iadd d_Md_differ_73 ?_
    refine x_iald d_Md_differ_74 ak_78 (q99 (by decide)) ?_
    refine x_iload d_Md_differ_75 rfl ?_
    refine x_ishr d_Md_differ_77 ?_
    refine x_iconst (v := 1) d_Md_differ_78 (by decide) ?_
    refine x_iand d_Md_differ_79 ?_
    refine x_aload_n_ref d_Md_differ_80 rfl ?_
    refine x_getr d_Md_differ_81 fl_Md_47 ak_70 (q99 (by decide)) (shx sh_70_12) ?_
    refine x_bipush (v := 7) d_Md_differ_84 (by decide) ?_
    refine x_iload d_Md_differ_86 rfl ?_
    refine x_imul d_Md_differ_88 ?_
    refine x_iconst (v := 2) d_Md_differ_89 (by decide) ?_
    refine x_iadd d_Md_differ_90 ?_
    refine x_iald d_Md_differ_91 ak_78 (q99 (by decide)) ?_
    refine x_iload d_Md_differ_92 rfl ?_
    refine x_ishr d_Md_differ_94 ?_
    refine x_iconst (v := 1) d_Md_differ_95 (by decide) ?_
    refine x_iand d_Md_differ_96 ?_
    refine x_isub d_Md_differ_97 ?_
    exact x_ret d_Md_differ_98 rfl rfl (Nat.le_of_ble_eq_true rfl) (Nat.le_of_ble_eq_true rfl)
  · refine x_ite (fun hs18 => ?_) (fun hs18 => ?_)
    · refine x_tsw_in (c := 1) (tgt := 99) d_Md_differ_39 hs18 (by decide) (by decide) rfl (by decide) ?_
      refine x_aload_n_ref d_Md_differ_99 rfl ?_
      refine x_getr d_Md_differ_100 fl_Md_20 ak_70 (q99 (by decide)) (shx sh_70_3) ?_
      refine x_iconst (v := 3) d_Md_differ_103 (by decide) ?_
      refine x_iload d_Md_differ_104 rfl ?_
      refine x_imul d_Md_differ_106 ?_
      refine x_iconst (v := 2) d_Md_differ_107 (by decide) ?_
      refine x_iadd d_Md_differ_108 ?_
      refine x_iald d_Md_differ_109 ak_72 (q99 (by decide)) ?_
      refine x_aload_n_ref d_Md_differ_110 rfl ?_
      refine x_getr d_Md_differ_111 fl_Md_26 ak_70 (q99 (by decide)) (shx sh_70_5) ?_
      refine x_iconst (v := 3) d_Md_differ_114 (by decide) ?_
      refine x_iload_n d_Md_differ_115 rfl ?_
      refine x_imul d_Md_differ_116 ?_
      refine x_iald d_Md_differ_117 ak_73 (q99 (by decide)) ?_
      refine x_nm (fun J126 hJ126 => ?_)
      have kJ126 : ∀ (a4 : Int32) (S5 : AS), V G md_Md_differ (QM G md_Md_differ iI) (fun _ => True) (some none) 126 [some (.ref 70), none, some (.int p2), none, none, none, none, none, some (.int v3)] [.int a4] 0 0 S5 (J126 a4 S5) := by
        subst hJ126
        intro a4 S5
        refine x_aload_n_ref d_Md_differ_126 rfl ?_
        refine x_getr d_Md_differ_127 fl_Md_20 ak_70 (q99 (by decide)) (shx sh_70_3) ?_
        refine x_iconst (v := 3) d_Md_differ_130 (by decide) ?_
        refine x_iload d_Md_differ_131 rfl ?_
        refine x_imul d_Md_differ_133 ?_
        refine x_iconst (v := 2) d_Md_differ_134 (by decide) ?_
        refine x_iadd d_Md_differ_135 ?_
        refine x_iald d_Md_differ_136 ak_72 (q99 (by decide)) ?_
        refine x_aload_n_ref d_Md_differ_137 rfl ?_
        refine x_getr d_Md_differ_138 fl_Md_26 ak_70 (q99 (by decide)) (shx sh_70_5) ?_
        refine x_iconst (v := 3) d_Md_differ_141 (by decide) ?_
        refine x_iload_n d_Md_differ_142 rfl ?_
        refine x_imul d_Md_differ_143 ?_
        refine x_iald d_Md_differ_144 ak_73 (q99 (by decide)) ?_
        refine x_nm (fun J153 hJ153 => ?_)
        have kJ153 : ∀ (a6 : Int32) (a7 : Int32) (S8 : AS), V G md_Md_differ (QM G md_Md_differ iI) (fun _ => True) (some none) 153 [none, none, none, none, none, none, none, none, none] [.int a7, .int a6] 0 0 S8 (J153 a6 a7 S8) := by
          subst hJ153
          intro a6 a7 S8
          refine x_isub d_Md_differ_153 ?_
          exact x_ret d_Md_differ_154 rfl rfl (Nat.le_of_ble_eq_true rfl) (Nat.le_of_ble_eq_true rfl)
        clear hJ153
        refine x_icmp_ne (tgt := 152) d_Md_differ_145 (by decide) (fun _ => ?_) (fun _ => ?_)
        · refine x_iconst (v := 0) d_Md_differ_152 (by decide) ?_
          exact V.kw (kJ153 a4 0 S5) trivial
        · refine x_iconst (v := 1) d_Md_differ_148 (by decide) ?_
          refine x_goto (tgt := 153) d_Md_differ_149 (by decide) ?_
          exact V.kw (kJ153 a4 1 S5) trivial
      clear hJ126
      refine x_icmp_ne (tgt := 125) d_Md_differ_118 (by decide) (fun _ => ?_) (fun _ => ?_)
      · refine x_iconst (v := 0) d_Md_differ_125 (by decide) ?_
        exact V.kw (kJ126 0 S) ⟨rfl, rfl, rfl, trivial⟩
      · refine x_iconst (v := 1) d_Md_differ_121 (by decide) ?_
        refine x_goto (tgt := 126) d_Md_differ_122 (by decide) ?_
        exact V.kw (kJ126 1 S) ⟨rfl, rfl, rfl, trivial⟩
    · refine x_ite (fun hs17 => ?_) (fun hs17 => ?_)
      · refine x_tsw_in (c := 2) (tgt := 155) d_Md_differ_39 hs17 (by decide) (by decide) rfl (by decide) ?_
        refine x_aload_n_ref d_Md_differ_155 rfl ?_
        refine x_iload d_Md_differ_156 rfl ?_
        refine x_iload_n d_Md_differ_158 rfl ?_
        refine x_iload d_Md_differ_159 rfl ?_
        refine x_iload_n d_Md_differ_161 rfl ?_
        refine x_iload d_Md_differ_162 rfl ?_
        refine x_vI (b' := (some none)) (As := [.int v1, .int p2, .int v2, .int p3, .int p5]) d_Md_differ_164 mv_Md_241 rfl (fun _ => ak_70) rfl (q99 (by decide)) ⟨Nat.le_of_ble_eq_true rfl, Nat.le_of_ble_eq_true rfl⟩ (Nat.le_of_ble_eq_true rfl) ⟨Nat.le_of_ble_eq_true rfl, Nat.le_of_ble_eq_true rfl⟩ (fun _ h => h) (fun h => ⟨h, c_Md_subjectOf v1 p2 v2 p3 p5 _⟩) (fun r10 S9 => ?_)
        refine x_aload_n_ref d_Md_differ_167 rfl ?_
        refine x_iload d_Md_differ_168 rfl ?_
        refine x_iload_n d_Md_differ_170 rfl ?_
        refine x_iload d_Md_differ_171 rfl ?_
        refine x_iload d_Md_differ_173 rfl ?_
        refine x_iload d_Md_differ_175 rfl ?_
        refine x_vI (b' := (some none)) (As := [.int v1, .int p2, .int v3, .int p4, .int p5]) d_Md_differ_177 mv_Md_241 rfl (fun _ => ak_70) rfl (q99 (by decide)) ⟨Nat.le_of_ble_eq_true rfl, Nat.le_of_ble_eq_true rfl⟩ (Nat.le_of_ble_eq_true rfl) ⟨Nat.le_of_ble_eq_true rfl, Nat.le_of_ble_eq_true rfl⟩ (fun _ h => h) (fun h => ⟨h, c_Md_subjectOf v1 p2 v3 p4 p5 _⟩) (fun r12 S11 => ?_)
        refine x_isub d_Md_differ_180 ?_
        exact x_ret d_Md_differ_181 rfl rfl (Nat.le_of_ble_eq_true rfl) (Nat.le_of_ble_eq_true rfl)
      · refine x_tsw_out (n := 3) (tgt := 182) d_Md_differ_39 (by decide) (fun j hj => by rcases (by omega : j = 0 ∨ j = 1 ∨ j = 2) with rfl | rfl | rfl <;> assumption) (by decide) ?_
        refine x_aload_n_ref d_Md_differ_182 rfl ?_
        refine x_iload d_Md_differ_183 rfl ?_
        refine x_iload_n d_Md_differ_185 rfl ?_
        refine x_iload d_Md_differ_186 rfl ?_
        refine x_iload d_Md_differ_188 rfl ?_
        refine x_iload d_Md_differ_190 rfl ?_
        refine x_vI (b' := (some none)) (As := [.int v1, .int p2, .int v3, .int p4, .int p5]) d_Md_differ_192 mv_Md_241 rfl (fun _ => ak_70) rfl (q99 (by decide)) ⟨Nat.le_of_ble_eq_true rfl, Nat.le_of_ble_eq_true rfl⟩ (Nat.le_of_ble_eq_true rfl) ⟨Nat.le_of_ble_eq_true rfl, Nat.le_of_ble_eq_true rfl⟩ (fun _ h => h) (fun h => ⟨h, c_Md_subjectOf v1 p2 v3 p4 p5 _⟩) (fun r14 S13 => ?_)
        refine x_aload_n_ref d_Md_differ_195 rfl ?_
        refine x_iload d_Md_differ_196 rfl ?_
        refine x_iload_n d_Md_differ_198 rfl ?_
        refine x_iload d_Md_differ_199 rfl ?_
        refine x_iload_n d_Md_differ_201 rfl ?_
        refine x_iload d_Md_differ_202 rfl ?_
        refine x_vI (b' := (some none)) (As := [.int v1, .int p2, .int v2, .int p3, .int p5]) d_Md_differ_204 mv_Md_241 rfl (fun _ => ak_70) rfl (q99 (by decide)) ⟨Nat.le_of_ble_eq_true rfl, Nat.le_of_ble_eq_true rfl⟩ (Nat.le_of_ble_eq_true rfl) ⟨Nat.le_of_ble_eq_true rfl, Nat.le_of_ble_eq_true rfl⟩ (fun _ h => h) (fun h => ⟨h, c_Md_subjectOf v1 p2 v2 p3 p5 _⟩) (fun r16 S15 => ?_)
        refine x_isub d_Md_differ_207 ?_
        exact x_ret d_Md_differ_208 rfl rfl (Nat.le_of_ble_eq_true rfl) (Nat.le_of_ble_eq_true rfl)
theorem c_Md_differ {G : GX} (p1 : Int32) (p2 : Int32) (p3 : Int32) (p4 : Int32) (p5 : Int32) (S : AS) : CN G y_Md_differ b_Md_differ 9 (some (FieldType.int)) ({ frames := 2, cells := 0, slots := 0, locals := 48 } : Room) (some none) iI [.ref 70, .int p1, .int p2, .int p3, .int p4, .int p5] S (f_Md_differ p1 p2 p3 p4 p5 S) := cn_of_v (M := md_Md_differ) (ini := false) rfl (by decide +kernel) (fun h => nomatch h) rfl (Nat.le_of_ble_eq_true rfl) (v_Md_differ p1 p2 p3 p4 p5 S)
noncomputable def f_Md_decides_L24 (J127 : AS → Option (Int32 × AS)) (J87 : Int32 → Int32 → AS → Option (Int32 × AS)) (x1 : Int32) (x2 : Int32) (x3 : Int32) (x4 : Int32) (x5 : Int32) : Nat → Int32 → Int32 → AS → Option (Int32 × AS)
  | 0, _, _, _ => none
  | n + 1, c6, c7, S => chk (vp_in x5 6) (if (gi S 81 (ix x5)) ≤ c7 then (J127 S) else (chk (vp_in c6 3600) (nm (fun (S8 : AS) => chk (vp_in (c6 + 2) 3600) (nm (c6 + (3 + (3 * (gi S8 83 (ix (c6 + 2)))))) fun v9 => f_Md_decides_L24 J127 J87 x1 x2 x3 x4 x5 n v9 (c7 + 1) S8)) fun J103 => if (gi S 83 (ix c6)) = 4 then (J103 S) else (chk (vp_in (7 * x2) 336) (bI (f_Md_holds c6 x1 (gi S 78 (ix (7 * x2))) x2 x4 S) fun r11 S10 => if r11 = 0 then (J103 S10) else (bI (f_Md_differ c6 x1 x2 x3 x4 S10) fun r13 S12 => if r13 = 0 then (J103 S12) else (J87 c7 r13 S12)))))))
noncomputable def f_Md_decides (p1 : Int32) (p2 : Int32) (p3 : Int32) (p4 : Int32) (S : AS) : Option (Int32 × AS) := bI (f_Md_force p4 S) fun r2 S1 => nm (fun (S3 : AS) => if p3 ≤ p2 then (some ((-101), S3)) else (some (100, S3))) fun J127 => if r2 < 0 then (J127 S1) else (nm (600 * r2) fun v4 => nm (fun (a5 : Int32) (a6 : Int32) (S7 : AS) => if a6 ≤ 0 then (some ((-a5) - 1, S7)) else (some (a5, S7))) fun J87 => f_Md_decides_L24 J127 J87 p1 p2 p3 p4 r2 FU v4 0 S1)
set_option maxHeartbeats 4000000 in
theorem v_Md_decides_L24 {G : GX} (J127 : AS → Option (Int32 × AS)) (J87 : Int32 → Int32 → AS → Option (Int32 × AS)) (x1 : Int32) (x2 : Int32) (x3 : Int32) (x4 : Int32) (x5 : Int32) (kJ127 : ∀ (T : AS), V G md_Md_decides (QM G md_Md_decides iI) (fun _ => True) (some none) 127 [none, none, some (.int x2), some (.int x3), none, none, none, none, none] [] 0 0 T (J127 T)) (kJ87 : ∀ (a5 : Int32) (a6 : Int32) (T : AS), V G md_Md_decides (QM G md_Md_decides iI) (fun _ => True) (some none) 87 [none, none, none, none, none, none, none, some (.int a5), some (.int a6)] [] 0 0 T (J87 a5 a6 T)) : ∀ (n : Nat) (c6 : Int32) (c7 : Int32) (S : AS), V G md_Md_decides (QM G md_Md_decides iI) (fun _ => True) (some none) 24 [some (.ref 70), some (.int x1), some (.int x2), some (.int x3), some (.int x4), some (.int x5), some (.int c6), some (.int c7), none] [] 0 0 S (f_Md_decides_L24 J127 J87 x1 x2 x3 x4 x5 n c6 c7 S) := by
  intro n
  induction n with
  | zero => intro c6 c7 S; exact V.none
  | succ n ih =>
    intro c6 c7 S
    rw [f_Md_decides_L24]
    refine x_iload d_Md_decides_24 rfl ?_
    refine x_aload_n_ref d_Md_decides_26 rfl ?_
    refine x_getr d_Md_decides_27 fl_Md_62 ak_70 (q99 (by decide)) (shx sh_70_17) ?_
    refine x_iload d_Md_decides_30 rfl ?_
    refine x_iald d_Md_decides_32 ak_81 (q99 (by decide)) ?_
    refine x_icmp_ge (tgt := 127) d_Md_decides_33 (by decide) (fun _ => ?_) (fun _ => ?_)
    · exact V.kw (kJ127 S) ⟨rfl, rfl, trivial⟩
    · refine x_aload_n_ref d_Md_decides_36 rfl ?_
      refine x_getr d_Md_decides_37 fl_Md_68 ak_70 (q99 (by decide)) (shx sh_70_19) ?_
      refine x_iload d_Md_decides_40 rfl ?_
      refine x_iald d_Md_decides_42 ak_83 (q99 (by decide)) ?_
      refine x_iconst (v := 4) d_Md_decides_43 (by decide) ?_
      refine x_nm (fun J103 hJ103 => ?_)
      have kJ103 : ∀ (S8 : AS), V G md_Md_decides (QM G md_Md_decides iI) (fun _ => True) (some none) 103 [some (.ref 70), some (.int x1), some (.int x2), some (.int x3), some (.int x4), some (.int x5), some (.int c6), some (.int c7), none] [] 0 0 S8 (J103 S8) := by
        subst hJ103
        intro S8
        refine x_iload d_Md_decides_103 rfl ?_
        refine x_iconst (v := 3) d_Md_decides_105 (by decide) ?_
        refine x_iconst (v := 3) d_Md_decides_106 (by decide) ?_
        refine x_aload_n_ref d_Md_decides_107 rfl ?_
        refine x_getr d_Md_decides_108 fl_Md_68 ak_70 (q99 (by decide)) (shx sh_70_19) ?_
        refine x_iload d_Md_decides_111 rfl ?_
        refine x_iconst (v := 2) d_Md_decides_113 (by decide) ?_
        refine x_iadd d_Md_decides_114 ?_
        refine x_iald d_Md_decides_115 ak_83 (q99 (by decide)) ?_
        refine x_imul d_Md_decides_116 ?_
        refine x_iadd d_Md_decides_117 ?_
        refine x_iadd d_Md_decides_118 ?_
        refine x_topi (fun v9 => ?_)
        refine x_istore (lc' := [some (.ref 70), some (.int x1), some (.int x2), some (.int x3), some (.int x4), some (.int x5), some (.int v9), some (.int c7), none]) d_Md_decides_119 (by decide) rfl ?_
        refine x_iinc (w := c7 + 1) (lc' := [some (.ref 70), some (.int x1), some (.int x2), some (.int x3), some (.int x4), some (.int x5), some (.int v9), some (.int (c7 + 1)), none]) d_Md_decides_121 (by decide) rfl rfl rfl ?_
        refine x_goto (tgt := 24) d_Md_decides_124 (by decide) ?_
        exact V.kw (ih v9 (c7 + 1) S8) ⟨rfl, rfl, rfl, rfl, rfl, rfl, rfl, rfl, trivial⟩
      clear hJ103
      refine x_icmp_eq (tgt := 103) d_Md_decides_44 (by decide) (fun _ => ?_) (fun _ => ?_)
      · exact V.kw (kJ103 S) ⟨rfl, rfl, rfl, rfl, rfl, rfl, rfl, rfl, trivial⟩
      · refine x_aload_n_ref d_Md_decides_47 rfl ?_
        refine x_iload d_Md_decides_48 rfl ?_
        refine x_iload_n d_Md_decides_50 rfl ?_
        refine x_aload_n_ref d_Md_decides_51 rfl ?_
        refine x_getr d_Md_decides_52 fl_Md_47 ak_70 (q99 (by decide)) (shx sh_70_12) ?_
        refine x_bipush (v := 7) d_Md_decides_55 (by decide) ?_
        refine x_iload_n d_Md_decides_57 rfl ?_
        refine x_imul d_Md_decides_58 ?_
        refine x_iald d_Md_decides_59 ak_78 (q99 (by decide)) ?_
        refine x_iload_n d_Md_decides_60 rfl ?_
        refine x_iload d_Md_decides_61 rfl ?_
        refine x_vI (b' := (some none)) (As := [.int c6, .int x1, .int (gi S 78 (ix (7 * x2))), .int x2, .int x4]) d_Md_decides_63 mv_Md_248 rfl (fun _ => ak_70) rfl (q99 (by decide)) ⟨Nat.le_of_ble_eq_true rfl, Nat.le_of_ble_eq_true rfl⟩ (Nat.le_of_ble_eq_true rfl) ⟨Nat.le_of_ble_eq_true rfl, Nat.le_of_ble_eq_true rfl⟩ (fun _ h => h) (fun h => ⟨h, c_Md_holds c6 x1 (gi S 78 (ix (7 * x2))) x2 x4 _⟩) (fun r11 S10 => ?_)
        refine x_if_eq (tgt := 103) d_Md_decides_66 (by decide) (fun _ => ?_) (fun _ => ?_)
        · exact V.kw (kJ103 S10) ⟨rfl, rfl, rfl, rfl, rfl, rfl, rfl, rfl, trivial⟩
        · refine x_aload_n_ref d_Md_decides_69 rfl ?_
          refine x_iload d_Md_decides_70 rfl ?_
          refine x_iload_n d_Md_decides_72 rfl ?_
          refine x_iload_n d_Md_decides_73 rfl ?_
          refine x_iload_n d_Md_decides_74 rfl ?_
          refine x_iload d_Md_decides_75 rfl ?_
          refine x_vI (b' := (some none)) (As := [.int c6, .int x1, .int x2, .int x3, .int x4]) d_Md_decides_77 mv_Md_252 rfl (fun _ => ak_70) rfl (q99 (by decide)) ⟨Nat.le_of_ble_eq_true rfl, Nat.le_of_ble_eq_true rfl⟩ (Nat.le_of_ble_eq_true rfl) ⟨Nat.le_of_ble_eq_true rfl, Nat.le_of_ble_eq_true rfl⟩ (fun _ h => h) (fun h => ⟨h, c_Md_differ c6 x1 x2 x3 x4 _⟩) (fun r13 S12 => ?_)
          refine x_istore (lc' := [some (.ref 70), some (.int x1), some (.int x2), some (.int x3), some (.int x4), some (.int x5), some (.int c6), some (.int c7), some (.int r13)]) d_Md_decides_80 (by decide) rfl ?_
          refine x_iload d_Md_decides_82 rfl ?_
          refine x_if_eq (tgt := 103) d_Md_decides_84 (by decide) (fun _ => ?_) (fun _ => ?_)
          · exact V.kw (kJ103 S12) ⟨rfl, rfl, rfl, rfl, rfl, rfl, rfl, rfl, trivial⟩
          · exact V.kw (kJ87 c7 r13 S12) ⟨rfl, rfl, trivial⟩
set_option maxHeartbeats 4000000 in
theorem v_Md_decides {G : GX} (p1 : Int32) (p2 : Int32) (p3 : Int32) (p4 : Int32) (S : AS) : V G md_Md_decides (QM G md_Md_decides iI) (fun _ => True) (some none) 0 [some (.ref 70), some (.int p1), some (.int p2), some (.int p3), some (.int p4), none, none, none, none] [] 0 0 S (f_Md_decides p1 p2 p3 p4 S) := by
  unfold f_Md_decides
  refine x_aload_n_ref d_Md_decides_0 rfl ?_
  refine x_iload d_Md_decides_1 rfl ?_
  refine x_vI (b' := (some none)) (As := [.int p4]) d_Md_decides_3 mv_Md_245 rfl (fun _ => ak_70) rfl (q99 (by decide)) ⟨Nat.le_of_ble_eq_true rfl, Nat.le_of_ble_eq_true rfl⟩ (Nat.le_of_ble_eq_true rfl) ⟨Nat.le_of_ble_eq_true rfl, Nat.le_of_ble_eq_true rfl⟩ (fun _ h => h) (fun h => ⟨h, c_Md_force p4 _⟩) (fun r2 S1 => ?_)
  refine x_istore (lc' := [some (.ref 70), some (.int p1), some (.int p2), some (.int p3), some (.int p4), some (.int r2), none, none, none]) d_Md_decides_6 (by decide) rfl ?_
  refine x_iload d_Md_decides_8 rfl ?_
  refine x_nm (fun J127 hJ127 => ?_)
  have kJ127 : ∀ (S3 : AS), V G md_Md_decides (QM G md_Md_decides iI) (fun _ => True) (some none) 127 [none, none, some (.int p2), some (.int p3), none, none, none, none, none] [] 0 0 S3 (J127 S3) := by
    subst hJ127
    intro S3
    refine x_iload_n d_Md_decides_127 rfl ?_
    refine x_iload_n d_Md_decides_128 rfl ?_
    refine x_icmp_ge (tgt := 137) d_Md_decides_129 (by decide) (fun _ => ?_) (fun _ => ?_)
    · refine x_bipush (v := -101) d_Md_decides_137 (by decide) ?_
      exact x_ret d_Md_decides_139 rfl rfl (Nat.le_of_ble_eq_true rfl) (Nat.le_of_ble_eq_true rfl)
    · refine x_bipush (v := 100) d_Md_decides_132 (by decide) ?_
      refine x_goto (tgt := 139) d_Md_decides_134 (by decide) ?_
      exact x_ret d_Md_decides_139 rfl rfl (Nat.le_of_ble_eq_true rfl) (Nat.le_of_ble_eq_true rfl)
  clear hJ127
  refine x_if_lt (tgt := 127) d_Md_decides_10 (by decide) (fun _ => ?_) (fun _ => ?_)
  · exact V.kw (kJ127 S1) ⟨rfl, rfl, trivial⟩
  · refine x_sipush (v := 600) d_Md_decides_13 (by decide) ?_
    refine x_iload d_Md_decides_16 rfl ?_
    refine x_imul d_Md_decides_18 ?_
    refine x_topi (fun v4 => ?_)
    refine x_istore (lc' := [some (.ref 70), some (.int p1), some (.int p2), some (.int p3), some (.int p4), some (.int r2), some (.int v4), none, none]) d_Md_decides_19 (by decide) rfl ?_
    refine x_iconst (v := 0) d_Md_decides_21 (by decide) ?_
    refine x_istore (lc' := [some (.ref 70), some (.int p1), some (.int p2), some (.int p3), some (.int p4), some (.int r2), some (.int v4), some (.int 0), none]) d_Md_decides_22 (by decide) rfl ?_
    refine x_nm (fun J87 hJ87 => ?_)
    have kJ87 : ∀ (a5 : Int32) (a6 : Int32) (S7 : AS), V G md_Md_decides (QM G md_Md_decides iI) (fun _ => True) (some none) 87 [none, none, none, none, none, none, none, some (.int a5), some (.int a6)] [] 0 0 S7 (J87 a5 a6 S7) := by
      subst hJ87
      intro a5 a6 S7
      refine x_iload d_Md_decides_87 rfl ?_
      refine x_if_le (tgt := 97) d_Md_decides_89 (by decide) (fun _ => ?_) (fun _ => ?_)
      · refine x_iload d_Md_decides_97 rfl ?_
        refine x_ineg d_Md_decides_99 ?_
        refine x_iconst (v := 1) d_Md_decides_100 (by decide) ?_
        refine x_isub d_Md_decides_101 ?_
        exact x_ret d_Md_decides_102 rfl rfl (Nat.le_of_ble_eq_true rfl) (Nat.le_of_ble_eq_true rfl)
      · refine x_iload d_Md_decides_92 rfl ?_
        refine x_goto (tgt := 102) d_Md_decides_94 (by decide) ?_
        exact x_ret d_Md_decides_102 rfl rfl (Nat.le_of_ble_eq_true rfl) (Nat.le_of_ble_eq_true rfl)
    clear hJ87
    exact V.kw (v_Md_decides_L24 J127 J87 p1 p2 p3 p4 r2 kJ127 kJ87 FU v4 0 S1) ⟨rfl, rfl, rfl, rfl, rfl, rfl, rfl, rfl, trivial⟩
theorem c_Md_decides {G : GX} (p1 : Int32) (p2 : Int32) (p3 : Int32) (p4 : Int32) (S : AS) : CN G y_Md_decides b_Md_decides 9 (some (FieldType.int)) ({ frames := 3, cells := 0, slots := 0, locals := 78 } : Room) (some none) iI [.ref 70, .int p1, .int p2, .int p3, .int p4] S (f_Md_decides p1 p2 p3 p4 S) := cn_of_v (M := md_Md_decides) (ini := false) rfl (by decide +kernel) (fun h => nomatch h) rfl (Nat.le_of_ble_eq_true rfl) (v_Md_decides p1 p2 p3 p4 S)
noncomputable def f_Md_reaches (p1 : Int32) (p2 : Int32) (S : AS) : Option (Int32 × AS) := chk (vp_in ((7 * p1) + 3) 336) (chk (vp_in (3 * p2) 48) (nm (fun (S1 : AS) => some (0, S1)) fun J78 => if (((gi S 78 (ix ((7 * p1) + 3))) >>> ((gi S 73 (ix (3 * p2))) &&& 31)) &&& 1) = 1 then (chk (vp_in ((3 * p2) + 1) 48) (chk (vp_in ((7 * p1) + 4) 336) (if (gi S 73 (ix ((3 * p2) + 1))) < (gi S 78 (ix ((7 * p1) + 4))) then (J78 S) else (chk (vp_in ((3 * p2) + 1) 48) (chk (vp_in ((7 * p1) + 5) 336) (if (gi S 78 (ix ((7 * p1) + 5))) < (gi S 73 (ix ((3 * p2) + 1))) then (J78 S) else (some (1, S)))))))) else (J78 S)))
set_option maxHeartbeats 4000000 in
theorem v_Md_reaches {G : GX} (p1 : Int32) (p2 : Int32) (S : AS) : V G md_Md_reaches (QM G md_Md_reaches iI) (fun _ => True) (some none) 0 [some (.ref 70), some (.int p1), some (.int p2)] [] 0 0 S (f_Md_reaches p1 p2 S) := by
  unfold f_Md_reaches
  refine x_aload_n_ref d_Md_reaches_0 rfl ?_
  refine x_getr d_Md_reaches_1 fl_Md_47 ak_70 (q99 (by decide)) (shx sh_70_12) ?_
  refine x_bipush (v := 7) d_Md_reaches_4 (by decide) ?_
  refine x_iload_n d_Md_reaches_6 rfl ?_
  refine x_imul d_Md_reaches_7 ?_
  refine x_iconst (v := 3) d_Md_reaches_8 (by decide) ?_
  refine x_iadd d_Md_reaches_9 ?_
  refine x_iald d_Md_reaches_10 ak_78 (q99 (by decide)) ?_
  refine x_aload_n_ref d_Md_reaches_11 rfl ?_
  refine x_getr d_Md_reaches_12 fl_Md_26 ak_70 (q99 (by decide)) (shx sh_70_5) ?_
  refine x_iconst (v := 3) d_Md_reaches_15 (by decide) ?_
  refine x_iload_n d_Md_reaches_16 rfl ?_
  refine x_imul d_Md_reaches_17 ?_
  refine x_iald d_Md_reaches_18 ak_73 (q99 (by decide)) ?_
  refine x_ishr d_Md_reaches_19 ?_
  refine x_iconst (v := 1) d_Md_reaches_20 (by decide) ?_
  refine x_iand d_Md_reaches_21 ?_
  refine x_iconst (v := 1) d_Md_reaches_22 (by decide) ?_
  refine x_nm (fun J78 hJ78 => ?_)
  have kJ78 : ∀ (S1 : AS), V G md_Md_reaches (QM G md_Md_reaches iI) (fun _ => True) (some none) 78 [none, none, none] [] 0 0 S1 (J78 S1) := by
    subst hJ78
    intro S1
    refine x_iconst (v := 0) d_Md_reaches_78 (by decide) ?_
    exact x_ret d_Md_reaches_79 rfl rfl (Nat.le_of_ble_eq_true rfl) (Nat.le_of_ble_eq_true rfl)
  clear hJ78
  refine x_icmp_ne (tgt := 78) d_Md_reaches_23 (by decide) (fun _ => ?_) (fun _ => ?_)
  · exact V.kw (kJ78 S) trivial
  · refine x_aload_n_ref d_Md_reaches_26 rfl ?_
    refine x_getr d_Md_reaches_27 fl_Md_26 ak_70 (q99 (by decide)) (shx sh_70_5) ?_
    refine x_iconst (v := 3) d_Md_reaches_30 (by decide) ?_
    refine x_iload_n d_Md_reaches_31 rfl ?_
    refine x_imul d_Md_reaches_32 ?_
    refine x_iconst (v := 1) d_Md_reaches_33 (by decide) ?_
    refine x_iadd d_Md_reaches_34 ?_
    refine x_iald d_Md_reaches_35 ak_73 (q99 (by decide)) ?_
    refine x_aload_n_ref d_Md_reaches_36 rfl ?_
    refine x_getr d_Md_reaches_37 fl_Md_47 ak_70 (q99 (by decide)) (shx sh_70_12) ?_
    refine x_bipush (v := 7) d_Md_reaches_40 (by decide) ?_
    refine x_iload_n d_Md_reaches_42 rfl ?_
    refine x_imul d_Md_reaches_43 ?_
    refine x_iconst (v := 4) d_Md_reaches_44 (by decide) ?_
    refine x_iadd d_Md_reaches_45 ?_
    refine x_iald d_Md_reaches_46 ak_78 (q99 (by decide)) ?_
    refine x_icmp_lt (tgt := 78) d_Md_reaches_47 (by decide) (fun _ => ?_) (fun _ => ?_)
    · exact V.kw (kJ78 S) trivial
    · refine x_aload_n_ref d_Md_reaches_50 rfl ?_
      refine x_getr d_Md_reaches_51 fl_Md_26 ak_70 (q99 (by decide)) (shx sh_70_5) ?_
      refine x_iconst (v := 3) d_Md_reaches_54 (by decide) ?_
      refine x_iload_n d_Md_reaches_55 rfl ?_
      refine x_imul d_Md_reaches_56 ?_
      refine x_iconst (v := 1) d_Md_reaches_57 (by decide) ?_
      refine x_iadd d_Md_reaches_58 ?_
      refine x_iald d_Md_reaches_59 ak_73 (q99 (by decide)) ?_
      refine x_aload_n_ref d_Md_reaches_60 rfl ?_
      refine x_getr d_Md_reaches_61 fl_Md_47 ak_70 (q99 (by decide)) (shx sh_70_12) ?_
      refine x_bipush (v := 7) d_Md_reaches_64 (by decide) ?_
      refine x_iload_n d_Md_reaches_66 rfl ?_
      refine x_imul d_Md_reaches_67 ?_
      refine x_iconst (v := 5) d_Md_reaches_68 (by decide) ?_
      refine x_iadd d_Md_reaches_69 ?_
      refine x_iald d_Md_reaches_70 ak_78 (q99 (by decide)) ?_
      refine x_icmp_gt (tgt := 78) d_Md_reaches_71 (by decide) (fun _ => ?_) (fun _ => ?_)
      · exact V.kw (kJ78 S) trivial
      · refine x_iconst (v := 1) d_Md_reaches_74 (by decide) ?_
        refine x_goto (tgt := 79) d_Md_reaches_75 (by decide) ?_
        exact x_ret d_Md_reaches_79 rfl rfl (Nat.le_of_ble_eq_true rfl) (Nat.le_of_ble_eq_true rfl)
theorem c_Md_reaches {G : GX} (p1 : Int32) (p2 : Int32) (S : AS) : CN G y_Md_reaches b_Md_reaches 3 (some (FieldType.boolean)) ({ frames := 0, cells := 0, slots := 0, locals := 0 } : Room) (some none) iI [.ref 70, .int p1, .int p2] S (f_Md_reaches p1 p2 S) := cn_of_v (M := md_Md_reaches) (ini := false) rfl (by decide +kernel) (fun h => nomatch h) rfl (Nat.le_of_ble_eq_true rfl) (v_Md_reaches p1 p2 S)
noncomputable def f_Md_mayHave (p1 : Int32) (p2 : Int32) (p3 : Int32) (S : AS) : Option (Int32 × AS) := chk (vp_in p1 48) (nm (fun (S1 : AS) => some (0, S1)) fun J41 => if (gi S 88 (ix p1)) = 0 then (J41 S) else (bI (f_Md_reaches p1 p2 S) fun r3 S2 => if r3 = 0 then (J41 S2) else (chk (vp_in (7 * p1) 336) (bI (f_Md_isBarred p2 (gi S2 78 (ix (7 * p1))) p1 p3 S2) fun r5 S4 => if r5 = 0 then (some (1, S4)) else (J41 S4)))))
set_option maxHeartbeats 4000000 in
theorem v_Md_mayHave {G : GX} (p1 : Int32) (p2 : Int32) (p3 : Int32) (S : AS) : V G md_Md_mayHave (QM G md_Md_mayHave iI) (fun _ => True) (some none) 0 [some (.ref 70), some (.int p1), some (.int p2), some (.int p3)] [] 0 0 S (f_Md_mayHave p1 p2 p3 S) := by
  unfold f_Md_mayHave
  refine x_aload_n_ref d_Md_mayHave_0 rfl ?_
  refine x_getr d_Md_mayHave_1 fl_Md_99 ak_70 (q99 (by decide)) (shx sh_70_29) ?_
  refine x_iload_n d_Md_mayHave_4 rfl ?_
  refine x_zald d_Md_mayHave_5 ak_88 (q99 (by decide)) ?_
  refine x_nm (fun J41 hJ41 => ?_)
  have kJ41 : ∀ (S1 : AS), V G md_Md_mayHave (QM G md_Md_mayHave iI) (fun _ => True) (some none) 41 [none, none, none, none] [] 0 0 S1 (J41 S1) := by
    subst hJ41
    intro S1
    refine x_iconst (v := 0) d_Md_mayHave_41 (by decide) ?_
    exact x_ret d_Md_mayHave_42 rfl rfl (Nat.le_of_ble_eq_true rfl) (Nat.le_of_ble_eq_true rfl)
  clear hJ41
  refine x_if_eq (tgt := 41) d_Md_mayHave_6 (by decide) (fun _ => ?_) (fun _ => ?_)
  · exact V.kw (kJ41 S) trivial
  · refine x_aload_n_ref d_Md_mayHave_9 rfl ?_
    refine x_iload_n d_Md_mayHave_10 rfl ?_
    refine x_iload_n d_Md_mayHave_11 rfl ?_
    refine x_vI (b' := (some none)) (As := [.int p1, .int p2]) d_Md_mayHave_12 mv_Md_255 rfl (fun _ => ak_70) rfl (q99 (by decide)) ⟨Nat.le_of_ble_eq_true rfl, Nat.le_of_ble_eq_true rfl⟩ (Nat.le_of_ble_eq_true rfl) ⟨Nat.le_of_ble_eq_true rfl, Nat.le_of_ble_eq_true rfl⟩ (fun _ h => h) (fun h => ⟨h, c_Md_reaches p1 p2 _⟩) (fun r3 S2 => ?_)
    refine x_if_eq (tgt := 41) d_Md_mayHave_15 (by decide) (fun _ => ?_) (fun _ => ?_)
    · exact V.kw (kJ41 S2) trivial
    · refine x_aload_n_ref d_Md_mayHave_18 rfl ?_
      refine x_iload_n d_Md_mayHave_19 rfl ?_
      refine x_aload_n_ref d_Md_mayHave_20 rfl ?_
      refine x_getr d_Md_mayHave_21 fl_Md_47 ak_70 (q99 (by decide)) (shx sh_70_12) ?_
      refine x_bipush (v := 7) d_Md_mayHave_24 (by decide) ?_
      refine x_iload_n d_Md_mayHave_26 rfl ?_
      refine x_imul d_Md_mayHave_27 ?_
      refine x_iald d_Md_mayHave_28 ak_78 (q99 (by decide)) ?_
      refine x_iload_n d_Md_mayHave_29 rfl ?_
      refine x_iload_n d_Md_mayHave_30 rfl ?_
      refine x_vI (b' := (some none)) (As := [.int p2, .int (gi S2 78 (ix (7 * p1))), .int p1, .int p3]) d_Md_mayHave_31 mv_Md_259 rfl (fun _ => ak_70) rfl (q99 (by decide)) ⟨Nat.le_of_ble_eq_true rfl, Nat.le_of_ble_eq_true rfl⟩ (Nat.le_of_ble_eq_true rfl) ⟨Nat.le_of_ble_eq_true rfl, Nat.le_of_ble_eq_true rfl⟩ (fun _ h => h) (fun h => ⟨h, c_Md_isBarred p2 (gi S2 78 (ix (7 * p1))) p1 p3 _⟩) (fun r5 S4 => ?_)
      refine x_if_ne (tgt := 41) d_Md_mayHave_34 (by decide) (fun _ => ?_) (fun _ => ?_)
      · exact V.kw (kJ41 S4) trivial
      · refine x_iconst (v := 1) d_Md_mayHave_37 (by decide) ?_
        refine x_goto (tgt := 42) d_Md_mayHave_38 (by decide) ?_
        exact x_ret d_Md_mayHave_42 rfl rfl (Nat.le_of_ble_eq_true rfl) (Nat.le_of_ble_eq_true rfl)
theorem c_Md_mayHave {G : GX} (p1 : Int32) (p2 : Int32) (p3 : Int32) (S : AS) : CN G y_Md_mayHave b_Md_mayHave 4 (some (FieldType.boolean)) ({ frames := 4, cells := 0, slots := 0, locals := 104 } : Room) (some none) iI [.ref 70, .int p1, .int p2, .int p3] S (f_Md_mayHave p1 p2 p3 S) := cn_of_v (M := md_Md_mayHave) (ini := false) rfl (by decide +kernel) (fun h => nomatch h) rfl (Nat.le_of_ble_eq_true rfl) (v_Md_mayHave p1 p2 p3 S)
noncomputable def f_Md_takes (p1 : Int32) (p2 : Int32) (p3 : Int32) (S : AS) : Option AS := chk (vp_in p1 16) (nm (si S 85 (ix p1) p2) fun S1 => chk (vp_in p1 16) (nm (si S1 86 (ix p1) p3) fun S2 => some S2))
set_option maxHeartbeats 4000000 in
theorem v_Md_takes {G : GX} (p1 : Int32) (p2 : Int32) (p3 : Int32) (S : AS) : V G md_Md_takes (QM G md_Md_takes iV) (fun _ => True) (some none) 0 [some (.ref 70), some (.int p1), some (.int p2), some (.int p3)] [] 0 0 S (f_Md_takes p1 p2 p3 S) := by
  unfold f_Md_takes
  refine x_aload_n_ref d_Md_takes_0 rfl ?_
  refine x_getr d_Md_takes_1 fl_Md_89 ak_70 (q99 (by decide)) (shx sh_70_26) ?_
  refine x_iload_n d_Md_takes_4 rfl ?_
  refine x_iload_n d_Md_takes_5 rfl ?_
  refine x_iast d_Md_takes_6 ak_85 (q99 (by decide)) ?_
  refine x_nmS (fun S1 _ => ?_)
  refine x_aload_n_ref d_Md_takes_7 rfl ?_
  refine x_getr d_Md_takes_8 fl_Md_92 ak_70 (q99 (by decide)) (shx sh_70_27) ?_
  refine x_iload_n d_Md_takes_11 rfl ?_
  refine x_iload_n d_Md_takes_12 rfl ?_
  refine x_iast d_Md_takes_13 ak_86 (q99 (by decide)) ?_
  refine x_nmS (fun S2 _ => ?_)
  exact x_vret d_Md_takes_14 rfl (Nat.le_of_ble_eq_true rfl) (Nat.le_of_ble_eq_true rfl)
theorem c_Md_takes {G : GX} (p1 : Int32) (p2 : Int32) (p3 : Int32) (S : AS) : CN G y_Md_takes b_Md_takes 4 none ({ frames := 0, cells := 0, slots := 0, locals := 0 } : Room) (some none) iV [.ref 70, .int p1, .int p2, .int p3] S (f_Md_takes p1 p2 p3 S) := cn_of_v (M := md_Md_takes) (ini := false) rfl (by decide +kernel) (fun h => nomatch h) rfl (Nat.le_of_ble_eq_true rfl) (v_Md_takes p1 p2 p3 S)
noncomputable def f_Md_leaves (p1 : Int32) (p2 : Int32) (S : AS) : Option AS := chk (vp_in p1 16) (nm (gi S 85 (ix p1)) fun v1 => if v1 = (-1) then (some S) else (chk (vp_in v1 24) (chk (vp_in ((3 * p1) + 1) 48) (chk (vp_in p1 16) (chk (vp_in v1 24) (nm (sl S 91 (ix v1) ((gl S 91 (ix v1)) + (((gi S 73 (ix ((3 * p1) + 1))).toInt64) * ((p2 - (gi S 86 (ix p1))).toInt64)))) fun S2 => chk (vp_in p1 16) (nm (si S2 85 (ix p1) (-1)) fun S3 => some S3)))))))
set_option maxHeartbeats 4000000 in
theorem v_Md_leaves {G : GX} (p1 : Int32) (p2 : Int32) (S : AS) : V G md_Md_leaves (QM G md_Md_leaves iV) (fun _ => True) (some none) 0 [some (.ref 70), some (.int p1), some (.int p2), none] [] 0 0 S (f_Md_leaves p1 p2 S) := by
  unfold f_Md_leaves
  refine x_aload_n_ref d_Md_leaves_0 rfl ?_
  refine x_getr d_Md_leaves_1 fl_Md_89 ak_70 (q99 (by decide)) (shx sh_70_26) ?_
  refine x_iload_n d_Md_leaves_4 rfl ?_
  refine x_iald d_Md_leaves_5 ak_85 (q99 (by decide)) ?_
  refine x_topi (fun v1 => ?_)
  refine x_istore_n (lc' := [some (.ref 70), some (.int p1), some (.int p2), some (.int v1)]) d_Md_leaves_6 (by decide) rfl ?_
  refine x_iload_n d_Md_leaves_7 rfl ?_
  refine x_iconst (v := -1) d_Md_leaves_8 (by decide) ?_
  refine x_icmp_ne (tgt := 13) d_Md_leaves_9 (by decide) (fun _ => ?_) (fun _ => ?_)
  · refine x_aload_n_ref d_Md_leaves_13 rfl ?_
    refine x_getr d_Md_leaves_14 fl_Md_108 ak_70 (q99 (by decide)) (shx sh_70_32) ?_
    refine x_iload_n d_Md_leaves_17 rfl ?_
    refine x_dup2 d_Md_leaves_18 rfl rfl ?_
    refine x_lald d_Md_leaves_19 ak_91 (q99 (by decide)) ?_
    refine x_aload_n_ref d_Md_leaves_20 rfl ?_
    refine x_getr d_Md_leaves_21 fl_Md_26 ak_70 (q99 (by decide)) (shx sh_70_5) ?_
    refine x_iconst (v := 3) d_Md_leaves_24 (by decide) ?_
    refine x_iload_n d_Md_leaves_25 rfl ?_
    refine x_imul d_Md_leaves_26 ?_
    refine x_iconst (v := 1) d_Md_leaves_27 (by decide) ?_
    refine x_iadd d_Md_leaves_28 ?_
    refine x_iald d_Md_leaves_29 ak_73 (q99 (by decide)) ?_
    refine x_i2l d_Md_leaves_30 ?_
    refine x_iload_n d_Md_leaves_31 rfl ?_
    refine x_aload_n_ref d_Md_leaves_32 rfl ?_
    refine x_getr d_Md_leaves_33 fl_Md_92 ak_70 (q99 (by decide)) (shx sh_70_27) ?_
    refine x_iload_n d_Md_leaves_36 rfl ?_
    refine x_iald d_Md_leaves_37 ak_86 (q99 (by decide)) ?_
    refine x_isub d_Md_leaves_38 ?_
    refine x_i2l d_Md_leaves_39 ?_
    refine x_lmul d_Md_leaves_40 ?_
    refine x_ladd d_Md_leaves_41 ?_
    refine x_last d_Md_leaves_42 ak_91 (q99 (by decide)) ?_
    refine x_nmS (fun S2 _ => ?_)
    refine x_aload_n_ref d_Md_leaves_43 rfl ?_
    refine x_getr d_Md_leaves_44 fl_Md_89 ak_70 (q99 (by decide)) (shx sh_70_26) ?_
    refine x_iload_n d_Md_leaves_47 rfl ?_
    refine x_iconst (v := -1) d_Md_leaves_48 (by decide) ?_
    refine x_iast d_Md_leaves_49 ak_85 (q99 (by decide)) ?_
    refine x_nmS (fun S3 _ => ?_)
    exact x_vret d_Md_leaves_50 rfl (Nat.le_of_ble_eq_true rfl) (Nat.le_of_ble_eq_true rfl)
  · exact x_vret d_Md_leaves_12 rfl (Nat.le_of_ble_eq_true rfl) (Nat.le_of_ble_eq_true rfl)
theorem c_Md_leaves {G : GX} (p1 : Int32) (p2 : Int32) (S : AS) : CN G y_Md_leaves b_Md_leaves 4 none ({ frames := 0, cells := 0, slots := 0, locals := 0 } : Room) (some none) iV [.ref 70, .int p1, .int p2] S (f_Md_leaves p1 p2 S) := cn_of_v (M := md_Md_leaves) (ini := false) rfl (by decide +kernel) (fun h => nomatch h) rfl (Nat.le_of_ble_eq_true rfl) (v_Md_leaves p1 p2 S)
noncomputable def f_Md_uses (p1 : Int32) (p2 : Int32) (p3 : Int32) (S : AS) : Option AS := chk (vp_in p1 48) (nm (si S 88 (ix p1) (vp_nar .boolean 0)) fun S1 => chk (vp_in p1 48) (nm (si S1 89 (ix p1) p2) fun S2 => chk (vp_in p1 48) (nm (si S2 90 (ix p1) p3) fun S3 => chk (vp_in (7 * p1) 336) (bV (f_Md_takes p2 (gi S3 78 (ix (7 * p1))) p3 S3) fun S4 => some S4))))
set_option maxHeartbeats 4000000 in
theorem v_Md_uses {G : GX} (p1 : Int32) (p2 : Int32) (p3 : Int32) (S : AS) : V G md_Md_uses (QM G md_Md_uses iV) (fun _ => True) (some none) 0 [some (.ref 70), some (.int p1), some (.int p2), some (.int p3)] [] 0 0 S (f_Md_uses p1 p2 p3 S) := by
  unfold f_Md_uses
  refine x_aload_n_ref d_Md_uses_0 rfl ?_
  refine x_getr d_Md_uses_1 fl_Md_99 ak_70 (q99 (by decide)) (shx sh_70_29) ?_
  refine x_iload_n d_Md_uses_4 rfl ?_
  refine x_iconst (v := 0) d_Md_uses_5 (by decide) ?_
  refine x_zast d_Md_uses_6 ak_88 (q99 (by decide)) ?_
  refine x_nmS (fun S1 _ => ?_)
  refine x_aload_n_ref d_Md_uses_7 rfl ?_
  refine x_getr d_Md_uses_8 fl_Md_102 ak_70 (q99 (by decide)) (shx sh_70_30) ?_
  refine x_iload_n d_Md_uses_11 rfl ?_
  refine x_iload_n d_Md_uses_12 rfl ?_
  refine x_iast d_Md_uses_13 ak_89 (q99 (by decide)) ?_
  refine x_nmS (fun S2 _ => ?_)
  refine x_aload_n_ref d_Md_uses_14 rfl ?_
  refine x_getr d_Md_uses_15 fl_Md_105 ak_70 (q99 (by decide)) (shx sh_70_31) ?_
  refine x_iload_n d_Md_uses_18 rfl ?_
  refine x_iload_n d_Md_uses_19 rfl ?_
  refine x_iast d_Md_uses_20 ak_90 (q99 (by decide)) ?_
  refine x_nmS (fun S3 _ => ?_)
  refine x_aload_n_ref d_Md_uses_21 rfl ?_
  refine x_iload_n d_Md_uses_22 rfl ?_
  refine x_aload_n_ref d_Md_uses_23 rfl ?_
  refine x_getr d_Md_uses_24 fl_Md_47 ak_70 (q99 (by decide)) (shx sh_70_12) ?_
  refine x_bipush (v := 7) d_Md_uses_27 (by decide) ?_
  refine x_iload_n d_Md_uses_29 rfl ?_
  refine x_imul d_Md_uses_30 ?_
  refine x_iald d_Md_uses_31 ak_78 (q99 (by decide)) ?_
  refine x_iload_n d_Md_uses_32 rfl ?_
  refine x_vV (b' := (some none)) (As := [.int p2, .int (gi S3 78 (ix (7 * p1))), .int p3]) d_Md_uses_33 mv_Md_263 rfl (fun _ => ak_70) rfl (q99 (by decide)) ⟨Nat.le_of_ble_eq_true rfl, Nat.le_of_ble_eq_true rfl⟩ (Nat.le_of_ble_eq_true rfl) ⟨Nat.le_of_ble_eq_true rfl, Nat.le_of_ble_eq_true rfl⟩ (fun _ h => h) (fun h => ⟨h, c_Md_takes p2 (gi S3 78 (ix (7 * p1))) p3 _⟩) (fun S4 => ?_)
  exact x_vret d_Md_uses_36 rfl (Nat.le_of_ble_eq_true rfl) (Nat.le_of_ble_eq_true rfl)
theorem c_Md_uses {G : GX} (p1 : Int32) (p2 : Int32) (p3 : Int32) (S : AS) : CN G y_Md_uses b_Md_uses 4 none ({ frames := 1, cells := 0, slots := 0, locals := 23 } : Room) (some none) iV [.ref 70, .int p1, .int p2, .int p3] S (f_Md_uses p1 p2 p3 S) := cn_of_v (M := md_Md_uses) (ini := false) rfl (by decide +kernel) (fun h => nomatch h) rfl (Nat.le_of_ble_eq_true rfl) (v_Md_uses p1 p2 p3 S)
noncomputable def f_Md_gives_L5 (J54 : Int32 → AS → Option AS) (x1 : Int32) (x2 : Int32) : Nat → Int32 → Int32 → AS → Option AS
  | 0, _, _, _ => none
  | n + 1, c3, c4, S => if (gi S 70 11) ≤ c4 then (J54 c3 S) else (bI (f_Md_mayHave c4 x1 x2 S) fun r5 S4 => nm (fun (a6 : Int32) (S7 : AS) => f_Md_gives_L5 J54 x1 x2 n a6 (c4 + 1) S7) fun J48 => if r5 = 0 then (J48 c3 S4) else (nm (fun (S8 : AS) => J48 c4 S8) fun J45 => if c3 = (-1) then (J45 S4) else (bI (f_Md_decides x1 c4 c3 x2 S4) fun r10 S9 => if r10 < 0 then (J48 c3 S9) else (J45 S9))))
noncomputable def f_Md_gives (p1 : Int32) (p2 : Int32) (S : AS) : Option AS := nm (fun (a1 : Int32) (S2 : AS) => if a1 = (-1) then (some S2) else (bV (f_Md_uses a1 p1 p2 S2) fun S3 => some S3)) fun J54 => f_Md_gives_L5 J54 p1 p2 FU (-1) 0 S
set_option maxHeartbeats 4000000 in
theorem v_Md_gives_L5 {G : GX} (J54 : Int32 → AS → Option AS) (x1 : Int32) (x2 : Int32) (kJ54 : ∀ (a1 : Int32) (T : AS), V G md_Md_gives (QM G md_Md_gives iV) (fun _ => True) (some none) 54 [some (.ref 70), some (.int x1), some (.int x2), some (.int a1), none] [] 0 0 T (J54 a1 T)) : ∀ (n : Nat) (c3 : Int32) (c4 : Int32) (S : AS), V G md_Md_gives (QM G md_Md_gives iV) (fun _ => True) (some none) 5 [some (.ref 70), some (.int x1), some (.int x2), some (.int c3), some (.int c4)] [] 0 0 S (f_Md_gives_L5 J54 x1 x2 n c3 c4 S) := by
  intro n
  induction n with
  | zero => intro c3 c4 S; exact V.none
  | succ n ih =>
    intro c3 c4 S
    rw [f_Md_gives_L5]
    refine x_iload d_Md_gives_5 rfl ?_
    refine x_aload_n_ref d_Md_gives_7 rfl ?_
    refine x_geti d_Md_gives_8 fl_Md_44 ak_70 (q99 (by decide)) ?_
    refine x_icmp_ge (tgt := 54) d_Md_gives_11 (by decide) (fun _ => ?_) (fun _ => ?_)
    · exact V.kw (kJ54 c3 S) ⟨rfl, rfl, rfl, rfl, trivial⟩
    · refine x_aload_n_ref d_Md_gives_14 rfl ?_
      refine x_iload d_Md_gives_15 rfl ?_
      refine x_iload_n d_Md_gives_17 rfl ?_
      refine x_iload_n d_Md_gives_18 rfl ?_
      refine x_vI (b' := (some none)) (As := [.int c4, .int x1, .int x2]) d_Md_gives_19 mv_Md_266 rfl (fun _ => ak_70) rfl (q99 (by decide)) ⟨Nat.le_of_ble_eq_true rfl, Nat.le_of_ble_eq_true rfl⟩ (Nat.le_of_ble_eq_true rfl) ⟨Nat.le_of_ble_eq_true rfl, Nat.le_of_ble_eq_true rfl⟩ (fun _ h => h) (fun h => ⟨h, c_Md_mayHave c4 x1 x2 _⟩) (fun r5 S4 => ?_)
      refine x_nm (fun J48 hJ48 => ?_)
      have kJ48 : ∀ (a6 : Int32) (S7 : AS), V G md_Md_gives (QM G md_Md_gives iV) (fun _ => True) (some none) 48 [some (.ref 70), some (.int x1), some (.int x2), some (.int a6), some (.int c4)] [] 0 0 S7 (J48 a6 S7) := by
        subst hJ48
        intro a6 S7
        refine x_iinc (w := c4 + 1) (lc' := [some (.ref 70), some (.int x1), some (.int x2), some (.int a6), some (.int (c4 + 1))]) d_Md_gives_48 (by decide) rfl rfl rfl ?_
        refine x_goto (tgt := 5) d_Md_gives_51 (by decide) ?_
        exact V.kw (ih a6 (c4 + 1) S7) ⟨rfl, rfl, rfl, rfl, rfl, trivial⟩
      clear hJ48
      refine x_if_ne (tgt := 28) d_Md_gives_22 (by decide) (fun _ => ?_) (fun _ => ?_)
      · refine x_iload_n d_Md_gives_28 rfl ?_
        refine x_iconst (v := -1) d_Md_gives_29 (by decide) ?_
        refine x_nm (fun J45 hJ45 => ?_)
        have kJ45 : ∀ (S8 : AS), V G md_Md_gives (QM G md_Md_gives iV) (fun _ => True) (some none) 45 [some (.ref 70), some (.int x1), some (.int x2), none, some (.int c4)] [] 0 0 S8 (J45 S8) := by
          subst hJ45
          intro S8
          refine x_iload d_Md_gives_45 rfl ?_
          refine x_istore_n (lc' := [some (.ref 70), some (.int x1), some (.int x2), some (.int c4), some (.int c4)]) d_Md_gives_47 (by decide) rfl ?_
          exact V.kw (kJ48 c4 S8) ⟨rfl, rfl, rfl, rfl, rfl, trivial⟩
        clear hJ45
        refine x_icmp_eq (tgt := 45) d_Md_gives_30 (by decide) (fun _ => ?_) (fun _ => ?_)
        · exact V.kw (kJ45 S4) ⟨rfl, rfl, rfl, rfl, trivial⟩
        · refine x_aload_n_ref d_Md_gives_33 rfl ?_
          refine x_iload_n d_Md_gives_34 rfl ?_
          refine x_iload d_Md_gives_35 rfl ?_
          refine x_iload_n d_Md_gives_37 rfl ?_
          refine x_iload_n d_Md_gives_38 rfl ?_
          refine x_vI (b' := (some none)) (As := [.int x1, .int c4, .int c3, .int x2]) d_Md_gives_39 mv_Md_269 rfl (fun _ => ak_70) rfl (q99 (by decide)) ⟨Nat.le_of_ble_eq_true rfl, Nat.le_of_ble_eq_true rfl⟩ (Nat.le_of_ble_eq_true rfl) ⟨Nat.le_of_ble_eq_true rfl, Nat.le_of_ble_eq_true rfl⟩ (fun _ h => h) (fun h => ⟨h, c_Md_decides x1 c4 c3 x2 _⟩) (fun r10 S9 => ?_)
          refine x_if_lt (tgt := 48) d_Md_gives_42 (by decide) (fun _ => ?_) (fun _ => ?_)
          · exact V.kw (kJ48 c3 S9) ⟨rfl, rfl, rfl, rfl, rfl, trivial⟩
          · exact V.kw (kJ45 S9) ⟨rfl, rfl, rfl, rfl, trivial⟩
      · refine x_goto (tgt := 48) d_Md_gives_25 (by decide) ?_
        exact V.kw (kJ48 c3 S4) ⟨rfl, rfl, rfl, rfl, rfl, trivial⟩
set_option maxHeartbeats 4000000 in
theorem v_Md_gives {G : GX} (p1 : Int32) (p2 : Int32) (S : AS) : V G md_Md_gives (QM G md_Md_gives iV) (fun _ => True) (some none) 0 [some (.ref 70), some (.int p1), some (.int p2), none, none] [] 0 0 S (f_Md_gives p1 p2 S) := by
  unfold f_Md_gives
  refine x_iconst (v := -1) d_Md_gives_0 (by decide) ?_
  refine x_istore_n (lc' := [some (.ref 70), some (.int p1), some (.int p2), some (.int (-1)), none]) d_Md_gives_1 (by decide) rfl ?_
  refine x_iconst (v := 0) d_Md_gives_2 (by decide) ?_
  refine x_istore (lc' := [some (.ref 70), some (.int p1), some (.int p2), some (.int (-1)), some (.int 0)]) d_Md_gives_3 (by decide) rfl ?_
  refine x_nm (fun J54 hJ54 => ?_)
  have kJ54 : ∀ (a1 : Int32) (S2 : AS), V G md_Md_gives (QM G md_Md_gives iV) (fun _ => True) (some none) 54 [some (.ref 70), some (.int p1), some (.int p2), some (.int a1), none] [] 0 0 S2 (J54 a1 S2) := by
    subst hJ54
    intro a1 S2
    refine x_iload_n d_Md_gives_54 rfl ?_
    refine x_iconst (v := -1) d_Md_gives_55 (by decide) ?_
    refine x_icmp_eq (tgt := 66) d_Md_gives_56 (by decide) (fun _ => ?_) (fun _ => ?_)
    · exact x_vret d_Md_gives_66 rfl (Nat.le_of_ble_eq_true rfl) (Nat.le_of_ble_eq_true rfl)
    · refine x_aload_n_ref d_Md_gives_59 rfl ?_
      refine x_iload_n d_Md_gives_60 rfl ?_
      refine x_iload_n d_Md_gives_61 rfl ?_
      refine x_iload_n d_Md_gives_62 rfl ?_
      refine x_vV (b' := (some none)) (As := [.int a1, .int p1, .int p2]) d_Md_gives_63 mv_Md_272 rfl (fun _ => ak_70) rfl (q99 (by decide)) ⟨Nat.le_of_ble_eq_true rfl, Nat.le_of_ble_eq_true rfl⟩ (Nat.le_of_ble_eq_true rfl) ⟨Nat.le_of_ble_eq_true rfl, Nat.le_of_ble_eq_true rfl⟩ (fun _ h => h) (fun h => ⟨h, c_Md_uses a1 p1 p2 _⟩) (fun S3 => ?_)
      exact x_vret d_Md_gives_66 rfl (Nat.le_of_ble_eq_true rfl) (Nat.le_of_ble_eq_true rfl)
  clear hJ54
  exact V.kw (v_Md_gives_L5 J54 p1 p2 kJ54 FU (-1) 0 S) ⟨rfl, rfl, rfl, rfl, rfl, trivial⟩
theorem c_Md_gives {G : GX} (p1 : Int32) (p2 : Int32) (S : AS) : CN G y_Md_gives b_Md_gives 5 none ({ frames := 5, cells := 0, slots := 0, locals := 127 } : Room) (some none) iV [.ref 70, .int p1, .int p2] S (f_Md_gives p1 p2 S) := cn_of_v (M := md_Md_gives) (ini := false) rfl (by decide +kernel) (fun h => nomatch h) rfl (Nat.le_of_ble_eq_true rfl) (v_Md_gives p1 p2 S)
noncomputable def f_Md_comes_L30 (J102 : Int32 → AS → Option AS) (x1 : Int32) (x2 : Int32) : Nat → Int32 → Int32 → AS → Option AS
  | 0, _, _, _ => none
  | n + 1, c3, c4, S => if (gi S 70 4) ≤ c4 then (J102 c3 S) else (chk (vp_in c4 16) (nm (fun (a5 : Int32) (S6 : AS) => f_Md_comes_L30 J102 x1 x2 n a5 (c4 + 1) S6) fun J96 => if (gi S 85 (ix c4)) = (-1) then (bI (f_Md_mayHave x1 c4 x2 S) fun r8 S7 => if r8 = 0 then (J96 c3 S7) else (nm (fun (S9 : AS) => J96 c4 S9) fun J93 => if c3 = (-1) then (J93 S7) else (chk (vp_in ((3 * c4) + 1) 48) (chk (vp_in ((3 * c3) + 1) 48) (if (gi S7 73 (ix ((3 * c4) + 1))) ≤ (gi S7 73 (ix ((3 * c3) + 1))) then (J96 c3 S7) else (J93 S7)))))) else (J96 c3 S)))
noncomputable def f_Md_comes (p1 : Int32) (p2 : Int32) (S : AS) : Option AS := chk (vp_in (7 * p1) 336) (chk (vp_in (gi S 78 (ix (7 * p1))) 24) (if (gi S 87 (ix (gi S 78 (ix (7 * p1))))) = 0 then (chk (vp_in p1 48) (nm (si S 88 (ix p1) (vp_nar .boolean 1)) fun S1 => nm (fun (a2 : Int32) (S3 : AS) => if a2 = (-1) then (some S3) else (bV (f_Md_uses p1 a2 p2 S3) fun S4 => some S4)) fun J102 => f_Md_comes_L30 J102 p1 p2 FU (-1) 0 S1)) else (some S)))
set_option maxHeartbeats 4000000 in
theorem v_Md_comes_L30 {G : GX} (J102 : Int32 → AS → Option AS) (x1 : Int32) (x2 : Int32) (kJ102 : ∀ (a2 : Int32) (T : AS), V G md_Md_comes (QM G md_Md_comes iV) (fun _ => True) (some none) 102 [some (.ref 70), some (.int x1), some (.int x2), some (.int a2), none] [] 0 0 T (J102 a2 T)) : ∀ (n : Nat) (c3 : Int32) (c4 : Int32) (S : AS), V G md_Md_comes (QM G md_Md_comes iV) (fun _ => True) (some none) 30 [some (.ref 70), some (.int x1), some (.int x2), some (.int c3), some (.int c4)] [] 0 0 S (f_Md_comes_L30 J102 x1 x2 n c3 c4 S) := by
  intro n
  induction n with
  | zero => intro c3 c4 S; exact V.none
  | succ n ih =>
    intro c3 c4 S
    rw [f_Md_comes_L30]
    refine x_iload d_Md_comes_30 rfl ?_
    refine x_aload_n_ref d_Md_comes_32 rfl ?_
    refine x_geti d_Md_comes_33 fl_Md_23 ak_70 (q99 (by decide)) ?_
    refine x_icmp_ge (tgt := 102) d_Md_comes_36 (by decide) (fun _ => ?_) (fun _ => ?_)
    · exact V.kw (kJ102 c3 S) ⟨rfl, rfl, rfl, rfl, trivial⟩
    · refine x_aload_n_ref d_Md_comes_39 rfl ?_
      refine x_getr d_Md_comes_40 fl_Md_89 ak_70 (q99 (by decide)) (shx sh_70_26) ?_
      refine x_iload d_Md_comes_43 rfl ?_
      refine x_iald d_Md_comes_45 ak_85 (q99 (by decide)) ?_
      refine x_iconst (v := -1) d_Md_comes_46 (by decide) ?_
      refine x_nm (fun J96 hJ96 => ?_)
      have kJ96 : ∀ (a5 : Int32) (S6 : AS), V G md_Md_comes (QM G md_Md_comes iV) (fun _ => True) (some none) 96 [some (.ref 70), some (.int x1), some (.int x2), some (.int a5), some (.int c4)] [] 0 0 S6 (J96 a5 S6) := by
        subst hJ96
        intro a5 S6
        refine x_iinc (w := c4 + 1) (lc' := [some (.ref 70), some (.int x1), some (.int x2), some (.int a5), some (.int (c4 + 1))]) d_Md_comes_96 (by decide) rfl rfl rfl ?_
        refine x_goto (tgt := 30) d_Md_comes_99 (by decide) ?_
        exact V.kw (ih a5 (c4 + 1) S6) ⟨rfl, rfl, rfl, rfl, rfl, trivial⟩
      clear hJ96
      refine x_icmp_ne (tgt := 96) d_Md_comes_47 (by decide) (fun _ => ?_) (fun _ => ?_)
      · exact V.kw (kJ96 c3 S) ⟨rfl, rfl, rfl, rfl, rfl, trivial⟩
      · refine x_aload_n_ref d_Md_comes_50 rfl ?_
        refine x_iload_n d_Md_comes_51 rfl ?_
        refine x_iload d_Md_comes_52 rfl ?_
        refine x_iload_n d_Md_comes_54 rfl ?_
        refine x_vI (b' := (some none)) (As := [.int x1, .int c4, .int x2]) d_Md_comes_55 mv_Md_266 rfl (fun _ => ak_70) rfl (q99 (by decide)) ⟨Nat.le_of_ble_eq_true rfl, Nat.le_of_ble_eq_true rfl⟩ (Nat.le_of_ble_eq_true rfl) ⟨Nat.le_of_ble_eq_true rfl, Nat.le_of_ble_eq_true rfl⟩ (fun _ h => h) (fun h => ⟨h, c_Md_mayHave x1 c4 x2 _⟩) (fun r8 S7 => ?_)
        refine x_if_ne (tgt := 64) d_Md_comes_58 (by decide) (fun _ => ?_) (fun _ => ?_)
        · refine x_iload_n d_Md_comes_64 rfl ?_
          refine x_iconst (v := -1) d_Md_comes_65 (by decide) ?_
          refine x_nm (fun J93 hJ93 => ?_)
          have kJ93 : ∀ (S9 : AS), V G md_Md_comes (QM G md_Md_comes iV) (fun _ => True) (some none) 93 [some (.ref 70), some (.int x1), some (.int x2), none, some (.int c4)] [] 0 0 S9 (J93 S9) := by
            subst hJ93
            intro S9
            refine x_iload d_Md_comes_93 rfl ?_
            refine x_istore_n (lc' := [some (.ref 70), some (.int x1), some (.int x2), some (.int c4), some (.int c4)]) d_Md_comes_95 (by decide) rfl ?_
            exact V.kw (kJ96 c4 S9) ⟨rfl, rfl, rfl, rfl, rfl, trivial⟩
          clear hJ93
          refine x_icmp_eq (tgt := 93) d_Md_comes_66 (by decide) (fun _ => ?_) (fun _ => ?_)
          · exact V.kw (kJ93 S7) ⟨rfl, rfl, rfl, rfl, trivial⟩
          · refine x_aload_n_ref d_Md_comes_69 rfl ?_
            refine x_getr d_Md_comes_70 fl_Md_26 ak_70 (q99 (by decide)) (shx sh_70_5) ?_
            refine x_iconst (v := 3) d_Md_comes_73 (by decide) ?_
            refine x_iload d_Md_comes_74 rfl ?_
            refine x_imul d_Md_comes_76 ?_
            refine x_iconst (v := 1) d_Md_comes_77 (by decide) ?_
            refine x_iadd d_Md_comes_78 ?_
            refine x_iald d_Md_comes_79 ak_73 (q99 (by decide)) ?_
            refine x_aload_n_ref d_Md_comes_80 rfl ?_
            refine x_getr d_Md_comes_81 fl_Md_26 ak_70 (q99 (by decide)) (shx sh_70_5) ?_
            refine x_iconst (v := 3) d_Md_comes_84 (by decide) ?_
            refine x_iload_n d_Md_comes_85 rfl ?_
            refine x_imul d_Md_comes_86 ?_
            refine x_iconst (v := 1) d_Md_comes_87 (by decide) ?_
            refine x_iadd d_Md_comes_88 ?_
            refine x_iald d_Md_comes_89 ak_73 (q99 (by decide)) ?_
            refine x_icmp_le (tgt := 96) d_Md_comes_90 (by decide) (fun _ => ?_) (fun _ => ?_)
            · exact V.kw (kJ96 c3 S7) ⟨rfl, rfl, rfl, rfl, rfl, trivial⟩
            · exact V.kw (kJ93 S7) ⟨rfl, rfl, rfl, rfl, trivial⟩
        · refine x_goto (tgt := 96) d_Md_comes_61 (by decide) ?_
          exact V.kw (kJ96 c3 S7) ⟨rfl, rfl, rfl, rfl, rfl, trivial⟩
set_option maxHeartbeats 4000000 in
theorem v_Md_comes {G : GX} (p1 : Int32) (p2 : Int32) (S : AS) : V G md_Md_comes (QM G md_Md_comes iV) (fun _ => True) (some none) 0 [some (.ref 70), some (.int p1), some (.int p2), none, none] [] 0 0 S (f_Md_comes p1 p2 S) := by
  unfold f_Md_comes
  refine x_aload_n_ref d_Md_comes_0 rfl ?_
  refine x_getr d_Md_comes_1 fl_Md_95 ak_70 (q99 (by decide)) (shx sh_70_28) ?_
  refine x_aload_n_ref d_Md_comes_4 rfl ?_
  refine x_getr d_Md_comes_5 fl_Md_47 ak_70 (q99 (by decide)) (shx sh_70_12) ?_
  refine x_bipush (v := 7) d_Md_comes_8 (by decide) ?_
  refine x_iload_n d_Md_comes_10 rfl ?_
  refine x_imul d_Md_comes_11 ?_
  refine x_iald d_Md_comes_12 ak_78 (q99 (by decide)) ?_
  refine x_zald d_Md_comes_13 ak_87 (q99 (by decide)) ?_
  refine x_if_eq (tgt := 18) d_Md_comes_14 (by decide) (fun _ => ?_) (fun _ => ?_)
  · refine x_aload_n_ref d_Md_comes_18 rfl ?_
    refine x_getr d_Md_comes_19 fl_Md_99 ak_70 (q99 (by decide)) (shx sh_70_29) ?_
    refine x_iload_n d_Md_comes_22 rfl ?_
    refine x_iconst (v := 1) d_Md_comes_23 (by decide) ?_
    refine x_zast d_Md_comes_24 ak_88 (q99 (by decide)) ?_
    refine x_nmS (fun S1 _ => ?_)
    refine x_iconst (v := -1) d_Md_comes_25 (by decide) ?_
    refine x_istore_n (lc' := [some (.ref 70), some (.int p1), some (.int p2), some (.int (-1)), none]) d_Md_comes_26 (by decide) rfl ?_
    refine x_iconst (v := 0) d_Md_comes_27 (by decide) ?_
    refine x_istore (lc' := [some (.ref 70), some (.int p1), some (.int p2), some (.int (-1)), some (.int 0)]) d_Md_comes_28 (by decide) rfl ?_
    refine x_nm (fun J102 hJ102 => ?_)
    have kJ102 : ∀ (a2 : Int32) (S3 : AS), V G md_Md_comes (QM G md_Md_comes iV) (fun _ => True) (some none) 102 [some (.ref 70), some (.int p1), some (.int p2), some (.int a2), none] [] 0 0 S3 (J102 a2 S3) := by
      subst hJ102
      intro a2 S3
      refine x_iload_n d_Md_comes_102 rfl ?_
      refine x_iconst (v := -1) d_Md_comes_103 (by decide) ?_
      refine x_icmp_eq (tgt := 114) d_Md_comes_104 (by decide) (fun _ => ?_) (fun _ => ?_)
      · exact x_vret d_Md_comes_114 rfl (Nat.le_of_ble_eq_true rfl) (Nat.le_of_ble_eq_true rfl)
      · refine x_aload_n_ref d_Md_comes_107 rfl ?_
        refine x_iload_n d_Md_comes_108 rfl ?_
        refine x_iload_n d_Md_comes_109 rfl ?_
        refine x_iload_n d_Md_comes_110 rfl ?_
        refine x_vV (b' := (some none)) (As := [.int p1, .int a2, .int p2]) d_Md_comes_111 mv_Md_272 rfl (fun _ => ak_70) rfl (q99 (by decide)) ⟨Nat.le_of_ble_eq_true rfl, Nat.le_of_ble_eq_true rfl⟩ (Nat.le_of_ble_eq_true rfl) ⟨Nat.le_of_ble_eq_true rfl, Nat.le_of_ble_eq_true rfl⟩ (fun _ h => h) (fun h => ⟨h, c_Md_uses p1 a2 p2 _⟩) (fun S4 => ?_)
        exact x_vret d_Md_comes_114 rfl (Nat.le_of_ble_eq_true rfl) (Nat.le_of_ble_eq_true rfl)
    clear hJ102
    exact V.kw (v_Md_comes_L30 J102 p1 p2 kJ102 FU (-1) 0 S1) ⟨rfl, rfl, rfl, rfl, rfl, trivial⟩
  · exact x_vret d_Md_comes_17 rfl (Nat.le_of_ble_eq_true rfl) (Nat.le_of_ble_eq_true rfl)
theorem c_Md_comes {G : GX} (p1 : Int32) (p2 : Int32) (S : AS) : CN G y_Md_comes b_Md_comes 5 none ({ frames := 5, cells := 0, slots := 0, locals := 127 } : Room) (some none) iV [.ref 70, .int p1, .int p2] S (f_Md_comes p1 p2 S) := cn_of_v (M := md_Md_comes) (ini := false) rfl (by decide +kernel) (fun h => nomatch h) rfl (Nat.le_of_ble_eq_true rfl) (v_Md_comes p1 p2 S)
