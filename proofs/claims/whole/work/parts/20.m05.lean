noncomputable def f_Md_since_L35 (J86 : Int32 → AS → Option (Int32 × AS)) (x1 : Int32) (x2 : Int32) : Nat → Int32 → Int32 → AS → Option (Int32 × AS)
  | 0, _, _, _ => none
  | n + 1, c3, c4, S => if c3 ≤ 0 then (J86 c3 S) else (if c4 = 0 then (J86 c3 S) else (bV (f_Md_goes (c3 - 1) 9999999 S) fun S11 => chk (vp_in x1 16) (nm (fun (a12 : Int32) (S13 : AS) => nm (fun (a14 : Int32) (a15 : Int32) (S16 : AS) => nm (a14 - a15) fun v17 => f_Md_since_L35 J86 x1 x2 n v17 a12 S16) fun J81 => if a12 = 0 then (J81 c3 0 S13) else (J81 c3 1 S13)) fun J68 => if (gi S11 85 (ix x1)) = x2 then (J68 1 S11) else (J68 0 S11))))
noncomputable def f_Md_since (p1 : Int32) (S : AS) : Option (Int32 × AS) := bI (f_Md_isPost p1 S) fun r2 S1 => if r2 = 0 then (some ((-1), S1)) else (bI (f_Md_known S1) fun r4 S3 => bV (f_Md_goes r4 9999999 S3) fun S5 => chk (vp_in p1 16) (nm (gi S5 85 (ix p1)) fun v6 => bI (f_Md_known S5) fun r8 S7 => nm (fun (a9 : Int32) (S10 : AS) => some (a9, S10)) fun J86 => f_Md_since_L35 J86 p1 v6 FU r8 1 S7))
set_option maxHeartbeats 4000000 in
theorem v_Md_since_L35 {G : GX} (J86 : Int32 → AS → Option (Int32 × AS)) (x1 : Int32) (x2 : Int32) (kJ86 : ∀ (a9 : Int32) (T : AS), V G md_Md_since (QM G md_Md_since iI) (fun _ => True) (some none) 86 [none, none, none, some (.int a9), none] [] 0 0 T (J86 a9 T)) : ∀ (n : Nat) (c3 : Int32) (c4 : Int32) (S : AS), V G md_Md_since (QM G md_Md_since iI) (fun _ => True) (some none) 35 [some (.ref 70), some (.int x1), some (.int x2), some (.int c3), some (.int c4)] [] 0 0 S (f_Md_since_L35 J86 x1 x2 n c3 c4 S) := by
  intro n
  induction n with
  | zero => intro c3 c4 S; exact V.none
  | succ n ih =>
    intro c3 c4 S
    rw [f_Md_since_L35]
    refine x_iload_n d_Md_since_35 rfl ?_
    refine x_if_le (tgt := 86) d_Md_since_36 (by decide) (fun _ => ?_) (fun _ => ?_)
    · exact V.kw (kJ86 c3 S) ⟨rfl, trivial⟩
    · refine x_iload d_Md_since_39 rfl ?_
      refine x_if_eq (tgt := 86) d_Md_since_41 (by decide) (fun _ => ?_) (fun _ => ?_)
      · exact V.kw (kJ86 c3 S) ⟨rfl, trivial⟩
      · refine x_aload_n_ref d_Md_since_44 rfl ?_
        refine x_iload_n d_Md_since_45 rfl ?_
        refine x_iconst (v := 1) d_Md_since_46 (by decide) ?_
        refine x_isub d_Md_since_47 ?_
        refine x_ldc (v := 9999999) (List.mem_append_right _ (List.mem_append_right _ (List.mem_append_right _ (List.mem_append_right _ (List.mem_append_right _ (List.mem_append_left _ (List.mem_of_getElem? (i := 188) (by decide +kernel)))))))) d_Md_since_48 ?_
        refine x_vV (b' := (some none)) (As := [.int (c3 - 1), .int 9999999]) d_Md_since_50 mv_Md_299 rfl (fun _ => ak_70) rfl (q99 (by decide)) ⟨Nat.le_of_ble_eq_true rfl, Nat.le_of_ble_eq_true rfl⟩ (Nat.le_of_ble_eq_true rfl) ⟨Nat.le_of_ble_eq_true rfl, Nat.le_of_ble_eq_true rfl⟩ (fun _ h => h) (fun h => ⟨h, c_Md_goes (c3 - 1) 9999999 _⟩) (fun S11 => ?_)
        refine x_aload_n_ref d_Md_since_53 rfl ?_
        refine x_getr d_Md_since_54 fl_Md_89 ak_70 (q99 (by decide)) (shx sh_70_26) ?_
        refine x_iload_n d_Md_since_57 rfl ?_
        refine x_iald d_Md_since_58 ak_85 (q99 (by decide)) ?_
        refine x_iload_n d_Md_since_59 rfl ?_
        refine x_nm (fun J68 hJ68 => ?_)
        have kJ68 : ∀ (a12 : Int32) (S13 : AS), V G md_Md_since (QM G md_Md_since iI) (fun _ => True) (some none) 68 [some (.ref 70), some (.int x1), some (.int x2), some (.int c3), none] [.int a12] 0 0 S13 (J68 a12 S13) := by
          subst hJ68
          intro a12 S13
          refine x_istore (lc' := [some (.ref 70), some (.int x1), some (.int x2), some (.int c3), some (.int a12)]) d_Md_since_68 (by decide) rfl ?_
          refine x_iload_n d_Md_since_70 rfl ?_
          refine x_iload d_Md_since_71 rfl ?_
          refine x_nm (fun J81 hJ81 => ?_)
          have kJ81 : ∀ (a14 : Int32) (a15 : Int32) (S16 : AS), V G md_Md_since (QM G md_Md_since iI) (fun _ => True) (some none) 81 [some (.ref 70), some (.int x1), some (.int x2), none, some (.int a12)] [.int a15, .int a14] 0 0 S16 (J81 a14 a15 S16) := by
            subst hJ81
            intro a14 a15 S16
            refine x_isub d_Md_since_81 ?_
            refine x_topi (fun v17 => ?_)
            refine x_istore_n (lc' := [some (.ref 70), some (.int x1), some (.int x2), some (.int v17), some (.int a12)]) d_Md_since_82 (by decide) rfl ?_
            refine x_goto (tgt := 35) d_Md_since_83 (by decide) ?_
            exact V.kw (ih v17 a12 S16) ⟨rfl, rfl, rfl, rfl, rfl, trivial⟩
          clear hJ81
          refine x_if_eq (tgt := 80) d_Md_since_73 (by decide) (fun _ => ?_) (fun _ => ?_)
          · refine x_iconst (v := 0) d_Md_since_80 (by decide) ?_
            exact V.kw (kJ81 c3 0 S13) ⟨rfl, rfl, rfl, rfl, trivial⟩
          · refine x_iconst (v := 1) d_Md_since_76 (by decide) ?_
            refine x_goto (tgt := 81) d_Md_since_77 (by decide) ?_
            exact V.kw (kJ81 c3 1 S13) ⟨rfl, rfl, rfl, rfl, trivial⟩
        clear hJ68
        refine x_icmp_ne (tgt := 67) d_Md_since_60 (by decide) (fun _ => ?_) (fun _ => ?_)
        · refine x_iconst (v := 0) d_Md_since_67 (by decide) ?_
          exact V.kw (kJ68 0 S11) ⟨rfl, rfl, rfl, rfl, trivial⟩
        · refine x_iconst (v := 1) d_Md_since_63 (by decide) ?_
          refine x_goto (tgt := 68) d_Md_since_64 (by decide) ?_
          exact V.kw (kJ68 1 S11) ⟨rfl, rfl, rfl, rfl, trivial⟩
set_option maxHeartbeats 4000000 in
theorem v_Md_since {G : GX} (p1 : Int32) (S : AS) : V G md_Md_since (QM G md_Md_since iI) (fun _ => True) (some none) 0 [some (.ref 70), some (.int p1), none, none, none] [] 0 0 S (f_Md_since p1 S) := by
  unfold f_Md_since
  refine x_aload_n_ref d_Md_since_0 rfl ?_
  refine x_iload_n d_Md_since_1 rfl ?_
  refine x_vI (b' := (some none)) (As := [.int p1]) d_Md_since_2 mv_Md_151 rfl (fun _ => ak_70) rfl (q99 (by decide)) ⟨Nat.le_of_ble_eq_true rfl, Nat.le_of_ble_eq_true rfl⟩ (Nat.le_of_ble_eq_true rfl) ⟨Nat.le_of_ble_eq_true rfl, Nat.le_of_ble_eq_true rfl⟩ (fun _ h => h) (fun h => ⟨h, c_Md_isPost p1 _⟩) (fun r2 S1 => ?_)
  refine x_if_ne (tgt := 10) d_Md_since_5 (by decide) (fun _ => ?_) (fun _ => ?_)
  · refine x_aload_n_ref d_Md_since_10 rfl ?_
    refine x_aload_n_ref d_Md_since_11 rfl ?_
    refine x_vI (b' := (some none)) (As := []) d_Md_since_12 mv_Md_296 rfl (fun _ => ak_70) rfl (q99 (by decide)) ⟨Nat.le_of_ble_eq_true rfl, Nat.le_of_ble_eq_true rfl⟩ (Nat.le_of_ble_eq_true rfl) ⟨Nat.le_of_ble_eq_true rfl, Nat.le_of_ble_eq_true rfl⟩ (fun _ h => h) (fun h => ⟨h, c_Md_known _⟩) (fun r4 S3 => ?_)
    refine x_ldc (v := 9999999) (List.mem_append_right _ (List.mem_append_right _ (List.mem_append_right _ (List.mem_append_right _ (List.mem_append_right _ (List.mem_append_left _ (List.mem_of_getElem? (i := 188) (by decide +kernel)))))))) d_Md_since_15 ?_
    refine x_vV (b' := (some none)) (As := [.int r4, .int 9999999]) d_Md_since_17 mv_Md_299 rfl (fun _ => ak_70) rfl (q99 (by decide)) ⟨Nat.le_of_ble_eq_true rfl, Nat.le_of_ble_eq_true rfl⟩ (Nat.le_of_ble_eq_true rfl) ⟨Nat.le_of_ble_eq_true rfl, Nat.le_of_ble_eq_true rfl⟩ (fun _ h => h) (fun h => ⟨h, c_Md_goes r4 9999999 _⟩) (fun S5 => ?_)
    refine x_aload_n_ref d_Md_since_20 rfl ?_
    refine x_getr d_Md_since_21 fl_Md_89 ak_70 (q99 (by decide)) (shx sh_70_26) ?_
    refine x_iload_n d_Md_since_24 rfl ?_
    refine x_iald d_Md_since_25 ak_85 (q99 (by decide)) ?_
    refine x_topi (fun v6 => ?_)
    refine x_istore_n (lc' := [some (.ref 70), some (.int p1), some (.int v6), none, none]) d_Md_since_26 (by decide) rfl ?_
    refine x_aload_n_ref d_Md_since_27 rfl ?_
    refine x_vI (b' := (some none)) (As := []) d_Md_since_28 mv_Md_296 rfl (fun _ => ak_70) rfl (q99 (by decide)) ⟨Nat.le_of_ble_eq_true rfl, Nat.le_of_ble_eq_true rfl⟩ (Nat.le_of_ble_eq_true rfl) ⟨Nat.le_of_ble_eq_true rfl, Nat.le_of_ble_eq_true rfl⟩ (fun _ h => h) (fun h => ⟨h, c_Md_known _⟩) (fun r8 S7 => ?_)
    refine x_istore_n (lc' := [some (.ref 70), some (.int p1), some (.int v6), some (.int r8), none]) d_Md_since_31 (by decide) rfl ?_
    refine x_iconst (v := 1) d_Md_since_32 (by decide) ?_
    refine x_istore (lc' := [some (.ref 70), some (.int p1), some (.int v6), some (.int r8), some (.int 1)]) d_Md_since_33 (by decide) rfl ?_
    refine x_nm (fun J86 hJ86 => ?_)
    have kJ86 : ∀ (a9 : Int32) (S10 : AS), V G md_Md_since (QM G md_Md_since iI) (fun _ => True) (some none) 86 [none, none, none, some (.int a9), none] [] 0 0 S10 (J86 a9 S10) := by
      subst hJ86
      intro a9 S10
      refine x_iload_n d_Md_since_86 rfl ?_
      exact x_ret d_Md_since_87 rfl rfl (Nat.le_of_ble_eq_true rfl) (Nat.le_of_ble_eq_true rfl)
    clear hJ86
    exact V.kw (v_Md_since_L35 J86 p1 v6 kJ86 FU r8 1 S7) ⟨rfl, rfl, rfl, rfl, rfl, trivial⟩
  · refine x_iconst (v := -1) d_Md_since_8 (by decide) ?_
    exact x_ret d_Md_since_9 rfl rfl (Nat.le_of_ble_eq_true rfl) (Nat.le_of_ble_eq_true rfl)
theorem c_Md_since {G : GX} (p1 : Int32) (S : AS) : CN G y_Md_since b_Md_since 5 (some (FieldType.int)) ({ frames := 8, cells := 0, slots := 0, locals := 200 } : Room) (some none) iI [.ref 70, .int p1] S (f_Md_since p1 S) := cn_of_v (M := md_Md_since) (ini := false) rfl (by decide +kernel) (fun h => nomatch h) rfl (Nat.le_of_ble_eq_true rfl) (v_Md_since p1 S)
noncomputable def f_Md_all_L81 (J113 : Int32 → AS → Option (Int32 × AS)) : Nat → Int32 → Int32 → AS → Option (Int32 × AS)
  | 0, _, _, _ => none
  | n + 1, c2, c3, S => if (gi S 70 4) ≤ c3 then (J113 c2 S) else (chk (vp_in c3 16) (nm (fun (a6 : Int32) (a7 : Int32) (S8 : AS) => nm (a6 + a7) fun v9 => f_Md_all_L81 J113 n v9 (c3 + 1) S8) fun J105 => if (gi S 85 (ix c3)) = (-1) then (J105 c2 1 S) else (J105 c2 0 S)))
noncomputable def f_Md_all (p1 : Int32) (S : AS) : Option (Int32 × AS) := if p1 = 0 then (some (gi S 70 2, S)) else (if p1 = 1 then (some (gi S 70 4, S)) else (if p1 = 2 then (some (gi S 70 11, S)) else (if p1 = 3 then (some (gi S 70 6, S)) else (if p1 = 4 then (some (gi S 70 15, S)) else (if p1 = 5 then (bI (f_Md_known S) fun r2 S1 => bV (f_Md_goes r2 9999999 S1) fun S3 => nm (fun (a4 : Int32) (S5 : AS) => some (a4, S5)) fun J113 => f_Md_all_L81 J113 FU 0 0 S3) else (if p1 = 6 then (bI (f_Md_known S) fun r11 S10 => some (r11, S10)) else (some ((-1), S))))))))
set_option maxHeartbeats 4000000 in
theorem v_Md_all_L81 {G : GX} (J113 : Int32 → AS → Option (Int32 × AS)) (kJ113 : ∀ (a4 : Int32) (T : AS), V G md_Md_all (QM G md_Md_all iI) (fun _ => True) (some none) 113 [none, none, some (.int a4), none] [] 0 0 T (J113 a4 T)) : ∀ (n : Nat) (c2 : Int32) (c3 : Int32) (S : AS), V G md_Md_all (QM G md_Md_all iI) (fun _ => True) (some none) 81 [some (.ref 70), none, some (.int c2), some (.int c3)] [] 0 0 S (f_Md_all_L81 J113 n c2 c3 S) := by
  intro n
  induction n with
  | zero => intro c2 c3 S; exact V.none
  | succ n ih =>
    intro c2 c3 S
    rw [f_Md_all_L81]
    refine x_iload_n d_Md_all_81 rfl ?_
    refine x_aload_n_ref d_Md_all_82 rfl ?_
    refine x_geti d_Md_all_83 fl_Md_23 ak_70 (q99 (by decide)) ?_
    refine x_icmp_ge (tgt := 113) d_Md_all_86 (by decide) (fun _ => ?_) (fun _ => ?_)
    · exact V.kw (kJ113 c2 S) ⟨rfl, trivial⟩
    · refine x_iload_n d_Md_all_89 rfl ?_
      refine x_aload_n_ref d_Md_all_90 rfl ?_
      refine x_getr d_Md_all_91 fl_Md_89 ak_70 (q99 (by decide)) (shx sh_70_26) ?_
      refine x_iload_n d_Md_all_94 rfl ?_
      refine x_iald d_Md_all_95 ak_85 (q99 (by decide)) ?_
      refine x_iconst (v := -1) d_Md_all_96 (by decide) ?_
      refine x_nm (fun J105 hJ105 => ?_)
      have kJ105 : ∀ (a6 : Int32) (a7 : Int32) (S8 : AS), V G md_Md_all (QM G md_Md_all iI) (fun _ => True) (some none) 105 [some (.ref 70), none, none, some (.int c3)] [.int a7, .int a6] 0 0 S8 (J105 a6 a7 S8) := by
        subst hJ105
        intro a6 a7 S8
        refine x_iadd d_Md_all_105 ?_
        refine x_topi (fun v9 => ?_)
        refine x_istore_n (lc' := [some (.ref 70), none, some (.int v9), some (.int c3)]) d_Md_all_106 (by decide) rfl ?_
        refine x_iinc (w := c3 + 1) (lc' := [some (.ref 70), none, some (.int v9), some (.int (c3 + 1))]) d_Md_all_107 (by decide) rfl rfl rfl ?_
        refine x_goto (tgt := 81) d_Md_all_110 (by decide) ?_
        exact V.kw (ih v9 (c3 + 1) S8) ⟨rfl, rfl, rfl, trivial⟩
      clear hJ105
      refine x_icmp_ne (tgt := 104) d_Md_all_97 (by decide) (fun _ => ?_) (fun _ => ?_)
      · refine x_iconst (v := 0) d_Md_all_104 (by decide) ?_
        exact V.kw (kJ105 c2 0 S) ⟨rfl, rfl, trivial⟩
      · refine x_iconst (v := 1) d_Md_all_100 (by decide) ?_
        refine x_goto (tgt := 105) d_Md_all_101 (by decide) ?_
        exact V.kw (kJ105 c2 1 S) ⟨rfl, rfl, trivial⟩
set_option maxHeartbeats 4000000 in
theorem v_Md_all {G : GX} (p1 : Int32) (S : AS) : V G md_Md_all (QM G md_Md_all iI) (fun _ => True) (some none) 0 [some (.ref 70), some (.int p1), none, none] [] 0 0 S (f_Md_all p1 S) := by
  unfold f_Md_all
  refine x_iconst (v := 0) d_Md_all_0 (by decide) ?_
  refine x_istore_n (lc' := [some (.ref 70), some (.int p1), some (.int 0), none]) d_Md_all_1 (by decide) rfl ?_
  refine x_iload_n d_Md_all_2 rfl ?_
  refine x_ite (fun hs18 => ?_) (fun hs18 => ?_)
  · refine x_tsw_in (c := 0) (tgt := 44) d_Md_all_3 hs18 (by decide) (by decide) rfl (by decide) ?_
    refine x_aload_n_ref d_Md_all_44 rfl ?_
    refine x_geti d_Md_all_45 fl_Md_17 ak_70 (q99 (by decide)) ?_
    exact x_ret d_Md_all_48 rfl rfl (Nat.le_of_ble_eq_true rfl) (Nat.le_of_ble_eq_true rfl)
  · refine x_ite (fun hs17 => ?_) (fun hs17 => ?_)
    · refine x_tsw_in (c := 1) (tgt := 49) d_Md_all_3 hs17 (by decide) (by decide) rfl (by decide) ?_
      refine x_aload_n_ref d_Md_all_49 rfl ?_
      refine x_geti d_Md_all_50 fl_Md_23 ak_70 (q99 (by decide)) ?_
      exact x_ret d_Md_all_53 rfl rfl (Nat.le_of_ble_eq_true rfl) (Nat.le_of_ble_eq_true rfl)
    · refine x_ite (fun hs16 => ?_) (fun hs16 => ?_)
      · refine x_tsw_in (c := 2) (tgt := 54) d_Md_all_3 hs16 (by decide) (by decide) rfl (by decide) ?_
        refine x_aload_n_ref d_Md_all_54 rfl ?_
        refine x_geti d_Md_all_55 fl_Md_44 ak_70 (q99 (by decide)) ?_
        exact x_ret d_Md_all_58 rfl rfl (Nat.le_of_ble_eq_true rfl) (Nat.le_of_ble_eq_true rfl)
      · refine x_ite (fun hs15 => ?_) (fun hs15 => ?_)
        · refine x_tsw_in (c := 3) (tgt := 59) d_Md_all_3 hs15 (by decide) (by decide) rfl (by decide) ?_
          refine x_aload_n_ref d_Md_all_59 rfl ?_
          refine x_geti d_Md_all_60 fl_Md_29 ak_70 (q99 (by decide)) ?_
          exact x_ret d_Md_all_63 rfl rfl (Nat.le_of_ble_eq_true rfl) (Nat.le_of_ble_eq_true rfl)
        · refine x_ite (fun hs14 => ?_) (fun hs14 => ?_)
          · refine x_tsw_in (c := 4) (tgt := 64) d_Md_all_3 hs14 (by decide) (by decide) rfl (by decide) ?_
            refine x_aload_n_ref d_Md_all_64 rfl ?_
            refine x_geti d_Md_all_65 fl_Md_56 ak_70 (q99 (by decide)) ?_
            exact x_ret d_Md_all_68 rfl rfl (Nat.le_of_ble_eq_true rfl) (Nat.le_of_ble_eq_true rfl)
          · refine x_ite (fun hs13 => ?_) (fun hs13 => ?_)
            · refine x_tsw_in (c := 5) (tgt := 69) d_Md_all_3 hs13 (by decide) (by decide) rfl (by decide) ?_
              refine x_aload_n_ref d_Md_all_69 rfl ?_
              refine x_aload_n_ref d_Md_all_70 rfl ?_
              refine x_vI (b' := (some none)) (As := []) d_Md_all_71 mv_Md_296 rfl (fun _ => ak_70) rfl (q99 (by decide)) ⟨Nat.le_of_ble_eq_true rfl, Nat.le_of_ble_eq_true rfl⟩ (Nat.le_of_ble_eq_true rfl) ⟨Nat.le_of_ble_eq_true rfl, Nat.le_of_ble_eq_true rfl⟩ (fun _ h => h) (fun h => ⟨h, c_Md_known _⟩) (fun r2 S1 => ?_)
              refine x_ldc (v := 9999999) (List.mem_append_right _ (List.mem_append_right _ (List.mem_append_right _ (List.mem_append_right _ (List.mem_append_right _ (List.mem_append_left _ (List.mem_of_getElem? (i := 188) (by decide +kernel)))))))) d_Md_all_74 ?_
              refine x_vV (b' := (some none)) (As := [.int r2, .int 9999999]) d_Md_all_76 mv_Md_299 rfl (fun _ => ak_70) rfl (q99 (by decide)) ⟨Nat.le_of_ble_eq_true rfl, Nat.le_of_ble_eq_true rfl⟩ (Nat.le_of_ble_eq_true rfl) ⟨Nat.le_of_ble_eq_true rfl, Nat.le_of_ble_eq_true rfl⟩ (fun _ h => h) (fun h => ⟨h, c_Md_goes r2 9999999 _⟩) (fun S3 => ?_)
              refine x_iconst (v := 0) d_Md_all_79 (by decide) ?_
              refine x_istore_n (lc' := [some (.ref 70), some (.int p1), some (.int 0), some (.int 0)]) d_Md_all_80 (by decide) rfl ?_
              refine x_nm (fun J113 hJ113 => ?_)
              have kJ113 : ∀ (a4 : Int32) (S5 : AS), V G md_Md_all (QM G md_Md_all iI) (fun _ => True) (some none) 113 [none, none, some (.int a4), none] [] 0 0 S5 (J113 a4 S5) := by
                subst hJ113
                intro a4 S5
                refine x_iload_n d_Md_all_113 rfl ?_
                exact x_ret d_Md_all_114 rfl rfl (Nat.le_of_ble_eq_true rfl) (Nat.le_of_ble_eq_true rfl)
              clear hJ113
              exact V.kw (v_Md_all_L81 J113 kJ113 FU 0 0 S3) ⟨rfl, rfl, rfl, trivial⟩
            · refine x_ite (fun hs12 => ?_) (fun hs12 => ?_)
              · refine x_tsw_in (c := 6) (tgt := 115) d_Md_all_3 hs12 (by decide) (by decide) rfl (by decide) ?_
                refine x_aload_n_ref d_Md_all_115 rfl ?_
                refine x_vI (b' := (some none)) (As := []) d_Md_all_116 mv_Md_296 rfl (fun _ => ak_70) rfl (q99 (by decide)) ⟨Nat.le_of_ble_eq_true rfl, Nat.le_of_ble_eq_true rfl⟩ (Nat.le_of_ble_eq_true rfl) ⟨Nat.le_of_ble_eq_true rfl, Nat.le_of_ble_eq_true rfl⟩ (fun _ h => h) (fun h => ⟨h, c_Md_known _⟩) (fun r11 S10 => ?_)
                exact x_ret d_Md_all_119 rfl rfl (Nat.le_of_ble_eq_true rfl) (Nat.le_of_ble_eq_true rfl)
              · refine x_tsw_out (n := 7) (tgt := 120) d_Md_all_3 (by decide) (fun j hj => by rcases (by omega : j = 0 ∨ j = 1 ∨ j = 2 ∨ j = 3 ∨ j = 4 ∨ j = 5 ∨ j = 6) with rfl | rfl | rfl | rfl | rfl | rfl | rfl <;> assumption) (by decide) ?_
                refine x_iconst (v := -1) d_Md_all_120 (by decide) ?_
                exact x_ret d_Md_all_121 rfl rfl (Nat.le_of_ble_eq_true rfl) (Nat.le_of_ble_eq_true rfl)
theorem c_Md_all {G : GX} (p1 : Int32) (S : AS) : CN G y_Md_all b_Md_all 4 (some (FieldType.int)) ({ frames := 8, cells := 0, slots := 0, locals := 200 } : Room) (some none) iI [.ref 70, .int p1] S (f_Md_all p1 S) := cn_of_v (M := md_Md_all) (ini := false) rfl (by decide +kernel) (fun h => nomatch h) rfl (Nat.le_of_ble_eq_true rfl) (v_Md_all p1 S)
noncomputable def f_Md_wish_L30 (J62 : AS → Option (Int32 × AS)) (x1 : Int32) (x2 : Int32) : Nat → Int32 → AS → Option (Int32 × AS)
  | 0, _, _ => none
  | n + 1, c3, S => chk (vp_in x1 24) (if (gi S 95 (ix x1)) ≤ c3 then (J62 S) else (chk (vp_in ((3 * x1) + c3) 72) (if (gi S 94 (ix ((3 * x1) + c3))) = x2 then (some ((-1), S)) else (f_Md_wish_L30 J62 x1 x2 n (c3 + 1) S))))
noncomputable def f_Md_wish (p1 : Int32) (p2 : Int32) (S : AS) : Option (Int32 × AS) := bI (f_Md_isPerson p1 S) fun r2 S1 => if r2 = 0 then (some ((-1), S1)) else (bI (f_Md_isPost p2 S1) fun r4 S3 => if r4 = 0 then (some ((-1), S3)) else (chk (vp_in p1 24) (if (gi S3 95 (ix p1)) = 3 then (some ((-1), S3)) else (nm (fun (S5 : AS) => chk (vp_in p1 24) (chk (vp_in ((3 * p1) + (gi S5 95 (ix p1))) 72) (nm (si S5 94 (ix ((3 * p1) + (gi S5 95 (ix p1)))) p2) fun S6 => chk (vp_in p1 24) (chk (vp_in p1 24) (nm (si S6 95 (ix p1) ((gi S6 95 (ix p1)) + 1)) fun S7 => chk (vp_in p1 24) (some (gi S7 95 (ix p1), S7))))))) fun J62 => f_Md_wish_L30 J62 p1 p2 FU 0 S3))))
set_option maxHeartbeats 4000000 in
theorem v_Md_wish_L30 {G : GX} (J62 : AS → Option (Int32 × AS)) (x1 : Int32) (x2 : Int32) (kJ62 : ∀ (T : AS), V G md_Md_wish (QM G md_Md_wish iI) (fun _ => True) (some none) 62 [some (.ref 70), some (.int x1), some (.int x2), none] [] 0 0 T (J62 T)) : ∀ (n : Nat) (c3 : Int32) (S : AS), V G md_Md_wish (QM G md_Md_wish iI) (fun _ => True) (some none) 30 [some (.ref 70), some (.int x1), some (.int x2), some (.int c3)] [] 0 0 S (f_Md_wish_L30 J62 x1 x2 n c3 S) := by
  intro n
  induction n with
  | zero => intro c3 S; exact V.none
  | succ n ih =>
    intro c3 S
    rw [f_Md_wish_L30]
    refine x_iload_n d_Md_wish_30 rfl ?_
    refine x_aload_n_ref d_Md_wish_31 rfl ?_
    refine x_getr d_Md_wish_32 fl_Md_124 ak_70 (q99 (by decide)) (shx sh_70_37) ?_
    refine x_iload_n d_Md_wish_35 rfl ?_
    refine x_iald d_Md_wish_36 ak_95 (q99 (by decide)) ?_
    refine x_icmp_ge (tgt := 62) d_Md_wish_37 (by decide) (fun _ => ?_) (fun _ => ?_)
    · exact V.kw (kJ62 S) ⟨rfl, rfl, rfl, trivial⟩
    · refine x_aload_n_ref d_Md_wish_40 rfl ?_
      refine x_getr d_Md_wish_41 fl_Md_121 ak_70 (q99 (by decide)) (shx sh_70_36) ?_
      refine x_iconst (v := 3) d_Md_wish_44 (by decide) ?_
      refine x_iload_n d_Md_wish_45 rfl ?_
      refine x_imul d_Md_wish_46 ?_
      refine x_iload_n d_Md_wish_47 rfl ?_
      refine x_iadd d_Md_wish_48 ?_
      refine x_iald d_Md_wish_49 ak_94 (q99 (by decide)) ?_
      refine x_iload_n d_Md_wish_50 rfl ?_
      refine x_icmp_ne (tgt := 56) d_Md_wish_51 (by decide) (fun _ => ?_) (fun _ => ?_)
      · refine x_iinc (w := c3 + 1) (lc' := [some (.ref 70), some (.int x1), some (.int x2), some (.int (c3 + 1))]) d_Md_wish_56 (by decide) rfl rfl rfl ?_
        refine x_goto (tgt := 30) d_Md_wish_59 (by decide) ?_
        exact V.kw (ih (c3 + 1) S) ⟨rfl, rfl, rfl, rfl, trivial⟩
      · refine x_iconst (v := -1) d_Md_wish_54 (by decide) ?_
        exact x_ret d_Md_wish_55 rfl rfl (Nat.le_of_ble_eq_true rfl) (Nat.le_of_ble_eq_true rfl)
set_option maxHeartbeats 4000000 in
theorem v_Md_wish {G : GX} (p1 : Int32) (p2 : Int32) (S : AS) : V G md_Md_wish (QM G md_Md_wish iI) (fun _ => True) (some none) 0 [some (.ref 70), some (.int p1), some (.int p2), none] [] 0 0 S (f_Md_wish p1 p2 S) := by
  unfold f_Md_wish
  refine x_aload_n_ref d_Md_wish_0 rfl ?_
  refine x_iload_n d_Md_wish_1 rfl ?_
  refine x_vI (b' := (some none)) (As := [.int p1]) d_Md_wish_2 mv_Md_155 rfl (fun _ => ak_70) rfl (q99 (by decide)) ⟨Nat.le_of_ble_eq_true rfl, Nat.le_of_ble_eq_true rfl⟩ (Nat.le_of_ble_eq_true rfl) ⟨Nat.le_of_ble_eq_true rfl, Nat.le_of_ble_eq_true rfl⟩ (fun _ h => h) (fun h => ⟨h, c_Md_isPerson p1 _⟩) (fun r2 S1 => ?_)
  refine x_if_eq (tgt := 26) d_Md_wish_5 (by decide) (fun _ => ?_) (fun _ => ?_)
  · refine x_iconst (v := -1) d_Md_wish_26 (by decide) ?_
    exact x_ret d_Md_wish_27 rfl rfl (Nat.le_of_ble_eq_true rfl) (Nat.le_of_ble_eq_true rfl)
  · refine x_aload_n_ref d_Md_wish_8 rfl ?_
    refine x_iload_n d_Md_wish_9 rfl ?_
    refine x_vI (b' := (some none)) (As := [.int p2]) d_Md_wish_10 mv_Md_151 rfl (fun _ => ak_70) rfl (q99 (by decide)) ⟨Nat.le_of_ble_eq_true rfl, Nat.le_of_ble_eq_true rfl⟩ (Nat.le_of_ble_eq_true rfl) ⟨Nat.le_of_ble_eq_true rfl, Nat.le_of_ble_eq_true rfl⟩ (fun _ h => h) (fun h => ⟨h, c_Md_isPost p2 _⟩) (fun r4 S3 => ?_)
    refine x_if_eq (tgt := 26) d_Md_wish_13 (by decide) (fun _ => ?_) (fun _ => ?_)
    · refine x_iconst (v := -1) d_Md_wish_26 (by decide) ?_
      exact x_ret d_Md_wish_27 rfl rfl (Nat.le_of_ble_eq_true rfl) (Nat.le_of_ble_eq_true rfl)
    · refine x_aload_n_ref d_Md_wish_16 rfl ?_
      refine x_getr d_Md_wish_17 fl_Md_124 ak_70 (q99 (by decide)) (shx sh_70_37) ?_
      refine x_iload_n d_Md_wish_20 rfl ?_
      refine x_iald d_Md_wish_21 ak_95 (q99 (by decide)) ?_
      refine x_iconst (v := 3) d_Md_wish_22 (by decide) ?_
      refine x_icmp_ne (tgt := 28) d_Md_wish_23 (by decide) (fun _ => ?_) (fun _ => ?_)
      · refine x_iconst (v := 0) d_Md_wish_28 (by decide) ?_
        refine x_istore_n (lc' := [some (.ref 70), some (.int p1), some (.int p2), some (.int 0)]) d_Md_wish_29 (by decide) rfl ?_
        refine x_nm (fun J62 hJ62 => ?_)
        have kJ62 : ∀ (S5 : AS), V G md_Md_wish (QM G md_Md_wish iI) (fun _ => True) (some none) 62 [some (.ref 70), some (.int p1), some (.int p2), none] [] 0 0 S5 (J62 S5) := by
          subst hJ62
          intro S5
          refine x_aload_n_ref d_Md_wish_62 rfl ?_
          refine x_getr d_Md_wish_63 fl_Md_121 ak_70 (q99 (by decide)) (shx sh_70_36) ?_
          refine x_iconst (v := 3) d_Md_wish_66 (by decide) ?_
          refine x_iload_n d_Md_wish_67 rfl ?_
          refine x_imul d_Md_wish_68 ?_
          refine x_aload_n_ref d_Md_wish_69 rfl ?_
          refine x_getr d_Md_wish_70 fl_Md_124 ak_70 (q99 (by decide)) (shx sh_70_37) ?_
          refine x_iload_n d_Md_wish_73 rfl ?_
          refine x_iald d_Md_wish_74 ak_95 (q99 (by decide)) ?_
          refine x_iadd d_Md_wish_75 ?_
          refine x_iload_n d_Md_wish_76 rfl ?_
          refine x_iast d_Md_wish_77 ak_94 (q99 (by decide)) ?_
          refine x_nmS (fun S6 _ => ?_)
          refine x_aload_n_ref d_Md_wish_78 rfl ?_
          refine x_getr d_Md_wish_79 fl_Md_124 ak_70 (q99 (by decide)) (shx sh_70_37) ?_
          refine x_iload_n d_Md_wish_82 rfl ?_
          refine x_dup2 d_Md_wish_83 rfl rfl ?_
          refine x_iald d_Md_wish_84 ak_95 (q99 (by decide)) ?_
          refine x_iconst (v := 1) d_Md_wish_85 (by decide) ?_
          refine x_iadd d_Md_wish_86 ?_
          refine x_iast d_Md_wish_87 ak_95 (q99 (by decide)) ?_
          refine x_nmS (fun S7 _ => ?_)
          refine x_aload_n_ref d_Md_wish_88 rfl ?_
          refine x_getr d_Md_wish_89 fl_Md_124 ak_70 (q99 (by decide)) (shx sh_70_37) ?_
          refine x_iload_n d_Md_wish_92 rfl ?_
          refine x_iald d_Md_wish_93 ak_95 (q99 (by decide)) ?_
          exact x_ret d_Md_wish_94 rfl rfl (Nat.le_of_ble_eq_true rfl) (Nat.le_of_ble_eq_true rfl)
        clear hJ62
        exact V.kw (v_Md_wish_L30 J62 p1 p2 kJ62 FU 0 S3) ⟨rfl, rfl, rfl, rfl, trivial⟩
      · refine x_iconst (v := -1) d_Md_wish_26 (by decide) ?_
        exact x_ret d_Md_wish_27 rfl rfl (Nat.le_of_ble_eq_true rfl) (Nat.le_of_ble_eq_true rfl)
theorem c_Md_wish {G : GX} (p1 : Int32) (p2 : Int32) (S : AS) : CN G y_Md_wish b_Md_wish 4 (some (FieldType.int)) ({ frames := 1, cells := 0, slots := 0, locals := 21 } : Room) (some none) iI [.ref 70, .int p1, .int p2] S (f_Md_wish p1 p2 S) := cn_of_v (M := md_Md_wish) (ini := false) rfl (by decide +kernel) (fun h => nomatch h) rfl (Nat.le_of_ble_eq_true rfl) (v_Md_wish p1 p2 S)
noncomputable def f_Md_content (p1 : Int32) (S : AS) : Option (Int32 × AS) := bI (f_Md_isPerson p1 S) fun r2 S1 => if r2 = 0 then (some ((-1), S1)) else (chk (vp_in p1 24) (nm (gi S1 95 (ix p1)) fun v3 => chk (vp_in p1 24) (nm (si S1 95 (ix p1) 0) fun S4 => some (v3, S4))))
set_option maxHeartbeats 4000000 in
theorem v_Md_content {G : GX} (p1 : Int32) (S : AS) : V G md_Md_content (QM G md_Md_content iI) (fun _ => True) (some none) 0 [some (.ref 70), some (.int p1), none] [] 0 0 S (f_Md_content p1 S) := by
  unfold f_Md_content
  refine x_aload_n_ref d_Md_content_0 rfl ?_
  refine x_iload_n d_Md_content_1 rfl ?_
  refine x_vI (b' := (some none)) (As := [.int p1]) d_Md_content_2 mv_Md_155 rfl (fun _ => ak_70) rfl (q99 (by decide)) ⟨Nat.le_of_ble_eq_true rfl, Nat.le_of_ble_eq_true rfl⟩ (Nat.le_of_ble_eq_true rfl) ⟨Nat.le_of_ble_eq_true rfl, Nat.le_of_ble_eq_true rfl⟩ (fun _ h => h) (fun h => ⟨h, c_Md_isPerson p1 _⟩) (fun r2 S1 => ?_)
  refine x_if_ne (tgt := 10) d_Md_content_5 (by decide) (fun _ => ?_) (fun _ => ?_)
  · refine x_aload_n_ref d_Md_content_10 rfl ?_
    refine x_getr d_Md_content_11 fl_Md_124 ak_70 (q99 (by decide)) (shx sh_70_37) ?_
    refine x_iload_n d_Md_content_14 rfl ?_
    refine x_iald d_Md_content_15 ak_95 (q99 (by decide)) ?_
    refine x_topi (fun v3 => ?_)
    refine x_istore_n (lc' := [some (.ref 70), some (.int p1), some (.int v3)]) d_Md_content_16 (by decide) rfl ?_
    refine x_aload_n_ref d_Md_content_17 rfl ?_
    refine x_getr d_Md_content_18 fl_Md_124 ak_70 (q99 (by decide)) (shx sh_70_37) ?_
    refine x_iload_n d_Md_content_21 rfl ?_
    refine x_iconst (v := 0) d_Md_content_22 (by decide) ?_
    refine x_iast d_Md_content_23 ak_95 (q99 (by decide)) ?_
    refine x_nmS (fun S4 _ => ?_)
    refine x_iload_n d_Md_content_24 rfl ?_
    exact x_ret d_Md_content_25 rfl rfl (Nat.le_of_ble_eq_true rfl) (Nat.le_of_ble_eq_true rfl)
  · refine x_iconst (v := -1) d_Md_content_8 (by decide) ?_
    exact x_ret d_Md_content_9 rfl rfl (Nat.le_of_ble_eq_true rfl) (Nat.le_of_ble_eq_true rfl)
theorem c_Md_content {G : GX} (p1 : Int32) (S : AS) : CN G y_Md_content b_Md_content 3 (some (FieldType.int)) ({ frames := 1, cells := 0, slots := 0, locals := 21 } : Room) (some none) iI [.ref 70, .int p1] S (f_Md_content p1 S) := cn_of_v (M := md_Md_content) (ini := false) rfl (by decide +kernel) (fun h => nomatch h) rfl (Nat.le_of_ble_eq_true rfl) (v_Md_content p1 S)
noncomputable def f_Md_points_L2 (J59 : AS → Option (Int32 × AS)) (J42 : Int32 → AS → Option (Int32 × AS)) (x1 : Int32) : Nat → Int32 → AS → Option (Int32 × AS)
  | 0, _, _ => none
  | n + 1, c2, S => chk (vp_in x1 24) (if (gi S 95 (ix x1)) ≤ c2 then (J59 S) else (chk (vp_in ((3 * x1) + c2) 72) (chk (vp_in (gi S 94 (ix ((3 * x1) + c2))) 16) (nm (gi S 85 (ix (gi S 94 (ix ((3 * x1) + c2))))) fun v4 => nm (fun (S5 : AS) => f_Md_points_L2 J59 J42 x1 n (c2 + 1) S5) fun J53 => if v4 = (-1) then (J53 S) else (chk (vp_in v4 24) (if (gi S 97 (ix v4)) = 0 then (J53 S) else (J42 c2 S)))))))
noncomputable def f_Md_points (p1 : Int32) (S : AS) : Option (Int32 × AS) := nm (fun (S1 : AS) => chk (vp_in p1 24) (some (gi S1 98 (ix p1), S1))) fun J59 => nm (fun (a2 : Int32) (S3 : AS) => chk (vp_in ((3 * p1) + a2) 72) (some (gi S3 94 (ix ((3 * p1) + a2)), S3))) fun J42 => f_Md_points_L2 J59 J42 p1 FU 0 S
set_option maxHeartbeats 4000000 in
theorem v_Md_points_L2 {G : GX} (J59 : AS → Option (Int32 × AS)) (J42 : Int32 → AS → Option (Int32 × AS)) (x1 : Int32) (kJ59 : ∀ (T : AS), V G md_Md_points (QM G md_Md_points iI) (fun _ => True) (some none) 59 [some (.ref 70), some (.int x1), none, none] [] 0 0 T (J59 T)) (kJ42 : ∀ (a2 : Int32) (T : AS), V G md_Md_points (QM G md_Md_points iI) (fun _ => True) (some none) 42 [some (.ref 70), some (.int x1), some (.int a2), none] [] 0 0 T (J42 a2 T)) : ∀ (n : Nat) (c2 : Int32) (S : AS), V G md_Md_points (QM G md_Md_points iI) (fun _ => True) (some none) 2 [some (.ref 70), some (.int x1), some (.int c2), none] [] 0 0 S (f_Md_points_L2 J59 J42 x1 n c2 S) := by
  intro n
  induction n with
  | zero => intro c2 S; exact V.none
  | succ n ih =>
    intro c2 S
    rw [f_Md_points_L2]
    refine x_iload_n d_Md_points_2 rfl ?_
    refine x_aload_n_ref d_Md_points_3 rfl ?_
    refine x_getr d_Md_points_4 fl_Md_124 ak_70 (q99 (by decide)) (shx sh_70_37) ?_
    refine x_iload_n d_Md_points_7 rfl ?_
    refine x_iald d_Md_points_8 ak_95 (q99 (by decide)) ?_
    refine x_icmp_ge (tgt := 59) d_Md_points_9 (by decide) (fun _ => ?_) (fun _ => ?_)
    · exact V.kw (kJ59 S) ⟨rfl, rfl, trivial⟩
    · refine x_aload_n_ref d_Md_points_12 rfl ?_
      refine x_getr d_Md_points_13 fl_Md_89 ak_70 (q99 (by decide)) (shx sh_70_26) ?_
      refine x_aload_n_ref d_Md_points_16 rfl ?_
      refine x_getr d_Md_points_17 fl_Md_121 ak_70 (q99 (by decide)) (shx sh_70_36) ?_
      refine x_iconst (v := 3) d_Md_points_20 (by decide) ?_
      refine x_iload_n d_Md_points_21 rfl ?_
      refine x_imul d_Md_points_22 ?_
      refine x_iload_n d_Md_points_23 rfl ?_
      refine x_iadd d_Md_points_24 ?_
      refine x_iald d_Md_points_25 ak_94 (q99 (by decide)) ?_
      refine x_iald d_Md_points_26 ak_85 (q99 (by decide)) ?_
      refine x_topi (fun v4 => ?_)
      refine x_istore_n (lc' := [some (.ref 70), some (.int x1), some (.int c2), some (.int v4)]) d_Md_points_27 (by decide) rfl ?_
      refine x_iload_n d_Md_points_28 rfl ?_
      refine x_iconst (v := -1) d_Md_points_29 (by decide) ?_
      refine x_nm (fun J53 hJ53 => ?_)
      have kJ53 : ∀ (S5 : AS), V G md_Md_points (QM G md_Md_points iI) (fun _ => True) (some none) 53 [some (.ref 70), some (.int x1), some (.int c2), none] [] 0 0 S5 (J53 S5) := by
        subst hJ53
        intro S5
        refine x_iinc (w := c2 + 1) (lc' := [some (.ref 70), some (.int x1), some (.int (c2 + 1)), none]) d_Md_points_53 (by decide) rfl rfl rfl ?_
        refine x_goto (tgt := 2) d_Md_points_56 (by decide) ?_
        exact V.kw (ih (c2 + 1) S5) ⟨rfl, rfl, rfl, trivial⟩
      clear hJ53
      refine x_icmp_eq (tgt := 53) d_Md_points_30 (by decide) (fun _ => ?_) (fun _ => ?_)
      · exact V.kw (kJ53 S) ⟨rfl, rfl, rfl, trivial⟩
      · refine x_aload_n_ref d_Md_points_33 rfl ?_
        refine x_getr d_Md_points_34 fl_Md_130 ak_70 (q99 (by decide)) (shx sh_70_39) ?_
        refine x_iload_n d_Md_points_37 rfl ?_
        refine x_zald d_Md_points_38 ak_97 (q99 (by decide)) ?_
        refine x_if_eq (tgt := 53) d_Md_points_39 (by decide) (fun _ => ?_) (fun _ => ?_)
        · exact V.kw (kJ53 S) ⟨rfl, rfl, rfl, trivial⟩
        · exact V.kw (kJ42 c2 S) ⟨rfl, rfl, rfl, trivial⟩
set_option maxHeartbeats 4000000 in
theorem v_Md_points {G : GX} (p1 : Int32) (S : AS) : V G md_Md_points (QM G md_Md_points iI) (fun _ => True) (some none) 0 [some (.ref 70), some (.int p1), none, none] [] 0 0 S (f_Md_points p1 S) := by
  unfold f_Md_points
  refine x_iconst (v := 0) d_Md_points_0 (by decide) ?_
  refine x_istore_n (lc' := [some (.ref 70), some (.int p1), some (.int 0), none]) d_Md_points_1 (by decide) rfl ?_
  refine x_nm (fun J59 hJ59 => ?_)
  have kJ59 : ∀ (S1 : AS), V G md_Md_points (QM G md_Md_points iI) (fun _ => True) (some none) 59 [some (.ref 70), some (.int p1), none, none] [] 0 0 S1 (J59 S1) := by
    subst hJ59
    intro S1
    refine x_aload_n_ref d_Md_points_59 rfl ?_
    refine x_getr d_Md_points_60 fl_Md_133 ak_70 (q99 (by decide)) (shx sh_70_40) ?_
    refine x_iload_n d_Md_points_63 rfl ?_
    refine x_iald d_Md_points_64 ak_98 (q99 (by decide)) ?_
    exact x_ret d_Md_points_65 rfl rfl (Nat.le_of_ble_eq_true rfl) (Nat.le_of_ble_eq_true rfl)
  clear hJ59
  refine x_nm (fun J42 hJ42 => ?_)
  have kJ42 : ∀ (a2 : Int32) (S3 : AS), V G md_Md_points (QM G md_Md_points iI) (fun _ => True) (some none) 42 [some (.ref 70), some (.int p1), some (.int a2), none] [] 0 0 S3 (J42 a2 S3) := by
    subst hJ42
    intro a2 S3
    refine x_aload_n_ref d_Md_points_42 rfl ?_
    refine x_getr d_Md_points_43 fl_Md_121 ak_70 (q99 (by decide)) (shx sh_70_36) ?_
    refine x_iconst (v := 3) d_Md_points_46 (by decide) ?_
    refine x_iload_n d_Md_points_47 rfl ?_
    refine x_imul d_Md_points_48 ?_
    refine x_iload_n d_Md_points_49 rfl ?_
    refine x_iadd d_Md_points_50 ?_
    refine x_iald d_Md_points_51 ak_94 (q99 (by decide)) ?_
    exact x_ret d_Md_points_52 rfl rfl (Nat.le_of_ble_eq_true rfl) (Nat.le_of_ble_eq_true rfl)
  clear hJ42
  exact V.kw (v_Md_points_L2 J59 J42 p1 kJ59 kJ42 FU 0 S) ⟨rfl, rfl, rfl, trivial⟩
theorem c_Md_points {G : GX} (p1 : Int32) (S : AS) : CN G y_Md_points b_Md_points 4 (some (FieldType.int)) ({ frames := 0, cells := 0, slots := 0, locals := 0 } : Room) (some none) iI [.ref 70, .int p1] S (f_Md_points p1 S) := cn_of_v (M := md_Md_points) (ini := false) rfl (by decide +kernel) (fun h => nomatch h) rfl (Nat.le_of_ble_eq_true rfl) (v_Md_points p1 S)
noncomputable def f_Md_rings_L255 (J298 : Int32 → AS → Option (Int32 × AS)) (x2 : Int32) (x4 : Int32) : Nat → Int32 → Int32 → Int32 → AS → Option (Int32 × AS)
  | 0, _, _, _, _ => none
  | n + 1, c1, c3, c5, S => if c5 = 0 then (J298 c1 S) else (chk (vp_in c3 24) (nm (si S 97 (ix c3) (vp_nar .boolean 0)) fun S19 => chk (vp_in c3 24) (chk (vp_in (gi S19 96 (ix c3)) 16) (nm (gi S19 85 (ix (gi S19 96 (ix c3)))) fun v20 => nm (fun (a21 : Int32) (S22 : AS) => f_Md_rings_L255 J298 x2 x4 n (c1 + (-1)) v20 a21 S22) fun J293 => if v20 = x4 then (J293 0 S19) else (J293 1 S19)))))
noncomputable def f_Md_rings_L185 (J252 : Int32 → Int32 → AS → Option (Int32 × AS)) (x1 : Int32) (x4 : Int32) : Nat → Int32 → Int32 → Int32 → AS → Option (Int32 × AS)
  | 0, _, _, _, _ => none
  | n + 1, c2, c3, c5, S => if c5 = 0 then (J252 c2 c3 S) else (bI (f_Md_points c3 S) fun r24 S23 => chk (vp_in c3 24) (nm (si S23 96 (ix c3) r24) fun S25 => chk (vp_in c3 24) (chk (vp_in c3 24) (nm (fun (a26 : Int32) (a27 : Int32) (S28 : AS) => nm (a26 + a27) fun v29 => chk (vp_in c3 24) (chk (vp_in (gi S28 96 (ix c3)) 16) (nm (gi S28 85 (ix (gi S28 96 (ix c3)))) fun v30 => nm (fun (a31 : Int32) (S32 : AS) => f_Md_rings_L185 J252 x1 x4 n v29 v30 a31 S32) fun J247 => if v30 = x4 then (J247 0 S28) else (J247 1 S28)))) fun J222 => if (gi S25 96 (ix c3)) = (gi S25 98 (ix c3)) then (J222 c2 0 S25) else (J222 c2 1 S25)))))
noncomputable def f_Md_rings_L153 (J179 : Int32 → AS → Option (Int32 × AS)) (x1 : Int32) (x2 : Int32) : Nat → Int32 → Int32 → AS → Option (Int32 × AS)
  | 0, _, _, _ => none
  | n + 1, c3, c4, S => if (gi S 70 2) ≤ c4 then (J179 c3 S) else (bI (f_Md_points c3 S) fun r34 S33 => chk (vp_in r34 16) (nm (gi S33 85 (ix r34)) fun v35 => f_Md_rings_L153 J179 x1 x2 n v35 (c4 + 1) S33))
noncomputable def f_Md_rings_L135 (J150 : Int32 → AS → Option (Int32 × AS)) (x1 : Int32) (x2 : Int32) : Nat → Int32 → AS → Option (Int32 × AS)
  | 0, _, _ => none
  | n + 1, c3, S => chk (vp_in c3 24) (if (gi S 97 (ix c3)) = 0 then (f_Md_rings_L135 J150 x1 x2 n (c3 + 1) S) else (J150 c3 S))
noncomputable def f_Md_rings_L129 (J301 : Int32 → AS → Option (Int32 × AS)) : Nat → Int32 → Int32 → AS → Option (Int32 × AS)
  | 0, _, _, _ => none
  | n + 1, c1, c2, S => if c1 ≤ 0 then (J301 c2 S) else (nm (fun (a10 : Int32) (S11 : AS) => nm (fun (a12 : Int32) (S13 : AS) => nm (fun (a14 : Int32) (a15 : Int32) (S16 : AS) => nm (fun (a17 : Int32) (S18 : AS) => f_Md_rings_L129 J301 n a17 a14 S18) fun J298 => f_Md_rings_L255 J298 a14 a12 FU c1 a15 1 S16) fun J252 => f_Md_rings_L185 J252 c1 a12 FU c2 a12 1 S13) fun J179 => f_Md_rings_L153 J179 c1 c2 FU a10 0 S11) fun J150 => f_Md_rings_L135 J150 c1 c2 FU 0 S)
noncomputable def f_Md_rings_L81 (J121 : AS → Option (Int32 × AS)) (x1 : Int32) (x2 : Int32) : Nat → Int32 → AS → Option (Int32 × AS)
  | 0, _, _ => none
  | n + 1, c3, S => if (gi S 70 4) ≤ c3 then (J121 S) else (chk (vp_in c3 16) (nm (fun (a48 : Int32) (a49 : Int32) (S50 : AS) => chk (vp_in a48 24) (nm (si S50 98 (ix a48) a49) fun S51 => f_Md_rings_L81 J121 x1 x2 n (c3 + 1) S51)) fun J114 => if (gi S 85 (ix c3)) = x2 then (J114 x2 c3 S) else (chk (vp_in x2 24) (J114 x2 (gi S 98 (ix x2)) S))))
noncomputable def f_Md_rings_L27 (J127 : Int32 → AS → Option (Int32 × AS)) : Nat → Int32 → Int32 → AS → Option (Int32 × AS)
  | 0, _, _, _ => none
  | n + 1, c1, c2, S => if (gi S 70 2) ≤ c2 then (J127 c1 S) else (bI (f_Md_held c2 S) fun r37 S36 => nm (fun (a38 : Int32) (a39 : Int32) (S40 : AS) => chk (vp_in a38 24) (nm (si S40 97 (ix a38) (vp_nar .boolean a39)) fun S41 => chk (vp_in c2 24) (nm (si S41 96 (ix c2) (-1)) fun S42 => chk (vp_in c2 24) (nm (fun (a43 : Int32) (a44 : Int32) (S45 : AS) => nm (a43 + a44) fun v46 => nm (fun (S47 : AS) => f_Md_rings_L27 J127 n v46 (c2 + 1) S47) fun J121 => f_Md_rings_L81 J121 v46 c2 FU 0 S45) fun J77 => if (gi S42 97 (ix c2)) = 0 then (J77 c1 0 S42) else (J77 c1 1 S42))))) fun J54 => if r37 = 1 then (J54 c2 1 S36) else (J54 c2 0 S36))
noncomputable def f_Md_rings (S : AS) : Option (Int32 × AS) := bI (f_Md_known S) fun r2 S1 => bV (f_Md_goes r2 9999999 S1) fun S3 => nm (si S3 70 41 1) fun S4 => nm (si S4 70 42 (gi S4 70 2)) fun S5 => nm (fun (a6 : Int32) (S7 : AS) => nm (fun (a8 : Int32) (S9 : AS) => some (a8, S9)) fun J301 => f_Md_rings_L129 J301 FU a6 0 S7) fun J127 => f_Md_rings_L27 J127 FU 0 0 S5
set_option maxHeartbeats 4000000 in
theorem v_Md_rings_L255 {G : GX} (J298 : Int32 → AS → Option (Int32 × AS)) (x2 : Int32) (x4 : Int32) (kJ298 : ∀ (a17 : Int32) (T : AS), V G md_Md_rings (QM G md_Md_rings iI) (fun _ => True) (some none) 298 [some (.ref 70), some (.int a17), some (.int x2), none, none, none] [] 0 0 T (J298 a17 T)) : ∀ (n : Nat) (c1 : Int32) (c3 : Int32) (c5 : Int32) (S : AS), V G md_Md_rings (QM G md_Md_rings iI) (fun _ => True) (some none) 255 [some (.ref 70), some (.int c1), some (.int x2), some (.int c3), some (.int x4), some (.int c5)] [] 0 0 S (f_Md_rings_L255 J298 x2 x4 n c1 c3 c5 S) := by
  intro n
  induction n with
  | zero => intro c1 c3 c5 S; exact V.none
  | succ n ih =>
    intro c1 c3 c5 S
    rw [f_Md_rings_L255]
    refine x_iload d_Md_rings_255 rfl ?_
    refine x_if_eq (tgt := 298) d_Md_rings_257 (by decide) (fun _ => ?_) (fun _ => ?_)
    · exact V.kw (kJ298 c1 S) ⟨rfl, rfl, rfl, trivial⟩
    · refine x_aload_n_ref d_Md_rings_260 rfl ?_
      refine x_getr d_Md_rings_261 fl_Md_130 ak_70 (q99 (by decide)) (shx sh_70_39) ?_
      refine x_iload_n d_Md_rings_264 rfl ?_
      refine x_iconst (v := 0) d_Md_rings_265 (by decide) ?_
      refine x_zast d_Md_rings_266 ak_97 (q99 (by decide)) ?_
      refine x_nmS (fun S19 _ => ?_)
      refine x_iinc (w := c1 + (-1)) (lc' := [some (.ref 70), some (.int (c1 + (-1))), some (.int x2), some (.int c3), some (.int x4), some (.int c5)]) d_Md_rings_267 (by decide) rfl rfl rfl ?_
      refine x_aload_n_ref d_Md_rings_270 rfl ?_
      refine x_getr d_Md_rings_271 fl_Md_89 ak_70 (q99 (by decide)) (shx sh_70_26) ?_
      refine x_aload_n_ref d_Md_rings_274 rfl ?_
      refine x_getr d_Md_rings_275 fl_Md_127 ak_70 (q99 (by decide)) (shx sh_70_38) ?_
      refine x_iload_n d_Md_rings_278 rfl ?_
      refine x_iald d_Md_rings_279 ak_96 (q99 (by decide)) ?_
      refine x_iald d_Md_rings_280 ak_85 (q99 (by decide)) ?_
      refine x_topi (fun v20 => ?_)
      refine x_istore_n (lc' := [some (.ref 70), some (.int (c1 + (-1))), some (.int x2), some (.int v20), some (.int x4), some (.int c5)]) d_Md_rings_281 (by decide) rfl ?_
      refine x_iload_n d_Md_rings_282 rfl ?_
      refine x_iload d_Md_rings_283 rfl ?_
      refine x_nm (fun J293 hJ293 => ?_)
      have kJ293 : ∀ (a21 : Int32) (S22 : AS), V G md_Md_rings (QM G md_Md_rings iI) (fun _ => True) (some none) 293 [some (.ref 70), some (.int (c1 + (-1))), some (.int x2), some (.int v20), some (.int x4), none] [.int a21] 0 0 S22 (J293 a21 S22) := by
        subst hJ293
        intro a21 S22
        refine x_istore (lc' := [some (.ref 70), some (.int (c1 + (-1))), some (.int x2), some (.int v20), some (.int x4), some (.int a21)]) d_Md_rings_293 (by decide) rfl ?_
        refine x_goto (tgt := 255) d_Md_rings_295 (by decide) ?_
        exact V.kw (ih (c1 + (-1)) v20 a21 S22) ⟨rfl, rfl, rfl, rfl, rfl, rfl, trivial⟩
      clear hJ293
      refine x_icmp_eq (tgt := 292) d_Md_rings_285 (by decide) (fun _ => ?_) (fun _ => ?_)
      · refine x_iconst (v := 0) d_Md_rings_292 (by decide) ?_
        exact V.kw (kJ293 0 S19) ⟨rfl, rfl, rfl, rfl, rfl, trivial⟩
      · refine x_iconst (v := 1) d_Md_rings_288 (by decide) ?_
        refine x_goto (tgt := 293) d_Md_rings_289 (by decide) ?_
        exact V.kw (kJ293 1 S19) ⟨rfl, rfl, rfl, rfl, rfl, trivial⟩
set_option maxHeartbeats 4000000 in
theorem v_Md_rings_L185 {G : GX} (J252 : Int32 → Int32 → AS → Option (Int32 × AS)) (x1 : Int32) (x4 : Int32) (kJ252 : ∀ (a14 : Int32) (a15 : Int32) (T : AS), V G md_Md_rings (QM G md_Md_rings iI) (fun _ => True) (some none) 252 [some (.ref 70), some (.int x1), some (.int a14), some (.int a15), some (.int x4), none] [] 0 0 T (J252 a14 a15 T)) : ∀ (n : Nat) (c2 : Int32) (c3 : Int32) (c5 : Int32) (S : AS), V G md_Md_rings (QM G md_Md_rings iI) (fun _ => True) (some none) 185 [some (.ref 70), some (.int x1), some (.int c2), some (.int c3), some (.int x4), some (.int c5)] [] 0 0 S (f_Md_rings_L185 J252 x1 x4 n c2 c3 c5 S) := by
  intro n
  induction n with
  | zero => intro c2 c3 c5 S; exact V.none
  | succ n ih =>
    intro c2 c3 c5 S
    rw [f_Md_rings_L185]
    refine x_iload d_Md_rings_185 rfl ?_
    refine x_if_eq (tgt := 252) d_Md_rings_187 (by decide) (fun _ => ?_) (fun _ => ?_)
    · exact V.kw (kJ252 c2 c3 S) ⟨rfl, rfl, rfl, rfl, rfl, trivial⟩
    · refine x_aload_n_ref d_Md_rings_190 rfl ?_
      refine x_getr d_Md_rings_191 fl_Md_127 ak_70 (q99 (by decide)) (shx sh_70_38) ?_
      refine x_iload_n d_Md_rings_194 rfl ?_
      refine x_aload_n_ref d_Md_rings_195 rfl ?_
      refine x_iload_n d_Md_rings_196 rfl ?_
      refine x_vI (b' := (some none)) (As := [.int c3]) d_Md_rings_197 mv_Md_309 rfl (fun _ => ak_70) rfl (q99 (by decide)) ⟨Nat.le_of_ble_eq_true rfl, Nat.le_of_ble_eq_true rfl⟩ (Nat.le_of_ble_eq_true rfl) ⟨Nat.le_of_ble_eq_true rfl, Nat.le_of_ble_eq_true rfl⟩ (fun _ h => h) (fun h => ⟨h, c_Md_points c3 _⟩) (fun r24 S23 => ?_)
      refine x_iast d_Md_rings_200 ak_96 (q99 (by decide)) ?_
      refine x_nmS (fun S25 _ => ?_)
      refine x_iload_n d_Md_rings_201 rfl ?_
      refine x_aload_n_ref d_Md_rings_202 rfl ?_
      refine x_getr d_Md_rings_203 fl_Md_127 ak_70 (q99 (by decide)) (shx sh_70_38) ?_
      refine x_iload_n d_Md_rings_206 rfl ?_
      refine x_iald d_Md_rings_207 ak_96 (q99 (by decide)) ?_
      refine x_aload_n_ref d_Md_rings_208 rfl ?_
      refine x_getr d_Md_rings_209 fl_Md_133 ak_70 (q99 (by decide)) (shx sh_70_40) ?_
      refine x_iload_n d_Md_rings_212 rfl ?_
      refine x_iald d_Md_rings_213 ak_98 (q99 (by decide)) ?_
      refine x_nm (fun J222 hJ222 => ?_)
      have kJ222 : ∀ (a26 : Int32) (a27 : Int32) (S28 : AS), V G md_Md_rings (QM G md_Md_rings iI) (fun _ => True) (some none) 222 [some (.ref 70), some (.int x1), none, some (.int c3), some (.int x4), none] [.int a27, .int a26] 0 0 S28 (J222 a26 a27 S28) := by
        subst hJ222
        intro a26 a27 S28
        refine x_iadd d_Md_rings_222 ?_
        refine x_topi (fun v29 => ?_)
        refine x_istore_n (lc' := [some (.ref 70), some (.int x1), some (.int v29), some (.int c3), some (.int x4), none]) d_Md_rings_223 (by decide) rfl ?_
        refine x_aload_n_ref d_Md_rings_224 rfl ?_
        refine x_getr d_Md_rings_225 fl_Md_89 ak_70 (q99 (by decide)) (shx sh_70_26) ?_
        refine x_aload_n_ref d_Md_rings_228 rfl ?_
        refine x_getr d_Md_rings_229 fl_Md_127 ak_70 (q99 (by decide)) (shx sh_70_38) ?_
        refine x_iload_n d_Md_rings_232 rfl ?_
        refine x_iald d_Md_rings_233 ak_96 (q99 (by decide)) ?_
        refine x_iald d_Md_rings_234 ak_85 (q99 (by decide)) ?_
        refine x_topi (fun v30 => ?_)
        refine x_istore_n (lc' := [some (.ref 70), some (.int x1), some (.int v29), some (.int v30), some (.int x4), none]) d_Md_rings_235 (by decide) rfl ?_
        refine x_iload_n d_Md_rings_236 rfl ?_
        refine x_iload d_Md_rings_237 rfl ?_
        refine x_nm (fun J247 hJ247 => ?_)
        have kJ247 : ∀ (a31 : Int32) (S32 : AS), V G md_Md_rings (QM G md_Md_rings iI) (fun _ => True) (some none) 247 [some (.ref 70), some (.int x1), some (.int v29), some (.int v30), some (.int x4), none] [.int a31] 0 0 S32 (J247 a31 S32) := by
          subst hJ247
          intro a31 S32
          refine x_istore (lc' := [some (.ref 70), some (.int x1), some (.int v29), some (.int v30), some (.int x4), some (.int a31)]) d_Md_rings_247 (by decide) rfl ?_
          refine x_goto (tgt := 185) d_Md_rings_249 (by decide) ?_
          exact V.kw (ih v29 v30 a31 S32) ⟨rfl, rfl, rfl, rfl, rfl, rfl, trivial⟩
        clear hJ247
        refine x_icmp_eq (tgt := 246) d_Md_rings_239 (by decide) (fun _ => ?_) (fun _ => ?_)
        · refine x_iconst (v := 0) d_Md_rings_246 (by decide) ?_
          exact V.kw (kJ247 0 S28) ⟨rfl, rfl, rfl, rfl, rfl, trivial⟩
        · refine x_iconst (v := 1) d_Md_rings_242 (by decide) ?_
          refine x_goto (tgt := 247) d_Md_rings_243 (by decide) ?_
          exact V.kw (kJ247 1 S28) ⟨rfl, rfl, rfl, rfl, rfl, trivial⟩
      clear hJ222
      refine x_icmp_ne (tgt := 221) d_Md_rings_214 (by decide) (fun _ => ?_) (fun _ => ?_)
      · refine x_iconst (v := 1) d_Md_rings_221 (by decide) ?_
        exact V.kw (kJ222 c2 1 S25) ⟨rfl, rfl, rfl, rfl, trivial⟩
      · refine x_iconst (v := 0) d_Md_rings_217 (by decide) ?_
        refine x_goto (tgt := 222) d_Md_rings_218 (by decide) ?_
        exact V.kw (kJ222 c2 0 S25) ⟨rfl, rfl, rfl, rfl, trivial⟩
set_option maxHeartbeats 4000000 in
theorem v_Md_rings_L153 {G : GX} (J179 : Int32 → AS → Option (Int32 × AS)) (x1 : Int32) (x2 : Int32) (kJ179 : ∀ (a12 : Int32) (T : AS), V G md_Md_rings (QM G md_Md_rings iI) (fun _ => True) (some none) 179 [some (.ref 70), some (.int x1), some (.int x2), some (.int a12), none, none] [] 0 0 T (J179 a12 T)) : ∀ (n : Nat) (c3 : Int32) (c4 : Int32) (S : AS), V G md_Md_rings (QM G md_Md_rings iI) (fun _ => True) (some none) 153 [some (.ref 70), some (.int x1), some (.int x2), some (.int c3), some (.int c4), none] [] 0 0 S (f_Md_rings_L153 J179 x1 x2 n c3 c4 S) := by
  intro n
  induction n with
  | zero => intro c3 c4 S; exact V.none
  | succ n ih =>
    intro c3 c4 S
    rw [f_Md_rings_L153]
    refine x_iload d_Md_rings_153 rfl ?_
    refine x_aload_n_ref d_Md_rings_155 rfl ?_
    refine x_geti d_Md_rings_156 fl_Md_17 ak_70 (q99 (by decide)) ?_
    refine x_icmp_ge (tgt := 179) d_Md_rings_159 (by decide) (fun _ => ?_) (fun _ => ?_)
    · exact V.kw (kJ179 c3 S) ⟨rfl, rfl, rfl, rfl, trivial⟩
    · refine x_aload_n_ref d_Md_rings_162 rfl ?_
      refine x_getr d_Md_rings_163 fl_Md_89 ak_70 (q99 (by decide)) (shx sh_70_26) ?_
      refine x_aload_n_ref d_Md_rings_166 rfl ?_
      refine x_iload_n d_Md_rings_167 rfl ?_
      refine x_vI (b' := (some none)) (As := [.int c3]) d_Md_rings_168 mv_Md_309 rfl (fun _ => ak_70) rfl (q99 (by decide)) ⟨Nat.le_of_ble_eq_true rfl, Nat.le_of_ble_eq_true rfl⟩ (Nat.le_of_ble_eq_true rfl) ⟨Nat.le_of_ble_eq_true rfl, Nat.le_of_ble_eq_true rfl⟩ (fun _ h => h) (fun h => ⟨h, c_Md_points c3 _⟩) (fun r34 S33 => ?_)
      refine x_iald d_Md_rings_171 ak_85 (q99 (by decide)) ?_
      refine x_topi (fun v35 => ?_)
      refine x_istore_n (lc' := [some (.ref 70), some (.int x1), some (.int x2), some (.int v35), some (.int c4), none]) d_Md_rings_172 (by decide) rfl ?_
      refine x_iinc (w := c4 + 1) (lc' := [some (.ref 70), some (.int x1), some (.int x2), some (.int v35), some (.int (c4 + 1)), none]) d_Md_rings_173 (by decide) rfl rfl rfl ?_
      refine x_goto (tgt := 153) d_Md_rings_176 (by decide) ?_
      exact V.kw (ih v35 (c4 + 1) S33) ⟨rfl, rfl, rfl, rfl, rfl, trivial⟩
set_option maxHeartbeats 4000000 in
theorem v_Md_rings_L135 {G : GX} (J150 : Int32 → AS → Option (Int32 × AS)) (x1 : Int32) (x2 : Int32) (kJ150 : ∀ (a10 : Int32) (T : AS), V G md_Md_rings (QM G md_Md_rings iI) (fun _ => True) (some none) 150 [some (.ref 70), some (.int x1), some (.int x2), some (.int a10), none, none] [] 0 0 T (J150 a10 T)) : ∀ (n : Nat) (c3 : Int32) (S : AS), V G md_Md_rings (QM G md_Md_rings iI) (fun _ => True) (some none) 135 [some (.ref 70), some (.int x1), some (.int x2), some (.int c3), none, none] [] 0 0 S (f_Md_rings_L135 J150 x1 x2 n c3 S) := by
  intro n
  induction n with
  | zero => intro c3 S; exact V.none
  | succ n ih =>
    intro c3 S
    rw [f_Md_rings_L135]
    refine x_aload_n_ref d_Md_rings_135 rfl ?_
    refine x_getr d_Md_rings_136 fl_Md_130 ak_70 (q99 (by decide)) (shx sh_70_39) ?_
    refine x_iload_n d_Md_rings_139 rfl ?_
    refine x_zald d_Md_rings_140 ak_97 (q99 (by decide)) ?_
    refine x_if_ne (tgt := 150) d_Md_rings_141 (by decide) (fun _ => ?_) (fun _ => ?_)
    · exact V.kw (kJ150 c3 S) ⟨rfl, rfl, rfl, rfl, trivial⟩
    · refine x_iinc (w := c3 + 1) (lc' := [some (.ref 70), some (.int x1), some (.int x2), some (.int (c3 + 1)), none, none]) d_Md_rings_144 (by decide) rfl rfl rfl ?_
      refine x_goto (tgt := 135) d_Md_rings_147 (by decide) ?_
      exact V.kw (ih (c3 + 1) S) ⟨rfl, rfl, rfl, rfl, trivial⟩
set_option maxHeartbeats 4000000 in
theorem v_Md_rings_L129 {G : GX} (J301 : Int32 → AS → Option (Int32 × AS)) (kJ301 : ∀ (a8 : Int32) (T : AS), V G md_Md_rings (QM G md_Md_rings iI) (fun _ => True) (some none) 301 [none, none, some (.int a8), none, none, none] [] 0 0 T (J301 a8 T)) : ∀ (n : Nat) (c1 : Int32) (c2 : Int32) (S : AS), V G md_Md_rings (QM G md_Md_rings iI) (fun _ => True) (some none) 129 [some (.ref 70), some (.int c1), some (.int c2), none, none, none] [] 0 0 S (f_Md_rings_L129 J301 n c1 c2 S) := by
  intro n
  induction n with
  | zero => intro c1 c2 S; exact V.none
  | succ n ih =>
    intro c1 c2 S
    rw [f_Md_rings_L129]
    refine x_iload_n d_Md_rings_129 rfl ?_
    refine x_if_le (tgt := 301) d_Md_rings_130 (by decide) (fun _ => ?_) (fun _ => ?_)
    · exact V.kw (kJ301 c2 S) ⟨rfl, trivial⟩
    · refine x_iconst (v := 0) d_Md_rings_133 (by decide) ?_
      refine x_istore_n (lc' := [some (.ref 70), some (.int c1), some (.int c2), some (.int 0), none, none]) d_Md_rings_134 (by decide) rfl ?_
      refine x_nm (fun J150 hJ150 => ?_)
      have kJ150 : ∀ (a10 : Int32) (S11 : AS), V G md_Md_rings (QM G md_Md_rings iI) (fun _ => True) (some none) 150 [some (.ref 70), some (.int c1), some (.int c2), some (.int a10), none, none] [] 0 0 S11 (J150 a10 S11) := by
        subst hJ150
        intro a10 S11
        refine x_iconst (v := 0) d_Md_rings_150 (by decide) ?_
        refine x_istore (lc' := [some (.ref 70), some (.int c1), some (.int c2), some (.int a10), some (.int 0), none]) d_Md_rings_151 (by decide) rfl ?_
        refine x_nm (fun J179 hJ179 => ?_)
        have kJ179 : ∀ (a12 : Int32) (S13 : AS), V G md_Md_rings (QM G md_Md_rings iI) (fun _ => True) (some none) 179 [some (.ref 70), some (.int c1), some (.int c2), some (.int a12), none, none] [] 0 0 S13 (J179 a12 S13) := by
          subst hJ179
          intro a12 S13
          refine x_iload_n d_Md_rings_179 rfl ?_
          refine x_istore (lc' := [some (.ref 70), some (.int c1), some (.int c2), some (.int a12), some (.int a12), none]) d_Md_rings_180 (by decide) rfl ?_
          refine x_iconst (v := 1) d_Md_rings_182 (by decide) ?_
          refine x_istore (lc' := [some (.ref 70), some (.int c1), some (.int c2), some (.int a12), some (.int a12), some (.int 1)]) d_Md_rings_183 (by decide) rfl ?_
          refine x_nm (fun J252 hJ252 => ?_)
          have kJ252 : ∀ (a14 : Int32) (a15 : Int32) (S16 : AS), V G md_Md_rings (QM G md_Md_rings iI) (fun _ => True) (some none) 252 [some (.ref 70), some (.int c1), some (.int a14), some (.int a15), some (.int a12), none] [] 0 0 S16 (J252 a14 a15 S16) := by
            subst hJ252
            intro a14 a15 S16
            refine x_iconst (v := 1) d_Md_rings_252 (by decide) ?_
            refine x_istore (lc' := [some (.ref 70), some (.int c1), some (.int a14), some (.int a15), some (.int a12), some (.int 1)]) d_Md_rings_253 (by decide) rfl ?_
            refine x_nm (fun J298 hJ298 => ?_)
            have kJ298 : ∀ (a17 : Int32) (S18 : AS), V G md_Md_rings (QM G md_Md_rings iI) (fun _ => True) (some none) 298 [some (.ref 70), some (.int a17), some (.int a14), none, none, none] [] 0 0 S18 (J298 a17 S18) := by
              subst hJ298
              intro a17 S18
              refine x_goto (tgt := 129) d_Md_rings_298 (by decide) ?_
              exact V.kw (ih a17 a14 S18) ⟨rfl, rfl, rfl, trivial⟩
            clear hJ298
            exact V.kw (v_Md_rings_L255 J298 a14 a12 kJ298 FU c1 a15 1 S16) ⟨rfl, rfl, rfl, rfl, rfl, rfl, trivial⟩
          clear hJ252
          exact V.kw (v_Md_rings_L185 J252 c1 a12 kJ252 FU c2 a12 1 S13) ⟨rfl, rfl, rfl, rfl, rfl, rfl, trivial⟩
        clear hJ179
        exact V.kw (v_Md_rings_L153 J179 c1 c2 kJ179 FU a10 0 S11) ⟨rfl, rfl, rfl, rfl, rfl, trivial⟩
      clear hJ150
      exact V.kw (v_Md_rings_L135 J150 c1 c2 kJ150 FU 0 S) ⟨rfl, rfl, rfl, rfl, trivial⟩
set_option maxHeartbeats 4000000 in
theorem v_Md_rings_L81 {G : GX} (J121 : AS → Option (Int32 × AS)) (x1 : Int32) (x2 : Int32) (kJ121 : ∀ (T : AS), V G md_Md_rings (QM G md_Md_rings iI) (fun _ => True) (some none) 121 [some (.ref 70), some (.int x1), some (.int x2), none, none, none] [] 0 0 T (J121 T)) : ∀ (n : Nat) (c3 : Int32) (S : AS), V G md_Md_rings (QM G md_Md_rings iI) (fun _ => True) (some none) 81 [some (.ref 70), some (.int x1), some (.int x2), some (.int c3), none, none] [] 0 0 S (f_Md_rings_L81 J121 x1 x2 n c3 S) := by
  intro n
  induction n with
  | zero => intro c3 S; exact V.none
  | succ n ih =>
    intro c3 S
    rw [f_Md_rings_L81]
    refine x_iload_n d_Md_rings_81 rfl ?_
    refine x_aload_n_ref d_Md_rings_82 rfl ?_
    refine x_geti d_Md_rings_83 fl_Md_23 ak_70 (q99 (by decide)) ?_
    refine x_icmp_ge (tgt := 121) d_Md_rings_86 (by decide) (fun _ => ?_) (fun _ => ?_)
    · exact V.kw (kJ121 S) ⟨rfl, rfl, rfl, trivial⟩
    · refine x_aload_n_ref d_Md_rings_89 rfl ?_
      refine x_getr d_Md_rings_90 fl_Md_133 ak_70 (q99 (by decide)) (shx sh_70_40) ?_
      refine x_iload_n d_Md_rings_93 rfl ?_
      refine x_aload_n_ref d_Md_rings_94 rfl ?_
      refine x_getr d_Md_rings_95 fl_Md_89 ak_70 (q99 (by decide)) (shx sh_70_26) ?_
      refine x_iload_n d_Md_rings_98 rfl ?_
      refine x_iald d_Md_rings_99 ak_85 (q99 (by decide)) ?_
      refine x_iload_n d_Md_rings_100 rfl ?_
      refine x_nm (fun J114 hJ114 => ?_)
      have kJ114 : ∀ (a48 : Int32) (a49 : Int32) (S50 : AS), V G md_Md_rings (QM G md_Md_rings iI) (fun _ => True) (some none) 114 [some (.ref 70), some (.int x1), some (.int x2), some (.int c3), none, none] [.int a49, .int a48, .ref 98] 0 0 S50 (J114 a48 a49 S50) := by
        subst hJ114
        intro a48 a49 S50
        refine x_iast d_Md_rings_114 ak_98 (q99 (by decide)) ?_
        refine x_nmS (fun S51 _ => ?_)
        refine x_iinc (w := c3 + 1) (lc' := [some (.ref 70), some (.int x1), some (.int x2), some (.int (c3 + 1)), none, none]) d_Md_rings_115 (by decide) rfl rfl rfl ?_
        refine x_goto (tgt := 81) d_Md_rings_118 (by decide) ?_
        exact V.kw (ih (c3 + 1) S51) ⟨rfl, rfl, rfl, rfl, trivial⟩
      clear hJ114
      refine x_icmp_ne (tgt := 108) d_Md_rings_101 (by decide) (fun _ => ?_) (fun _ => ?_)
      · refine x_aload_n_ref d_Md_rings_108 rfl ?_
        refine x_getr d_Md_rings_109 fl_Md_133 ak_70 (q99 (by decide)) (shx sh_70_40) ?_
        refine x_iload_n d_Md_rings_112 rfl ?_
        refine x_iald d_Md_rings_113 ak_98 (q99 (by decide)) ?_
        exact V.kw (kJ114 x2 (gi S 98 (ix x2)) S) ⟨rfl, rfl, rfl, rfl, trivial⟩
      · refine x_iload_n d_Md_rings_104 rfl ?_
        refine x_goto (tgt := 114) d_Md_rings_105 (by decide) ?_
        exact V.kw (kJ114 x2 c3 S) ⟨rfl, rfl, rfl, rfl, trivial⟩
set_option maxHeartbeats 4000000 in
theorem v_Md_rings_L27 {G : GX} (J127 : Int32 → AS → Option (Int32 × AS)) (kJ127 : ∀ (a6 : Int32) (T : AS), V G md_Md_rings (QM G md_Md_rings iI) (fun _ => True) (some none) 127 [some (.ref 70), some (.int a6), none, none, none, none] [] 0 0 T (J127 a6 T)) : ∀ (n : Nat) (c1 : Int32) (c2 : Int32) (S : AS), V G md_Md_rings (QM G md_Md_rings iI) (fun _ => True) (some none) 27 [some (.ref 70), some (.int c1), some (.int c2), none, none, none] [] 0 0 S (f_Md_rings_L27 J127 n c1 c2 S) := by
  intro n
  induction n with
  | zero => intro c1 c2 S; exact V.none
  | succ n ih =>
    intro c1 c2 S
    rw [f_Md_rings_L27]
    refine x_iload_n d_Md_rings_27 rfl ?_
    refine x_aload_n_ref d_Md_rings_28 rfl ?_
    refine x_geti d_Md_rings_29 fl_Md_17 ak_70 (q99 (by decide)) ?_
    refine x_icmp_ge (tgt := 127) d_Md_rings_32 (by decide) (fun _ => ?_) (fun _ => ?_)
    · exact V.kw (kJ127 c1 S) ⟨rfl, rfl, trivial⟩
    · refine x_aload_n_ref d_Md_rings_35 rfl ?_
      refine x_getr d_Md_rings_36 fl_Md_130 ak_70 (q99 (by decide)) (shx sh_70_39) ?_
      refine x_iload_n d_Md_rings_39 rfl ?_
      refine x_aload_n_ref d_Md_rings_40 rfl ?_
      refine x_iload_n d_Md_rings_41 rfl ?_
      refine x_vI (b' := (some none)) (As := [.int c2]) d_Md_rings_42 mv_Md_237 rfl (fun _ => ak_70) rfl (q99 (by decide)) ⟨Nat.le_of_ble_eq_true rfl, Nat.le_of_ble_eq_true rfl⟩ (Nat.le_of_ble_eq_true rfl) ⟨Nat.le_of_ble_eq_true rfl, Nat.le_of_ble_eq_true rfl⟩ (fun _ h => h) (fun h => ⟨h, c_Md_held c2 _⟩) (fun r37 S36 => ?_)
      refine x_iconst (v := 1) d_Md_rings_45 (by decide) ?_
      refine x_nm (fun J54 hJ54 => ?_)
      have kJ54 : ∀ (a38 : Int32) (a39 : Int32) (S40 : AS), V G md_Md_rings (QM G md_Md_rings iI) (fun _ => True) (some none) 54 [some (.ref 70), some (.int c1), some (.int c2), none, none, none] [.int a39, .int a38, .ref 97] 0 0 S40 (J54 a38 a39 S40) := by
        subst hJ54
        intro a38 a39 S40
        refine x_zast d_Md_rings_54 ak_97 (q99 (by decide)) ?_
        refine x_nmS (fun S41 _ => ?_)
        refine x_aload_n_ref d_Md_rings_55 rfl ?_
        refine x_getr d_Md_rings_56 fl_Md_127 ak_70 (q99 (by decide)) (shx sh_70_38) ?_
        refine x_iload_n d_Md_rings_59 rfl ?_
        refine x_iconst (v := -1) d_Md_rings_60 (by decide) ?_
        refine x_iast d_Md_rings_61 ak_96 (q99 (by decide)) ?_
        refine x_nmS (fun S42 _ => ?_)
        refine x_iload_n d_Md_rings_62 rfl ?_
        refine x_aload_n_ref d_Md_rings_63 rfl ?_
        refine x_getr d_Md_rings_64 fl_Md_130 ak_70 (q99 (by decide)) (shx sh_70_39) ?_
        refine x_iload_n d_Md_rings_67 rfl ?_
        refine x_zald d_Md_rings_68 ak_97 (q99 (by decide)) ?_
        refine x_nm (fun J77 hJ77 => ?_)
        have kJ77 : ∀ (a43 : Int32) (a44 : Int32) (S45 : AS), V G md_Md_rings (QM G md_Md_rings iI) (fun _ => True) (some none) 77 [some (.ref 70), none, some (.int c2), none, none, none] [.int a44, .int a43] 0 0 S45 (J77 a43 a44 S45) := by
          subst hJ77
          intro a43 a44 S45
          refine x_iadd d_Md_rings_77 ?_
          refine x_topi (fun v46 => ?_)
          refine x_istore_n (lc' := [some (.ref 70), some (.int v46), some (.int c2), none, none, none]) d_Md_rings_78 (by decide) rfl ?_
          refine x_iconst (v := 0) d_Md_rings_79 (by decide) ?_
          refine x_istore_n (lc' := [some (.ref 70), some (.int v46), some (.int c2), some (.int 0), none, none]) d_Md_rings_80 (by decide) rfl ?_
          refine x_nm (fun J121 hJ121 => ?_)
          have kJ121 : ∀ (S47 : AS), V G md_Md_rings (QM G md_Md_rings iI) (fun _ => True) (some none) 121 [some (.ref 70), some (.int v46), some (.int c2), none, none, none] [] 0 0 S47 (J121 S47) := by
            subst hJ121
            intro S47
            refine x_iinc (w := c2 + 1) (lc' := [some (.ref 70), some (.int v46), some (.int (c2 + 1)), none, none, none]) d_Md_rings_121 (by decide) rfl rfl rfl ?_
            refine x_goto (tgt := 27) d_Md_rings_124 (by decide) ?_
            exact V.kw (ih v46 (c2 + 1) S47) ⟨rfl, rfl, rfl, trivial⟩
          clear hJ121
          exact V.kw (v_Md_rings_L81 J121 v46 c2 kJ121 FU 0 S45) ⟨rfl, rfl, rfl, rfl, trivial⟩
        clear hJ77
        refine x_if_eq (tgt := 76) d_Md_rings_69 (by decide) (fun _ => ?_) (fun _ => ?_)
        · refine x_iconst (v := 0) d_Md_rings_76 (by decide) ?_
          exact V.kw (kJ77 c1 0 S42) ⟨rfl, rfl, trivial⟩
        · refine x_iconst (v := 1) d_Md_rings_72 (by decide) ?_
          refine x_goto (tgt := 77) d_Md_rings_73 (by decide) ?_
          exact V.kw (kJ77 c1 1 S42) ⟨rfl, rfl, trivial⟩
      clear hJ54
      refine x_icmp_ne (tgt := 53) d_Md_rings_46 (by decide) (fun _ => ?_) (fun _ => ?_)
      · refine x_iconst (v := 0) d_Md_rings_53 (by decide) ?_
        exact V.kw (kJ54 c2 0 S36) ⟨rfl, rfl, rfl, trivial⟩
      · refine x_iconst (v := 1) d_Md_rings_49 (by decide) ?_
        refine x_goto (tgt := 54) d_Md_rings_50 (by decide) ?_
        exact V.kw (kJ54 c2 1 S36) ⟨rfl, rfl, rfl, trivial⟩
set_option maxHeartbeats 4000000 in
theorem v_Md_rings {G : GX} (S : AS) : V G md_Md_rings (QM G md_Md_rings iI) (fun _ => True) (some none) 0 [some (.ref 70), none, none, none, none, none] [] 0 0 S (f_Md_rings S) := by
  unfold f_Md_rings
  refine x_aload_n_ref d_Md_rings_0 rfl ?_
  refine x_aload_n_ref d_Md_rings_1 rfl ?_
  refine x_vI (b' := (some none)) (As := []) d_Md_rings_2 mv_Md_296 rfl (fun _ => ak_70) rfl (q99 (by decide)) ⟨Nat.le_of_ble_eq_true rfl, Nat.le_of_ble_eq_true rfl⟩ (Nat.le_of_ble_eq_true rfl) ⟨Nat.le_of_ble_eq_true rfl, Nat.le_of_ble_eq_true rfl⟩ (fun _ h => h) (fun h => ⟨h, c_Md_known _⟩) (fun r2 S1 => ?_)
  refine x_ldc (v := 9999999) (List.mem_append_right _ (List.mem_append_right _ (List.mem_append_right _ (List.mem_append_right _ (List.mem_append_right _ (List.mem_append_left _ (List.mem_of_getElem? (i := 188) (by decide +kernel)))))))) d_Md_rings_5 ?_
  refine x_vV (b' := (some none)) (As := [.int r2, .int 9999999]) d_Md_rings_7 mv_Md_299 rfl (fun _ => ak_70) rfl (q99 (by decide)) ⟨Nat.le_of_ble_eq_true rfl, Nat.le_of_ble_eq_true rfl⟩ (Nat.le_of_ble_eq_true rfl) ⟨Nat.le_of_ble_eq_true rfl, Nat.le_of_ble_eq_true rfl⟩ (fun _ h => h) (fun h => ⟨h, c_Md_goes r2 9999999 _⟩) (fun S3 => ?_)
  refine x_aload_n_ref d_Md_rings_10 rfl ?_
  refine x_iconst (v := 1) d_Md_rings_11 (by decide) ?_
  refine x_putz d_Md_rings_12 fl_Md_136 (by decide) rfl ak_70 (q99 (by decide)) (fun h => nomatch h) (fun h => nomatch h) ?_
  refine x_nmS (fun S4 _ => ?_)
  refine x_aload_n_ref d_Md_rings_15 rfl ?_
  refine x_aload_n_ref d_Md_rings_16 rfl ?_
  refine x_geti d_Md_rings_17 fl_Md_17 ak_70 (q99 (by decide)) ?_
  refine x_puti d_Md_rings_20 fl_Md_140 rfl ak_70 (q99 (by decide)) (fun h => nomatch h) (fun h => nomatch h) ?_
  refine x_nmS (fun S5 _ => ?_)
  refine x_iconst (v := 0) d_Md_rings_23 (by decide) ?_
  refine x_istore_n (lc' := [some (.ref 70), some (.int 0), none, none, none, none]) d_Md_rings_24 (by decide) rfl ?_
  refine x_iconst (v := 0) d_Md_rings_25 (by decide) ?_
  refine x_istore_n (lc' := [some (.ref 70), some (.int 0), some (.int 0), none, none, none]) d_Md_rings_26 (by decide) rfl ?_
  refine x_nm (fun J127 hJ127 => ?_)
  have kJ127 : ∀ (a6 : Int32) (S7 : AS), V G md_Md_rings (QM G md_Md_rings iI) (fun _ => True) (some none) 127 [some (.ref 70), some (.int a6), none, none, none, none] [] 0 0 S7 (J127 a6 S7) := by
    subst hJ127
    intro a6 S7
    refine x_iconst (v := 0) d_Md_rings_127 (by decide) ?_
    refine x_istore_n (lc' := [some (.ref 70), some (.int a6), some (.int 0), none, none, none]) d_Md_rings_128 (by decide) rfl ?_
    refine x_nm (fun J301 hJ301 => ?_)
    have kJ301 : ∀ (a8 : Int32) (S9 : AS), V G md_Md_rings (QM G md_Md_rings iI) (fun _ => True) (some none) 301 [none, none, some (.int a8), none, none, none] [] 0 0 S9 (J301 a8 S9) := by
      subst hJ301
      intro a8 S9
      refine x_iload_n d_Md_rings_301 rfl ?_
      exact x_ret d_Md_rings_302 rfl rfl (Nat.le_of_ble_eq_true rfl) (Nat.le_of_ble_eq_true rfl)
    clear hJ301
    exact V.kw (v_Md_rings_L129 J301 kJ301 FU a6 0 S7) ⟨rfl, rfl, rfl, trivial⟩
  clear hJ127
  exact V.kw (v_Md_rings_L27 J127 kJ127 FU 0 0 S5) ⟨rfl, rfl, rfl, trivial⟩
theorem c_Md_rings {G : GX} (S : AS) : CN G y_Md_rings b_Md_rings 6 (some (FieldType.int)) ({ frames := 8, cells := 0, slots := 0, locals := 200 } : Room) (some none) iI [.ref 70] S (f_Md_rings S) := cn_of_v (M := md_Md_rings) (ini := false) rfl (by decide +kernel) (fun h => nomatch h) rfl (Nat.le_of_ble_eq_true rfl) (v_Md_rings S)
noncomputable def f_Md_got (p1 : Int32) (S : AS) : Option (Int32 × AS) := nm (fun (S1 : AS) => some ((-1), S1)) fun J19 => if (gi S 70 41) = 0 then (J19 S) else (if p1 < 0 then (J19 S) else (if p1 < (gi S 70 42) then (chk (vp_in p1 24) (some (gi S 96 (ix p1), S))) else (J19 S)))
set_option maxHeartbeats 4000000 in
theorem v_Md_got {G : GX} (p1 : Int32) (S : AS) : V G md_Md_got (QM G md_Md_got iI) (fun _ => True) (some none) 0 [some (.ref 70), some (.int p1)] [] 0 0 S (f_Md_got p1 S) := by
  unfold f_Md_got
  refine x_aload_n_ref d_Md_got_0 rfl ?_
  refine x_geti d_Md_got_1 fl_Md_136 ak_70 (q99 (by decide)) ?_
  refine x_nm (fun J19 hJ19 => ?_)
  have kJ19 : ∀ (S1 : AS), V G md_Md_got (QM G md_Md_got iI) (fun _ => True) (some none) 19 [none, none] [] 0 0 S1 (J19 S1) := by
    subst hJ19
    intro S1
    refine x_iconst (v := -1) d_Md_got_19 (by decide) ?_
    refine x_goto (tgt := 29) d_Md_got_20 (by decide) ?_
    exact x_ret d_Md_got_29 rfl rfl (Nat.le_of_ble_eq_true rfl) (Nat.le_of_ble_eq_true rfl)
  clear hJ19
  refine x_if_eq (tgt := 19) d_Md_got_4 (by decide) (fun _ => ?_) (fun _ => ?_)
  · exact V.kw (kJ19 S) trivial
  · refine x_iload_n d_Md_got_7 rfl ?_
    refine x_if_lt (tgt := 19) d_Md_got_8 (by decide) (fun _ => ?_) (fun _ => ?_)
    · exact V.kw (kJ19 S) trivial
    · refine x_iload_n d_Md_got_11 rfl ?_
      refine x_aload_n_ref d_Md_got_12 rfl ?_
      refine x_geti d_Md_got_13 fl_Md_140 ak_70 (q99 (by decide)) ?_
      refine x_icmp_lt (tgt := 23) d_Md_got_16 (by decide) (fun _ => ?_) (fun _ => ?_)
      · refine x_aload_n_ref d_Md_got_23 rfl ?_
        refine x_getr d_Md_got_24 fl_Md_127 ak_70 (q99 (by decide)) (shx sh_70_38) ?_
        refine x_iload_n d_Md_got_27 rfl ?_
        refine x_iald d_Md_got_28 ak_96 (q99 (by decide)) ?_
        exact x_ret d_Md_got_29 rfl rfl (Nat.le_of_ble_eq_true rfl) (Nat.le_of_ble_eq_true rfl)
      · exact V.kw (kJ19 S) trivial
theorem c_Md_got {G : GX} (p1 : Int32) (S : AS) : CN G y_Md_got b_Md_got 2 (some (FieldType.int)) ({ frames := 0, cells := 0, slots := 0, locals := 0 } : Room) (some none) iI [.ref 70, .int p1] S (f_Md_got p1 S) := cn_of_v (M := md_Md_got) (ini := false) rfl (by decide +kernel) (fun h => nomatch h) rfl (Nat.le_of_ble_eq_true rfl) (v_Md_got p1 S)
noncomputable def f_Tape_hasRoom (S : AS) : Option (Int32 × AS) := if 400 < ((gi S 1 1) + 20) then (some (0, S)) else (some (1, S))
set_option maxHeartbeats 4000000 in
theorem v_Tape_hasRoom {G : GX} (S : AS) : V G md_Tape_hasRoom (QM G md_Tape_hasRoom iI) (fun _ => True) (some none) 0 [some (.ref 1)] [] 0 0 S (f_Tape_hasRoom S) := by
  unfold f_Tape_hasRoom
  refine x_aload_n_ref d_Tape_hasRoom_0 rfl ?_
  refine x_geti d_Tape_hasRoom_1 fl_Tape_15 ak_1 (q99 (by decide)) ?_
  refine x_bipush (v := 20) d_Tape_hasRoom_4 (by decide) ?_
  refine x_iadd d_Tape_hasRoom_6 ?_
  refine x_sipush (v := 400) d_Tape_hasRoom_7 (by decide) ?_
  refine x_icmp_gt (tgt := 17) d_Tape_hasRoom_10 (by decide) (fun _ => ?_) (fun _ => ?_)
  · refine x_iconst (v := 0) d_Tape_hasRoom_17 (by decide) ?_
    exact x_ret d_Tape_hasRoom_18 rfl rfl (Nat.le_of_ble_eq_true rfl) (Nat.le_of_ble_eq_true rfl)
  · refine x_iconst (v := 1) d_Tape_hasRoom_13 (by decide) ?_
    refine x_goto (tgt := 18) d_Tape_hasRoom_14 (by decide) ?_
    exact x_ret d_Tape_hasRoom_18 rfl rfl (Nat.le_of_ble_eq_true rfl) (Nat.le_of_ble_eq_true rfl)
theorem c_Tape_hasRoom {G : GX} (S : AS) : CN G y_Tape_hasRoom b_Tape_hasRoom 1 (some (FieldType.boolean)) ({ frames := 0, cells := 0, slots := 0, locals := 0 } : Room) (some none) iI [.ref 1] S (f_Tape_hasRoom S) := cn_of_v (M := md_Tape_hasRoom) (ini := false) rfl (by decide +kernel) (fun h => nomatch h) rfl (Nat.le_of_ble_eq_true rfl) (v_Tape_hasRoom S)
noncomputable def f_Tape_append_L3 (J51 : AS → Option AS) (x1 : Int32) : Nat → Int32 → AS → Option AS
  | 0, _, _ => none
  | n + 1, c2, S => if c2 < 0 then (J51 S) else (if 400 ≤ (gi S 1 1) then (J51 S) else (chk (vp_in (gi S 1 1) 400) (nm (si S 2 (ix (gi S 1 1)) (((x1.toUInt32 >>> ((c2 : Int32).toUInt32 &&& Int32.toUInt32 31)).toInt32) &&& 255)) fun S2 => nm (si S2 1 1 ((gi S2 1 1) + 1)) fun S3 => f_Tape_append_L3 J51 x1 n (c2 + (-8)) S3)))
noncomputable def f_Tape_append (p1 : Int32) (S : AS) : Option AS := nm (fun (S1 : AS) => some S1) fun J51 => f_Tape_append_L3 J51 p1 FU 24 S
set_option maxHeartbeats 4000000 in
theorem v_Tape_append_L3 {G : GX} (J51 : AS → Option AS) (x1 : Int32) (kJ51 : ∀ (T : AS), V G md_Tape_append (QM G md_Tape_append iV) (fun _ => True) (some none) 51 [none, none, none] [] 0 0 T (J51 T)) : ∀ (n : Nat) (c2 : Int32) (S : AS), V G md_Tape_append (QM G md_Tape_append iV) (fun _ => True) (some none) 3 [some (.ref 1), some (.int x1), some (.int c2)] [] 0 0 S (f_Tape_append_L3 J51 x1 n c2 S) := by
  intro n
  induction n with
  | zero => intro c2 S; exact V.none
  | succ n ih =>
    intro c2 S
    rw [f_Tape_append_L3]
    refine x_iload_n d_Tape_append_3 rfl ?_
    refine x_if_lt (tgt := 51) d_Tape_append_4 (by decide) (fun _ => ?_) (fun _ => ?_)
    · exact V.kw (kJ51 S) trivial
    · refine x_aload_n_ref d_Tape_append_7 rfl ?_
      refine x_geti d_Tape_append_8 fl_Tape_15 ak_1 (q99 (by decide)) ?_
      refine x_aload_n_ref d_Tape_append_11 rfl ?_
      refine x_getr d_Tape_append_12 fl_Tape_9 ak_1 (q99 (by decide)) (shx sh_1_0) ?_
      refine x_alen (v := 400) d_Tape_append_15 ak_2 (by decide) (by decide) (q99 (by decide)) ?_
      refine x_icmp_ge (tgt := 51) d_Tape_append_16 (by decide) (fun _ => ?_) (fun _ => ?_)
      · exact V.kw (kJ51 S) trivial
      · refine x_aload_n_ref d_Tape_append_19 rfl ?_
        refine x_getr d_Tape_append_20 fl_Tape_9 ak_1 (q99 (by decide)) (shx sh_1_0) ?_
        refine x_aload_n_ref d_Tape_append_23 rfl ?_
        refine x_geti d_Tape_append_24 fl_Tape_15 ak_1 (q99 (by decide)) ?_
        refine x_iload_n d_Tape_append_27 rfl ?_
        refine x_iload_n d_Tape_append_28 rfl ?_
        refine x_iushr d_Tape_append_29 ?_
        refine x_sipush (v := 255) d_Tape_append_30 (by decide) ?_
        refine x_iand d_Tape_append_33 ?_
        refine x_iast d_Tape_append_34 ak_2 (q99 (by decide)) ?_
        refine x_nmS (fun S2 _ => ?_)
        refine x_aload_n_ref d_Tape_append_35 rfl ?_
        refine x_dup d_Tape_append_36 rfl ?_
        refine x_geti d_Tape_append_37 fl_Tape_15 ak_1 (q99 (by decide)) ?_
        refine x_iconst (v := 1) d_Tape_append_40 (by decide) ?_
        refine x_iadd d_Tape_append_41 ?_
        refine x_puti d_Tape_append_42 fl_Tape_15 rfl ak_1 (q99 (by decide)) (fun h => nomatch h) (fun h => nomatch h) ?_
        refine x_nmS (fun S3 _ => ?_)
        refine x_iinc (w := c2 + (-8)) (lc' := [some (.ref 1), some (.int x1), some (.int (c2 + (-8)))]) d_Tape_append_45 (by decide) rfl rfl rfl ?_
        refine x_goto (tgt := 3) d_Tape_append_48 (by decide) ?_
        exact V.kw (ih (c2 + (-8)) S3) ⟨rfl, rfl, rfl, trivial⟩
set_option maxHeartbeats 4000000 in
theorem v_Tape_append {G : GX} (p1 : Int32) (S : AS) : V G md_Tape_append (QM G md_Tape_append iV) (fun _ => True) (some none) 0 [some (.ref 1), some (.int p1), none] [] 0 0 S (f_Tape_append p1 S) := by
  unfold f_Tape_append
  refine x_bipush (v := 24) d_Tape_append_0 (by decide) ?_
  refine x_istore_n (lc' := [some (.ref 1), some (.int p1), some (.int 24)]) d_Tape_append_2 (by decide) rfl ?_
  refine x_nm (fun J51 hJ51 => ?_)
  have kJ51 : ∀ (S1 : AS), V G md_Tape_append (QM G md_Tape_append iV) (fun _ => True) (some none) 51 [none, none, none] [] 0 0 S1 (J51 S1) := by
    subst hJ51
    intro S1
    exact x_vret d_Tape_append_51 rfl (Nat.le_of_ble_eq_true rfl) (Nat.le_of_ble_eq_true rfl)
  clear hJ51
  exact V.kw (v_Tape_append_L3 J51 p1 kJ51 FU 24 S) ⟨rfl, rfl, rfl, trivial⟩
theorem c_Tape_append {G : GX} (p1 : Int32) (S : AS) : CN G y_Tape_append b_Tape_append 3 none ({ frames := 0, cells := 0, slots := 0, locals := 0 } : Room) (some none) iV [.ref 1, .int p1] S (f_Tape_append p1 S) := cn_of_v (M := md_Tape_append) (ini := false) rfl (by decide +kernel) (fun h => nomatch h) rfl (Nat.le_of_ble_eq_true rfl) (v_Tape_append p1 S)
noncomputable def f_Chan_feed (p1 : Int32) (p2 : Int32) (p3 : Int32) (p4 : Int32) (p5 : Int32) (S : AS) : Option (Int32 × AS) := bI (f_Tape_hasRoom S) fun r2 S1 => if r2 = 0 then (some ((-1), S1)) else (bV (f_Tape_append p1 S1) fun S3 => bV (f_Tape_append p2 S3) fun S4 => bV (f_Tape_append p3 S4) fun S5 => bV (f_Tape_append p4 S5) fun S6 => bV (f_Tape_append p5 S6) fun S7 => some (gi S7 1 1, S7))
set_option maxHeartbeats 4000000 in
theorem v_Chan_feed {G : GX} (p1 : Int32) (p2 : Int32) (p3 : Int32) (p4 : Int32) (p5 : Int32) (S : AS) : V G md_Chan_feed (QM G md_Chan_feed iI) (fun _ => True) (some none) 0 [some (.ref 0), some (.int p1), some (.int p2), some (.int p3), some (.int p4), some (.int p5)] [] 0 0 S (f_Chan_feed p1 p2 p3 p4 p5 S) := by
  unfold f_Chan_feed
  refine x_aload_n_ref d_Chan_feed_0 rfl ?_
  refine x_getr d_Chan_feed_1 fl_Chan_10 ak_0 (q99 (by decide)) (shx sh_0_0) ?_
  refine x_vI (b' := (some none)) (As := []) d_Chan_feed_4 mv_Chan_86 rfl (fun _ => ak_1) rfl (q99 (by decide)) ⟨Nat.le_of_ble_eq_true rfl, Nat.le_of_ble_eq_true rfl⟩ (Nat.le_of_ble_eq_true rfl) ⟨Nat.le_of_ble_eq_true rfl, Nat.le_of_ble_eq_true rfl⟩ (fun _ h => h) (fun h => ⟨h, c_Tape_hasRoom _⟩) (fun r2 S1 => ?_)
  refine x_if_ne (tgt := 12) d_Chan_feed_7 (by decide) (fun _ => ?_) (fun _ => ?_)
  · refine x_aload_n_ref d_Chan_feed_12 rfl ?_
    refine x_getr d_Chan_feed_13 fl_Chan_10 ak_0 (q99 (by decide)) (shx sh_0_0) ?_
    refine x_iload_n d_Chan_feed_16 rfl ?_
    refine x_vV (b' := (some none)) (As := [.int p1]) d_Chan_feed_17 mv_Chan_90 rfl (fun _ => ak_1) rfl (q99 (by decide)) ⟨Nat.le_of_ble_eq_true rfl, Nat.le_of_ble_eq_true rfl⟩ (Nat.le_of_ble_eq_true rfl) ⟨Nat.le_of_ble_eq_true rfl, Nat.le_of_ble_eq_true rfl⟩ (fun _ h => h) (fun h => ⟨h, c_Tape_append p1 _⟩) (fun S3 => ?_)
    refine x_aload_n_ref d_Chan_feed_20 rfl ?_
    refine x_getr d_Chan_feed_21 fl_Chan_10 ak_0 (q99 (by decide)) (shx sh_0_0) ?_
    refine x_iload_n d_Chan_feed_24 rfl ?_
    refine x_vV (b' := (some none)) (As := [.int p2]) d_Chan_feed_25 mv_Chan_90 rfl (fun _ => ak_1) rfl (q99 (by decide)) ⟨Nat.le_of_ble_eq_true rfl, Nat.le_of_ble_eq_true rfl⟩ (Nat.le_of_ble_eq_true rfl) ⟨Nat.le_of_ble_eq_true rfl, Nat.le_of_ble_eq_true rfl⟩ (fun _ h => h) (fun h => ⟨h, c_Tape_append p2 _⟩) (fun S4 => ?_)
    refine x_aload_n_ref d_Chan_feed_28 rfl ?_
    refine x_getr d_Chan_feed_29 fl_Chan_10 ak_0 (q99 (by decide)) (shx sh_0_0) ?_
    refine x_iload_n d_Chan_feed_32 rfl ?_
    refine x_vV (b' := (some none)) (As := [.int p3]) d_Chan_feed_33 mv_Chan_90 rfl (fun _ => ak_1) rfl (q99 (by decide)) ⟨Nat.le_of_ble_eq_true rfl, Nat.le_of_ble_eq_true rfl⟩ (Nat.le_of_ble_eq_true rfl) ⟨Nat.le_of_ble_eq_true rfl, Nat.le_of_ble_eq_true rfl⟩ (fun _ h => h) (fun h => ⟨h, c_Tape_append p3 _⟩) (fun S5 => ?_)
    refine x_aload_n_ref d_Chan_feed_36 rfl ?_
    refine x_getr d_Chan_feed_37 fl_Chan_10 ak_0 (q99 (by decide)) (shx sh_0_0) ?_
    refine x_iload d_Chan_feed_40 rfl ?_
    refine x_vV (b' := (some none)) (As := [.int p4]) d_Chan_feed_42 mv_Chan_90 rfl (fun _ => ak_1) rfl (q99 (by decide)) ⟨Nat.le_of_ble_eq_true rfl, Nat.le_of_ble_eq_true rfl⟩ (Nat.le_of_ble_eq_true rfl) ⟨Nat.le_of_ble_eq_true rfl, Nat.le_of_ble_eq_true rfl⟩ (fun _ h => h) (fun h => ⟨h, c_Tape_append p4 _⟩) (fun S6 => ?_)
    refine x_aload_n_ref d_Chan_feed_45 rfl ?_
    refine x_getr d_Chan_feed_46 fl_Chan_10 ak_0 (q99 (by decide)) (shx sh_0_0) ?_
    refine x_iload d_Chan_feed_49 rfl ?_
    refine x_vV (b' := (some none)) (As := [.int p5]) d_Chan_feed_51 mv_Chan_90 rfl (fun _ => ak_1) rfl (q99 (by decide)) ⟨Nat.le_of_ble_eq_true rfl, Nat.le_of_ble_eq_true rfl⟩ (Nat.le_of_ble_eq_true rfl) ⟨Nat.le_of_ble_eq_true rfl, Nat.le_of_ble_eq_true rfl⟩ (fun _ h => h) (fun h => ⟨h, c_Tape_append p5 _⟩) (fun S7 => ?_)
    refine x_aload_n_ref d_Chan_feed_54 rfl ?_
    refine x_getr d_Chan_feed_55 fl_Chan_10 ak_0 (q99 (by decide)) (shx sh_0_0) ?_
    refine x_geti d_Chan_feed_58 fl_Chan_94 ak_1 (q99 (by decide)) ?_
    exact x_ret d_Chan_feed_61 rfl rfl (Nat.le_of_ble_eq_true rfl) (Nat.le_of_ble_eq_true rfl)
  · refine x_iconst (v := -1) d_Chan_feed_10 (by decide) ?_
    exact x_ret d_Chan_feed_11 rfl rfl (Nat.le_of_ble_eq_true rfl) (Nat.le_of_ble_eq_true rfl)
theorem c_Chan_feed {G : GX} (p1 : Int32) (p2 : Int32) (p3 : Int32) (p4 : Int32) (p5 : Int32) (S : AS) : CN G y_Chan_feed b_Chan_feed 6 (some (FieldType.int)) ({ frames := 1, cells := 0, slots := 0, locals := 22 } : Room) (some none) iI [.ref 0, .int p1, .int p2, .int p3, .int p4, .int p5] S (f_Chan_feed p1 p2 p3 p4 p5 S) := cn_of_v (M := md_Chan_feed) (ini := false) rfl (by decide +kernel) (fun h => nomatch h) rfl (Nat.le_of_ble_eq_true rfl) (v_Chan_feed p1 p2 p3 p4 p5 S)
noncomputable def f_Tape_cutTo (p1 : Int32) (S : AS) : Option (Int32 × AS) := if p1 < 0 then (some (0, S)) else (if p1 ≤ (gi S 1 1) then (nm (si S 1 1 p1) fun S1 => some (1, S1)) else (some (0, S)))
set_option maxHeartbeats 4000000 in
theorem v_Tape_cutTo {G : GX} (p1 : Int32) (S : AS) : V G md_Tape_cutTo (QM G md_Tape_cutTo iI) (fun _ => True) (some none) 0 [some (.ref 1), some (.int p1)] [] 0 0 S (f_Tape_cutTo p1 S) := by
  unfold f_Tape_cutTo
  refine x_iload_n d_Tape_cutTo_0 rfl ?_
  refine x_if_lt (tgt := 12) d_Tape_cutTo_1 (by decide) (fun _ => ?_) (fun _ => ?_)
  · refine x_iconst (v := 0) d_Tape_cutTo_12 (by decide) ?_
    exact x_ret d_Tape_cutTo_13 rfl rfl (Nat.le_of_ble_eq_true rfl) (Nat.le_of_ble_eq_true rfl)
  · refine x_iload_n d_Tape_cutTo_4 rfl ?_
    refine x_aload_n_ref d_Tape_cutTo_5 rfl ?_
    refine x_geti d_Tape_cutTo_6 fl_Tape_15 ak_1 (q99 (by decide)) ?_
    refine x_icmp_le (tgt := 14) d_Tape_cutTo_9 (by decide) (fun _ => ?_) (fun _ => ?_)
    · refine x_aload_n_ref d_Tape_cutTo_14 rfl ?_
      refine x_iload_n d_Tape_cutTo_15 rfl ?_
      refine x_puti d_Tape_cutTo_16 fl_Tape_15 rfl ak_1 (q99 (by decide)) (fun h => nomatch h) (fun h => nomatch h) ?_
      refine x_nmS (fun S1 _ => ?_)
      refine x_iconst (v := 1) d_Tape_cutTo_19 (by decide) ?_
      exact x_ret d_Tape_cutTo_20 rfl rfl (Nat.le_of_ble_eq_true rfl) (Nat.le_of_ble_eq_true rfl)
    · refine x_iconst (v := 0) d_Tape_cutTo_12 (by decide) ?_
      exact x_ret d_Tape_cutTo_13 rfl rfl (Nat.le_of_ble_eq_true rfl) (Nat.le_of_ble_eq_true rfl)
theorem c_Tape_cutTo {G : GX} (p1 : Int32) (S : AS) : CN G y_Tape_cutTo b_Tape_cutTo 2 (some (FieldType.boolean)) ({ frames := 0, cells := 0, slots := 0, locals := 0 } : Room) (some none) iI [.ref 1, .int p1] S (f_Tape_cutTo p1 S) := cn_of_v (M := md_Tape_cutTo) (ini := false) rfl (by decide +kernel) (fun h => nomatch h) rfl (Nat.le_of_ble_eq_true rfl) (v_Tape_cutTo p1 S)
noncomputable def f_Chan_end (p1 : Int32) (S : AS) : Option (Int32 × AS) := bI (f_Tape_cutTo p1 S) fun r2 S1 => chk (isb r2) (some (r2, S1))
set_option maxHeartbeats 4000000 in
theorem v_Chan_end {G : GX} (p1 : Int32) (S : AS) : V G md_Chan_end (QM G md_Chan_end iI) (fun _ => True) (some none) 0 [some (.ref 0), some (.int p1)] [] 0 0 S (f_Chan_end p1 S) := by
  unfold f_Chan_end
  refine x_aload_n_ref d_Chan_end_0 rfl ?_
  refine x_getr d_Chan_end_1 fl_Chan_10 ak_0 (q99 (by decide)) (shx sh_0_0) ?_
  refine x_iload_n d_Chan_end_4 rfl ?_
  refine x_vI (b' := (some none)) (As := [.int p1]) d_Chan_end_5 mv_Chan_97 rfl (fun _ => ak_1) rfl (q99 (by decide)) ⟨Nat.le_of_ble_eq_true rfl, Nat.le_of_ble_eq_true rfl⟩ (Nat.le_of_ble_eq_true rfl) ⟨Nat.le_of_ble_eq_true rfl, Nat.le_of_ble_eq_true rfl⟩ (fun _ h => h) (fun h => ⟨h, c_Tape_cutTo p1 _⟩) (fun r2 S1 => ?_)
  exact x_zretc d_Chan_end_8 rfl (Nat.le_of_ble_eq_true rfl) (Nat.le_of_ble_eq_true rfl)
theorem c_Chan_end {G : GX} (p1 : Int32) (S : AS) : CN G y_Chan_end b_Chan_end 2 (some (FieldType.boolean)) ({ frames := 1, cells := 0, slots := 0, locals := 21 } : Room) (some none) iI [.ref 0, .int p1] S (f_Chan_end p1 S) := cn_of_v (M := md_Chan_end) (ini := false) rfl (by decide +kernel) (fun h => nomatch h) rfl (Nat.le_of_ble_eq_true rfl) (v_Chan_end p1 S)
noncomputable def f_Chan_isWithin (p0 : Int32) (p1 : Int32) (p2 : Int32) (S : AS) : Option (Int32 × AS) := nm (fun (S1 : AS) => some (0, S1)) fun J14 => if p0 < p1 then (J14 S) else (if p2 < p0 then (J14 S) else (some (1, S)))
set_option maxHeartbeats 4000000 in
theorem v_Chan_isWithin {G : GX} (p0 : Int32) (p1 : Int32) (p2 : Int32) (S : AS) : V G md_Chan_isWithin (QM G md_Chan_isWithin iI) (fun _ => True) (some none) 0 [some (.int p0), some (.int p1), some (.int p2)] [] 0 0 S (f_Chan_isWithin p0 p1 p2 S) := by
  unfold f_Chan_isWithin
  refine x_iload_n d_Chan_isWithin_0 rfl ?_
  refine x_iload_n d_Chan_isWithin_1 rfl ?_
  refine x_nm (fun J14 hJ14 => ?_)
  have kJ14 : ∀ (S1 : AS), V G md_Chan_isWithin (QM G md_Chan_isWithin iI) (fun _ => True) (some none) 14 [none, none, none] [] 0 0 S1 (J14 S1) := by
    subst hJ14
    intro S1
    refine x_iconst (v := 0) d_Chan_isWithin_14 (by decide) ?_
    exact x_ret d_Chan_isWithin_15 rfl rfl (Nat.le_of_ble_eq_true rfl) (Nat.le_of_ble_eq_true rfl)
  clear hJ14
  refine x_icmp_lt (tgt := 14) d_Chan_isWithin_2 (by decide) (fun _ => ?_) (fun _ => ?_)
  · exact V.kw (kJ14 S) trivial
  · refine x_iload_n d_Chan_isWithin_5 rfl ?_
    refine x_iload_n d_Chan_isWithin_6 rfl ?_
    refine x_icmp_gt (tgt := 14) d_Chan_isWithin_7 (by decide) (fun _ => ?_) (fun _ => ?_)
    · exact V.kw (kJ14 S) trivial
    · refine x_iconst (v := 1) d_Chan_isWithin_10 (by decide) ?_
      refine x_goto (tgt := 15) d_Chan_isWithin_11 (by decide) ?_
      exact x_ret d_Chan_isWithin_15 rfl rfl (Nat.le_of_ble_eq_true rfl) (Nat.le_of_ble_eq_true rfl)
theorem c_Chan_isWithin {G : GX} (p0 : Int32) (p1 : Int32) (p2 : Int32) (S : AS) : CN G y_Chan_isWithin b_Chan_isWithin 3 (some (FieldType.boolean)) ({ frames := 0, cells := 0, slots := 0, locals := 0 } : Room) (some none) iI [.int p0, .int p1, .int p2] S (f_Chan_isWithin p0 p1 p2 S) := cn_of_v (M := md_Chan_isWithin) (ini := false) rfl (by decide +kernel) (fun h => nomatch h) rfl (Nat.le_of_ble_eq_true rfl) (v_Chan_isWithin p0 p1 p2 S)
noncomputable def f_Roll_addPerson (p1 : Int32) (p2 : Int32) (p3 : Int32) (S : AS) : Option (Int32 × AS) := if (gi S 16 3) < 24 then (chk (vp_in (gi S 16 3) 24) (nm (si S 17 (ix (gi S 16 3)) p1) fun S1 => chk (vp_in (gi S1 16 3) 24) (nm (si S1 18 (ix (gi S1 16 3)) p2) fun S2 => chk (vp_in (gi S2 16 3) 24) (nm (si S2 19 (ix (gi S2 16 3)) p3) fun S3 => nm (si S3 16 3 ((gi S3 16 3) + 1)) fun S4 => some ((gi S4 16 3) - 1, S4))))) else (some ((-1), S))
set_option maxHeartbeats 4000000 in
theorem v_Roll_addPerson {G : GX} (p1 : Int32) (p2 : Int32) (p3 : Int32) (S : AS) : V G md_Roll_addPerson (QM G md_Roll_addPerson iI) (fun _ => True) (some none) 0 [some (.ref 16), some (.int p1), some (.int p2), some (.int p3)] [] 0 0 S (f_Roll_addPerson p1 p2 p3 S) := by
  unfold f_Roll_addPerson
  refine x_aload_n_ref d_Roll_addPerson_0 rfl ?_
  refine x_geti d_Roll_addPerson_1 fl_Roll_30 ak_16 (q99 (by decide)) ?_
  refine x_bipush (v := 24) d_Roll_addPerson_4 (by decide) ?_
  refine x_icmp_lt (tgt := 11) d_Roll_addPerson_6 (by decide) (fun _ => ?_) (fun _ => ?_)
  · refine x_aload_n_ref d_Roll_addPerson_11 rfl ?_
    refine x_getr d_Roll_addPerson_12 fl_Roll_9 ak_16 (q99 (by decide)) (shx sh_16_0) ?_
    refine x_aload_n_ref d_Roll_addPerson_15 rfl ?_
    refine x_geti d_Roll_addPerson_16 fl_Roll_30 ak_16 (q99 (by decide)) ?_
    refine x_iload_n d_Roll_addPerson_19 rfl ?_
    refine x_iast d_Roll_addPerson_20 ak_17 (q99 (by decide)) ?_
    refine x_nmS (fun S1 _ => ?_)
    refine x_aload_n_ref d_Roll_addPerson_21 rfl ?_
    refine x_getr d_Roll_addPerson_22 fl_Roll_15 ak_16 (q99 (by decide)) (shx sh_16_1) ?_
    refine x_aload_n_ref d_Roll_addPerson_25 rfl ?_
    refine x_geti d_Roll_addPerson_26 fl_Roll_30 ak_16 (q99 (by decide)) ?_
    refine x_iload_n d_Roll_addPerson_29 rfl ?_
    refine x_iast d_Roll_addPerson_30 ak_18 (q99 (by decide)) ?_
    refine x_nmS (fun S2 _ => ?_)
    refine x_aload_n_ref d_Roll_addPerson_31 rfl ?_
    refine x_getr d_Roll_addPerson_32 fl_Roll_18 ak_16 (q99 (by decide)) (shx sh_16_2) ?_
    refine x_aload_n_ref d_Roll_addPerson_35 rfl ?_
    refine x_geti d_Roll_addPerson_36 fl_Roll_30 ak_16 (q99 (by decide)) ?_
    refine x_iload_n d_Roll_addPerson_39 rfl ?_
    refine x_iast d_Roll_addPerson_40 ak_19 (q99 (by decide)) ?_
    refine x_nmS (fun S3 _ => ?_)
    refine x_aload_n_ref d_Roll_addPerson_41 rfl ?_
    refine x_dup d_Roll_addPerson_42 rfl ?_
    refine x_geti d_Roll_addPerson_43 fl_Roll_30 ak_16 (q99 (by decide)) ?_
    refine x_iconst (v := 1) d_Roll_addPerson_46 (by decide) ?_
    refine x_iadd d_Roll_addPerson_47 ?_
    refine x_puti d_Roll_addPerson_48 fl_Roll_30 rfl ak_16 (q99 (by decide)) (fun h => nomatch h) (fun h => nomatch h) ?_
    refine x_nmS (fun S4 _ => ?_)
    refine x_aload_n_ref d_Roll_addPerson_51 rfl ?_
    refine x_geti d_Roll_addPerson_52 fl_Roll_30 ak_16 (q99 (by decide)) ?_
    refine x_iconst (v := 1) d_Roll_addPerson_55 (by decide) ?_
    refine x_isub d_Roll_addPerson_56 ?_
    exact x_ret d_Roll_addPerson_57 rfl rfl (Nat.le_of_ble_eq_true rfl) (Nat.le_of_ble_eq_true rfl)
  · refine x_iconst (v := -1) d_Roll_addPerson_9 (by decide) ?_
    exact x_ret d_Roll_addPerson_10 rfl rfl (Nat.le_of_ble_eq_true rfl) (Nat.le_of_ble_eq_true rfl)
theorem c_Roll_addPerson {G : GX} (p1 : Int32) (p2 : Int32) (p3 : Int32) (S : AS) : CN G y_Roll_addPerson b_Roll_addPerson 4 (some (FieldType.int)) ({ frames := 0, cells := 0, slots := 0, locals := 0 } : Room) (some none) iI [.ref 16, .int p1, .int p2, .int p3] S (f_Roll_addPerson p1 p2 p3 S) := cn_of_v (M := md_Roll_addPerson) (ini := false) rfl (by decide +kernel) (fun h => nomatch h) rfl (Nat.le_of_ble_eq_true rfl) (v_Roll_addPerson p1 p2 p3 S)
noncomputable def f_Chan_person (p1 : Int32) (p2 : Int32) (p3 : Int32) (S : AS) : Option (Int32 × AS) := bI (f_Chan_isWithin p1 0 9 S) fun r2 S1 => if r2 = 0 then (some ((-1), S1)) else (bI (f_Chan_isWithin p2 0 9 S1) fun r4 S3 => if r4 = 0 then (some ((-1), S3)) else (bI (f_Chan_isWithin p3 0 7 S3) fun r6 S5 => if r6 = 0 then (some ((-1), S5)) else (bI (f_Roll_addPerson p1 p2 p3 S5) fun r8 S7 => some (r8, S7))))
set_option maxHeartbeats 4000000 in
theorem v_Chan_person {G : GX} (p1 : Int32) (p2 : Int32) (p3 : Int32) (S : AS) : V G md_Chan_person (QM G md_Chan_person iI) (fun _ => True) (some none) 0 [some (.ref 0), some (.int p1), some (.int p2), some (.int p3)] [] 0 0 S (f_Chan_person p1 p2 p3 S) := by
  unfold f_Chan_person
  refine x_iload_n d_Chan_person_0 rfl ?_
  refine x_iconst (v := 0) d_Chan_person_1 (by decide) ?_
  refine x_bipush (v := 9) d_Chan_person_2 (by decide) ?_
  refine x_sI (b' := (some none)) (As := [.int p1, .int 0, .int 9]) d_Chan_person_4 ms_Chan_101 rfl ⟨Nat.le_of_ble_eq_true rfl, Nat.le_of_ble_eq_true rfl⟩ (Nat.le_of_ble_eq_true rfl) ⟨Nat.le_of_ble_eq_true rfl, Nat.le_of_ble_eq_true rfl⟩ (fun _ h => h) (fun h => ⟨h, c_Chan_isWithin p1 0 9 _⟩) (fun r2 S1 => ?_)
  refine x_if_eq (tgt := 30) d_Chan_person_7 (by decide) (fun _ => ?_) (fun _ => ?_)
  · refine x_iconst (v := -1) d_Chan_person_30 (by decide) ?_
    exact x_ret d_Chan_person_31 rfl rfl (Nat.le_of_ble_eq_true rfl) (Nat.le_of_ble_eq_true rfl)
  · refine x_iload_n d_Chan_person_10 rfl ?_
    refine x_iconst (v := 0) d_Chan_person_11 (by decide) ?_
    refine x_bipush (v := 9) d_Chan_person_12 (by decide) ?_
    refine x_sI (b' := (some none)) (As := [.int p2, .int 0, .int 9]) d_Chan_person_14 ms_Chan_101 rfl ⟨Nat.le_of_ble_eq_true rfl, Nat.le_of_ble_eq_true rfl⟩ (Nat.le_of_ble_eq_true rfl) ⟨Nat.le_of_ble_eq_true rfl, Nat.le_of_ble_eq_true rfl⟩ (fun _ h => h) (fun h => ⟨h, c_Chan_isWithin p2 0 9 _⟩) (fun r4 S3 => ?_)
    refine x_if_eq (tgt := 30) d_Chan_person_17 (by decide) (fun _ => ?_) (fun _ => ?_)
    · refine x_iconst (v := -1) d_Chan_person_30 (by decide) ?_
      exact x_ret d_Chan_person_31 rfl rfl (Nat.le_of_ble_eq_true rfl) (Nat.le_of_ble_eq_true rfl)
    · refine x_iload_n d_Chan_person_20 rfl ?_
      refine x_iconst (v := 0) d_Chan_person_21 (by decide) ?_
      refine x_bipush (v := 7) d_Chan_person_22 (by decide) ?_
      refine x_sI (b' := (some none)) (As := [.int p3, .int 0, .int 7]) d_Chan_person_24 ms_Chan_101 rfl ⟨Nat.le_of_ble_eq_true rfl, Nat.le_of_ble_eq_true rfl⟩ (Nat.le_of_ble_eq_true rfl) ⟨Nat.le_of_ble_eq_true rfl, Nat.le_of_ble_eq_true rfl⟩ (fun _ h => h) (fun h => ⟨h, c_Chan_isWithin p3 0 7 _⟩) (fun r6 S5 => ?_)
      refine x_if_ne (tgt := 32) d_Chan_person_27 (by decide) (fun _ => ?_) (fun _ => ?_)
      · refine x_aload_n_ref d_Chan_person_32 rfl ?_
        refine x_getr d_Chan_person_33 fl_Chan_28 ak_0 (q99 (by decide)) (shx sh_0_2) ?_
        refine x_iload_n d_Chan_person_36 rfl ?_
        refine x_iload_n d_Chan_person_37 rfl ?_
        refine x_iload_n d_Chan_person_38 rfl ?_
        refine x_vI (b' := (some none)) (As := [.int p1, .int p2, .int p3]) d_Chan_person_39 mv_Chan_105 rfl (fun _ => ak_16) rfl (q99 (by decide)) ⟨Nat.le_of_ble_eq_true rfl, Nat.le_of_ble_eq_true rfl⟩ (Nat.le_of_ble_eq_true rfl) ⟨Nat.le_of_ble_eq_true rfl, Nat.le_of_ble_eq_true rfl⟩ (fun _ h => h) (fun h => ⟨h, c_Roll_addPerson p1 p2 p3 _⟩) (fun r8 S7 => ?_)
        exact x_ret d_Chan_person_42 rfl rfl (Nat.le_of_ble_eq_true rfl) (Nat.le_of_ble_eq_true rfl)
      · refine x_iconst (v := -1) d_Chan_person_30 (by decide) ?_
        exact x_ret d_Chan_person_31 rfl rfl (Nat.le_of_ble_eq_true rfl) (Nat.le_of_ble_eq_true rfl)
theorem c_Chan_person {G : GX} (p1 : Int32) (p2 : Int32) (p3 : Int32) (S : AS) : CN G y_Chan_person b_Chan_person 4 (some (FieldType.int)) ({ frames := 1, cells := 0, slots := 0, locals := 23 } : Room) (some none) iI [.ref 0, .int p1, .int p2, .int p3] S (f_Chan_person p1 p2 p3 S) := cn_of_v (M := md_Chan_person) (ini := false) rfl (by decide +kernel) (fun h => nomatch h) rfl (Nat.le_of_ble_eq_true rfl) (v_Chan_person p1 p2 p3 S)
noncomputable def f_Roll_addPost (p1 : Int32) (p2 : Int32) (S : AS) : Option (Int32 × AS) := if (gi S 16 7) < 16 then (chk (vp_in (gi S 16 7) 16) (nm (si S 20 (ix (gi S 16 7)) p1) fun S1 => chk (vp_in (gi S1 16 7) 16) (nm (si S1 21 (ix (gi S1 16 7)) p2) fun S2 => chk (vp_in (gi S2 16 7) 16) (nm (si S2 22 (ix (gi S2 16 7)) (-1)) fun S3 => nm (si S3 16 7 ((gi S3 16 7) + 1)) fun S4 => nm (si S4 16 8 ((gi S4 16 8) + 1)) fun S5 => some ((gi S5 16 7) - 1, S5))))) else (some ((-1), S))
set_option maxHeartbeats 4000000 in
theorem v_Roll_addPost {G : GX} (p1 : Int32) (p2 : Int32) (S : AS) : V G md_Roll_addPost (QM G md_Roll_addPost iI) (fun _ => True) (some none) 0 [some (.ref 16), some (.int p1), some (.int p2)] [] 0 0 S (f_Roll_addPost p1 p2 S) := by
  unfold f_Roll_addPost
  refine x_aload_n_ref d_Roll_addPost_0 rfl ?_
  refine x_geti d_Roll_addPost_1 fl_Roll_34 ak_16 (q99 (by decide)) ?_
  refine x_bipush (v := 16) d_Roll_addPost_4 (by decide) ?_
  refine x_icmp_lt (tgt := 11) d_Roll_addPost_6 (by decide) (fun _ => ?_) (fun _ => ?_)
  · refine x_aload_n_ref d_Roll_addPost_11 rfl ?_
    refine x_getr d_Roll_addPost_12 fl_Roll_21 ak_16 (q99 (by decide)) (shx sh_16_4) ?_
    refine x_aload_n_ref d_Roll_addPost_15 rfl ?_
    refine x_geti d_Roll_addPost_16 fl_Roll_34 ak_16 (q99 (by decide)) ?_
    refine x_iload_n d_Roll_addPost_19 rfl ?_
    refine x_iast d_Roll_addPost_20 ak_20 (q99 (by decide)) ?_
    refine x_nmS (fun S1 _ => ?_)
    refine x_aload_n_ref d_Roll_addPost_21 rfl ?_
    refine x_getr d_Roll_addPost_22 fl_Roll_24 ak_16 (q99 (by decide)) (shx sh_16_5) ?_
    refine x_aload_n_ref d_Roll_addPost_25 rfl ?_
    refine x_geti d_Roll_addPost_26 fl_Roll_34 ak_16 (q99 (by decide)) ?_
    refine x_iload_n d_Roll_addPost_29 rfl ?_
    refine x_iast d_Roll_addPost_30 ak_21 (q99 (by decide)) ?_
    refine x_nmS (fun S2 _ => ?_)
    refine x_aload_n_ref d_Roll_addPost_31 rfl ?_
    refine x_getr d_Roll_addPost_32 fl_Roll_27 ak_16 (q99 (by decide)) (shx sh_16_6) ?_
    refine x_aload_n_ref d_Roll_addPost_35 rfl ?_
    refine x_geti d_Roll_addPost_36 fl_Roll_34 ak_16 (q99 (by decide)) ?_
    refine x_iconst (v := -1) d_Roll_addPost_39 (by decide) ?_
    refine x_iast d_Roll_addPost_40 ak_22 (q99 (by decide)) ?_
    refine x_nmS (fun S3 _ => ?_)
    refine x_aload_n_ref d_Roll_addPost_41 rfl ?_
    refine x_dup d_Roll_addPost_42 rfl ?_
    refine x_geti d_Roll_addPost_43 fl_Roll_34 ak_16 (q99 (by decide)) ?_
    refine x_iconst (v := 1) d_Roll_addPost_46 (by decide) ?_
    refine x_iadd d_Roll_addPost_47 ?_
    refine x_puti d_Roll_addPost_48 fl_Roll_34 rfl ak_16 (q99 (by decide)) (fun h => nomatch h) (fun h => nomatch h) ?_
    refine x_nmS (fun S4 _ => ?_)
    refine x_aload_n_ref d_Roll_addPost_51 rfl ?_
    refine x_dup d_Roll_addPost_52 rfl ?_
    refine x_geti d_Roll_addPost_53 fl_Roll_37 ak_16 (q99 (by decide)) ?_
    refine x_iconst (v := 1) d_Roll_addPost_56 (by decide) ?_
    refine x_iadd d_Roll_addPost_57 ?_
    refine x_puti d_Roll_addPost_58 fl_Roll_37 rfl ak_16 (q99 (by decide)) (fun h => nomatch h) (fun h => nomatch h) ?_
    refine x_nmS (fun S5 _ => ?_)
    refine x_aload_n_ref d_Roll_addPost_61 rfl ?_
    refine x_geti d_Roll_addPost_62 fl_Roll_34 ak_16 (q99 (by decide)) ?_
    refine x_iconst (v := 1) d_Roll_addPost_65 (by decide) ?_
    refine x_isub d_Roll_addPost_66 ?_
    exact x_ret d_Roll_addPost_67 rfl rfl (Nat.le_of_ble_eq_true rfl) (Nat.le_of_ble_eq_true rfl)
  · refine x_iconst (v := -1) d_Roll_addPost_9 (by decide) ?_
    exact x_ret d_Roll_addPost_10 rfl rfl (Nat.le_of_ble_eq_true rfl) (Nat.le_of_ble_eq_true rfl)
theorem c_Roll_addPost {G : GX} (p1 : Int32) (p2 : Int32) (S : AS) : CN G y_Roll_addPost b_Roll_addPost 3 (some (FieldType.int)) ({ frames := 0, cells := 0, slots := 0, locals := 0 } : Room) (some none) iI [.ref 16, .int p1, .int p2] S (f_Roll_addPost p1 p2 S) := cn_of_v (M := md_Roll_addPost) (ini := false) rfl (by decide +kernel) (fun h => nomatch h) rfl (Nat.le_of_ble_eq_true rfl) (v_Roll_addPost p1 p2 S)
