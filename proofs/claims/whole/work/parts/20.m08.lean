noncomputable def f_Course_duel (p1 : Int32) (p2 : Int32) (p3 : Int32) (S : AS) : Option (Int32 × AS) := chk (vp_in p1 48) (bV (f_Course_loadFacts_58 p3 (gi S 24 (ix p1)) p1 S) fun S1 => chk (vp_in p2 48) (bV (f_Course_loadFacts_59 p3 (gi S1 24 (ix p2)) p2 S1) fun S2 => obd (gr S2 49 15) fun q3 => bI (f_RuleBook_duel_58_59 q3 S2) fun r5 S4 => nm (fun (S6 : AS) => some (r5, S6)) fun J72 => if r5 = 100 then (if p1 ≤ p2 then (J72 S4) else (some ((-101), S4))) else (J72 S4)))
set_option maxHeartbeats 4000000 in
theorem v_Course_duel {G : GX} (p1 : Int32) (p2 : Int32) (p3 : Int32) (S : AS) : V G md_Course_duel (QM G md_Course_duel iI) (fun _ => True) (some none) 0 [some (.ref 49), some (.int p1), some (.int p2), some (.int p3), none] [] 0 0 S (f_Course_duel p1 p2 p3 S) := by
  unfold f_Course_duel
  refine x_aload_n_ref d_Course_duel_0 rfl ?_
  refine x_aload_n_ref d_Course_duel_1 rfl ?_
  refine x_getr d_Course_duel_2 fl_Course_38 ak_49 (q99 (by decide)) (shx sh_49_12) ?_
  refine x_iload_n d_Course_duel_5 rfl ?_
  refine x_aload_n_ref d_Course_duel_6 rfl ?_
  refine x_getr d_Course_duel_7 fl_Course_48 ak_49 (q99 (by decide)) (shx sh_49_1) ?_
  refine x_getr d_Course_duel_10 fl_Course_158 ak_23 (q99 (by decide)) (shx sh_23_0) ?_
  refine x_iload_n d_Course_duel_13 rfl ?_
  refine x_iald d_Course_duel_14 ak_24 (q99 (by decide)) ?_
  refine x_iload_n d_Course_duel_15 rfl ?_
  refine x_vV (b' := (some none)) (As := [.ref 58, .int p3, .int (gi S 24 (ix p1)), .int p1]) d_Course_duel_16 mv_Course_178 rfl (fun _ => ak_49) rfl (q99 (by decide)) ⟨Nat.le_of_ble_eq_true rfl, Nat.le_of_ble_eq_true rfl⟩ (Nat.le_of_ble_eq_true rfl) ⟨Nat.le_of_ble_eq_true rfl, Nat.le_of_ble_eq_true rfl⟩ (fun _ h => h) (fun h => ⟨h, c_Course_loadFacts_58 p3 (gi S 24 (ix p1)) p1 _⟩) (fun S1 => ?_)
  refine x_aload_n_ref d_Course_duel_19 rfl ?_
  refine x_aload_n_ref d_Course_duel_20 rfl ?_
  refine x_getr d_Course_duel_21 fl_Course_41 ak_49 (q99 (by decide)) (shx sh_49_13) ?_
  refine x_iload_n d_Course_duel_24 rfl ?_
  refine x_aload_n_ref d_Course_duel_25 rfl ?_
  refine x_getr d_Course_duel_26 fl_Course_48 ak_49 (q99 (by decide)) (shx sh_49_1) ?_
  refine x_getr d_Course_duel_29 fl_Course_158 ak_23 (q99 (by decide)) (shx sh_23_0) ?_
  refine x_iload_n d_Course_duel_32 rfl ?_
  refine x_iald d_Course_duel_33 ak_24 (q99 (by decide)) ?_
  refine x_iload_n d_Course_duel_34 rfl ?_
  refine x_vV (b' := (some none)) (As := [.ref 59, .int p3, .int (gi S1 24 (ix p2)), .int p2]) d_Course_duel_35 mv_Course_178 rfl (fun _ => ak_49) rfl (q99 (by decide)) ⟨Nat.le_of_ble_eq_true rfl, Nat.le_of_ble_eq_true rfl⟩ (Nat.le_of_ble_eq_true rfl) ⟨Nat.le_of_ble_eq_true rfl, Nat.le_of_ble_eq_true rfl⟩ (fun _ h => h) (fun h => ⟨h, c_Course_loadFacts_59 p3 (gi S1 24 (ix p2)) p2 _⟩) (fun S2 => ?_)
  refine x_aload_n_ref d_Course_duel_38 rfl ?_
  refine x_geto d_Course_duel_39 fl_Course_66 ak_49 (q99 (by decide)) (fun q3 hq3 => ?_)
  refine x_aload_n_ref d_Course_duel_42 rfl ?_
  refine x_getr d_Course_duel_43 fl_Course_38 ak_49 (q99 (by decide)) (shx sh_49_12) ?_
  refine x_aload_n_ref d_Course_duel_46 rfl ?_
  refine x_getr d_Course_duel_47 fl_Course_41 ak_49 (q99 (by decide)) (shx sh_49_13) ?_
  refine x_vI (b' := (some (some q3))) (As := [.ref 58, .ref 59]) d_Course_duel_50 mv_Course_199 rfl (fun h => (ak_q q3 0 (bk_rules hq3 h).q (by decide))) rfl (fun h => bq_lt (q := q3) (i := 0) (by decide) (sp_bk (bk_rules hq3 h) h)) ⟨Nat.le_of_ble_eq_true rfl, Nat.le_of_ble_eq_true rfl⟩ (Nat.le_of_ble_eq_true rfl) ⟨Nat.le_of_ble_eq_true rfl, Nat.le_of_ble_eq_true rfl⟩ (fun _ h => h.1) (fun h => ⟨sp_bk (bk_rules hq3 h) h, c_RuleBook_duel_58_59 q3 (bk_rules hq3 h).q _⟩) (fun r5 S4 => ?_)
  refine x_istore (lc' := [some (.ref 49), some (.int p1), some (.int p2), some (.int p3), some (.int r5)]) d_Course_duel_53 (by decide) rfl ?_
  refine x_iload d_Course_duel_55 rfl ?_
  refine x_bipush (v := 100) d_Course_duel_57 (by decide) ?_
  refine x_nm (fun J72 hJ72 => ?_)
  have kJ72 : ∀ (S6 : AS), V G md_Course_duel (QM G md_Course_duel iI) (fun _ => True) (some none) 72 [none, none, none, none, some (.int r5)] [] 0 0 S6 (J72 S6) := by
    subst hJ72
    intro S6
    refine x_iload d_Course_duel_72 rfl ?_
    exact x_ret d_Course_duel_74 rfl rfl (Nat.le_of_ble_eq_true rfl) (Nat.le_of_ble_eq_true rfl)
  clear hJ72
  refine x_icmp_ne (tgt := 72) d_Course_duel_59 (by decide) (fun _ => ?_) (fun _ => ?_)
  · exact V.kw (kJ72 S4) ⟨rfl, trivial⟩
  · refine x_iload_n d_Course_duel_62 rfl ?_
    refine x_iload_n d_Course_duel_63 rfl ?_
    refine x_icmp_ge (tgt := 72) d_Course_duel_64 (by decide) (fun _ => ?_) (fun _ => ?_)
    · exact V.kw (kJ72 S4) ⟨rfl, trivial⟩
    · refine x_bipush (v := -101) d_Course_duel_67 (by decide) ?_
      refine x_goto (tgt := 74) d_Course_duel_69 (by decide) ?_
      exact x_ret d_Course_duel_74 rfl rfl (Nat.le_of_ble_eq_true rfl) (Nat.le_of_ble_eq_true rfl)
theorem c_Course_duel {G : GX} (p1 : Int32) (p2 : Int32) (p3 : Int32) (S : AS) : CN G y_Course_duel b_Course_duel 5 (some (FieldType.int)) ({ frames := 2, cells := 0, slots := 0, locals := 50 } : Room) (some none) iI [.ref 49, .int p1, .int p2, .int p3] S (f_Course_duel p1 p2 p3 S) := cn_of_v (M := md_Course_duel) (ini := false) rfl (by decide +kernel) (fun h => nomatch h) rfl (Nat.le_of_ble_eq_true rfl) (v_Course_duel p1 p2 p3 S)
noncomputable def f_Course_fill_L4 (J47 : Int32 → AS → Option AS) (x1 : Int32) : Nat → Int32 → Int32 → AS → Option AS
  | 0, _, _, _ => none
  | n + 1, c2, c3, S => if (gi S 23 8) ≤ c3 then (J47 c2 S) else (bI (f_Course_mayClaim c3 x1 S) fun r5 S4 => nm (fun (a6 : Int32) (S7 : AS) => f_Course_fill_L4 J47 x1 n a6 (c3 + 1) S7) fun J41 => if r5 = 0 then (J41 c2 S4) else (nm (fun (S8 : AS) => J41 c3 S8) fun J39 => if c2 = (-1) then (J39 S4) else (bI (f_Course_duel c3 c2 x1 S4) fun r10 S9 => if r10 < 0 then (J41 c2 S9) else (J39 S9))))
noncomputable def f_Course_fill (p1 : Int32) (S : AS) : Option AS := nm (fun (a1 : Int32) (S2 : AS) => if a1 = (-1) then (some S2) else (bV (f_Course_use a1 p1 S2) fun S3 => some S3)) fun J47 => f_Course_fill_L4 J47 p1 FU (-1) 0 S
set_option maxHeartbeats 4000000 in
theorem v_Course_fill_L4 {G : GX} (J47 : Int32 → AS → Option AS) (x1 : Int32) (kJ47 : ∀ (a1 : Int32) (T : AS), V G md_Course_fill (QM G md_Course_fill iV) (fun _ => True) (some none) 47 [some (.ref 49), some (.int x1), some (.int a1), none] [] 0 0 T (J47 a1 T)) : ∀ (n : Nat) (c2 : Int32) (c3 : Int32) (S : AS), V G md_Course_fill (QM G md_Course_fill iV) (fun _ => True) (some none) 4 [some (.ref 49), some (.int x1), some (.int c2), some (.int c3)] [] 0 0 S (f_Course_fill_L4 J47 x1 n c2 c3 S) := by
  intro n
  induction n with
  | zero => intro c2 c3 S; exact V.none
  | succ n ih =>
    intro c2 c3 S
    rw [f_Course_fill_L4]
    refine x_iload_n d_Course_fill_4 rfl ?_
    refine x_aload_n_ref d_Course_fill_5 rfl ?_
    refine x_getr d_Course_fill_6 fl_Course_48 ak_49 (q99 (by decide)) (shx sh_49_1) ?_
    refine x_geti d_Course_fill_9 fl_Course_170 ak_23 (q99 (by decide)) ?_
    refine x_icmp_ge (tgt := 47) d_Course_fill_12 (by decide) (fun _ => ?_) (fun _ => ?_)
    · exact V.kw (kJ47 c2 S) ⟨rfl, rfl, rfl, trivial⟩
    · refine x_aload_n_ref d_Course_fill_15 rfl ?_
      refine x_iload_n d_Course_fill_16 rfl ?_
      refine x_iload_n d_Course_fill_17 rfl ?_
      refine x_vI (b' := (some none)) (As := [.int c3, .int x1]) d_Course_fill_18 mv_Course_164 rfl (fun _ => ak_49) rfl (q99 (by decide)) ⟨Nat.le_of_ble_eq_true rfl, Nat.le_of_ble_eq_true rfl⟩ (Nat.le_of_ble_eq_true rfl) ⟨Nat.le_of_ble_eq_true rfl, Nat.le_of_ble_eq_true rfl⟩ (fun _ h => h) (fun h => ⟨h, c_Course_mayClaim c3 x1 _⟩) (fun r5 S4 => ?_)
      refine x_nm (fun J41 hJ41 => ?_)
      have kJ41 : ∀ (a6 : Int32) (S7 : AS), V G md_Course_fill (QM G md_Course_fill iV) (fun _ => True) (some none) 41 [some (.ref 49), some (.int x1), some (.int a6), some (.int c3)] [] 0 0 S7 (J41 a6 S7) := by
        subst hJ41
        intro a6 S7
        refine x_iinc (w := c3 + 1) (lc' := [some (.ref 49), some (.int x1), some (.int a6), some (.int (c3 + 1))]) d_Course_fill_41 (by decide) rfl rfl rfl ?_
        refine x_goto (tgt := 4) d_Course_fill_44 (by decide) ?_
        exact V.kw (ih a6 (c3 + 1) S7) ⟨rfl, rfl, rfl, rfl, trivial⟩
      clear hJ41
      refine x_if_eq (tgt := 41) d_Course_fill_21 (by decide) (fun _ => ?_) (fun _ => ?_)
      · exact V.kw (kJ41 c2 S4) ⟨rfl, rfl, rfl, rfl, trivial⟩
      · refine x_iload_n d_Course_fill_24 rfl ?_
        refine x_iconst (v := -1) d_Course_fill_25 (by decide) ?_
        refine x_nm (fun J39 hJ39 => ?_)
        have kJ39 : ∀ (S8 : AS), V G md_Course_fill (QM G md_Course_fill iV) (fun _ => True) (some none) 39 [some (.ref 49), some (.int x1), none, some (.int c3)] [] 0 0 S8 (J39 S8) := by
          subst hJ39
          intro S8
          refine x_iload_n d_Course_fill_39 rfl ?_
          refine x_istore_n (lc' := [some (.ref 49), some (.int x1), some (.int c3), some (.int c3)]) d_Course_fill_40 (by decide) rfl ?_
          exact V.kw (kJ41 c3 S8) ⟨rfl, rfl, rfl, rfl, trivial⟩
        clear hJ39
        refine x_icmp_eq (tgt := 39) d_Course_fill_26 (by decide) (fun _ => ?_) (fun _ => ?_)
        · exact V.kw (kJ39 S4) ⟨rfl, rfl, rfl, trivial⟩
        · refine x_aload_n_ref d_Course_fill_29 rfl ?_
          refine x_iload_n d_Course_fill_30 rfl ?_
          refine x_iload_n d_Course_fill_31 rfl ?_
          refine x_iload_n d_Course_fill_32 rfl ?_
          refine x_vI (b' := (some none)) (As := [.int c3, .int c2, .int x1]) d_Course_fill_33 mv_Course_188 rfl (fun _ => ak_49) rfl (q99 (by decide)) ⟨Nat.le_of_ble_eq_true rfl, Nat.le_of_ble_eq_true rfl⟩ (Nat.le_of_ble_eq_true rfl) ⟨Nat.le_of_ble_eq_true rfl, Nat.le_of_ble_eq_true rfl⟩ (fun _ h => h) (fun h => ⟨h, c_Course_duel c3 c2 x1 _⟩) (fun r10 S9 => ?_)
          refine x_if_lt (tgt := 41) d_Course_fill_36 (by decide) (fun _ => ?_) (fun _ => ?_)
          · exact V.kw (kJ41 c2 S9) ⟨rfl, rfl, rfl, rfl, trivial⟩
          · exact V.kw (kJ39 S9) ⟨rfl, rfl, rfl, trivial⟩
set_option maxHeartbeats 4000000 in
theorem v_Course_fill {G : GX} (p1 : Int32) (S : AS) : V G md_Course_fill (QM G md_Course_fill iV) (fun _ => True) (some none) 0 [some (.ref 49), some (.int p1), none, none] [] 0 0 S (f_Course_fill p1 S) := by
  unfold f_Course_fill
  refine x_iconst (v := -1) d_Course_fill_0 (by decide) ?_
  refine x_istore_n (lc' := [some (.ref 49), some (.int p1), some (.int (-1)), none]) d_Course_fill_1 (by decide) rfl ?_
  refine x_iconst (v := 0) d_Course_fill_2 (by decide) ?_
  refine x_istore_n (lc' := [some (.ref 49), some (.int p1), some (.int (-1)), some (.int 0)]) d_Course_fill_3 (by decide) rfl ?_
  refine x_nm (fun J47 hJ47 => ?_)
  have kJ47 : ∀ (a1 : Int32) (S2 : AS), V G md_Course_fill (QM G md_Course_fill iV) (fun _ => True) (some none) 47 [some (.ref 49), some (.int p1), some (.int a1), none] [] 0 0 S2 (J47 a1 S2) := by
    subst hJ47
    intro a1 S2
    refine x_iload_n d_Course_fill_47 rfl ?_
    refine x_iconst (v := -1) d_Course_fill_48 (by decide) ?_
    refine x_icmp_eq (tgt := 58) d_Course_fill_49 (by decide) (fun _ => ?_) (fun _ => ?_)
    · exact x_vret d_Course_fill_58 rfl (Nat.le_of_ble_eq_true rfl) (Nat.le_of_ble_eq_true rfl)
    · refine x_aload_n_ref d_Course_fill_52 rfl ?_
      refine x_iload_n d_Course_fill_53 rfl ?_
      refine x_iload_n d_Course_fill_54 rfl ?_
      refine x_vV (b' := (some none)) (As := [.int a1, .int p1]) d_Course_fill_55 mv_Course_167 rfl (fun _ => ak_49) rfl (q99 (by decide)) ⟨Nat.le_of_ble_eq_true rfl, Nat.le_of_ble_eq_true rfl⟩ (Nat.le_of_ble_eq_true rfl) ⟨Nat.le_of_ble_eq_true rfl, Nat.le_of_ble_eq_true rfl⟩ (fun _ h => h) (fun h => ⟨h, c_Course_use a1 p1 _⟩) (fun S3 => ?_)
      exact x_vret d_Course_fill_58 rfl (Nat.le_of_ble_eq_true rfl) (Nat.le_of_ble_eq_true rfl)
  clear hJ47
  exact V.kw (v_Course_fill_L4 J47 p1 kJ47 FU (-1) 0 S) ⟨rfl, rfl, rfl, rfl, trivial⟩
theorem c_Course_fill {G : GX} (p1 : Int32) (S : AS) : CN G y_Course_fill b_Course_fill 4 none ({ frames := 3, cells := 0, slots := 0, locals := 74 } : Room) (some none) iV [.ref 49, .int p1] S (f_Course_fill p1 S) := cn_of_v (M := md_Course_fill) (ini := false) rfl (by decide +kernel) (fun h => nomatch h) rfl (Nat.le_of_ble_eq_true rfl) (v_Course_fill p1 S)
noncomputable def f_Course_die_L58 (J96 : AS → Option AS) (x1 : Int32) : Nat → Int32 → AS → Option AS
  | 0, _, _ => none
  | n + 1, c2, S => if (gi S 16 7) ≤ c2 then (J96 S) else (chk (vp_in c2 16) (nm (fun (S4 : AS) => f_Course_die_L58 J96 x1 n (c2 + 1) S4) fun J90 => if (gi S 50 (ix c2)) = x1 then (bV (f_Course_give c2 (-1) S) fun S5 => bV (f_Course_fill c2 S5) fun S6 => J90 S6) else (J90 S)))
noncomputable def f_Course_die_L19 (J56 : AS → Option AS) (x1 : Int32) : Nat → Int32 → AS → Option AS
  | 0, _, _ => none
  | n + 1, c2, S => if (gi S 23 8) ≤ c2 then (J56 S) else (chk (vp_in c2 48) (nm (fun (S7 : AS) => f_Course_die_L19 J56 x1 n (c2 + 1) S7) fun J50 => if (gi S 24 (ix c2)) = x1 then (chk (vp_in c2 48) (nm (si S 55 (ix c2) (vp_nar .boolean 0)) fun S8 => J50 S8)) else (J50 S)))
noncomputable def f_Course_die (p1 : Int32) (S : AS) : Option AS := chk (vp_in p1 24) (if (gi S 54 (ix p1)) = 0 then (chk (vp_in p1 24) (nm (si S 54 (ix p1) (vp_nar .boolean 1)) fun S1 => nm (fun (S2 : AS) => nm (fun (S3 : AS) => some S3) fun J96 => f_Course_die_L58 J96 p1 FU 0 S2) fun J56 => f_Course_die_L19 J56 p1 FU 0 S1)) else (some S))
set_option maxHeartbeats 4000000 in
theorem v_Course_die_L58 {G : GX} (J96 : AS → Option AS) (x1 : Int32) (kJ96 : ∀ (T : AS), V G md_Course_die (QM G md_Course_die iV) (fun _ => True) (some none) 96 [none, none, none] [] 0 0 T (J96 T)) : ∀ (n : Nat) (c2 : Int32) (S : AS), V G md_Course_die (QM G md_Course_die iV) (fun _ => True) (some none) 58 [some (.ref 49), some (.int x1), some (.int c2)] [] 0 0 S (f_Course_die_L58 J96 x1 n c2 S) := by
  intro n
  induction n with
  | zero => intro c2 S; exact V.none
  | succ n ih =>
    intro c2 S
    rw [f_Course_die_L58]
    refine x_iload_n d_Course_die_58 rfl ?_
    refine x_aload_n_ref d_Course_die_59 rfl ?_
    refine x_getr d_Course_die_60 fl_Course_44 ak_49 (q99 (by decide)) (shx sh_49_0) ?_
    refine x_geti d_Course_die_63 fl_Course_115 ak_16 (q99 (by decide)) ?_
    refine x_icmp_ge (tgt := 96) d_Course_die_66 (by decide) (fun _ => ?_) (fun _ => ?_)
    · exact V.kw (kJ96 S) trivial
    · refine x_aload_n_ref d_Course_die_69 rfl ?_
      refine x_getr d_Course_die_70 fl_Course_9 ak_49 (q99 (by decide)) (shx sh_49_4) ?_
      refine x_iload_n d_Course_die_73 rfl ?_
      refine x_iald d_Course_die_74 ak_50 (q99 (by decide)) ?_
      refine x_iload_n d_Course_die_75 rfl ?_
      refine x_nm (fun J90 hJ90 => ?_)
      have kJ90 : ∀ (S4 : AS), V G md_Course_die (QM G md_Course_die iV) (fun _ => True) (some none) 90 [some (.ref 49), some (.int x1), some (.int c2)] [] 0 0 S4 (J90 S4) := by
        subst hJ90
        intro S4
        refine x_iinc (w := c2 + 1) (lc' := [some (.ref 49), some (.int x1), some (.int (c2 + 1))]) d_Course_die_90 (by decide) rfl rfl rfl ?_
        refine x_goto (tgt := 58) d_Course_die_93 (by decide) ?_
        exact V.kw (ih (c2 + 1) S4) ⟨rfl, rfl, rfl, trivial⟩
      clear hJ90
      refine x_icmp_ne (tgt := 90) d_Course_die_76 (by decide) (fun _ => ?_) (fun _ => ?_)
      · exact V.kw (kJ90 S) ⟨rfl, rfl, rfl, trivial⟩
      · refine x_aload_n_ref d_Course_die_79 rfl ?_
        refine x_iload_n d_Course_die_80 rfl ?_
        refine x_iconst (v := -1) d_Course_die_81 (by decide) ?_
        refine x_vV (b' := (some none)) (As := [.int c2, .int (-1)]) d_Course_die_82 mv_Course_173 rfl (fun _ => ak_49) rfl (q99 (by decide)) ⟨Nat.le_of_ble_eq_true rfl, Nat.le_of_ble_eq_true rfl⟩ (Nat.le_of_ble_eq_true rfl) ⟨Nat.le_of_ble_eq_true rfl, Nat.le_of_ble_eq_true rfl⟩ (fun _ h => h) (fun h => ⟨h, c_Course_give c2 (-1) _⟩) (fun S5 => ?_)
        refine x_aload_n_ref d_Course_die_85 rfl ?_
        refine x_iload_n d_Course_die_86 rfl ?_
        refine x_vV (b' := (some none)) (As := [.int c2]) d_Course_die_87 mv_Course_176 rfl (fun _ => ak_49) rfl (q99 (by decide)) ⟨Nat.le_of_ble_eq_true rfl, Nat.le_of_ble_eq_true rfl⟩ (Nat.le_of_ble_eq_true rfl) ⟨Nat.le_of_ble_eq_true rfl, Nat.le_of_ble_eq_true rfl⟩ (fun _ h => h) (fun h => ⟨h, c_Course_fill c2 _⟩) (fun S6 => ?_)
        exact V.kw (kJ90 S6) ⟨rfl, rfl, rfl, trivial⟩
set_option maxHeartbeats 4000000 in
theorem v_Course_die_L19 {G : GX} (J56 : AS → Option AS) (x1 : Int32) (kJ56 : ∀ (T : AS), V G md_Course_die (QM G md_Course_die iV) (fun _ => True) (some none) 56 [some (.ref 49), some (.int x1), none] [] 0 0 T (J56 T)) : ∀ (n : Nat) (c2 : Int32) (S : AS), V G md_Course_die (QM G md_Course_die iV) (fun _ => True) (some none) 19 [some (.ref 49), some (.int x1), some (.int c2)] [] 0 0 S (f_Course_die_L19 J56 x1 n c2 S) := by
  intro n
  induction n with
  | zero => intro c2 S; exact V.none
  | succ n ih =>
    intro c2 S
    rw [f_Course_die_L19]
    refine x_iload_n d_Course_die_19 rfl ?_
    refine x_aload_n_ref d_Course_die_20 rfl ?_
    refine x_getr d_Course_die_21 fl_Course_48 ak_49 (q99 (by decide)) (shx sh_49_1) ?_
    refine x_geti d_Course_die_24 fl_Course_170 ak_23 (q99 (by decide)) ?_
    refine x_icmp_ge (tgt := 56) d_Course_die_27 (by decide) (fun _ => ?_) (fun _ => ?_)
    · exact V.kw (kJ56 S) ⟨rfl, rfl, trivial⟩
    · refine x_aload_n_ref d_Course_die_30 rfl ?_
      refine x_getr d_Course_die_31 fl_Course_48 ak_49 (q99 (by decide)) (shx sh_49_1) ?_
      refine x_getr d_Course_die_34 fl_Course_158 ak_23 (q99 (by decide)) (shx sh_23_0) ?_
      refine x_iload_n d_Course_die_37 rfl ?_
      refine x_iald d_Course_die_38 ak_24 (q99 (by decide)) ?_
      refine x_iload_n d_Course_die_39 rfl ?_
      refine x_nm (fun J50 hJ50 => ?_)
      have kJ50 : ∀ (S7 : AS), V G md_Course_die (QM G md_Course_die iV) (fun _ => True) (some none) 50 [some (.ref 49), some (.int x1), some (.int c2)] [] 0 0 S7 (J50 S7) := by
        subst hJ50
        intro S7
        refine x_iinc (w := c2 + 1) (lc' := [some (.ref 49), some (.int x1), some (.int (c2 + 1))]) d_Course_die_50 (by decide) rfl rfl rfl ?_
        refine x_goto (tgt := 19) d_Course_die_53 (by decide) ?_
        exact V.kw (ih (c2 + 1) S7) ⟨rfl, rfl, rfl, trivial⟩
      clear hJ50
      refine x_icmp_ne (tgt := 50) d_Course_die_40 (by decide) (fun _ => ?_) (fun _ => ?_)
      · exact V.kw (kJ50 S) ⟨rfl, rfl, rfl, trivial⟩
      · refine x_aload_n_ref d_Course_die_43 rfl ?_
        refine x_getr d_Course_die_44 fl_Course_29 ak_49 (q99 (by decide)) (shx sh_49_9) ?_
        refine x_iload_n d_Course_die_47 rfl ?_
        refine x_iconst (v := 0) d_Course_die_48 (by decide) ?_
        refine x_zast d_Course_die_49 ak_55 (q99 (by decide)) ?_
        refine x_nmS (fun S8 _ => ?_)
        exact V.kw (kJ50 S8) ⟨rfl, rfl, rfl, trivial⟩
set_option maxHeartbeats 4000000 in
theorem v_Course_die {G : GX} (p1 : Int32) (S : AS) : V G md_Course_die (QM G md_Course_die iV) (fun _ => True) (some none) 0 [some (.ref 49), some (.int p1), none] [] 0 0 S (f_Course_die p1 S) := by
  unfold f_Course_die
  refine x_aload_n_ref d_Course_die_0 rfl ?_
  refine x_getr d_Course_die_1 fl_Course_25 ak_49 (q99 (by decide)) (shx sh_49_8) ?_
  refine x_iload_n d_Course_die_4 rfl ?_
  refine x_zald d_Course_die_5 ak_54 (q99 (by decide)) ?_
  refine x_if_eq (tgt := 10) d_Course_die_6 (by decide) (fun _ => ?_) (fun _ => ?_)
  · refine x_aload_n_ref d_Course_die_10 rfl ?_
    refine x_getr d_Course_die_11 fl_Course_25 ak_49 (q99 (by decide)) (shx sh_49_8) ?_
    refine x_iload_n d_Course_die_14 rfl ?_
    refine x_iconst (v := 1) d_Course_die_15 (by decide) ?_
    refine x_zast d_Course_die_16 ak_54 (q99 (by decide)) ?_
    refine x_nmS (fun S1 _ => ?_)
    refine x_iconst (v := 0) d_Course_die_17 (by decide) ?_
    refine x_istore_n (lc' := [some (.ref 49), some (.int p1), some (.int 0)]) d_Course_die_18 (by decide) rfl ?_
    refine x_nm (fun J56 hJ56 => ?_)
    have kJ56 : ∀ (S2 : AS), V G md_Course_die (QM G md_Course_die iV) (fun _ => True) (some none) 56 [some (.ref 49), some (.int p1), none] [] 0 0 S2 (J56 S2) := by
      subst hJ56
      intro S2
      refine x_iconst (v := 0) d_Course_die_56 (by decide) ?_
      refine x_istore_n (lc' := [some (.ref 49), some (.int p1), some (.int 0)]) d_Course_die_57 (by decide) rfl ?_
      refine x_nm (fun J96 hJ96 => ?_)
      have kJ96 : ∀ (S3 : AS), V G md_Course_die (QM G md_Course_die iV) (fun _ => True) (some none) 96 [none, none, none] [] 0 0 S3 (J96 S3) := by
        subst hJ96
        intro S3
        exact x_vret d_Course_die_96 rfl (Nat.le_of_ble_eq_true rfl) (Nat.le_of_ble_eq_true rfl)
      clear hJ96
      exact V.kw (v_Course_die_L58 J96 p1 kJ96 FU 0 S2) ⟨rfl, rfl, rfl, trivial⟩
    clear hJ56
    exact V.kw (v_Course_die_L19 J56 p1 kJ56 FU 0 S1) ⟨rfl, rfl, rfl, trivial⟩
  · exact x_vret d_Course_die_9 rfl (Nat.le_of_ble_eq_true rfl) (Nat.le_of_ble_eq_true rfl)
theorem c_Course_die {G : GX} (p1 : Int32) (S : AS) : CN G y_Course_die b_Course_die 3 none ({ frames := 4, cells := 0, slots := 0, locals := 97 } : Room) (some none) iV [.ref 49, .int p1] S (f_Course_die p1 S) := cn_of_v (M := md_Course_die) (ini := false) rfl (by decide +kernel) (fun h => nomatch h) rfl (Nat.le_of_ble_eq_true rfl) (v_Course_die p1 S)
noncomputable def f_Course_leaveTo (p1 : Int32) (p2 : Int32) (S : AS) : Option AS := chk (vp_in p1 16) (if (gi S 50 (ix p1)) = (-1) then (some S) else (bV (f_Course_give p1 (-1) S) fun S1 => bV (f_Course_loadFacts_58 p1 p2 (-1) S1) fun S2 => chk (vp_in p2 24) (nm (fun (S3 : AS) => bV (f_Course_fill p1 S3) fun S4 => some S4) fun J51 => if (gi S2 54 (ix p2)) = 0 then (obd (gr S2 49 15) fun q5 => bI (f_RuleBook_bars_58 q5 S2) fun r7 S6 => if r7 = 0 then (bV (f_Course_give p1 p2 S6) fun S8 => some S8) else (J51 S6)) else (J51 S2))))
set_option maxHeartbeats 4000000 in
theorem v_Course_leaveTo {G : GX} (p1 : Int32) (p2 : Int32) (S : AS) : V G md_Course_leaveTo (QM G md_Course_leaveTo iV) (fun _ => True) (some none) 0 [some (.ref 49), some (.int p1), some (.int p2)] [] 0 0 S (f_Course_leaveTo p1 p2 S) := by
  unfold f_Course_leaveTo
  refine x_aload_n_ref d_Course_leaveTo_0 rfl ?_
  refine x_getr d_Course_leaveTo_1 fl_Course_9 ak_49 (q99 (by decide)) (shx sh_49_4) ?_
  refine x_iload_n d_Course_leaveTo_4 rfl ?_
  refine x_iald d_Course_leaveTo_5 ak_50 (q99 (by decide)) ?_
  refine x_iconst (v := -1) d_Course_leaveTo_6 (by decide) ?_
  refine x_icmp_ne (tgt := 11) d_Course_leaveTo_7 (by decide) (fun _ => ?_) (fun _ => ?_)
  · refine x_aload_n_ref d_Course_leaveTo_11 rfl ?_
    refine x_iload_n d_Course_leaveTo_12 rfl ?_
    refine x_iconst (v := -1) d_Course_leaveTo_13 (by decide) ?_
    refine x_vV (b' := (some none)) (As := [.int p1, .int (-1)]) d_Course_leaveTo_14 mv_Course_173 rfl (fun _ => ak_49) rfl (q99 (by decide)) ⟨Nat.le_of_ble_eq_true rfl, Nat.le_of_ble_eq_true rfl⟩ (Nat.le_of_ble_eq_true rfl) ⟨Nat.le_of_ble_eq_true rfl, Nat.le_of_ble_eq_true rfl⟩ (fun _ h => h) (fun h => ⟨h, c_Course_give p1 (-1) _⟩) (fun S1 => ?_)
    refine x_aload_n_ref d_Course_leaveTo_17 rfl ?_
    refine x_aload_n_ref d_Course_leaveTo_18 rfl ?_
    refine x_getr d_Course_leaveTo_19 fl_Course_38 ak_49 (q99 (by decide)) (shx sh_49_12) ?_
    refine x_iload_n d_Course_leaveTo_22 rfl ?_
    refine x_iload_n d_Course_leaveTo_23 rfl ?_
    refine x_iconst (v := -1) d_Course_leaveTo_24 (by decide) ?_
    refine x_vV (b' := (some none)) (As := [.ref 58, .int p1, .int p2, .int (-1)]) d_Course_leaveTo_25 mv_Course_178 rfl (fun _ => ak_49) rfl (q99 (by decide)) ⟨Nat.le_of_ble_eq_true rfl, Nat.le_of_ble_eq_true rfl⟩ (Nat.le_of_ble_eq_true rfl) ⟨Nat.le_of_ble_eq_true rfl, Nat.le_of_ble_eq_true rfl⟩ (fun _ h => h) (fun h => ⟨h, c_Course_loadFacts_58 p1 p2 (-1) _⟩) (fun S2 => ?_)
    refine x_aload_n_ref d_Course_leaveTo_28 rfl ?_
    refine x_getr d_Course_leaveTo_29 fl_Course_25 ak_49 (q99 (by decide)) (shx sh_49_8) ?_
    refine x_iload_n d_Course_leaveTo_32 rfl ?_
    refine x_zald d_Course_leaveTo_33 ak_54 (q99 (by decide)) ?_
    refine x_nm (fun J51 hJ51 => ?_)
    have kJ51 : ∀ (S3 : AS), V G md_Course_leaveTo (QM G md_Course_leaveTo iV) (fun _ => True) (some none) 51 [some (.ref 49), some (.int p1), none] [] 0 0 S3 (J51 S3) := by
      subst hJ51
      intro S3
      refine x_aload_n_ref d_Course_leaveTo_51 rfl ?_
      refine x_iload_n d_Course_leaveTo_52 rfl ?_
      refine x_vV (b' := (some none)) (As := [.int p1]) d_Course_leaveTo_53 mv_Course_176 rfl (fun _ => ak_49) rfl (q99 (by decide)) ⟨Nat.le_of_ble_eq_true rfl, Nat.le_of_ble_eq_true rfl⟩ (Nat.le_of_ble_eq_true rfl) ⟨Nat.le_of_ble_eq_true rfl, Nat.le_of_ble_eq_true rfl⟩ (fun _ h => h) (fun h => ⟨h, c_Course_fill p1 _⟩) (fun S4 => ?_)
      refine x_goto (tgt := 65) d_Course_leaveTo_56 (by decide) ?_
      exact x_vret d_Course_leaveTo_65 rfl (Nat.le_of_ble_eq_true rfl) (Nat.le_of_ble_eq_true rfl)
    clear hJ51
    refine x_if_ne (tgt := 51) d_Course_leaveTo_34 (by decide) (fun _ => ?_) (fun _ => ?_)
    · exact V.kw (kJ51 S2) ⟨rfl, rfl, trivial⟩
    · refine x_aload_n_ref d_Course_leaveTo_37 rfl ?_
      refine x_geto d_Course_leaveTo_38 fl_Course_66 ak_49 (q99 (by decide)) (fun q5 hq5 => ?_)
      refine x_aload_n_ref d_Course_leaveTo_41 rfl ?_
      refine x_getr d_Course_leaveTo_42 fl_Course_38 ak_49 (q99 (by decide)) (shx sh_49_12) ?_
      refine x_vI (b' := (some (some q5))) (As := [.ref 58]) d_Course_leaveTo_45 mv_Course_182 rfl (fun h => (ak_q q5 0 (bk_rules hq5 h).q (by decide))) rfl (fun h => bq_lt (q := q5) (i := 0) (by decide) (sp_bk (bk_rules hq5 h) h)) ⟨Nat.le_of_ble_eq_true rfl, Nat.le_of_ble_eq_true rfl⟩ (Nat.le_of_ble_eq_true rfl) ⟨Nat.le_of_ble_eq_true rfl, Nat.le_of_ble_eq_true rfl⟩ (fun _ h => h.1) (fun h => ⟨sp_bk (bk_rules hq5 h) h, c_RuleBook_bars_58 q5 (bk_rules hq5 h).q _⟩) (fun r7 S6 => ?_)
      refine x_if_eq (tgt := 59) d_Course_leaveTo_48 (by decide) (fun _ => ?_) (fun _ => ?_)
      · refine x_aload_n_ref d_Course_leaveTo_59 rfl ?_
        refine x_iload_n d_Course_leaveTo_60 rfl ?_
        refine x_iload_n d_Course_leaveTo_61 rfl ?_
        refine x_vV (b' := (some none)) (As := [.int p1, .int p2]) d_Course_leaveTo_62 mv_Course_173 rfl (fun _ => ak_49) rfl (q99 (by decide)) ⟨Nat.le_of_ble_eq_true rfl, Nat.le_of_ble_eq_true rfl⟩ (Nat.le_of_ble_eq_true rfl) ⟨Nat.le_of_ble_eq_true rfl, Nat.le_of_ble_eq_true rfl⟩ (fun _ h => h) (fun h => ⟨h, c_Course_give p1 p2 _⟩) (fun S8 => ?_)
        exact x_vret d_Course_leaveTo_65 rfl (Nat.le_of_ble_eq_true rfl) (Nat.le_of_ble_eq_true rfl)
      · exact V.kw (kJ51 S6) ⟨rfl, rfl, trivial⟩
  · exact x_vret d_Course_leaveTo_10 rfl (Nat.le_of_ble_eq_true rfl) (Nat.le_of_ble_eq_true rfl)
theorem c_Course_leaveTo {G : GX} (p1 : Int32) (p2 : Int32) (S : AS) : CN G y_Course_leaveTo b_Course_leaveTo 3 none ({ frames := 4, cells := 0, slots := 0, locals := 97 } : Room) (some none) iV [.ref 49, .int p1, .int p2] S (f_Course_leaveTo p1 p2 S) := cn_of_v (M := md_Course_leaveTo) (ini := false) rfl (by decide +kernel) (fun h => nomatch h) rfl (Nat.le_of_ble_eq_true rfl) (v_Course_leaveTo p1 p2 S)
noncomputable def f_Course_changePlaces (p1 : Int32) (p2 : Int32) (S : AS) : Option AS := chk (vp_in p1 16) (nm (gi S 50 (ix p1)) fun v1 => chk (vp_in p2 16) (nm (gi S 50 (ix p2)) fun v2 => if v1 = (-1) then (some S) else (if v2 = (-1) then (some S) else (bV (f_Course_give p1 v2 S) fun S3 => bV (f_Course_give p2 v1 S3) fun S4 => some S4))))
set_option maxHeartbeats 4000000 in
theorem v_Course_changePlaces {G : GX} (p1 : Int32) (p2 : Int32) (S : AS) : V G md_Course_changePlaces (QM G md_Course_changePlaces iV) (fun _ => True) (some none) 0 [some (.ref 49), some (.int p1), some (.int p2), none, none] [] 0 0 S (f_Course_changePlaces p1 p2 S) := by
  unfold f_Course_changePlaces
  refine x_aload_n_ref d_Course_changePlaces_0 rfl ?_
  refine x_getr d_Course_changePlaces_1 fl_Course_9 ak_49 (q99 (by decide)) (shx sh_49_4) ?_
  refine x_iload_n d_Course_changePlaces_4 rfl ?_
  refine x_iald d_Course_changePlaces_5 ak_50 (q99 (by decide)) ?_
  refine x_topi (fun v1 => ?_)
  refine x_istore_n (lc' := [some (.ref 49), some (.int p1), some (.int p2), some (.int v1), none]) d_Course_changePlaces_6 (by decide) rfl ?_
  refine x_aload_n_ref d_Course_changePlaces_7 rfl ?_
  refine x_getr d_Course_changePlaces_8 fl_Course_9 ak_49 (q99 (by decide)) (shx sh_49_4) ?_
  refine x_iload_n d_Course_changePlaces_11 rfl ?_
  refine x_iald d_Course_changePlaces_12 ak_50 (q99 (by decide)) ?_
  refine x_topi (fun v2 => ?_)
  refine x_istore (lc' := [some (.ref 49), some (.int p1), some (.int p2), some (.int v1), some (.int v2)]) d_Course_changePlaces_13 (by decide) rfl ?_
  refine x_iload_n d_Course_changePlaces_15 rfl ?_
  refine x_iconst (v := -1) d_Course_changePlaces_16 (by decide) ?_
  refine x_icmp_eq (tgt := 39) d_Course_changePlaces_17 (by decide) (fun _ => ?_) (fun _ => ?_)
  · exact x_vret d_Course_changePlaces_39 rfl (Nat.le_of_ble_eq_true rfl) (Nat.le_of_ble_eq_true rfl)
  · refine x_iload d_Course_changePlaces_20 rfl ?_
    refine x_iconst (v := -1) d_Course_changePlaces_22 (by decide) ?_
    refine x_icmp_eq (tgt := 39) d_Course_changePlaces_23 (by decide) (fun _ => ?_) (fun _ => ?_)
    · exact x_vret d_Course_changePlaces_39 rfl (Nat.le_of_ble_eq_true rfl) (Nat.le_of_ble_eq_true rfl)
    · refine x_aload_n_ref d_Course_changePlaces_26 rfl ?_
      refine x_iload_n d_Course_changePlaces_27 rfl ?_
      refine x_iload d_Course_changePlaces_28 rfl ?_
      refine x_vV (b' := (some none)) (As := [.int p1, .int v2]) d_Course_changePlaces_30 mv_Course_173 rfl (fun _ => ak_49) rfl (q99 (by decide)) ⟨Nat.le_of_ble_eq_true rfl, Nat.le_of_ble_eq_true rfl⟩ (Nat.le_of_ble_eq_true rfl) ⟨Nat.le_of_ble_eq_true rfl, Nat.le_of_ble_eq_true rfl⟩ (fun _ h => h) (fun h => ⟨h, c_Course_give p1 v2 _⟩) (fun S3 => ?_)
      refine x_aload_n_ref d_Course_changePlaces_33 rfl ?_
      refine x_iload_n d_Course_changePlaces_34 rfl ?_
      refine x_iload_n d_Course_changePlaces_35 rfl ?_
      refine x_vV (b' := (some none)) (As := [.int p2, .int v1]) d_Course_changePlaces_36 mv_Course_173 rfl (fun _ => ak_49) rfl (q99 (by decide)) ⟨Nat.le_of_ble_eq_true rfl, Nat.le_of_ble_eq_true rfl⟩ (Nat.le_of_ble_eq_true rfl) ⟨Nat.le_of_ble_eq_true rfl, Nat.le_of_ble_eq_true rfl⟩ (fun _ h => h) (fun h => ⟨h, c_Course_give p2 v1 _⟩) (fun S4 => ?_)
      exact x_vret d_Course_changePlaces_39 rfl (Nat.le_of_ble_eq_true rfl) (Nat.le_of_ble_eq_true rfl)
theorem c_Course_changePlaces {G : GX} (p1 : Int32) (p2 : Int32) (S : AS) : CN G y_Course_changePlaces b_Course_changePlaces 5 none ({ frames := 2, cells := 0, slots := 0, locals := 44 } : Room) (some none) iV [.ref 49, .int p1, .int p2] S (f_Course_changePlaces p1 p2 S) := cn_of_v (M := md_Course_changePlaces) (ini := false) rfl (by decide +kernel) (fun h => nomatch h) rfl (Nat.le_of_ble_eq_true rfl) (v_Course_changePlaces p1 p2 S)
noncomputable def f_Course_happen (p1 : Int32) (p2 : Int32) (S : AS) : Option AS := chk (vp_in p1 161) (nm (gi S 35 (ix p1)) fun v1 => chk (vp_in p1 161) (nm (gi S 36 (ix p1)) fun v2 => chk (vp_in p1 161) (if (gi S 33 (ix p1)) = 0 then (bI (f_PaperBox_isVoid v1 p2 S) fun r4 S3 => if r4 = 0 then (bV (f_Course_comeAlive v1 S3) fun S5 => some S5) else (some S3)) else (if (gi S 33 (ix p1)) = 1 then (bV (f_Course_die v1 S) fun S6 => some S6) else (if (gi S 33 (ix p1)) = 2 then (bV (f_Course_leaveTo v1 v2 S) fun S7 => some S7) else (if (gi S 33 (ix p1)) = 3 then (bV (f_Course_changePlaces v1 v2 S) fun S8 => some S8) else (some S)))))))
set_option maxHeartbeats 4000000 in
theorem v_Course_happen {G : GX} (p1 : Int32) (p2 : Int32) (S : AS) : V G md_Course_happen (QM G md_Course_happen iV) (fun _ => True) (some none) 0 [some (.ref 49), some (.int p1), some (.int p2), none, none] [] 0 0 S (f_Course_happen p1 p2 S) := by
  unfold f_Course_happen
  refine x_aload_n_ref d_Course_happen_0 rfl ?_
  refine x_getr d_Course_happen_1 fl_Course_52 ak_49 (q99 (by decide)) (shx sh_49_2) ?_
  refine x_getr d_Course_happen_4 fl_Course_131 ak_32 (q99 (by decide)) (shx sh_32_2) ?_
  refine x_iload_n d_Course_happen_7 rfl ?_
  refine x_iald d_Course_happen_8 ak_35 (q99 (by decide)) ?_
  refine x_topi (fun v1 => ?_)
  refine x_istore_n (lc' := [some (.ref 49), some (.int p1), some (.int p2), some (.int v1), none]) d_Course_happen_9 (by decide) rfl ?_
  refine x_aload_n_ref d_Course_happen_10 rfl ?_
  refine x_getr d_Course_happen_11 fl_Course_52 ak_49 (q99 (by decide)) (shx sh_49_2) ?_
  refine x_getr d_Course_happen_14 fl_Course_134 ak_32 (q99 (by decide)) (shx sh_32_3) ?_
  refine x_iload_n d_Course_happen_17 rfl ?_
  refine x_iald d_Course_happen_18 ak_36 (q99 (by decide)) ?_
  refine x_topi (fun v2 => ?_)
  refine x_istore (lc' := [some (.ref 49), some (.int p1), some (.int p2), some (.int v1), some (.int v2)]) d_Course_happen_19 (by decide) rfl ?_
  refine x_aload_n_ref d_Course_happen_21 rfl ?_
  refine x_getr d_Course_happen_22 fl_Course_52 ak_49 (q99 (by decide)) (shx sh_49_2) ?_
  refine x_getr d_Course_happen_25 fl_Course_137 ak_32 (q99 (by decide)) (shx sh_32_0) ?_
  refine x_iload_n d_Course_happen_28 rfl ?_
  refine x_iald d_Course_happen_29 ak_33 (q99 (by decide)) ?_
  refine x_ite (fun hs12 => ?_) (fun hs12 => ?_)
  · refine x_tsw_in (c := 0) (tgt := 60) d_Course_happen_30 hs12 (by decide) (by decide) rfl (by decide) ?_
    refine x_aload_n_ref d_Course_happen_60 rfl ?_
    refine x_getr d_Course_happen_61 fl_Course_48 ak_49 (q99 (by decide)) (shx sh_49_1) ?_
    refine x_iload_n d_Course_happen_64 rfl ?_
    refine x_iload_n d_Course_happen_65 rfl ?_
    refine x_vI (b' := (some none)) (As := [.int v1, .int p2]) d_Course_happen_66 mv_Course_140 rfl (fun _ => ak_23) rfl (q99 (by decide)) ⟨Nat.le_of_ble_eq_true rfl, Nat.le_of_ble_eq_true rfl⟩ (Nat.le_of_ble_eq_true rfl) ⟨Nat.le_of_ble_eq_true rfl, Nat.le_of_ble_eq_true rfl⟩ (fun _ h => h) (fun h => ⟨h, c_PaperBox_isVoid v1 p2 _⟩) (fun r4 S3 => ?_)
    refine x_if_ne (tgt := 108) d_Course_happen_69 (by decide) (fun _ => ?_) (fun _ => ?_)
    · exact x_vret d_Course_happen_108 rfl (Nat.le_of_ble_eq_true rfl) (Nat.le_of_ble_eq_true rfl)
    · refine x_aload_n_ref d_Course_happen_72 rfl ?_
      refine x_iload_n d_Course_happen_73 rfl ?_
      refine x_vV (b' := (some none)) (As := [.int v1]) d_Course_happen_74 mv_Course_146 rfl (fun _ => ak_49) rfl (q99 (by decide)) ⟨Nat.le_of_ble_eq_true rfl, Nat.le_of_ble_eq_true rfl⟩ (Nat.le_of_ble_eq_true rfl) ⟨Nat.le_of_ble_eq_true rfl, Nat.le_of_ble_eq_true rfl⟩ (fun _ h => h) (fun h => ⟨h, c_Course_comeAlive v1 _⟩) (fun S5 => ?_)
      refine x_goto (tgt := 108) d_Course_happen_77 (by decide) ?_
      exact x_vret d_Course_happen_108 rfl (Nat.le_of_ble_eq_true rfl) (Nat.le_of_ble_eq_true rfl)
  · refine x_ite (fun hs11 => ?_) (fun hs11 => ?_)
    · refine x_tsw_in (c := 1) (tgt := 80) d_Course_happen_30 hs11 (by decide) (by decide) rfl (by decide) ?_
      refine x_aload_n_ref d_Course_happen_80 rfl ?_
      refine x_iload_n d_Course_happen_81 rfl ?_
      refine x_vV (b' := (some none)) (As := [.int v1]) d_Course_happen_82 mv_Course_149 rfl (fun _ => ak_49) rfl (q99 (by decide)) ⟨Nat.le_of_ble_eq_true rfl, Nat.le_of_ble_eq_true rfl⟩ (Nat.le_of_ble_eq_true rfl) ⟨Nat.le_of_ble_eq_true rfl, Nat.le_of_ble_eq_true rfl⟩ (fun _ h => h) (fun h => ⟨h, c_Course_die v1 _⟩) (fun S6 => ?_)
      refine x_goto (tgt := 108) d_Course_happen_85 (by decide) ?_
      exact x_vret d_Course_happen_108 rfl (Nat.le_of_ble_eq_true rfl) (Nat.le_of_ble_eq_true rfl)
    · refine x_ite (fun hs10 => ?_) (fun hs10 => ?_)
      · refine x_tsw_in (c := 2) (tgt := 88) d_Course_happen_30 hs10 (by decide) (by decide) rfl (by decide) ?_
        refine x_aload_n_ref d_Course_happen_88 rfl ?_
        refine x_iload_n d_Course_happen_89 rfl ?_
        refine x_iload d_Course_happen_90 rfl ?_
        refine x_vV (b' := (some none)) (As := [.int v1, .int v2]) d_Course_happen_92 mv_Course_152 rfl (fun _ => ak_49) rfl (q99 (by decide)) ⟨Nat.le_of_ble_eq_true rfl, Nat.le_of_ble_eq_true rfl⟩ (Nat.le_of_ble_eq_true rfl) ⟨Nat.le_of_ble_eq_true rfl, Nat.le_of_ble_eq_true rfl⟩ (fun _ h => h) (fun h => ⟨h, c_Course_leaveTo v1 v2 _⟩) (fun S7 => ?_)
        refine x_goto (tgt := 108) d_Course_happen_95 (by decide) ?_
        exact x_vret d_Course_happen_108 rfl (Nat.le_of_ble_eq_true rfl) (Nat.le_of_ble_eq_true rfl)
      · refine x_ite (fun hs9 => ?_) (fun hs9 => ?_)
        · refine x_tsw_in (c := 3) (tgt := 98) d_Course_happen_30 hs9 (by decide) (by decide) rfl (by decide) ?_
          refine x_aload_n_ref d_Course_happen_98 rfl ?_
          refine x_iload_n d_Course_happen_99 rfl ?_
          refine x_iload d_Course_happen_100 rfl ?_
          refine x_vV (b' := (some none)) (As := [.int v1, .int v2]) d_Course_happen_102 mv_Course_155 rfl (fun _ => ak_49) rfl (q99 (by decide)) ⟨Nat.le_of_ble_eq_true rfl, Nat.le_of_ble_eq_true rfl⟩ (Nat.le_of_ble_eq_true rfl) ⟨Nat.le_of_ble_eq_true rfl, Nat.le_of_ble_eq_true rfl⟩ (fun _ h => h) (fun h => ⟨h, c_Course_changePlaces v1 v2 _⟩) (fun S8 => ?_)
          refine x_goto (tgt := 108) d_Course_happen_105 (by decide) ?_
          exact x_vret d_Course_happen_108 rfl (Nat.le_of_ble_eq_true rfl) (Nat.le_of_ble_eq_true rfl)
        · refine x_tsw_out (n := 4) (tgt := 108) d_Course_happen_30 (by decide) (fun j hj => by rcases (by omega : j = 0 ∨ j = 1 ∨ j = 2 ∨ j = 3) with rfl | rfl | rfl | rfl <;> assumption) (by decide) ?_
          exact x_vret d_Course_happen_108 rfl (Nat.le_of_ble_eq_true rfl) (Nat.le_of_ble_eq_true rfl)
theorem c_Course_happen {G : GX} (p1 : Int32) (p2 : Int32) (S : AS) : CN G y_Course_happen b_Course_happen 5 none ({ frames := 5, cells := 0, slots := 0, locals := 119 } : Room) (some none) iV [.ref 49, .int p1, .int p2] S (f_Course_happen p1 p2 S) := cn_of_v (M := md_Course_happen) (ini := false) rfl (by decide +kernel) (fun h => nomatch h) rfl (Nat.le_of_ble_eq_true rfl) (v_Course_happen p1 p2 S)
noncomputable def f_Course_tell_L37 (J109 : AS → Option AS) (J73 : AS → Option AS) (x1 : Int32) (x2 : Int32) : Nat → Int32 → AS → Option AS
  | 0, _, _ => none
  | n + 1, c3, S => if (gi S 32 6) ≤ c3 then (J109 S) else (chk (vp_in c3 160) (nm (gi S 37 (ix c3)) fun v9 => chk (vp_in v9 161) (if (gi S 34 (ix v9)) ≤ x2 then (nm (fun (S10 : AS) => f_Course_tell_L37 J109 J73 x1 x2 n (c3 + 1) S10) fun J103 => if x1 < v9 then (J103 S) else (chk (vp_in v9 161) (bV (f_Course_goTo (gi S 34 (ix v9)) S) fun S11 => bV (f_Course_happen v9 x1 S11) fun S12 => J103 S12))) else (J73 S))))
noncomputable def f_Course_tell (p1 : Int32) (p2 : Int32) (S : AS) : Option AS := nm (fun (S1 : AS) => bV (f_Course_begin S1) fun S2 => nm (fun (S3 : AS) => bV (f_Course_goTo p2 S3) fun S4 => nm (si S4 49 16 (gi S4 16 8)) fun S5 => nm (si S5 49 17 p1) fun S6 => nm (si S6 49 18 p2) fun S7 => some S7) fun J109 => nm (fun (S8 : AS) => J109 S8) fun J73 => f_Course_tell_L37 J109 J73 p1 p2 FU 0 S2) fun J31 => if (gi S 49 16) = (gi S 16 8) then (if (gi S 49 17) = p1 then (if (gi S 49 18) = p2 then (some S) else (J31 S)) else (J31 S)) else (J31 S)
set_option maxHeartbeats 4000000 in
theorem v_Course_tell_L37 {G : GX} (J109 : AS → Option AS) (J73 : AS → Option AS) (x1 : Int32) (x2 : Int32) (kJ109 : ∀ (T : AS), V G md_Course_tell (QM G md_Course_tell iV) (fun _ => True) (some none) 109 [some (.ref 49), some (.int x1), some (.int x2), none, none] [] 0 0 T (J109 T)) (kJ73 : ∀ (T : AS), V G md_Course_tell (QM G md_Course_tell iV) (fun _ => True) (some none) 73 [some (.ref 49), some (.int x1), some (.int x2), none, none] [] 0 0 T (J73 T)) : ∀ (n : Nat) (c3 : Int32) (S : AS), V G md_Course_tell (QM G md_Course_tell iV) (fun _ => True) (some none) 37 [some (.ref 49), some (.int x1), some (.int x2), some (.int c3), none] [] 0 0 S (f_Course_tell_L37 J109 J73 x1 x2 n c3 S) := by
  intro n
  induction n with
  | zero => intro c3 S; exact V.none
  | succ n ih =>
    intro c3 S
    rw [f_Course_tell_L37]
    refine x_iload_n d_Course_tell_37 rfl ?_
    refine x_aload_n_ref d_Course_tell_38 rfl ?_
    refine x_getr d_Course_tell_39 fl_Course_52 ak_49 (q99 (by decide)) (shx sh_49_2) ?_
    refine x_geti d_Course_tell_42 fl_Course_87 ak_32 (q99 (by decide)) ?_
    refine x_icmp_ge (tgt := 109) d_Course_tell_45 (by decide) (fun _ => ?_) (fun _ => ?_)
    · exact V.kw (kJ109 S) ⟨rfl, rfl, rfl, trivial⟩
    · refine x_aload_n_ref d_Course_tell_48 rfl ?_
      refine x_getr d_Course_tell_49 fl_Course_52 ak_49 (q99 (by decide)) (shx sh_49_2) ?_
      refine x_getr d_Course_tell_52 fl_Course_92 ak_32 (q99 (by decide)) (shx sh_32_5) ?_
      refine x_iload_n d_Course_tell_55 rfl ?_
      refine x_iald d_Course_tell_56 ak_37 (q99 (by decide)) ?_
      refine x_topi (fun v9 => ?_)
      refine x_istore (lc' := [some (.ref 49), some (.int x1), some (.int x2), some (.int c3), some (.int v9)]) d_Course_tell_57 (by decide) rfl ?_
      refine x_aload_n_ref d_Course_tell_59 rfl ?_
      refine x_getr d_Course_tell_60 fl_Course_52 ak_49 (q99 (by decide)) (shx sh_49_2) ?_
      refine x_getr d_Course_tell_63 fl_Course_95 ak_32 (q99 (by decide)) (shx sh_32_1) ?_
      refine x_iload d_Course_tell_66 rfl ?_
      refine x_iald d_Course_tell_68 ak_34 (q99 (by decide)) ?_
      refine x_iload_n d_Course_tell_69 rfl ?_
      refine x_icmp_le (tgt := 76) d_Course_tell_70 (by decide) (fun _ => ?_) (fun _ => ?_)
      · refine x_iload d_Course_tell_76 rfl ?_
        refine x_iload_n d_Course_tell_78 rfl ?_
        refine x_nm (fun J103 hJ103 => ?_)
        have kJ103 : ∀ (S10 : AS), V G md_Course_tell (QM G md_Course_tell iV) (fun _ => True) (some none) 103 [some (.ref 49), some (.int x1), some (.int x2), some (.int c3), none] [] 0 0 S10 (J103 S10) := by
          subst hJ103
          intro S10
          refine x_iinc (w := c3 + 1) (lc' := [some (.ref 49), some (.int x1), some (.int x2), some (.int (c3 + 1)), none]) d_Course_tell_103 (by decide) rfl rfl rfl ?_
          refine x_goto (tgt := 37) d_Course_tell_106 (by decide) ?_
          exact V.kw (ih (c3 + 1) S10) ⟨rfl, rfl, rfl, rfl, trivial⟩
        clear hJ103
        refine x_icmp_gt (tgt := 103) d_Course_tell_79 (by decide) (fun _ => ?_) (fun _ => ?_)
        · exact V.kw (kJ103 S) ⟨rfl, rfl, rfl, rfl, trivial⟩
        · refine x_aload_n_ref d_Course_tell_82 rfl ?_
          refine x_aload_n_ref d_Course_tell_83 rfl ?_
          refine x_getr d_Course_tell_84 fl_Course_52 ak_49 (q99 (by decide)) (shx sh_49_2) ?_
          refine x_getr d_Course_tell_87 fl_Course_95 ak_32 (q99 (by decide)) (shx sh_32_1) ?_
          refine x_iload d_Course_tell_90 rfl ?_
          refine x_iald d_Course_tell_92 ak_34 (q99 (by decide)) ?_
          refine x_vV (b' := (some none)) (As := [.int (gi S 34 (ix v9))]) d_Course_tell_93 mv_Course_98 rfl (fun _ => ak_49) rfl (q99 (by decide)) ⟨Nat.le_of_ble_eq_true rfl, Nat.le_of_ble_eq_true rfl⟩ (Nat.le_of_ble_eq_true rfl) ⟨Nat.le_of_ble_eq_true rfl, Nat.le_of_ble_eq_true rfl⟩ (fun _ h => h) (fun h => ⟨h, c_Course_goTo (gi S 34 (ix v9)) _⟩) (fun S11 => ?_)
          refine x_aload_n_ref d_Course_tell_96 rfl ?_
          refine x_iload d_Course_tell_97 rfl ?_
          refine x_iload_n d_Course_tell_99 rfl ?_
          refine x_vV (b' := (some none)) (As := [.int v9, .int x1]) d_Course_tell_100 mv_Course_102 rfl (fun _ => ak_49) rfl (q99 (by decide)) ⟨Nat.le_of_ble_eq_true rfl, Nat.le_of_ble_eq_true rfl⟩ (Nat.le_of_ble_eq_true rfl) ⟨Nat.le_of_ble_eq_true rfl, Nat.le_of_ble_eq_true rfl⟩ (fun _ h => h) (fun h => ⟨h, c_Course_happen v9 x1 _⟩) (fun S12 => ?_)
          exact V.kw (kJ103 S12) ⟨rfl, rfl, rfl, rfl, trivial⟩
      · exact V.kw (kJ73 S) ⟨rfl, rfl, rfl, trivial⟩
set_option maxHeartbeats 4000000 in
theorem v_Course_tell {G : GX} (p1 : Int32) (p2 : Int32) (S : AS) : V G md_Course_tell (QM G md_Course_tell iV) (fun _ => True) (some none) 0 [some (.ref 49), some (.int p1), some (.int p2), none, none] [] 0 0 S (f_Course_tell p1 p2 S) := by
  unfold f_Course_tell
  refine x_aload_n_ref d_Course_tell_0 rfl ?_
  refine x_geti d_Course_tell_1 fl_Course_69 ak_49 (q99 (by decide)) ?_
  refine x_aload_n_ref d_Course_tell_4 rfl ?_
  refine x_getr d_Course_tell_5 fl_Course_44 ak_49 (q99 (by decide)) (shx sh_49_0) ?_
  refine x_geti d_Course_tell_8 fl_Course_73 ak_16 (q99 (by decide)) ?_
  refine x_nm (fun J31 hJ31 => ?_)
  have kJ31 : ∀ (S1 : AS), V G md_Course_tell (QM G md_Course_tell iV) (fun _ => True) (some none) 31 [some (.ref 49), some (.int p1), some (.int p2), none, none] [] 0 0 S1 (J31 S1) := by
    subst hJ31
    intro S1
    refine x_aload_n_ref d_Course_tell_31 rfl ?_
    refine x_vV (b' := (some none)) (As := []) d_Course_tell_32 mv_Course_84 rfl (fun _ => ak_49) rfl (q99 (by decide)) ⟨Nat.le_of_ble_eq_true rfl, Nat.le_of_ble_eq_true rfl⟩ (Nat.le_of_ble_eq_true rfl) ⟨Nat.le_of_ble_eq_true rfl, Nat.le_of_ble_eq_true rfl⟩ (fun _ h => h) (fun h => ⟨h, c_Course_begin _⟩) (fun S2 => ?_)
    refine x_iconst (v := 0) d_Course_tell_35 (by decide) ?_
    refine x_istore_n (lc' := [some (.ref 49), some (.int p1), some (.int p2), some (.int 0), none]) d_Course_tell_36 (by decide) rfl ?_
    refine x_nm (fun J109 hJ109 => ?_)
    have kJ109 : ∀ (S3 : AS), V G md_Course_tell (QM G md_Course_tell iV) (fun _ => True) (some none) 109 [some (.ref 49), some (.int p1), some (.int p2), none, none] [] 0 0 S3 (J109 S3) := by
      subst hJ109
      intro S3
      refine x_aload_n_ref d_Course_tell_109 rfl ?_
      refine x_iload_n d_Course_tell_110 rfl ?_
      refine x_vV (b' := (some none)) (As := [.int p2]) d_Course_tell_111 mv_Course_98 rfl (fun _ => ak_49) rfl (q99 (by decide)) ⟨Nat.le_of_ble_eq_true rfl, Nat.le_of_ble_eq_true rfl⟩ (Nat.le_of_ble_eq_true rfl) ⟨Nat.le_of_ble_eq_true rfl, Nat.le_of_ble_eq_true rfl⟩ (fun _ h => h) (fun h => ⟨h, c_Course_goTo p2 _⟩) (fun S4 => ?_)
      refine x_aload_n_ref d_Course_tell_114 rfl ?_
      refine x_aload_n_ref d_Course_tell_115 rfl ?_
      refine x_getr d_Course_tell_116 fl_Course_44 ak_49 (q99 (by decide)) (shx sh_49_0) ?_
      refine x_geti d_Course_tell_119 fl_Course_73 ak_16 (q99 (by decide)) ?_
      refine x_puti d_Course_tell_122 fl_Course_69 rfl ak_49 (q99 (by decide)) (fun h => nomatch h) (fun h => nomatch h) ?_
      refine x_nmS (fun S5 _ => ?_)
      refine x_aload_n_ref d_Course_tell_125 rfl ?_
      refine x_iload_n d_Course_tell_126 rfl ?_
      refine x_puti d_Course_tell_127 fl_Course_78 rfl ak_49 (q99 (by decide)) (fun h => nomatch h) (fun h => nomatch h) ?_
      refine x_nmS (fun S6 _ => ?_)
      refine x_aload_n_ref d_Course_tell_130 rfl ?_
      refine x_iload_n d_Course_tell_131 rfl ?_
      refine x_puti d_Course_tell_132 fl_Course_81 rfl ak_49 (q99 (by decide)) (fun h => nomatch h) (fun h => nomatch h) ?_
      refine x_nmS (fun S7 _ => ?_)
      exact x_vret d_Course_tell_135 rfl (Nat.le_of_ble_eq_true rfl) (Nat.le_of_ble_eq_true rfl)
    clear hJ109
    refine x_nm (fun J73 hJ73 => ?_)
    have kJ73 : ∀ (S8 : AS), V G md_Course_tell (QM G md_Course_tell iV) (fun _ => True) (some none) 73 [some (.ref 49), some (.int p1), some (.int p2), none, none] [] 0 0 S8 (J73 S8) := by
      subst hJ73
      intro S8
      refine x_goto (tgt := 109) d_Course_tell_73 (by decide) ?_
      exact V.kw (kJ109 S8) ⟨rfl, rfl, rfl, trivial⟩
    clear hJ73
    exact V.kw (v_Course_tell_L37 J109 J73 p1 p2 kJ109 kJ73 FU 0 S2) ⟨rfl, rfl, rfl, rfl, trivial⟩
  clear hJ31
  refine x_icmp_ne (tgt := 31) d_Course_tell_11 (by decide) (fun _ => ?_) (fun _ => ?_)
  · exact V.kw (kJ31 S) ⟨rfl, rfl, rfl, trivial⟩
  · refine x_aload_n_ref d_Course_tell_14 rfl ?_
    refine x_geti d_Course_tell_15 fl_Course_78 ak_49 (q99 (by decide)) ?_
    refine x_iload_n d_Course_tell_18 rfl ?_
    refine x_icmp_ne (tgt := 31) d_Course_tell_19 (by decide) (fun _ => ?_) (fun _ => ?_)
    · exact V.kw (kJ31 S) ⟨rfl, rfl, rfl, trivial⟩
    · refine x_aload_n_ref d_Course_tell_22 rfl ?_
      refine x_geti d_Course_tell_23 fl_Course_81 ak_49 (q99 (by decide)) ?_
      refine x_iload_n d_Course_tell_26 rfl ?_
      refine x_icmp_ne (tgt := 31) d_Course_tell_27 (by decide) (fun _ => ?_) (fun _ => ?_)
      · exact V.kw (kJ31 S) ⟨rfl, rfl, rfl, trivial⟩
      · exact x_vret d_Course_tell_30 rfl (Nat.le_of_ble_eq_true rfl) (Nat.le_of_ble_eq_true rfl)
theorem c_Course_tell {G : GX} (p1 : Int32) (p2 : Int32) (S : AS) : CN G y_Course_tell b_Course_tell 5 none ({ frames := 6, cells := 0, slots := 0, locals := 143 } : Room) (some none) iV [.ref 49, .int p1, .int p2] S (f_Course_tell p1 p2 S) := cn_of_v (M := md_Course_tell) (ini := false) rfl (by decide +kernel) (fun h => nomatch h) rfl (Nat.le_of_ble_eq_true rfl) (v_Course_tell p1 p2 S)
noncomputable def f_Chan_holder (p1 : Int32) (p2 : Int32) (S : AS) : Option (Int32 × AS) := bI (f_Roll_isPost p1 S) fun r2 S1 => if r2 = 0 then (some ((-1), S1)) else (bI (f_Chan_isTime p2 S1) fun r4 S3 => if r4 = 0 then (some ((-1), S3)) else (bI (f_Chan_knownNow S3) fun r6 S5 => bV (f_Course_tell r6 p2 S5) fun S7 => chk (vp_in p1 16) (some (gi S7 50 (ix p1), S7))))
set_option maxHeartbeats 4000000 in
theorem v_Chan_holder {G : GX} (p1 : Int32) (p2 : Int32) (S : AS) : V G md_Chan_holder (QM G md_Chan_holder iI) (fun _ => True) (some none) 0 [some (.ref 0), some (.int p1), some (.int p2)] [] 0 0 S (f_Chan_holder p1 p2 S) := by
  unfold f_Chan_holder
  refine x_aload_n_ref d_Chan_holder_0 rfl ?_
  refine x_getr d_Chan_holder_1 fl_Chan_28 ak_0 (q99 (by decide)) (shx sh_0_2) ?_
  refine x_iload_n d_Chan_holder_4 rfl ?_
  refine x_vI (b' := (some none)) (As := [.int p1]) d_Chan_holder_5 mv_Chan_113 rfl (fun _ => ak_16) rfl (q99 (by decide)) ⟨Nat.le_of_ble_eq_true rfl, Nat.le_of_ble_eq_true rfl⟩ (Nat.le_of_ble_eq_true rfl) ⟨Nat.le_of_ble_eq_true rfl, Nat.le_of_ble_eq_true rfl⟩ (fun _ h => h) (fun h => ⟨h, c_Roll_isPost p1 _⟩) (fun r2 S1 => ?_)
  refine x_if_eq (tgt := 18) d_Chan_holder_8 (by decide) (fun _ => ?_) (fun _ => ?_)
  · refine x_iconst (v := -1) d_Chan_holder_18 (by decide) ?_
    exact x_ret d_Chan_holder_19 rfl rfl (Nat.le_of_ble_eq_true rfl) (Nat.le_of_ble_eq_true rfl)
  · refine x_iload_n d_Chan_holder_11 rfl ?_
    refine x_sI (b' := (some none)) (As := [.int p2]) d_Chan_holder_12 ms_Chan_129 rfl ⟨Nat.le_of_ble_eq_true rfl, Nat.le_of_ble_eq_true rfl⟩ (Nat.le_of_ble_eq_true rfl) ⟨Nat.le_of_ble_eq_true rfl, Nat.le_of_ble_eq_true rfl⟩ (fun _ h => h) (fun h => ⟨h, c_Chan_isTime p2 _⟩) (fun r4 S3 => ?_)
    refine x_if_ne (tgt := 20) d_Chan_holder_15 (by decide) (fun _ => ?_) (fun _ => ?_)
    · refine x_aload_n_ref d_Chan_holder_20 rfl ?_
      refine x_getr d_Chan_holder_21 fl_Chan_58 ak_0 (q99 (by decide)) (shx sh_0_6) ?_
      refine x_aload_n_ref d_Chan_holder_24 rfl ?_
      refine x_vI (b' := (some none)) (As := []) d_Chan_holder_25 mv_Chan_172 rfl (fun _ => ak_0) rfl (q99 (by decide)) ⟨Nat.le_of_ble_eq_true rfl, Nat.le_of_ble_eq_true rfl⟩ (Nat.le_of_ble_eq_true rfl) ⟨Nat.le_of_ble_eq_true rfl, Nat.le_of_ble_eq_true rfl⟩ (fun _ h => h) (fun h => ⟨h, c_Chan_knownNow _⟩) (fun r6 S5 => ?_)
      refine x_iload_n d_Chan_holder_28 rfl ?_
      refine x_vV (b' := (some none)) (As := [.int r6, .int p2]) d_Chan_holder_29 mv_Chan_176 rfl (fun _ => ak_49) rfl (q99 (by decide)) ⟨Nat.le_of_ble_eq_true rfl, Nat.le_of_ble_eq_true rfl⟩ (Nat.le_of_ble_eq_true rfl) ⟨Nat.le_of_ble_eq_true rfl, Nat.le_of_ble_eq_true rfl⟩ (fun _ h => h) (fun h => ⟨h, c_Course_tell r6 p2 _⟩) (fun S7 => ?_)
      refine x_aload_n_ref d_Chan_holder_32 rfl ?_
      refine x_getr d_Chan_holder_33 fl_Chan_58 ak_0 (q99 (by decide)) (shx sh_0_6) ?_
      refine x_getr d_Chan_holder_36 fl_Chan_179 ak_49 (q99 (by decide)) (shx sh_49_4) ?_
      refine x_iload_n d_Chan_holder_39 rfl ?_
      refine x_iald d_Chan_holder_40 ak_50 (q99 (by decide)) ?_
      exact x_ret d_Chan_holder_41 rfl rfl (Nat.le_of_ble_eq_true rfl) (Nat.le_of_ble_eq_true rfl)
    · refine x_iconst (v := -1) d_Chan_holder_18 (by decide) ?_
      exact x_ret d_Chan_holder_19 rfl rfl (Nat.le_of_ble_eq_true rfl) (Nat.le_of_ble_eq_true rfl)
theorem c_Chan_holder {G : GX} (p1 : Int32) (p2 : Int32) (S : AS) : CN G y_Chan_holder b_Chan_holder 3 (some (FieldType.int)) ({ frames := 7, cells := 0, slots := 0, locals := 167 } : Room) (some none) iI [.ref 0, .int p1, .int p2] S (f_Chan_holder p1 p2 S) := cn_of_v (M := md_Chan_holder) (ini := false) rfl (by decide +kernel) (fun h => nomatch h) rfl (Nat.le_of_ble_eq_true rfl) (v_Chan_holder p1 p2 S)
noncomputable def f_PaperBox_isKnown (p1 : Int32) (p2 : Int32) (S : AS) : Option (Int32 × AS) := bI (f_PaperBox_has p1 S) fun r2 S1 => nm (fun (S3 : AS) => some (0, S3)) fun J22 => if r2 = 0 then (J22 S1) else (chk (vp_in p1 48) (if p2 < (gi S1 30 (ix p1)) then (J22 S1) else (some (1, S1))))
set_option maxHeartbeats 4000000 in
theorem v_PaperBox_isKnown {G : GX} (p1 : Int32) (p2 : Int32) (S : AS) : V G md_PaperBox_isKnown (QM G md_PaperBox_isKnown iI) (fun _ => True) (some none) 0 [some (.ref 23), some (.int p1), some (.int p2)] [] 0 0 S (f_PaperBox_isKnown p1 p2 S) := by
  unfold f_PaperBox_isKnown
  refine x_aload_n_ref d_PaperBox_isKnown_0 rfl ?_
  refine x_iload_n d_PaperBox_isKnown_1 rfl ?_
  refine x_vI (b' := (some none)) (As := [.int p1]) d_PaperBox_isKnown_2 mv_PaperBox_40 rfl (fun _ => ak_23) rfl (q99 (by decide)) ⟨Nat.le_of_ble_eq_true rfl, Nat.le_of_ble_eq_true rfl⟩ (Nat.le_of_ble_eq_true rfl) ⟨Nat.le_of_ble_eq_true rfl, Nat.le_of_ble_eq_true rfl⟩ (fun _ h => h) (fun h => ⟨h, c_PaperBox_has p1 _⟩) (fun r2 S1 => ?_)
  refine x_nm (fun J22 hJ22 => ?_)
  have kJ22 : ∀ (S3 : AS), V G md_PaperBox_isKnown (QM G md_PaperBox_isKnown iI) (fun _ => True) (some none) 22 [none, none, none] [] 0 0 S3 (J22 S3) := by
    subst hJ22
    intro S3
    refine x_iconst (v := 0) d_PaperBox_isKnown_22 (by decide) ?_
    exact x_ret d_PaperBox_isKnown_23 rfl rfl (Nat.le_of_ble_eq_true rfl) (Nat.le_of_ble_eq_true rfl)
  clear hJ22
  refine x_if_eq (tgt := 22) d_PaperBox_isKnown_5 (by decide) (fun _ => ?_) (fun _ => ?_)
  · exact V.kw (kJ22 S1) trivial
  · refine x_aload_n_ref d_PaperBox_isKnown_8 rfl ?_
    refine x_getr d_PaperBox_isKnown_9 fl_PaperBox_30 ak_23 (q99 (by decide)) (shx sh_23_6) ?_
    refine x_iload_n d_PaperBox_isKnown_12 rfl ?_
    refine x_iald d_PaperBox_isKnown_13 ak_30 (q99 (by decide)) ?_
    refine x_iload_n d_PaperBox_isKnown_14 rfl ?_
    refine x_icmp_gt (tgt := 22) d_PaperBox_isKnown_15 (by decide) (fun _ => ?_) (fun _ => ?_)
    · exact V.kw (kJ22 S1) trivial
    · refine x_iconst (v := 1) d_PaperBox_isKnown_18 (by decide) ?_
      refine x_goto (tgt := 23) d_PaperBox_isKnown_19 (by decide) ?_
      exact x_ret d_PaperBox_isKnown_23 rfl rfl (Nat.le_of_ble_eq_true rfl) (Nat.le_of_ble_eq_true rfl)
theorem c_PaperBox_isKnown {G : GX} (p1 : Int32) (p2 : Int32) (S : AS) : CN G y_PaperBox_isKnown b_PaperBox_isKnown 3 (some (FieldType.boolean)) ({ frames := 1, cells := 0, slots := 0, locals := 21 } : Room) (some none) iI [.ref 23, .int p1, .int p2] S (f_PaperBox_isKnown p1 p2 S) := cn_of_v (M := md_PaperBox_isKnown) (ini := false) rfl (by decide +kernel) (fun h => nomatch h) rfl (Nat.le_of_ble_eq_true rfl) (v_PaperBox_isKnown p1 p2 S)
noncomputable def f_Chan_paperOf (p1 : Int32) (p2 : Int32) (S : AS) : Option (Int32 × AS) := bI (f_Chan_knownNow S) fun r2 S1 => bI (f_PaperBox_isKnown p1 r2 S1) fun r4 S3 => nm (fun (S5 : AS) => some ((-2), S5)) fun J26 => if r4 = 0 then (J26 S3) else (bI (f_Chan_isWithin p2 0 3 S3) fun r7 S6 => if r7 = 0 then (J26 S6) else (bV (f_Course_tell r2 9999999 S6) fun S8 => if p2 = 0 then (chk (vp_in p1 48) (some (gi S8 56 (ix p1), S8))) else (if p2 = 1 then (chk (vp_in p1 48) (if (gi S8 56 (ix p1)) = (-1) then (some ((-1), S8)) else (chk (vp_in p1 48) (chk (vp_in p1 48) (some ((gi S8 57 (ix p1)) - (gi S8 25 (ix p1)), S8)))))) else (if p2 = 2 then (chk (vp_in p1 48) (if (gi S8 55 (ix p1)) = 0 then (some (0, S8)) else (some (1, S8)))) else (chk (vp_in p1 48) (some (gi S8 30 (ix p1), S8)))))))
set_option maxHeartbeats 4000000 in
theorem v_Chan_paperOf {G : GX} (p1 : Int32) (p2 : Int32) (S : AS) : V G md_Chan_paperOf (QM G md_Chan_paperOf iI) (fun _ => True) (some none) 0 [some (.ref 0), some (.int p1), some (.int p2), none] [] 0 0 S (f_Chan_paperOf p1 p2 S) := by
  unfold f_Chan_paperOf
  refine x_aload_n_ref d_Chan_paperOf_0 rfl ?_
  refine x_vI (b' := (some none)) (As := []) d_Chan_paperOf_1 mv_Chan_172 rfl (fun _ => ak_0) rfl (q99 (by decide)) ⟨Nat.le_of_ble_eq_true rfl, Nat.le_of_ble_eq_true rfl⟩ (Nat.le_of_ble_eq_true rfl) ⟨Nat.le_of_ble_eq_true rfl, Nat.le_of_ble_eq_true rfl⟩ (fun _ h => h) (fun h => ⟨h, c_Chan_knownNow _⟩) (fun r2 S1 => ?_)
  refine x_istore_n (lc' := [some (.ref 0), some (.int p1), some (.int p2), some (.int r2)]) d_Chan_paperOf_4 (by decide) rfl ?_
  refine x_aload_n_ref d_Chan_paperOf_5 rfl ?_
  refine x_getr d_Chan_paperOf_6 fl_Chan_35 ak_0 (q99 (by decide)) (shx sh_0_3) ?_
  refine x_iload_n d_Chan_paperOf_9 rfl ?_
  refine x_iload_n d_Chan_paperOf_10 rfl ?_
  refine x_vI (b' := (some none)) (As := [.int p1, .int r2]) d_Chan_paperOf_11 mv_Chan_182 rfl (fun _ => ak_23) rfl (q99 (by decide)) ⟨Nat.le_of_ble_eq_true rfl, Nat.le_of_ble_eq_true rfl⟩ (Nat.le_of_ble_eq_true rfl) ⟨Nat.le_of_ble_eq_true rfl, Nat.le_of_ble_eq_true rfl⟩ (fun _ h => h) (fun h => ⟨h, c_PaperBox_isKnown p1 r2 _⟩) (fun r4 S3 => ?_)
  refine x_nm (fun J26 hJ26 => ?_)
  have kJ26 : ∀ (S5 : AS), V G md_Chan_paperOf (QM G md_Chan_paperOf iI) (fun _ => True) (some none) 26 [none, none, none, none] [] 0 0 S5 (J26 S5) := by
    subst hJ26
    intro S5
    refine x_bipush (v := -2) d_Chan_paperOf_26 (by decide) ?_
    exact x_ret d_Chan_paperOf_28 rfl rfl (Nat.le_of_ble_eq_true rfl) (Nat.le_of_ble_eq_true rfl)
  clear hJ26
  refine x_if_eq (tgt := 26) d_Chan_paperOf_14 (by decide) (fun _ => ?_) (fun _ => ?_)
  · exact V.kw (kJ26 S3) trivial
  · refine x_iload_n d_Chan_paperOf_17 rfl ?_
    refine x_iconst (v := 0) d_Chan_paperOf_18 (by decide) ?_
    refine x_iconst (v := 3) d_Chan_paperOf_19 (by decide) ?_
    refine x_sI (b' := (some none)) (As := [.int p2, .int 0, .int 3]) d_Chan_paperOf_20 ms_Chan_101 rfl ⟨Nat.le_of_ble_eq_true rfl, Nat.le_of_ble_eq_true rfl⟩ (Nat.le_of_ble_eq_true rfl) ⟨Nat.le_of_ble_eq_true rfl, Nat.le_of_ble_eq_true rfl⟩ (fun _ h => h) (fun h => ⟨h, c_Chan_isWithin p2 0 3 _⟩) (fun r7 S6 => ?_)
    refine x_if_ne (tgt := 29) d_Chan_paperOf_23 (by decide) (fun _ => ?_) (fun _ => ?_)
    · refine x_aload_n_ref d_Chan_paperOf_29 rfl ?_
      refine x_getr d_Chan_paperOf_30 fl_Chan_58 ak_0 (q99 (by decide)) (shx sh_0_6) ?_
      refine x_iload_n d_Chan_paperOf_33 rfl ?_
      refine x_ldc (v := 9999999) (List.mem_append_right _ (List.mem_append_right _ (List.mem_append_right _ (List.mem_append_left _ (List.mem_of_getElem? (i := 147) (by decide +kernel)))))) d_Chan_paperOf_34 ?_
      refine x_vV (b' := (some none)) (As := [.int r2, .int 9999999]) d_Chan_paperOf_36 mv_Chan_176 rfl (fun _ => ak_49) rfl (q99 (by decide)) ⟨Nat.le_of_ble_eq_true rfl, Nat.le_of_ble_eq_true rfl⟩ (Nat.le_of_ble_eq_true rfl) ⟨Nat.le_of_ble_eq_true rfl, Nat.le_of_ble_eq_true rfl⟩ (fun _ h => h) (fun h => ⟨h, c_Course_tell r2 9999999 _⟩) (fun S8 => ?_)
      refine x_iload_n d_Chan_paperOf_39 rfl ?_
      refine x_ite (fun hs11 => ?_) (fun hs11 => ?_)
      · refine x_tsw_in (c := 0) (tgt := 68) d_Chan_paperOf_40 hs11 (by decide) (by decide) rfl (by decide) ?_
        refine x_aload_n_ref d_Chan_paperOf_68 rfl ?_
        refine x_getr d_Chan_paperOf_69 fl_Chan_58 ak_0 (q99 (by decide)) (shx sh_0_6) ?_
        refine x_getr d_Chan_paperOf_72 fl_Chan_187 ak_49 (q99 (by decide)) (shx sh_49_10) ?_
        refine x_iload_n d_Chan_paperOf_75 rfl ?_
        refine x_iald d_Chan_paperOf_76 ak_56 (q99 (by decide)) ?_
        exact x_ret d_Chan_paperOf_77 rfl rfl (Nat.le_of_ble_eq_true rfl) (Nat.le_of_ble_eq_true rfl)
      · refine x_ite (fun hs10 => ?_) (fun hs10 => ?_)
        · refine x_tsw_in (c := 1) (tgt := 78) d_Chan_paperOf_40 hs10 (by decide) (by decide) rfl (by decide) ?_
          refine x_aload_n_ref d_Chan_paperOf_78 rfl ?_
          refine x_getr d_Chan_paperOf_79 fl_Chan_58 ak_0 (q99 (by decide)) (shx sh_0_6) ?_
          refine x_getr d_Chan_paperOf_82 fl_Chan_187 ak_49 (q99 (by decide)) (shx sh_49_10) ?_
          refine x_iload_n d_Chan_paperOf_85 rfl ?_
          refine x_iald d_Chan_paperOf_86 ak_56 (q99 (by decide)) ?_
          refine x_iconst (v := -1) d_Chan_paperOf_87 (by decide) ?_
          refine x_icmp_ne (tgt := 95) d_Chan_paperOf_88 (by decide) (fun _ => ?_) (fun _ => ?_)
          · refine x_aload_n_ref d_Chan_paperOf_95 rfl ?_
            refine x_getr d_Chan_paperOf_96 fl_Chan_58 ak_0 (q99 (by decide)) (shx sh_0_6) ?_
            refine x_getr d_Chan_paperOf_99 fl_Chan_190 ak_49 (q99 (by decide)) (shx sh_49_11) ?_
            refine x_iload_n d_Chan_paperOf_102 rfl ?_
            refine x_iald d_Chan_paperOf_103 ak_57 (q99 (by decide)) ?_
            refine x_aload_n_ref d_Chan_paperOf_104 rfl ?_
            refine x_getr d_Chan_paperOf_105 fl_Chan_35 ak_0 (q99 (by decide)) (shx sh_0_3) ?_
            refine x_getr d_Chan_paperOf_108 fl_Chan_193 ak_23 (q99 (by decide)) (shx sh_23_1) ?_
            refine x_iload_n d_Chan_paperOf_111 rfl ?_
            refine x_iald d_Chan_paperOf_112 ak_25 (q99 (by decide)) ?_
            refine x_isub d_Chan_paperOf_113 ?_
            exact x_ret d_Chan_paperOf_114 rfl rfl (Nat.le_of_ble_eq_true rfl) (Nat.le_of_ble_eq_true rfl)
          · refine x_iconst (v := -1) d_Chan_paperOf_91 (by decide) ?_
            refine x_goto (tgt := 114) d_Chan_paperOf_92 (by decide) ?_
            exact x_ret d_Chan_paperOf_114 rfl rfl (Nat.le_of_ble_eq_true rfl) (Nat.le_of_ble_eq_true rfl)
        · refine x_ite (fun hs9 => ?_) (fun hs9 => ?_)
          · refine x_tsw_in (c := 2) (tgt := 115) d_Chan_paperOf_40 hs9 (by decide) (by decide) rfl (by decide) ?_
            refine x_aload_n_ref d_Chan_paperOf_115 rfl ?_
            refine x_getr d_Chan_paperOf_116 fl_Chan_58 ak_0 (q99 (by decide)) (shx sh_0_6) ?_
            refine x_getr d_Chan_paperOf_119 fl_Chan_196 ak_49 (q99 (by decide)) (shx sh_49_9) ?_
            refine x_iload_n d_Chan_paperOf_122 rfl ?_
            refine x_zald d_Chan_paperOf_123 ak_55 (q99 (by decide)) ?_
            refine x_if_eq (tgt := 131) d_Chan_paperOf_124 (by decide) (fun _ => ?_) (fun _ => ?_)
            · refine x_iconst (v := 0) d_Chan_paperOf_131 (by decide) ?_
              exact x_ret d_Chan_paperOf_132 rfl rfl (Nat.le_of_ble_eq_true rfl) (Nat.le_of_ble_eq_true rfl)
            · refine x_iconst (v := 1) d_Chan_paperOf_127 (by decide) ?_
              refine x_goto (tgt := 132) d_Chan_paperOf_128 (by decide) ?_
              exact x_ret d_Chan_paperOf_132 rfl rfl (Nat.le_of_ble_eq_true rfl) (Nat.le_of_ble_eq_true rfl)
          · refine x_tsw_out (n := 3) (tgt := 133) d_Chan_paperOf_40 (by decide) (fun j hj => by rcases (by omega : j = 0 ∨ j = 1 ∨ j = 2) with rfl | rfl | rfl <;> assumption) (by decide) ?_
            refine x_aload_n_ref d_Chan_paperOf_133 rfl ?_
            refine x_getr d_Chan_paperOf_134 fl_Chan_35 ak_0 (q99 (by decide)) (shx sh_0_3) ?_
            refine x_getr d_Chan_paperOf_137 fl_Chan_200 ak_23 (q99 (by decide)) (shx sh_23_6) ?_
            refine x_iload_n d_Chan_paperOf_140 rfl ?_
            refine x_iald d_Chan_paperOf_141 ak_30 (q99 (by decide)) ?_
            exact x_ret d_Chan_paperOf_142 rfl rfl (Nat.le_of_ble_eq_true rfl) (Nat.le_of_ble_eq_true rfl)
    · exact V.kw (kJ26 S6) trivial
theorem c_Chan_paperOf {G : GX} (p1 : Int32) (p2 : Int32) (S : AS) : CN G y_Chan_paperOf b_Chan_paperOf 4 (some (FieldType.int)) ({ frames := 7, cells := 0, slots := 0, locals := 167 } : Room) (some none) iI [.ref 0, .int p1, .int p2] S (f_Chan_paperOf p1 p2 S) := cn_of_v (M := md_Chan_paperOf) (ini := false) rfl (by decide +kernel) (fun h => nomatch h) rfl (Nat.le_of_ble_eq_true rfl) (v_Chan_paperOf p1 p2 S)
noncomputable def f_Chan_posts (p1 : Int32) (p2 : Int32) (S : AS) : Option (Int32 × AS) := bI (f_Roll_isPerson p1 S) fun r2 S1 => if r2 = 0 then (some ((-1), S1)) else (bI (f_Chan_isTime p2 S1) fun r4 S3 => if r4 = 0 then (some ((-1), S3)) else (bI (f_Chan_knownNow S3) fun r6 S5 => bV (f_Course_tell r6 p2 S5) fun S7 => chk (vp_in p1 24) (some (gi S7 52 (ix p1), S7))))
set_option maxHeartbeats 4000000 in
theorem v_Chan_posts {G : GX} (p1 : Int32) (p2 : Int32) (S : AS) : V G md_Chan_posts (QM G md_Chan_posts iI) (fun _ => True) (some none) 0 [some (.ref 0), some (.int p1), some (.int p2)] [] 0 0 S (f_Chan_posts p1 p2 S) := by
  unfold f_Chan_posts
  refine x_aload_n_ref d_Chan_posts_0 rfl ?_
  refine x_getr d_Chan_posts_1 fl_Chan_28 ak_0 (q99 (by decide)) (shx sh_0_2) ?_
  refine x_iload_n d_Chan_posts_4 rfl ?_
  refine x_vI (b' := (some none)) (As := [.int p1]) d_Chan_posts_5 mv_Chan_116 rfl (fun _ => ak_16) rfl (q99 (by decide)) ⟨Nat.le_of_ble_eq_true rfl, Nat.le_of_ble_eq_true rfl⟩ (Nat.le_of_ble_eq_true rfl) ⟨Nat.le_of_ble_eq_true rfl, Nat.le_of_ble_eq_true rfl⟩ (fun _ h => h) (fun h => ⟨h, c_Roll_isPerson p1 _⟩) (fun r2 S1 => ?_)
  refine x_if_eq (tgt := 18) d_Chan_posts_8 (by decide) (fun _ => ?_) (fun _ => ?_)
  · refine x_iconst (v := -1) d_Chan_posts_18 (by decide) ?_
    exact x_ret d_Chan_posts_19 rfl rfl (Nat.le_of_ble_eq_true rfl) (Nat.le_of_ble_eq_true rfl)
  · refine x_iload_n d_Chan_posts_11 rfl ?_
    refine x_sI (b' := (some none)) (As := [.int p2]) d_Chan_posts_12 ms_Chan_129 rfl ⟨Nat.le_of_ble_eq_true rfl, Nat.le_of_ble_eq_true rfl⟩ (Nat.le_of_ble_eq_true rfl) ⟨Nat.le_of_ble_eq_true rfl, Nat.le_of_ble_eq_true rfl⟩ (fun _ h => h) (fun h => ⟨h, c_Chan_isTime p2 _⟩) (fun r4 S3 => ?_)
    refine x_if_ne (tgt := 20) d_Chan_posts_15 (by decide) (fun _ => ?_) (fun _ => ?_)
    · refine x_aload_n_ref d_Chan_posts_20 rfl ?_
      refine x_getr d_Chan_posts_21 fl_Chan_58 ak_0 (q99 (by decide)) (shx sh_0_6) ?_
      refine x_aload_n_ref d_Chan_posts_24 rfl ?_
      refine x_vI (b' := (some none)) (As := []) d_Chan_posts_25 mv_Chan_172 rfl (fun _ => ak_0) rfl (q99 (by decide)) ⟨Nat.le_of_ble_eq_true rfl, Nat.le_of_ble_eq_true rfl⟩ (Nat.le_of_ble_eq_true rfl) ⟨Nat.le_of_ble_eq_true rfl, Nat.le_of_ble_eq_true rfl⟩ (fun _ h => h) (fun h => ⟨h, c_Chan_knownNow _⟩) (fun r6 S5 => ?_)
      refine x_iload_n d_Chan_posts_28 rfl ?_
      refine x_vV (b' := (some none)) (As := [.int r6, .int p2]) d_Chan_posts_29 mv_Chan_176 rfl (fun _ => ak_49) rfl (q99 (by decide)) ⟨Nat.le_of_ble_eq_true rfl, Nat.le_of_ble_eq_true rfl⟩ (Nat.le_of_ble_eq_true rfl) ⟨Nat.le_of_ble_eq_true rfl, Nat.le_of_ble_eq_true rfl⟩ (fun _ h => h) (fun h => ⟨h, c_Course_tell r6 p2 _⟩) (fun S7 => ?_)
      refine x_aload_n_ref d_Chan_posts_32 rfl ?_
      refine x_getr d_Chan_posts_33 fl_Chan_58 ak_0 (q99 (by decide)) (shx sh_0_6) ?_
      refine x_getr d_Chan_posts_36 fl_Chan_203 ak_49 (q99 (by decide)) (shx sh_49_6) ?_
      refine x_iload_n d_Chan_posts_39 rfl ?_
      refine x_iald d_Chan_posts_40 ak_52 (q99 (by decide)) ?_
      exact x_ret d_Chan_posts_41 rfl rfl (Nat.le_of_ble_eq_true rfl) (Nat.le_of_ble_eq_true rfl)
    · refine x_iconst (v := -1) d_Chan_posts_18 (by decide) ?_
      exact x_ret d_Chan_posts_19 rfl rfl (Nat.le_of_ble_eq_true rfl) (Nat.le_of_ble_eq_true rfl)
theorem c_Chan_posts {G : GX} (p1 : Int32) (p2 : Int32) (S : AS) : CN G y_Chan_posts b_Chan_posts 3 (some (FieldType.int)) ({ frames := 7, cells := 0, slots := 0, locals := 167 } : Room) (some none) iI [.ref 0, .int p1, .int p2] S (f_Chan_posts p1 p2 S) := cn_of_v (M := md_Chan_posts) (ini := false) rfl (by decide +kernel) (fun h => nomatch h) rfl (Nat.le_of_ble_eq_true rfl) (v_Chan_posts p1 p2 S)
noncomputable def f_Course_earnedBy_L10 (J67 : Int64 → AS → Option (Int64 × AS)) (x1 : Int32) : Nat → Int64 → Int32 → AS → Option (Int64 × AS)
  | 0, _, _, _ => none
  | n + 1, c2, c4, S => if (gi S 16 7) ≤ c4 then (J67 c2 S) else (chk (vp_in c4 16) (nm (fun (a4 : Int64) (S5 : AS) => f_Course_earnedBy_L10 J67 x1 n a4 (c4 + 1) S5) fun J61 => if (gi S 50 (ix c4)) = x1 then (chk (vp_in c4 16) (chk (vp_in c4 16) (nm (c2 + (((gi S 21 (ix c4)).toInt64) * (((gi S 49 14) - (gi S 51 (ix c4))).toInt64))) fun v6 => J61 v6 S))) else (J61 c2 S)))
noncomputable def f_Course_earnedBy (p1 : Int32) (S : AS) : Option (Int64 × AS) := chk (vp_in p1 24) (nm (gl S 53 (ix p1)) fun v1 => nm (fun (a2 : Int64) (S3 : AS) => some (a2, S3)) fun J67 => f_Course_earnedBy_L10 J67 p1 FU v1 0 S)
set_option maxHeartbeats 4000000 in
theorem v_Course_earnedBy_L10 {G : GX} (J67 : Int64 → AS → Option (Int64 × AS)) (x1 : Int32) (kJ67 : ∀ (a2 : Int64) (T : AS), V G md_Course_earnedBy (QM G md_Course_earnedBy iL) (fun _ => True) (some none) 67 [none, none, some (.long a2), none, none] [] 0 0 T (J67 a2 T)) : ∀ (n : Nat) (c2 : Int64) (c4 : Int32) (S : AS), V G md_Course_earnedBy (QM G md_Course_earnedBy iL) (fun _ => True) (some none) 10 [some (.ref 49), some (.int x1), some (.long c2), none, some (.int c4)] [] 0 0 S (f_Course_earnedBy_L10 J67 x1 n c2 c4 S) := by
  intro n
  induction n with
  | zero => intro c2 c4 S; exact V.none
  | succ n ih =>
    intro c2 c4 S
    rw [f_Course_earnedBy_L10]
    refine x_iload d_Course_earnedBy_10 rfl ?_
    refine x_aload_n_ref d_Course_earnedBy_12 rfl ?_
    refine x_getr d_Course_earnedBy_13 fl_Course_44 ak_49 (q99 (by decide)) (shx sh_49_0) ?_
    refine x_geti d_Course_earnedBy_16 fl_Course_115 ak_16 (q99 (by decide)) ?_
    refine x_icmp_ge (tgt := 67) d_Course_earnedBy_19 (by decide) (fun _ => ?_) (fun _ => ?_)
    · exact V.kw (kJ67 c2 S) ⟨rfl, trivial⟩
    · refine x_aload_n_ref d_Course_earnedBy_22 rfl ?_
      refine x_getr d_Course_earnedBy_23 fl_Course_9 ak_49 (q99 (by decide)) (shx sh_49_4) ?_
      refine x_iload d_Course_earnedBy_26 rfl ?_
      refine x_iald d_Course_earnedBy_28 ak_50 (q99 (by decide)) ?_
      refine x_iload_n d_Course_earnedBy_29 rfl ?_
      refine x_nm (fun J61 hJ61 => ?_)
      have kJ61 : ∀ (a4 : Int64) (S5 : AS), V G md_Course_earnedBy (QM G md_Course_earnedBy iL) (fun _ => True) (some none) 61 [some (.ref 49), some (.int x1), some (.long a4), none, some (.int c4)] [] 0 0 S5 (J61 a4 S5) := by
        subst hJ61
        intro a4 S5
        refine x_iinc (w := c4 + 1) (lc' := [some (.ref 49), some (.int x1), some (.long a4), none, some (.int (c4 + 1))]) d_Course_earnedBy_61 (by decide) rfl rfl rfl ?_
        refine x_goto (tgt := 10) d_Course_earnedBy_64 (by decide) ?_
        exact V.kw (ih a4 (c4 + 1) S5) ⟨rfl, rfl, rfl, rfl, trivial⟩
      clear hJ61
      refine x_icmp_ne (tgt := 61) d_Course_earnedBy_30 (by decide) (fun _ => ?_) (fun _ => ?_)
      · exact V.kw (kJ61 c2 S) ⟨rfl, rfl, rfl, rfl, trivial⟩
      · refine x_lload_n d_Course_earnedBy_33 rfl ?_
        refine x_aload_n_ref d_Course_earnedBy_34 rfl ?_
        refine x_getr d_Course_earnedBy_35 fl_Course_44 ak_49 (q99 (by decide)) (shx sh_49_0) ?_
        refine x_getr d_Course_earnedBy_38 fl_Course_161 ak_16 (q99 (by decide)) (shx sh_16_5) ?_
        refine x_iload d_Course_earnedBy_41 rfl ?_
        refine x_iald d_Course_earnedBy_43 ak_21 (q99 (by decide)) ?_
        refine x_i2l d_Course_earnedBy_44 ?_
        refine x_aload_n_ref d_Course_earnedBy_45 rfl ?_
        refine x_geti d_Course_earnedBy_46 fl_Course_124 ak_49 (q99 (by decide)) ?_
        refine x_aload_n_ref d_Course_earnedBy_49 rfl ?_
        refine x_getr d_Course_earnedBy_50 fl_Course_15 ak_49 (q99 (by decide)) (shx sh_49_5) ?_
        refine x_iload d_Course_earnedBy_53 rfl ?_
        refine x_iald d_Course_earnedBy_55 ak_51 (q99 (by decide)) ?_
        refine x_isub d_Course_earnedBy_56 ?_
        refine x_i2l d_Course_earnedBy_57 ?_
        refine x_lmul d_Course_earnedBy_58 ?_
        refine x_ladd d_Course_earnedBy_59 ?_
        refine x_topl (fun v6 => ?_)
        refine x_lstore_n (lc' := [some (.ref 49), some (.int x1), some (.long v6), none, some (.int c4)]) d_Course_earnedBy_60 (by decide) rfl ?_
        exact V.kw (kJ61 v6 S) ⟨rfl, rfl, rfl, rfl, trivial⟩
set_option maxHeartbeats 4000000 in
theorem v_Course_earnedBy {G : GX} (p1 : Int32) (S : AS) : V G md_Course_earnedBy (QM G md_Course_earnedBy iL) (fun _ => True) (some none) 0 [some (.ref 49), some (.int p1), none, none, none] [] 0 0 S (f_Course_earnedBy p1 S) := by
  unfold f_Course_earnedBy
  refine x_aload_n_ref d_Course_earnedBy_0 rfl ?_
  refine x_getr d_Course_earnedBy_1 fl_Course_21 ak_49 (q99 (by decide)) (shx sh_49_7) ?_
  refine x_iload_n d_Course_earnedBy_4 rfl ?_
  refine x_lald d_Course_earnedBy_5 ak_53 (q99 (by decide)) ?_
  refine x_topl (fun v1 => ?_)
  refine x_lstore_n (lc' := [some (.ref 49), some (.int p1), some (.long v1), none, none]) d_Course_earnedBy_6 (by decide) rfl ?_
  refine x_iconst (v := 0) d_Course_earnedBy_7 (by decide) ?_
  refine x_istore (lc' := [some (.ref 49), some (.int p1), some (.long v1), none, some (.int 0)]) d_Course_earnedBy_8 (by decide) rfl ?_
  refine x_nm (fun J67 hJ67 => ?_)
  have kJ67 : ∀ (a2 : Int64) (S3 : AS), V G md_Course_earnedBy (QM G md_Course_earnedBy iL) (fun _ => True) (some none) 67 [none, none, some (.long a2), none, none] [] 0 0 S3 (J67 a2 S3) := by
    subst hJ67
    intro a2 S3
    refine x_lload_n d_Course_earnedBy_67 rfl ?_
    exact x_lret d_Course_earnedBy_68 rfl (Nat.le_of_ble_eq_true rfl) (Nat.le_of_ble_eq_true rfl)
  clear hJ67
  exact V.kw (v_Course_earnedBy_L10 J67 p1 kJ67 FU v1 0 S) ⟨rfl, rfl, rfl, rfl, trivial⟩
theorem c_Course_earnedBy {G : GX} (p1 : Int32) (S : AS) : CN G y_Course_earnedBy b_Course_earnedBy 5 (some (FieldType.long)) ({ frames := 0, cells := 0, slots := 0, locals := 0 } : Room) (some none) iL [.ref 49, .int p1] S (f_Course_earnedBy p1 S) := cn_of_v (M := md_Course_earnedBy) (ini := false) rfl (by decide +kernel) (fun h => nomatch h) rfl (Nat.le_of_ble_eq_true rfl) (v_Course_earnedBy p1 S)
noncomputable def f_Chan_due (p1 : Int32) (p2 : Int32) (S : AS) : Option (Int64 × AS) := bI (f_Roll_isPerson p1 S) fun r2 S1 => nm (fun (S3 : AS) => some ((-1), S3)) fun J18 => if r2 = 0 then (J18 S1) else (bI (f_Chan_isTime p2 S1) fun r5 S4 => if r5 = 0 then (J18 S4) else (bI (f_Chan_knownNow S4) fun r7 S6 => bV (f_Course_tell r7 p2 S6) fun S8 => bL (f_Course_earnedBy p1 S8) fun r10 S9 => some (r10 / 1440, S9)))
set_option maxHeartbeats 4000000 in
theorem v_Chan_due {G : GX} (p1 : Int32) (p2 : Int32) (S : AS) : V G md_Chan_due (QM G md_Chan_due iL) (fun _ => True) (some none) 0 [some (.ref 0), some (.int p1), some (.int p2)] [] 0 0 S (f_Chan_due p1 p2 S) := by
  unfold f_Chan_due
  refine x_aload_n_ref d_Chan_due_0 rfl ?_
  refine x_getr d_Chan_due_1 fl_Chan_28 ak_0 (q99 (by decide)) (shx sh_0_2) ?_
  refine x_iload_n d_Chan_due_4 rfl ?_
  refine x_vI (b' := (some none)) (As := [.int p1]) d_Chan_due_5 mv_Chan_116 rfl (fun _ => ak_16) rfl (q99 (by decide)) ⟨Nat.le_of_ble_eq_true rfl, Nat.le_of_ble_eq_true rfl⟩ (Nat.le_of_ble_eq_true rfl) ⟨Nat.le_of_ble_eq_true rfl, Nat.le_of_ble_eq_true rfl⟩ (fun _ h => h) (fun h => ⟨h, c_Roll_isPerson p1 _⟩) (fun r2 S1 => ?_)
  refine x_nm (fun J18 hJ18 => ?_)
  have kJ18 : ∀ (S3 : AS), V G md_Chan_due (QM G md_Chan_due iL) (fun _ => True) (some none) 18 [none, none, none] [] 0 0 S3 (J18 S3) := by
    subst hJ18
    intro S3
    refine x_ldc2 (v := -1) (List.mem_append_right _ (List.mem_append_right _ (List.mem_append_right _ (List.mem_append_right _ (List.mem_append_left _ (List.mem_of_getElem? (i := 91) (by decide +kernel))))))) d_Chan_due_18 ?_
    exact x_lret d_Chan_due_21 rfl (Nat.le_of_ble_eq_true rfl) (Nat.le_of_ble_eq_true rfl)
  clear hJ18
  refine x_if_eq (tgt := 18) d_Chan_due_8 (by decide) (fun _ => ?_) (fun _ => ?_)
  · exact V.kw (kJ18 S1) trivial
  · refine x_iload_n d_Chan_due_11 rfl ?_
    refine x_sI (b' := (some none)) (As := [.int p2]) d_Chan_due_12 ms_Chan_129 rfl ⟨Nat.le_of_ble_eq_true rfl, Nat.le_of_ble_eq_true rfl⟩ (Nat.le_of_ble_eq_true rfl) ⟨Nat.le_of_ble_eq_true rfl, Nat.le_of_ble_eq_true rfl⟩ (fun _ h => h) (fun h => ⟨h, c_Chan_isTime p2 _⟩) (fun r5 S4 => ?_)
    refine x_if_ne (tgt := 22) d_Chan_due_15 (by decide) (fun _ => ?_) (fun _ => ?_)
    · refine x_aload_n_ref d_Chan_due_22 rfl ?_
      refine x_getr d_Chan_due_23 fl_Chan_58 ak_0 (q99 (by decide)) (shx sh_0_6) ?_
      refine x_aload_n_ref d_Chan_due_26 rfl ?_
      refine x_vI (b' := (some none)) (As := []) d_Chan_due_27 mv_Chan_172 rfl (fun _ => ak_0) rfl (q99 (by decide)) ⟨Nat.le_of_ble_eq_true rfl, Nat.le_of_ble_eq_true rfl⟩ (Nat.le_of_ble_eq_true rfl) ⟨Nat.le_of_ble_eq_true rfl, Nat.le_of_ble_eq_true rfl⟩ (fun _ h => h) (fun h => ⟨h, c_Chan_knownNow _⟩) (fun r7 S6 => ?_)
      refine x_iload_n d_Chan_due_30 rfl ?_
      refine x_vV (b' := (some none)) (As := [.int r7, .int p2]) d_Chan_due_31 mv_Chan_176 rfl (fun _ => ak_49) rfl (q99 (by decide)) ⟨Nat.le_of_ble_eq_true rfl, Nat.le_of_ble_eq_true rfl⟩ (Nat.le_of_ble_eq_true rfl) ⟨Nat.le_of_ble_eq_true rfl, Nat.le_of_ble_eq_true rfl⟩ (fun _ h => h) (fun h => ⟨h, c_Course_tell r7 p2 _⟩) (fun S8 => ?_)
      refine x_aload_n_ref d_Chan_due_34 rfl ?_
      refine x_getr d_Chan_due_35 fl_Chan_58 ak_0 (q99 (by decide)) (shx sh_0_6) ?_
      refine x_iload_n d_Chan_due_38 rfl ?_
      refine x_vL (b' := (some none)) (As := [.int p1]) d_Chan_due_39 mv_Chan_208 rfl (fun _ => ak_49) rfl (q99 (by decide)) ⟨Nat.le_of_ble_eq_true rfl, Nat.le_of_ble_eq_true rfl⟩ (Nat.le_of_ble_eq_true rfl) ⟨Nat.le_of_ble_eq_true rfl, Nat.le_of_ble_eq_true rfl⟩ (fun _ h => h) (fun h => ⟨h, c_Course_earnedBy p1 _⟩) (fun r10 S9 => ?_)
      refine x_ldc2 (v := 1440) (List.mem_append_right _ (List.mem_append_right _ (List.mem_append_right _ (List.mem_append_right _ (List.mem_append_left _ (List.mem_of_getElem? (i := 96) (by decide +kernel))))))) d_Chan_due_42 ?_
      refine x_ldiv (by decide) d_Chan_due_45 ?_
      exact x_lret d_Chan_due_46 rfl (Nat.le_of_ble_eq_true rfl) (Nat.le_of_ble_eq_true rfl)
    · exact V.kw (kJ18 S4) trivial
theorem c_Chan_due {G : GX} (p1 : Int32) (p2 : Int32) (S : AS) : CN G y_Chan_due b_Chan_due 3 (some (FieldType.long)) ({ frames := 7, cells := 0, slots := 0, locals := 167 } : Room) (some none) iL [.ref 0, .int p1, .int p2] S (f_Chan_due p1 p2 S) := cn_of_v (M := md_Chan_due) (ini := false) rfl (by decide +kernel) (fun h => nomatch h) rfl (Nat.le_of_ble_eq_true rfl) (v_Chan_due p1 p2 S)
noncomputable def f_Course_gatherClaims_69_L52 (J89 : Int32 → AS → Option (Int32 × AS)) (x1 : Int32) (x3 : Int32) (x4 : Int32) (x5 : Int32) : Nat → Int32 → AS → Option (Int32 × AS)
  | 0, _, _ => none
  | n + 1, c6, S => if c6 ≤ 0 then (J89 c6 S) else (chk (vp_in (c6 - 1) 48) (bI (f_Course_duel x5 (gi S 69 (ix (c6 - 1))) x1 S) fun r14 S13 => if r14 < 0 then (J89 c6 S13) else (chk (vp_in (c6 - 1) 48) (chk (vp_in c6 48) (nm (si S13 69 (ix c6) (gi S13 69 (ix (c6 - 1)))) fun S15 => f_Course_gatherClaims_69_L52 J89 x1 x3 x4 x5 n (c6 + (-1)) S15)))))
noncomputable def f_Course_gatherClaims_69_L19 (J104 : Int32 → AS → Option (Int32 × AS)) (x1 : Int32) (x3 : Int32) : Nat → Int32 → Int32 → AS → Option (Int32 × AS)
  | 0, _, _, _ => none
  | n + 1, c4, c5, S => if (gi S 23 8) ≤ c5 then (J104 c4 S) else (if 48 ≤ c4 then (J104 c4 S) else (bI (f_Course_mayClaim c5 x1 S) fun r7 S6 => nm (fun (a8 : Int32) (S9 : AS) => f_Course_gatherClaims_69_L19 J104 x1 x3 n a8 (c5 + 1) S9) fun J98 => if r7 = 0 then (J98 c4 S6) else (nm (fun (a10 : Int32) (S11 : AS) => chk (vp_in a10 48) (nm (si S11 69 (ix a10) c5) fun S12 => J98 (c4 + 1) S12)) fun J89 => f_Course_gatherClaims_69_L52 J89 x1 x3 c4 c5 FU c4 S6)))
noncomputable def f_Course_gatherClaims_69 (p1 : Int32) (S : AS) : Option (Int32 × AS) := chk (vp_in p1 16) (nm (gi S 50 (ix p1)) fun v1 => bV (f_Course_place p1 (-1) S) fun S2 => nm (fun (a3 : Int32) (S4 : AS) => bV (f_Course_place p1 v1 S4) fun S5 => some (a3, S5)) fun J104 => f_Course_gatherClaims_69_L19 J104 p1 v1 FU 0 0 S2)
set_option maxHeartbeats 4000000 in
theorem v_Course_gatherClaims_69_L52 {G : GX} (J89 : Int32 → AS → Option (Int32 × AS)) (x1 : Int32) (x3 : Int32) (x4 : Int32) (x5 : Int32) (kJ89 : ∀ (a10 : Int32) (T : AS), V G md_Course_gatherClaims (QM G md_Course_gatherClaims iI) (fun _ => True) (some none) 89 [some (.ref 49), some (.int x1), some (.ref 69), some (.int x3), some (.int x4), some (.int x5), some (.int a10)] [] 0 0 T (J89 a10 T)) : ∀ (n : Nat) (c6 : Int32) (S : AS), V G md_Course_gatherClaims (QM G md_Course_gatherClaims iI) (fun _ => True) (some none) 52 [some (.ref 49), some (.int x1), some (.ref 69), some (.int x3), some (.int x4), some (.int x5), some (.int c6)] [] 0 0 S (f_Course_gatherClaims_69_L52 J89 x1 x3 x4 x5 n c6 S) := by
  intro n
  induction n with
  | zero => intro c6 S; exact V.none
  | succ n ih =>
    intro c6 S
    rw [f_Course_gatherClaims_69_L52]
    refine x_iload d_Course_gatherClaims_52 rfl ?_
    refine x_if_le (tgt := 89) d_Course_gatherClaims_54 (by decide) (fun _ => ?_) (fun _ => ?_)
    · exact V.kw (kJ89 c6 S) ⟨rfl, rfl, rfl, rfl, rfl, rfl, rfl, trivial⟩
    · refine x_aload_n_ref d_Course_gatherClaims_57 rfl ?_
      refine x_iload d_Course_gatherClaims_58 rfl ?_
      refine x_aload_n_ref d_Course_gatherClaims_60 rfl ?_
      refine x_iload d_Course_gatherClaims_61 rfl ?_
      refine x_iconst (v := 1) d_Course_gatherClaims_63 (by decide) ?_
      refine x_isub d_Course_gatherClaims_64 ?_
      refine x_iald d_Course_gatherClaims_65 ak_69 (q99 (by decide)) ?_
      refine x_iload_n d_Course_gatherClaims_66 rfl ?_
      refine x_vI (b' := (some none)) (As := [.int x5, .int (gi S 69 (ix (c6 - 1))), .int x1]) d_Course_gatherClaims_67 mv_Course_188 rfl (fun _ => ak_49) rfl (q99 (by decide)) ⟨Nat.le_of_ble_eq_true rfl, Nat.le_of_ble_eq_true rfl⟩ (Nat.le_of_ble_eq_true rfl) ⟨Nat.le_of_ble_eq_true rfl, Nat.le_of_ble_eq_true rfl⟩ (fun _ h => h) (fun h => ⟨h, c_Course_duel x5 (gi S 69 (ix (c6 - 1))) x1 _⟩) (fun r14 S13 => ?_)
      refine x_if_lt (tgt := 89) d_Course_gatherClaims_70 (by decide) (fun _ => ?_) (fun _ => ?_)
      · exact V.kw (kJ89 c6 S13) ⟨rfl, rfl, rfl, rfl, rfl, rfl, rfl, trivial⟩
      · refine x_aload_n_ref d_Course_gatherClaims_73 rfl ?_
        refine x_iload d_Course_gatherClaims_74 rfl ?_
        refine x_aload_n_ref d_Course_gatherClaims_76 rfl ?_
        refine x_iload d_Course_gatherClaims_77 rfl ?_
        refine x_iconst (v := 1) d_Course_gatherClaims_79 (by decide) ?_
        refine x_isub d_Course_gatherClaims_80 ?_
        refine x_iald d_Course_gatherClaims_81 ak_69 (q99 (by decide)) ?_
        refine x_iast d_Course_gatherClaims_82 ak_69 (q99 (by decide)) ?_
        refine x_nmS (fun S15 _ => ?_)
        refine x_iinc (w := c6 + (-1)) (lc' := [some (.ref 49), some (.int x1), some (.ref 69), some (.int x3), some (.int x4), some (.int x5), some (.int (c6 + (-1)))]) d_Course_gatherClaims_83 (by decide) rfl rfl rfl ?_
        refine x_goto (tgt := 52) d_Course_gatherClaims_86 (by decide) ?_
        exact V.kw (ih (c6 + (-1)) S15) ⟨rfl, rfl, rfl, rfl, rfl, rfl, rfl, trivial⟩
set_option maxHeartbeats 4000000 in
theorem v_Course_gatherClaims_69_L19 {G : GX} (J104 : Int32 → AS → Option (Int32 × AS)) (x1 : Int32) (x3 : Int32) (kJ104 : ∀ (a3 : Int32) (T : AS), V G md_Course_gatherClaims (QM G md_Course_gatherClaims iI) (fun _ => True) (some none) 104 [some (.ref 49), some (.int x1), none, some (.int x3), some (.int a3), none, none] [] 0 0 T (J104 a3 T)) : ∀ (n : Nat) (c4 : Int32) (c5 : Int32) (S : AS), V G md_Course_gatherClaims (QM G md_Course_gatherClaims iI) (fun _ => True) (some none) 19 [some (.ref 49), some (.int x1), some (.ref 69), some (.int x3), some (.int c4), some (.int c5), none] [] 0 0 S (f_Course_gatherClaims_69_L19 J104 x1 x3 n c4 c5 S) := by
  intro n
  induction n with
  | zero => intro c4 c5 S; exact V.none
  | succ n ih =>
    intro c4 c5 S
    rw [f_Course_gatherClaims_69_L19]
    refine x_iload d_Course_gatherClaims_19 rfl ?_
    refine x_aload_n_ref d_Course_gatherClaims_21 rfl ?_
    refine x_getr d_Course_gatherClaims_22 fl_Course_48 ak_49 (q99 (by decide)) (shx sh_49_1) ?_
    refine x_geti d_Course_gatherClaims_25 fl_Course_170 ak_23 (q99 (by decide)) ?_
    refine x_icmp_ge (tgt := 104) d_Course_gatherClaims_28 (by decide) (fun _ => ?_) (fun _ => ?_)
    · exact V.kw (kJ104 c4 S) ⟨rfl, rfl, rfl, rfl, trivial⟩
    · refine x_iload d_Course_gatherClaims_31 rfl ?_
      refine x_aload_n_ref d_Course_gatherClaims_33 rfl ?_
      refine x_alen (v := 48) d_Course_gatherClaims_34 ak_69 (by decide) (by decide) (q99 (by decide)) ?_
      refine x_icmp_ge (tgt := 104) d_Course_gatherClaims_35 (by decide) (fun _ => ?_) (fun _ => ?_)
      · exact V.kw (kJ104 c4 S) ⟨rfl, rfl, rfl, rfl, trivial⟩
      · refine x_aload_n_ref d_Course_gatherClaims_38 rfl ?_
        refine x_iload d_Course_gatherClaims_39 rfl ?_
        refine x_iload_n d_Course_gatherClaims_41 rfl ?_
        refine x_vI (b' := (some none)) (As := [.int c5, .int x1]) d_Course_gatherClaims_42 mv_Course_164 rfl (fun _ => ak_49) rfl (q99 (by decide)) ⟨Nat.le_of_ble_eq_true rfl, Nat.le_of_ble_eq_true rfl⟩ (Nat.le_of_ble_eq_true rfl) ⟨Nat.le_of_ble_eq_true rfl, Nat.le_of_ble_eq_true rfl⟩ (fun _ h => h) (fun h => ⟨h, c_Course_mayClaim c5 x1 _⟩) (fun r7 S6 => ?_)
        refine x_nm (fun J98 hJ98 => ?_)
        have kJ98 : ∀ (a8 : Int32) (S9 : AS), V G md_Course_gatherClaims (QM G md_Course_gatherClaims iI) (fun _ => True) (some none) 98 [some (.ref 49), some (.int x1), some (.ref 69), some (.int x3), some (.int a8), some (.int c5), none] [] 0 0 S9 (J98 a8 S9) := by
          subst hJ98
          intro a8 S9
          refine x_iinc (w := c5 + 1) (lc' := [some (.ref 49), some (.int x1), some (.ref 69), some (.int x3), some (.int a8), some (.int (c5 + 1)), none]) d_Course_gatherClaims_98 (by decide) rfl rfl rfl ?_
          refine x_goto (tgt := 19) d_Course_gatherClaims_101 (by decide) ?_
          exact V.kw (ih a8 (c5 + 1) S9) ⟨rfl, rfl, rfl, rfl, rfl, rfl, trivial⟩
        clear hJ98
        refine x_if_eq (tgt := 98) d_Course_gatherClaims_45 (by decide) (fun _ => ?_) (fun _ => ?_)
        · exact V.kw (kJ98 c4 S6) ⟨rfl, rfl, rfl, rfl, rfl, rfl, trivial⟩
        · refine x_iload d_Course_gatherClaims_48 rfl ?_
          refine x_istore (lc' := [some (.ref 49), some (.int x1), some (.ref 69), some (.int x3), some (.int c4), some (.int c5), some (.int c4)]) d_Course_gatherClaims_50 (by decide) rfl ?_
          refine x_nm (fun J89 hJ89 => ?_)
          have kJ89 : ∀ (a10 : Int32) (S11 : AS), V G md_Course_gatherClaims (QM G md_Course_gatherClaims iI) (fun _ => True) (some none) 89 [some (.ref 49), some (.int x1), some (.ref 69), some (.int x3), some (.int c4), some (.int c5), some (.int a10)] [] 0 0 S11 (J89 a10 S11) := by
            subst hJ89
            intro a10 S11
            refine x_aload_n_ref d_Course_gatherClaims_89 rfl ?_
            refine x_iload d_Course_gatherClaims_90 rfl ?_
            refine x_iload d_Course_gatherClaims_92 rfl ?_
            refine x_iast d_Course_gatherClaims_94 ak_69 (q99 (by decide)) ?_
            refine x_nmS (fun S12 _ => ?_)
            refine x_iinc (w := c4 + 1) (lc' := [some (.ref 49), some (.int x1), some (.ref 69), some (.int x3), some (.int (c4 + 1)), some (.int c5), some (.int a10)]) d_Course_gatherClaims_95 (by decide) rfl rfl rfl ?_
            exact V.kw (kJ98 (c4 + 1) S12) ⟨rfl, rfl, rfl, rfl, rfl, rfl, trivial⟩
          clear hJ89
          exact V.kw (v_Course_gatherClaims_69_L52 J89 x1 x3 c4 c5 kJ89 FU c4 S6) ⟨rfl, rfl, rfl, rfl, rfl, rfl, rfl, trivial⟩
set_option maxHeartbeats 4000000 in
theorem v_Course_gatherClaims_69 {G : GX} (p1 : Int32) (S : AS) : V G md_Course_gatherClaims (QM G md_Course_gatherClaims iI) (fun _ => True) (some none) 0 [some (.ref 49), some (.int p1), some (.ref 69), none, none, none, none] [] 0 0 S (f_Course_gatherClaims_69 p1 S) := by
  unfold f_Course_gatherClaims_69
  refine x_aload_n_ref d_Course_gatherClaims_0 rfl ?_
  refine x_getr d_Course_gatherClaims_1 fl_Course_9 ak_49 (q99 (by decide)) (shx sh_49_4) ?_
  refine x_iload_n d_Course_gatherClaims_4 rfl ?_
  refine x_iald d_Course_gatherClaims_5 ak_50 (q99 (by decide)) ?_
  refine x_topi (fun v1 => ?_)
  refine x_istore_n (lc' := [some (.ref 49), some (.int p1), some (.ref 69), some (.int v1), none, none, none]) d_Course_gatherClaims_6 (by decide) rfl ?_
  refine x_aload_n_ref d_Course_gatherClaims_7 rfl ?_
  refine x_iload_n d_Course_gatherClaims_8 rfl ?_
  refine x_iconst (v := -1) d_Course_gatherClaims_9 (by decide) ?_
  refine x_vV (b' := (some none)) (As := [.int p1, .int (-1)]) d_Course_gatherClaims_10 mv_Course_121 rfl (fun _ => ak_49) rfl (q99 (by decide)) ⟨Nat.le_of_ble_eq_true rfl, Nat.le_of_ble_eq_true rfl⟩ (Nat.le_of_ble_eq_true rfl) ⟨Nat.le_of_ble_eq_true rfl, Nat.le_of_ble_eq_true rfl⟩ (fun _ h => h) (fun h => ⟨h, c_Course_place p1 (-1) _⟩) (fun S2 => ?_)
  refine x_iconst (v := 0) d_Course_gatherClaims_13 (by decide) ?_
  refine x_istore (lc' := [some (.ref 49), some (.int p1), some (.ref 69), some (.int v1), some (.int 0), none, none]) d_Course_gatherClaims_14 (by decide) rfl ?_
  refine x_iconst (v := 0) d_Course_gatherClaims_16 (by decide) ?_
  refine x_istore (lc' := [some (.ref 49), some (.int p1), some (.ref 69), some (.int v1), some (.int 0), some (.int 0), none]) d_Course_gatherClaims_17 (by decide) rfl ?_
  refine x_nm (fun J104 hJ104 => ?_)
  have kJ104 : ∀ (a3 : Int32) (S4 : AS), V G md_Course_gatherClaims (QM G md_Course_gatherClaims iI) (fun _ => True) (some none) 104 [some (.ref 49), some (.int p1), none, some (.int v1), some (.int a3), none, none] [] 0 0 S4 (J104 a3 S4) := by
    subst hJ104
    intro a3 S4
    refine x_aload_n_ref d_Course_gatherClaims_104 rfl ?_
    refine x_iload_n d_Course_gatherClaims_105 rfl ?_
    refine x_iload_n d_Course_gatherClaims_106 rfl ?_
    refine x_vV (b' := (some none)) (As := [.int p1, .int v1]) d_Course_gatherClaims_107 mv_Course_121 rfl (fun _ => ak_49) rfl (q99 (by decide)) ⟨Nat.le_of_ble_eq_true rfl, Nat.le_of_ble_eq_true rfl⟩ (Nat.le_of_ble_eq_true rfl) ⟨Nat.le_of_ble_eq_true rfl, Nat.le_of_ble_eq_true rfl⟩ (fun _ h => h) (fun h => ⟨h, c_Course_place p1 v1 _⟩) (fun S5 => ?_)
    refine x_iload d_Course_gatherClaims_110 rfl ?_
    exact x_ret d_Course_gatherClaims_112 rfl rfl (Nat.le_of_ble_eq_true rfl) (Nat.le_of_ble_eq_true rfl)
  clear hJ104
  exact V.kw (v_Course_gatherClaims_69_L19 J104 p1 v1 kJ104 FU 0 0 S2) ⟨rfl, rfl, rfl, rfl, rfl, rfl, trivial⟩
theorem c_Course_gatherClaims_69 {G : GX} (p1 : Int32) (S : AS) : CN G y_Course_gatherClaims b_Course_gatherClaims 7 (some (FieldType.int)) ({ frames := 3, cells := 0, slots := 0, locals := 74 } : Room) (some none) iI [.ref 49, .int p1, .ref 69] S (f_Course_gatherClaims_69 p1 S) := cn_of_v (M := md_Course_gatherClaims) (ini := false) rfl (by decide +kernel) (fun h => nomatch h) rfl (Nat.le_of_ble_eq_true rfl) (v_Course_gatherClaims_69 p1 S)
noncomputable def f_Chan_claims (p1 : Int32) (p2 : Int32) (S : AS) : Option (Int32 × AS) := bI (f_Roll_isPost p1 S) fun r2 S1 => if r2 = 0 then (some ((-1), S1)) else (bI (f_Chan_isTime p2 S1) fun r4 S3 => if r4 = 0 then (some ((-1), S3)) else (bI (f_Chan_knownNow S3) fun r6 S5 => bV (f_Course_tell r6 p2 S5) fun S7 => bI (f_Course_gatherClaims_69 p1 S7) fun r9 S8 => nm (si S8 0 10 r9) fun S10 => some (gi S10 0 10, S10)))
set_option maxHeartbeats 4000000 in
theorem v_Chan_claims {G : GX} (p1 : Int32) (p2 : Int32) (S : AS) : V G md_Chan_claims (QM G md_Chan_claims iI) (fun _ => True) (some none) 0 [some (.ref 0), some (.int p1), some (.int p2)] [] 0 0 S (f_Chan_claims p1 p2 S) := by
  unfold f_Chan_claims
  refine x_aload_n_ref d_Chan_claims_0 rfl ?_
  refine x_getr d_Chan_claims_1 fl_Chan_28 ak_0 (q99 (by decide)) (shx sh_0_2) ?_
  refine x_iload_n d_Chan_claims_4 rfl ?_
  refine x_vI (b' := (some none)) (As := [.int p1]) d_Chan_claims_5 mv_Chan_113 rfl (fun _ => ak_16) rfl (q99 (by decide)) ⟨Nat.le_of_ble_eq_true rfl, Nat.le_of_ble_eq_true rfl⟩ (Nat.le_of_ble_eq_true rfl) ⟨Nat.le_of_ble_eq_true rfl, Nat.le_of_ble_eq_true rfl⟩ (fun _ h => h) (fun h => ⟨h, c_Roll_isPost p1 _⟩) (fun r2 S1 => ?_)
  refine x_if_eq (tgt := 18) d_Chan_claims_8 (by decide) (fun _ => ?_) (fun _ => ?_)
  · refine x_iconst (v := -1) d_Chan_claims_18 (by decide) ?_
    exact x_ret d_Chan_claims_19 rfl rfl (Nat.le_of_ble_eq_true rfl) (Nat.le_of_ble_eq_true rfl)
  · refine x_iload_n d_Chan_claims_11 rfl ?_
    refine x_sI (b' := (some none)) (As := [.int p2]) d_Chan_claims_12 ms_Chan_129 rfl ⟨Nat.le_of_ble_eq_true rfl, Nat.le_of_ble_eq_true rfl⟩ (Nat.le_of_ble_eq_true rfl) ⟨Nat.le_of_ble_eq_true rfl, Nat.le_of_ble_eq_true rfl⟩ (fun _ h => h) (fun h => ⟨h, c_Chan_isTime p2 _⟩) (fun r4 S3 => ?_)
    refine x_if_ne (tgt := 20) d_Chan_claims_15 (by decide) (fun _ => ?_) (fun _ => ?_)
    · refine x_aload_n_ref d_Chan_claims_20 rfl ?_
      refine x_getr d_Chan_claims_21 fl_Chan_58 ak_0 (q99 (by decide)) (shx sh_0_6) ?_
      refine x_aload_n_ref d_Chan_claims_24 rfl ?_
      refine x_vI (b' := (some none)) (As := []) d_Chan_claims_25 mv_Chan_172 rfl (fun _ => ak_0) rfl (q99 (by decide)) ⟨Nat.le_of_ble_eq_true rfl, Nat.le_of_ble_eq_true rfl⟩ (Nat.le_of_ble_eq_true rfl) ⟨Nat.le_of_ble_eq_true rfl, Nat.le_of_ble_eq_true rfl⟩ (fun _ h => h) (fun h => ⟨h, c_Chan_knownNow _⟩) (fun r6 S5 => ?_)
      refine x_iload_n d_Chan_claims_28 rfl ?_
      refine x_vV (b' := (some none)) (As := [.int r6, .int p2]) d_Chan_claims_29 mv_Chan_176 rfl (fun _ => ak_49) rfl (q99 (by decide)) ⟨Nat.le_of_ble_eq_true rfl, Nat.le_of_ble_eq_true rfl⟩ (Nat.le_of_ble_eq_true rfl) ⟨Nat.le_of_ble_eq_true rfl, Nat.le_of_ble_eq_true rfl⟩ (fun _ h => h) (fun h => ⟨h, c_Course_tell r6 p2 _⟩) (fun S7 => ?_)
      refine x_aload_n_ref d_Chan_claims_32 rfl ?_
      refine x_aload_n_ref d_Chan_claims_33 rfl ?_
      refine x_getr d_Chan_claims_34 fl_Chan_58 ak_0 (q99 (by decide)) (shx sh_0_6) ?_
      refine x_iload_n d_Chan_claims_37 rfl ?_
      refine x_aload_n_ref d_Chan_claims_38 rfl ?_
      refine x_getr d_Chan_claims_39 fl_Chan_78 ak_0 (q99 (by decide)) (shx sh_0_9) ?_
      refine x_vI (b' := (some none)) (As := [.int p1, .ref 69]) d_Chan_claims_42 mv_Chan_214 rfl (fun _ => ak_49) rfl (q99 (by decide)) ⟨Nat.le_of_ble_eq_true rfl, Nat.le_of_ble_eq_true rfl⟩ (Nat.le_of_ble_eq_true rfl) ⟨Nat.le_of_ble_eq_true rfl, Nat.le_of_ble_eq_true rfl⟩ (fun _ h => h) (fun h => ⟨h, c_Course_gatherClaims_69 p1 _⟩) (fun r9 S8 => ?_)
      refine x_puti d_Chan_claims_45 fl_Chan_218 rfl ak_0 (q99 (by decide)) (fun h => nomatch h) (fun h => nomatch h) ?_
      refine x_nmS (fun S10 _ => ?_)
      refine x_aload_n_ref d_Chan_claims_48 rfl ?_
      refine x_geti d_Chan_claims_49 fl_Chan_218 ak_0 (q99 (by decide)) ?_
      exact x_ret d_Chan_claims_52 rfl rfl (Nat.le_of_ble_eq_true rfl) (Nat.le_of_ble_eq_true rfl)
    · refine x_iconst (v := -1) d_Chan_claims_18 (by decide) ?_
      exact x_ret d_Chan_claims_19 rfl rfl (Nat.le_of_ble_eq_true rfl) (Nat.le_of_ble_eq_true rfl)
theorem c_Chan_claims {G : GX} (p1 : Int32) (p2 : Int32) (S : AS) : CN G y_Chan_claims b_Chan_claims 3 (some (FieldType.int)) ({ frames := 7, cells := 0, slots := 0, locals := 167 } : Room) (some none) iI [.ref 0, .int p1, .int p2] S (f_Chan_claims p1 p2 S) := cn_of_v (M := md_Chan_claims) (ini := false) rfl (by decide +kernel) (fun h => nomatch h) rfl (Nat.le_of_ble_eq_true rfl) (v_Chan_claims p1 p2 S)
noncomputable def f_Chan_claim (p1 : Int32) (S : AS) : Option (Int32 × AS) := nm (fun (S1 : AS) => some ((-1), S1)) fun J21 => if p1 < 0 then (J21 S) else (if (gi S 0 10) ≤ p1 then (J21 S) else (chk (vp_in p1 48) (some (gi S 69 (ix p1), S))))
set_option maxHeartbeats 4000000 in
theorem v_Chan_claim {G : GX} (p1 : Int32) (S : AS) : V G md_Chan_claim (QM G md_Chan_claim iI) (fun _ => True) (some none) 0 [some (.ref 0), some (.int p1)] [] 0 0 S (f_Chan_claim p1 S) := by
  unfold f_Chan_claim
  refine x_iload_n d_Chan_claim_0 rfl ?_
  refine x_nm (fun J21 hJ21 => ?_)
  have kJ21 : ∀ (S1 : AS), V G md_Chan_claim (QM G md_Chan_claim iI) (fun _ => True) (some none) 21 [none, none] [] 0 0 S1 (J21 S1) := by
    subst hJ21
    intro S1
    refine x_iconst (v := -1) d_Chan_claim_21 (by decide) ?_
    exact x_ret d_Chan_claim_22 rfl rfl (Nat.le_of_ble_eq_true rfl) (Nat.le_of_ble_eq_true rfl)
  clear hJ21
  refine x_if_lt (tgt := 21) d_Chan_claim_1 (by decide) (fun _ => ?_) (fun _ => ?_)
  · exact V.kw (kJ21 S) trivial
  · refine x_iload_n d_Chan_claim_4 rfl ?_
    refine x_aload_n_ref d_Chan_claim_5 rfl ?_
    refine x_geti d_Chan_claim_6 fl_Chan_218 ak_0 (q99 (by decide)) ?_
    refine x_icmp_ge (tgt := 21) d_Chan_claim_9 (by decide) (fun _ => ?_) (fun _ => ?_)
    · exact V.kw (kJ21 S) trivial
    · refine x_aload_n_ref d_Chan_claim_12 rfl ?_
      refine x_getr d_Chan_claim_13 fl_Chan_78 ak_0 (q99 (by decide)) (shx sh_0_9) ?_
      refine x_iload_n d_Chan_claim_16 rfl ?_
      refine x_iald d_Chan_claim_17 ak_69 (q99 (by decide)) ?_
      refine x_goto (tgt := 22) d_Chan_claim_18 (by decide) ?_
      exact x_ret d_Chan_claim_22 rfl rfl (Nat.le_of_ble_eq_true rfl) (Nat.le_of_ble_eq_true rfl)
theorem c_Chan_claim {G : GX} (p1 : Int32) (S : AS) : CN G y_Chan_claim b_Chan_claim 2 (some (FieldType.int)) ({ frames := 0, cells := 0, slots := 0, locals := 0 } : Room) (some none) iI [.ref 0, .int p1] S (f_Chan_claim p1 S) := cn_of_v (M := md_Chan_claim) (ini := false) rfl (by decide +kernel) (fun h => nomatch h) rfl (Nat.le_of_ble_eq_true rfl) (v_Chan_claim p1 S)
noncomputable def f_Course_duelWhenFree (p1 : Int32) (p2 : Int32) (p3 : Int32) (S : AS) : Option (Int32 × AS) := chk (vp_in p3 16) (nm (gi S 50 (ix p3)) fun v1 => bV (f_Course_place p3 (-1) S) fun S2 => bI (f_Course_duel p1 p2 p3 S2) fun r4 S3 => bV (f_Course_place p3 v1 S3) fun S5 => some (r4, S5))
set_option maxHeartbeats 4000000 in
theorem v_Course_duelWhenFree {G : GX} (p1 : Int32) (p2 : Int32) (p3 : Int32) (S : AS) : V G md_Course_duelWhenFree (QM G md_Course_duelWhenFree iI) (fun _ => True) (some none) 0 [some (.ref 49), some (.int p1), some (.int p2), some (.int p3), none, none] [] 0 0 S (f_Course_duelWhenFree p1 p2 p3 S) := by
  unfold f_Course_duelWhenFree
  refine x_aload_n_ref d_Course_duelWhenFree_0 rfl ?_
  refine x_getr d_Course_duelWhenFree_1 fl_Course_9 ak_49 (q99 (by decide)) (shx sh_49_4) ?_
  refine x_iload_n d_Course_duelWhenFree_4 rfl ?_
  refine x_iald d_Course_duelWhenFree_5 ak_50 (q99 (by decide)) ?_
  refine x_topi (fun v1 => ?_)
  refine x_istore (lc' := [some (.ref 49), some (.int p1), some (.int p2), some (.int p3), some (.int v1), none]) d_Course_duelWhenFree_6 (by decide) rfl ?_
  refine x_aload_n_ref d_Course_duelWhenFree_8 rfl ?_
  refine x_iload_n d_Course_duelWhenFree_9 rfl ?_
  refine x_iconst (v := -1) d_Course_duelWhenFree_10 (by decide) ?_
  refine x_vV (b' := (some none)) (As := [.int p3, .int (-1)]) d_Course_duelWhenFree_11 mv_Course_121 rfl (fun _ => ak_49) rfl (q99 (by decide)) ⟨Nat.le_of_ble_eq_true rfl, Nat.le_of_ble_eq_true rfl⟩ (Nat.le_of_ble_eq_true rfl) ⟨Nat.le_of_ble_eq_true rfl, Nat.le_of_ble_eq_true rfl⟩ (fun _ h => h) (fun h => ⟨h, c_Course_place p3 (-1) _⟩) (fun S2 => ?_)
  refine x_aload_n_ref d_Course_duelWhenFree_14 rfl ?_
  refine x_iload_n d_Course_duelWhenFree_15 rfl ?_
  refine x_iload_n d_Course_duelWhenFree_16 rfl ?_
  refine x_iload_n d_Course_duelWhenFree_17 rfl ?_
  refine x_vI (b' := (some none)) (As := [.int p1, .int p2, .int p3]) d_Course_duelWhenFree_18 mv_Course_188 rfl (fun _ => ak_49) rfl (q99 (by decide)) ⟨Nat.le_of_ble_eq_true rfl, Nat.le_of_ble_eq_true rfl⟩ (Nat.le_of_ble_eq_true rfl) ⟨Nat.le_of_ble_eq_true rfl, Nat.le_of_ble_eq_true rfl⟩ (fun _ h => h) (fun h => ⟨h, c_Course_duel p1 p2 p3 _⟩) (fun r4 S3 => ?_)
  refine x_istore (lc' := [some (.ref 49), some (.int p1), some (.int p2), some (.int p3), some (.int v1), some (.int r4)]) d_Course_duelWhenFree_21 (by decide) rfl ?_
  refine x_aload_n_ref d_Course_duelWhenFree_23 rfl ?_
  refine x_iload_n d_Course_duelWhenFree_24 rfl ?_
  refine x_iload d_Course_duelWhenFree_25 rfl ?_
  refine x_vV (b' := (some none)) (As := [.int p3, .int v1]) d_Course_duelWhenFree_27 mv_Course_121 rfl (fun _ => ak_49) rfl (q99 (by decide)) ⟨Nat.le_of_ble_eq_true rfl, Nat.le_of_ble_eq_true rfl⟩ (Nat.le_of_ble_eq_true rfl) ⟨Nat.le_of_ble_eq_true rfl, Nat.le_of_ble_eq_true rfl⟩ (fun _ h => h) (fun h => ⟨h, c_Course_place p3 v1 _⟩) (fun S5 => ?_)
  refine x_iload d_Course_duelWhenFree_30 rfl ?_
  exact x_ret d_Course_duelWhenFree_32 rfl rfl (Nat.le_of_ble_eq_true rfl) (Nat.le_of_ble_eq_true rfl)
theorem c_Course_duelWhenFree {G : GX} (p1 : Int32) (p2 : Int32) (p3 : Int32) (S : AS) : CN G y_Course_duelWhenFree b_Course_duelWhenFree 6 (some (FieldType.int)) ({ frames := 3, cells := 0, slots := 0, locals := 74 } : Room) (some none) iI [.ref 49, .int p1, .int p2, .int p3] S (f_Course_duelWhenFree p1 p2 p3 S) := cn_of_v (M := md_Course_duelWhenFree) (ini := false) rfl (by decide +kernel) (fun h => nomatch h) rfl (Nat.le_of_ble_eq_true rfl) (v_Course_duelWhenFree p1 p2 p3 S)
noncomputable def f_Chan_by (p1 : Int32) (p2 : Int32) (p3 : Int32) (p4 : Int32) (S : AS) : Option (Int32 × AS) := bI (f_Chan_knownNow S) fun r2 S1 => bI (f_Roll_isPost p1 S1) fun r4 S3 => nm (fun (S5 : AS) => some ((-1000), S5)) fun J57 => if r4 = 0 then (J57 S3) else (bI (f_Chan_isTime p2 S3) fun r7 S6 => if r7 = 0 then (J57 S6) else (if p3 = p4 then (J57 S6) else (bI (f_PaperBox_isKnown p3 r2 S6) fun r9 S8 => if r9 = 0 then (J57 S8) else (bI (f_PaperBox_isKnown p4 r2 S8) fun r11 S10 => if r11 = 0 then (J57 S10) else (bV (f_Course_tell r2 p2 S10) fun S12 => bI (f_Course_duelWhenFree p3 p4 p1 S12) fun r14 S13 => some (r14, S13))))))
set_option maxHeartbeats 4000000 in
theorem v_Chan_by {G : GX} (p1 : Int32) (p2 : Int32) (p3 : Int32) (p4 : Int32) (S : AS) : V G md_Chan_by (QM G md_Chan_by iI) (fun _ => True) (some none) 0 [some (.ref 0), some (.int p1), some (.int p2), some (.int p3), some (.int p4), none] [] 0 0 S (f_Chan_by p1 p2 p3 p4 S) := by
  unfold f_Chan_by
  refine x_aload_n_ref d_Chan_by_0 rfl ?_
  refine x_vI (b' := (some none)) (As := []) d_Chan_by_1 mv_Chan_172 rfl (fun _ => ak_0) rfl (q99 (by decide)) ⟨Nat.le_of_ble_eq_true rfl, Nat.le_of_ble_eq_true rfl⟩ (Nat.le_of_ble_eq_true rfl) ⟨Nat.le_of_ble_eq_true rfl, Nat.le_of_ble_eq_true rfl⟩ (fun _ h => h) (fun h => ⟨h, c_Chan_knownNow _⟩) (fun r2 S1 => ?_)
  refine x_istore (lc' := [some (.ref 0), some (.int p1), some (.int p2), some (.int p3), some (.int p4), some (.int r2)]) d_Chan_by_4 (by decide) rfl ?_
  refine x_aload_n_ref d_Chan_by_6 rfl ?_
  refine x_getr d_Chan_by_7 fl_Chan_28 ak_0 (q99 (by decide)) (shx sh_0_2) ?_
  refine x_iload_n d_Chan_by_10 rfl ?_
  refine x_vI (b' := (some none)) (As := [.int p1]) d_Chan_by_11 mv_Chan_113 rfl (fun _ => ak_16) rfl (q99 (by decide)) ⟨Nat.le_of_ble_eq_true rfl, Nat.le_of_ble_eq_true rfl⟩ (Nat.le_of_ble_eq_true rfl) ⟨Nat.le_of_ble_eq_true rfl, Nat.le_of_ble_eq_true rfl⟩ (fun _ h => h) (fun h => ⟨h, c_Roll_isPost p1 _⟩) (fun r4 S3 => ?_)
  refine x_nm (fun J57 hJ57 => ?_)
  have kJ57 : ∀ (S5 : AS), V G md_Chan_by (QM G md_Chan_by iI) (fun _ => True) (some none) 57 [none, none, none, none, none, none] [] 0 0 S5 (J57 S5) := by
    subst hJ57
    intro S5
    refine x_sipush (v := -1000) d_Chan_by_57 (by decide) ?_
    exact x_ret d_Chan_by_60 rfl rfl (Nat.le_of_ble_eq_true rfl) (Nat.le_of_ble_eq_true rfl)
  clear hJ57
  refine x_if_eq (tgt := 57) d_Chan_by_14 (by decide) (fun _ => ?_) (fun _ => ?_)
  · exact V.kw (kJ57 S3) trivial
  · refine x_iload_n d_Chan_by_17 rfl ?_
    refine x_sI (b' := (some none)) (As := [.int p2]) d_Chan_by_18 ms_Chan_129 rfl ⟨Nat.le_of_ble_eq_true rfl, Nat.le_of_ble_eq_true rfl⟩ (Nat.le_of_ble_eq_true rfl) ⟨Nat.le_of_ble_eq_true rfl, Nat.le_of_ble_eq_true rfl⟩ (fun _ h => h) (fun h => ⟨h, c_Chan_isTime p2 _⟩) (fun r7 S6 => ?_)
    refine x_if_eq (tgt := 57) d_Chan_by_21 (by decide) (fun _ => ?_) (fun _ => ?_)
    · exact V.kw (kJ57 S6) trivial
    · refine x_iload_n d_Chan_by_24 rfl ?_
      refine x_iload d_Chan_by_25 rfl ?_
      refine x_icmp_eq (tgt := 57) d_Chan_by_27 (by decide) (fun _ => ?_) (fun _ => ?_)
      · exact V.kw (kJ57 S6) trivial
      · refine x_aload_n_ref d_Chan_by_30 rfl ?_
        refine x_getr d_Chan_by_31 fl_Chan_35 ak_0 (q99 (by decide)) (shx sh_0_3) ?_
        refine x_iload_n d_Chan_by_34 rfl ?_
        refine x_iload d_Chan_by_35 rfl ?_
        refine x_vI (b' := (some none)) (As := [.int p3, .int r2]) d_Chan_by_37 mv_Chan_182 rfl (fun _ => ak_23) rfl (q99 (by decide)) ⟨Nat.le_of_ble_eq_true rfl, Nat.le_of_ble_eq_true rfl⟩ (Nat.le_of_ble_eq_true rfl) ⟨Nat.le_of_ble_eq_true rfl, Nat.le_of_ble_eq_true rfl⟩ (fun _ h => h) (fun h => ⟨h, c_PaperBox_isKnown p3 r2 _⟩) (fun r9 S8 => ?_)
        refine x_if_eq (tgt := 57) d_Chan_by_40 (by decide) (fun _ => ?_) (fun _ => ?_)
        · exact V.kw (kJ57 S8) trivial
        · refine x_aload_n_ref d_Chan_by_43 rfl ?_
          refine x_getr d_Chan_by_44 fl_Chan_35 ak_0 (q99 (by decide)) (shx sh_0_3) ?_
          refine x_iload d_Chan_by_47 rfl ?_
          refine x_iload d_Chan_by_49 rfl ?_
          refine x_vI (b' := (some none)) (As := [.int p4, .int r2]) d_Chan_by_51 mv_Chan_182 rfl (fun _ => ak_23) rfl (q99 (by decide)) ⟨Nat.le_of_ble_eq_true rfl, Nat.le_of_ble_eq_true rfl⟩ (Nat.le_of_ble_eq_true rfl) ⟨Nat.le_of_ble_eq_true rfl, Nat.le_of_ble_eq_true rfl⟩ (fun _ h => h) (fun h => ⟨h, c_PaperBox_isKnown p4 r2 _⟩) (fun r11 S10 => ?_)
          refine x_if_ne (tgt := 61) d_Chan_by_54 (by decide) (fun _ => ?_) (fun _ => ?_)
          · refine x_aload_n_ref d_Chan_by_61 rfl ?_
            refine x_getr d_Chan_by_62 fl_Chan_58 ak_0 (q99 (by decide)) (shx sh_0_6) ?_
            refine x_iload d_Chan_by_65 rfl ?_
            refine x_iload_n d_Chan_by_67 rfl ?_
            refine x_vV (b' := (some none)) (As := [.int r2, .int p2]) d_Chan_by_68 mv_Chan_176 rfl (fun _ => ak_49) rfl (q99 (by decide)) ⟨Nat.le_of_ble_eq_true rfl, Nat.le_of_ble_eq_true rfl⟩ (Nat.le_of_ble_eq_true rfl) ⟨Nat.le_of_ble_eq_true rfl, Nat.le_of_ble_eq_true rfl⟩ (fun _ h => h) (fun h => ⟨h, c_Course_tell r2 p2 _⟩) (fun S12 => ?_)
            refine x_aload_n_ref d_Chan_by_71 rfl ?_
            refine x_getr d_Chan_by_72 fl_Chan_58 ak_0 (q99 (by decide)) (shx sh_0_6) ?_
            refine x_iload_n d_Chan_by_75 rfl ?_
            refine x_iload d_Chan_by_76 rfl ?_
            refine x_iload_n d_Chan_by_78 rfl ?_
            refine x_vI (b' := (some none)) (As := [.int p3, .int p4, .int p1]) d_Chan_by_79 mv_Chan_221 rfl (fun _ => ak_49) rfl (q99 (by decide)) ⟨Nat.le_of_ble_eq_true rfl, Nat.le_of_ble_eq_true rfl⟩ (Nat.le_of_ble_eq_true rfl) ⟨Nat.le_of_ble_eq_true rfl, Nat.le_of_ble_eq_true rfl⟩ (fun _ h => h) (fun h => ⟨h, c_Course_duelWhenFree p3 p4 p1 _⟩) (fun r14 S13 => ?_)
            exact x_ret d_Chan_by_82 rfl rfl (Nat.le_of_ble_eq_true rfl) (Nat.le_of_ble_eq_true rfl)
          · exact V.kw (kJ57 S10) trivial
theorem c_Chan_by {G : GX} (p1 : Int32) (p2 : Int32) (p3 : Int32) (p4 : Int32) (S : AS) : CN G y_Chan_by b_Chan_by 6 (some (FieldType.int)) ({ frames := 7, cells := 0, slots := 0, locals := 167 } : Room) (some none) iI [.ref 0, .int p1, .int p2, .int p3, .int p4] S (f_Chan_by p1 p2 p3 p4 S) := cn_of_v (M := md_Chan_by) (ini := false) rfl (by decide +kernel) (fun h => nomatch h) rfl (Nat.le_of_ble_eq_true rfl) (v_Chan_by p1 p2 p3 p4 S)
noncomputable def f_Ends_knows (p1 : Int32) (S : AS) : Option (Int32 × AS) := nm (fun (S1 : AS) => some (0, S1)) fun J31 => if p1 < 0 then (J31 S) else (if 160 < p1 then (J31 S) else (chk (vp_in p1 161) (if (gi S 62 (ix p1)) = (gi S 16 8) then (some (1, S)) else (J31 S))))
set_option maxHeartbeats 4000000 in
theorem v_Ends_knows {G : GX} (p1 : Int32) (S : AS) : V G md_Ends_knows (QM G md_Ends_knows iI) (fun _ => True) (some none) 0 [some (.ref 60), some (.int p1)] [] 0 0 S (f_Ends_knows p1 S) := by
  unfold f_Ends_knows
  refine x_iload_n d_Ends_knows_0 rfl ?_
  refine x_nm (fun J31 hJ31 => ?_)
  have kJ31 : ∀ (S1 : AS), V G md_Ends_knows (QM G md_Ends_knows iI) (fun _ => True) (some none) 31 [none, none] [] 0 0 S1 (J31 S1) := by
    subst hJ31
    intro S1
    refine x_iconst (v := 0) d_Ends_knows_31 (by decide) ?_
    exact x_ret d_Ends_knows_32 rfl rfl (Nat.le_of_ble_eq_true rfl) (Nat.le_of_ble_eq_true rfl)
  clear hJ31
  refine x_if_lt (tgt := 31) d_Ends_knows_1 (by decide) (fun _ => ?_) (fun _ => ?_)
  · exact V.kw (kJ31 S) trivial
  · refine x_iload_n d_Ends_knows_4 rfl ?_
    refine x_sipush (v := 160) d_Ends_knows_5 (by decide) ?_
    refine x_icmp_gt (tgt := 31) d_Ends_knows_8 (by decide) (fun _ => ?_) (fun _ => ?_)
    · exact V.kw (kJ31 S) trivial
    · refine x_aload_n_ref d_Ends_knows_11 rfl ?_
      refine x_getr d_Ends_knows_12 fl_Ends_15 ak_60 (q99 (by decide)) (shx sh_60_2) ?_
      refine x_iload_n d_Ends_knows_15 rfl ?_
      refine x_iald d_Ends_knows_16 ak_62 (q99 (by decide)) ?_
      refine x_aload_n_ref d_Ends_knows_17 rfl ?_
      refine x_getr d_Ends_knows_18 fl_Ends_18 ak_60 (q99 (by decide)) (shx sh_60_0) ?_
      refine x_geti d_Ends_knows_21 fl_Ends_28 ak_16 (q99 (by decide)) ?_
      refine x_icmp_ne (tgt := 31) d_Ends_knows_24 (by decide) (fun _ => ?_) (fun _ => ?_)
      · exact V.kw (kJ31 S) trivial
      · refine x_iconst (v := 1) d_Ends_knows_27 (by decide) ?_
        refine x_goto (tgt := 32) d_Ends_knows_28 (by decide) ?_
        exact x_ret d_Ends_knows_32 rfl rfl (Nat.le_of_ble_eq_true rfl) (Nat.le_of_ble_eq_true rfl)
theorem c_Ends_knows {G : GX} (p1 : Int32) (S : AS) : CN G y_Ends_knows b_Ends_knows 2 (some (FieldType.boolean)) ({ frames := 0, cells := 0, slots := 0, locals := 0 } : Room) (some none) iI [.ref 60, .int p1] S (f_Ends_knows p1 S) := cn_of_v (M := md_Ends_knows) (ini := false) rfl (by decide +kernel) (fun h => nomatch h) rfl (Nat.le_of_ble_eq_true rfl) (v_Ends_knows p1 S)
