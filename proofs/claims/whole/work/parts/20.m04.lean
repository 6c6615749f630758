noncomputable def f_Md_dies_L68 (J107 : AS → Option AS) (x1 : Int32) (x2 : Int32) : Nat → Int32 → AS → Option AS
  | 0, _, _ => none
  | n + 1, c3, S => if (gi S 70 4) ≤ c3 then (J107 S) else (chk (vp_in c3 16) (nm (fun (S4 : AS) => f_Md_dies_L68 J107 x1 x2 n (c3 + 1) S4) fun J101 => if (gi S 85 (ix c3)) = x1 then (bV (f_Md_leaves c3 x2 S) fun S5 => bV (f_Md_gives c3 x2 S5) fun S6 => J101 S6) else (J101 S)))
noncomputable def f_Md_dies_L19 (J66 : AS → Option AS) (x1 : Int32) (x2 : Int32) : Nat → Int32 → AS → Option AS
  | 0, _, _ => none
  | n + 1, c3, S => if (gi S 70 11) ≤ c3 then (J66 S) else (chk (vp_in c3 48) (nm (fun (a7 : Int32) (a8 : Int32) (S9 : AS) => chk (vp_in a7 48) (nm (si S9 88 (ix a7) (vp_nar .boolean a8)) fun S10 => f_Md_dies_L19 J66 x1 x2 n (c3 + 1) S10)) fun J59 => nm (fun (a11 : Int32) (S12 : AS) => J59 a11 0 S12) fun J58 => if (gi S 88 (ix c3)) = 0 then (J58 c3 S) else (chk (vp_in (7 * c3) 336) (if (gi S 78 (ix (7 * c3))) = x1 then (J58 c3 S) else (J59 c3 1 S)))))
noncomputable def f_Md_dies (p1 : Int32) (p2 : Int32) (S : AS) : Option AS := chk (vp_in p1 24) (if (gi S 87 (ix p1)) = 0 then (chk (vp_in p1 24) (nm (si S 87 (ix p1) (vp_nar .boolean 1)) fun S1 => nm (fun (S2 : AS) => nm (fun (S3 : AS) => some S3) fun J107 => f_Md_dies_L68 J107 p1 p2 FU 0 S2) fun J66 => f_Md_dies_L19 J66 p1 p2 FU 0 S1)) else (some S))
set_option maxHeartbeats 4000000 in
theorem v_Md_dies_L68 {G : GX} (J107 : AS → Option AS) (x1 : Int32) (x2 : Int32) (kJ107 : ∀ (T : AS), V G md_Md_dies (QM G md_Md_dies iV) (fun _ => True) (some none) 107 [none, none, none, none] [] 0 0 T (J107 T)) : ∀ (n : Nat) (c3 : Int32) (S : AS), V G md_Md_dies (QM G md_Md_dies iV) (fun _ => True) (some none) 68 [some (.ref 70), some (.int x1), some (.int x2), some (.int c3)] [] 0 0 S (f_Md_dies_L68 J107 x1 x2 n c3 S) := by
  intro n
  induction n with
  | zero => intro c3 S; exact V.none
  | succ n ih =>
    intro c3 S
    rw [f_Md_dies_L68]
    refine x_iload_n d_Md_dies_68 rfl ?_
    refine x_aload_n_ref d_Md_dies_69 rfl ?_
    refine x_geti d_Md_dies_70 fl_Md_23 ak_70 (q99 (by decide)) ?_
    refine x_icmp_ge (tgt := 107) d_Md_dies_73 (by decide) (fun _ => ?_) (fun _ => ?_)
    · exact V.kw (kJ107 S) trivial
    · refine x_aload_n_ref d_Md_dies_76 rfl ?_
      refine x_getr d_Md_dies_77 fl_Md_89 ak_70 (q99 (by decide)) (shx sh_70_26) ?_
      refine x_iload_n d_Md_dies_80 rfl ?_
      refine x_iald d_Md_dies_81 ak_85 (q99 (by decide)) ?_
      refine x_iload_n d_Md_dies_82 rfl ?_
      refine x_nm (fun J101 hJ101 => ?_)
      have kJ101 : ∀ (S4 : AS), V G md_Md_dies (QM G md_Md_dies iV) (fun _ => True) (some none) 101 [some (.ref 70), some (.int x1), some (.int x2), some (.int c3)] [] 0 0 S4 (J101 S4) := by
        subst hJ101
        intro S4
        refine x_iinc (w := c3 + 1) (lc' := [some (.ref 70), some (.int x1), some (.int x2), some (.int (c3 + 1))]) d_Md_dies_101 (by decide) rfl rfl rfl ?_
        refine x_goto (tgt := 68) d_Md_dies_104 (by decide) ?_
        exact V.kw (ih (c3 + 1) S4) ⟨rfl, rfl, rfl, rfl, trivial⟩
      clear hJ101
      refine x_icmp_eq (tgt := 89) d_Md_dies_83 (by decide) (fun _ => ?_) (fun _ => ?_)
      · refine x_aload_n_ref d_Md_dies_89 rfl ?_
        refine x_iload_n d_Md_dies_90 rfl ?_
        refine x_iload_n d_Md_dies_91 rfl ?_
        refine x_vV (b' := (some none)) (As := [.int c3, .int x2]) d_Md_dies_92 mv_Md_275 rfl (fun _ => ak_70) rfl (q99 (by decide)) ⟨Nat.le_of_ble_eq_true rfl, Nat.le_of_ble_eq_true rfl⟩ (Nat.le_of_ble_eq_true rfl) ⟨Nat.le_of_ble_eq_true rfl, Nat.le_of_ble_eq_true rfl⟩ (fun _ h => h) (fun h => ⟨h, c_Md_leaves c3 x2 _⟩) (fun S5 => ?_)
        refine x_aload_n_ref d_Md_dies_95 rfl ?_
        refine x_iload_n d_Md_dies_96 rfl ?_
        refine x_iload_n d_Md_dies_97 rfl ?_
        refine x_vV (b' := (some none)) (As := [.int c3, .int x2]) d_Md_dies_98 mv_Md_278 rfl (fun _ => ak_70) rfl (q99 (by decide)) ⟨Nat.le_of_ble_eq_true rfl, Nat.le_of_ble_eq_true rfl⟩ (Nat.le_of_ble_eq_true rfl) ⟨Nat.le_of_ble_eq_true rfl, Nat.le_of_ble_eq_true rfl⟩ (fun _ h => h) (fun h => ⟨h, c_Md_gives c3 x2 _⟩) (fun S6 => ?_)
        exact V.kw (kJ101 S6) ⟨rfl, rfl, rfl, rfl, trivial⟩
      · refine x_goto (tgt := 101) d_Md_dies_86 (by decide) ?_
        exact V.kw (kJ101 S) ⟨rfl, rfl, rfl, rfl, trivial⟩
set_option maxHeartbeats 4000000 in
theorem v_Md_dies_L19 {G : GX} (J66 : AS → Option AS) (x1 : Int32) (x2 : Int32) (kJ66 : ∀ (T : AS), V G md_Md_dies (QM G md_Md_dies iV) (fun _ => True) (some none) 66 [some (.ref 70), some (.int x1), some (.int x2), none] [] 0 0 T (J66 T)) : ∀ (n : Nat) (c3 : Int32) (S : AS), V G md_Md_dies (QM G md_Md_dies iV) (fun _ => True) (some none) 19 [some (.ref 70), some (.int x1), some (.int x2), some (.int c3)] [] 0 0 S (f_Md_dies_L19 J66 x1 x2 n c3 S) := by
  intro n
  induction n with
  | zero => intro c3 S; exact V.none
  | succ n ih =>
    intro c3 S
    rw [f_Md_dies_L19]
    refine x_iload_n d_Md_dies_19 rfl ?_
    refine x_aload_n_ref d_Md_dies_20 rfl ?_
    refine x_geti d_Md_dies_21 fl_Md_44 ak_70 (q99 (by decide)) ?_
    refine x_icmp_ge (tgt := 66) d_Md_dies_24 (by decide) (fun _ => ?_) (fun _ => ?_)
    · exact V.kw (kJ66 S) ⟨rfl, rfl, rfl, trivial⟩
    · refine x_aload_n_ref d_Md_dies_27 rfl ?_
      refine x_getr d_Md_dies_28 fl_Md_99 ak_70 (q99 (by decide)) (shx sh_70_29) ?_
      refine x_iload_n d_Md_dies_31 rfl ?_
      refine x_aload_n_ref d_Md_dies_32 rfl ?_
      refine x_getr d_Md_dies_33 fl_Md_99 ak_70 (q99 (by decide)) (shx sh_70_29) ?_
      refine x_iload_n d_Md_dies_36 rfl ?_
      refine x_zald d_Md_dies_37 ak_88 (q99 (by decide)) ?_
      refine x_nm (fun J59 hJ59 => ?_)
      have kJ59 : ∀ (a7 : Int32) (a8 : Int32) (S9 : AS), V G md_Md_dies (QM G md_Md_dies iV) (fun _ => True) (some none) 59 [some (.ref 70), some (.int x1), some (.int x2), some (.int c3)] [.int a8, .int a7, .ref 88] 0 0 S9 (J59 a7 a8 S9) := by
        subst hJ59
        intro a7 a8 S9
        refine x_zast d_Md_dies_59 ak_88 (q99 (by decide)) ?_
        refine x_nmS (fun S10 _ => ?_)
        refine x_iinc (w := c3 + 1) (lc' := [some (.ref 70), some (.int x1), some (.int x2), some (.int (c3 + 1))]) d_Md_dies_60 (by decide) rfl rfl rfl ?_
        refine x_goto (tgt := 19) d_Md_dies_63 (by decide) ?_
        exact V.kw (ih (c3 + 1) S10) ⟨rfl, rfl, rfl, rfl, trivial⟩
      clear hJ59
      refine x_nm (fun J58 hJ58 => ?_)
      have kJ58 : ∀ (a11 : Int32) (S12 : AS), V G md_Md_dies (QM G md_Md_dies iV) (fun _ => True) (some none) 58 [some (.ref 70), some (.int x1), some (.int x2), some (.int c3)] [.int a11, .ref 88] 0 0 S12 (J58 a11 S12) := by
        subst hJ58
        intro a11 S12
        refine x_iconst (v := 0) d_Md_dies_58 (by decide) ?_
        exact V.kw (kJ59 a11 0 S12) ⟨rfl, rfl, rfl, rfl, trivial⟩
      clear hJ58
      refine x_if_eq (tgt := 58) d_Md_dies_38 (by decide) (fun _ => ?_) (fun _ => ?_)
      · exact V.kw (kJ58 c3 S) ⟨rfl, rfl, rfl, rfl, trivial⟩
      · refine x_aload_n_ref d_Md_dies_41 rfl ?_
        refine x_getr d_Md_dies_42 fl_Md_47 ak_70 (q99 (by decide)) (shx sh_70_12) ?_
        refine x_bipush (v := 7) d_Md_dies_45 (by decide) ?_
        refine x_iload_n d_Md_dies_47 rfl ?_
        refine x_imul d_Md_dies_48 ?_
        refine x_iald d_Md_dies_49 ak_78 (q99 (by decide)) ?_
        refine x_iload_n d_Md_dies_50 rfl ?_
        refine x_icmp_eq (tgt := 58) d_Md_dies_51 (by decide) (fun _ => ?_) (fun _ => ?_)
        · exact V.kw (kJ58 c3 S) ⟨rfl, rfl, rfl, rfl, trivial⟩
        · refine x_iconst (v := 1) d_Md_dies_54 (by decide) ?_
          refine x_goto (tgt := 59) d_Md_dies_55 (by decide) ?_
          exact V.kw (kJ59 c3 1 S) ⟨rfl, rfl, rfl, rfl, trivial⟩
set_option maxHeartbeats 4000000 in
theorem v_Md_dies {G : GX} (p1 : Int32) (p2 : Int32) (S : AS) : V G md_Md_dies (QM G md_Md_dies iV) (fun _ => True) (some none) 0 [some (.ref 70), some (.int p1), some (.int p2), none] [] 0 0 S (f_Md_dies p1 p2 S) := by
  unfold f_Md_dies
  refine x_aload_n_ref d_Md_dies_0 rfl ?_
  refine x_getr d_Md_dies_1 fl_Md_95 ak_70 (q99 (by decide)) (shx sh_70_28) ?_
  refine x_iload_n d_Md_dies_4 rfl ?_
  refine x_zald d_Md_dies_5 ak_87 (q99 (by decide)) ?_
  refine x_if_eq (tgt := 10) d_Md_dies_6 (by decide) (fun _ => ?_) (fun _ => ?_)
  · refine x_aload_n_ref d_Md_dies_10 rfl ?_
    refine x_getr d_Md_dies_11 fl_Md_95 ak_70 (q99 (by decide)) (shx sh_70_28) ?_
    refine x_iload_n d_Md_dies_14 rfl ?_
    refine x_iconst (v := 1) d_Md_dies_15 (by decide) ?_
    refine x_zast d_Md_dies_16 ak_87 (q99 (by decide)) ?_
    refine x_nmS (fun S1 _ => ?_)
    refine x_iconst (v := 0) d_Md_dies_17 (by decide) ?_
    refine x_istore_n (lc' := [some (.ref 70), some (.int p1), some (.int p2), some (.int 0)]) d_Md_dies_18 (by decide) rfl ?_
    refine x_nm (fun J66 hJ66 => ?_)
    have kJ66 : ∀ (S2 : AS), V G md_Md_dies (QM G md_Md_dies iV) (fun _ => True) (some none) 66 [some (.ref 70), some (.int p1), some (.int p2), none] [] 0 0 S2 (J66 S2) := by
      subst hJ66
      intro S2
      refine x_iconst (v := 0) d_Md_dies_66 (by decide) ?_
      refine x_istore_n (lc' := [some (.ref 70), some (.int p1), some (.int p2), some (.int 0)]) d_Md_dies_67 (by decide) rfl ?_
      refine x_nm (fun J107 hJ107 => ?_)
      have kJ107 : ∀ (S3 : AS), V G md_Md_dies (QM G md_Md_dies iV) (fun _ => True) (some none) 107 [none, none, none, none] [] 0 0 S3 (J107 S3) := by
        subst hJ107
        intro S3
        exact x_vret d_Md_dies_107 rfl (Nat.le_of_ble_eq_true rfl) (Nat.le_of_ble_eq_true rfl)
      clear hJ107
      exact V.kw (v_Md_dies_L68 J107 p1 p2 kJ107 FU 0 S2) ⟨rfl, rfl, rfl, rfl, trivial⟩
    clear hJ66
    exact V.kw (v_Md_dies_L19 J66 p1 p2 kJ66 FU 0 S1) ⟨rfl, rfl, rfl, rfl, trivial⟩
  · exact x_vret d_Md_dies_9 rfl (Nat.le_of_ble_eq_true rfl) (Nat.le_of_ble_eq_true rfl)
theorem c_Md_dies {G : GX} (p1 : Int32) (p2 : Int32) (S : AS) : CN G y_Md_dies b_Md_dies 4 none ({ frames := 6, cells := 0, slots := 0, locals := 151 } : Room) (some none) iV [.ref 70, .int p1, .int p2] S (f_Md_dies p1 p2 S) := cn_of_v (M := md_Md_dies) (ini := false) rfl (by decide +kernel) (fun h => nomatch h) rfl (Nat.le_of_ble_eq_true rfl) (v_Md_dies p1 p2 S)
noncomputable def f_Md_resigns (p1 : Int32) (p2 : Int32) (p3 : Int32) (S : AS) : Option AS := chk (vp_in p1 16) (if (gi S 85 (ix p1)) = (-1) then (some S) else (bV (f_Md_leaves p1 p3 S) fun S1 => chk (vp_in p2 24) (nm (fun (S2 : AS) => bV (f_Md_gives p1 p3 S2) fun S3 => some S3) fun J47 => if (gi S1 87 (ix p2)) = 0 then (bI (f_Md_isBarred p1 p2 (-1) p3 S1) fun r5 S4 => if r5 = 0 then (bV (f_Md_takes p1 p2 p3 S4) fun S6 => some S6) else (J47 S4)) else (J47 S1))))
set_option maxHeartbeats 4000000 in
theorem v_Md_resigns {G : GX} (p1 : Int32) (p2 : Int32) (p3 : Int32) (S : AS) : V G md_Md_resigns (QM G md_Md_resigns iV) (fun _ => True) (some none) 0 [some (.ref 70), some (.int p1), some (.int p2), some (.int p3)] [] 0 0 S (f_Md_resigns p1 p2 p3 S) := by
  unfold f_Md_resigns
  refine x_aload_n_ref d_Md_resigns_0 rfl ?_
  refine x_getr d_Md_resigns_1 fl_Md_89 ak_70 (q99 (by decide)) (shx sh_70_26) ?_
  refine x_iload_n d_Md_resigns_4 rfl ?_
  refine x_iald d_Md_resigns_5 ak_85 (q99 (by decide)) ?_
  refine x_iconst (v := -1) d_Md_resigns_6 (by decide) ?_
  refine x_icmp_ne (tgt := 11) d_Md_resigns_7 (by decide) (fun _ => ?_) (fun _ => ?_)
  · refine x_aload_n_ref d_Md_resigns_11 rfl ?_
    refine x_iload_n d_Md_resigns_12 rfl ?_
    refine x_iload_n d_Md_resigns_13 rfl ?_
    refine x_vV (b' := (some none)) (As := [.int p1, .int p3]) d_Md_resigns_14 mv_Md_275 rfl (fun _ => ak_70) rfl (q99 (by decide)) ⟨Nat.le_of_ble_eq_true rfl, Nat.le_of_ble_eq_true rfl⟩ (Nat.le_of_ble_eq_true rfl) ⟨Nat.le_of_ble_eq_true rfl, Nat.le_of_ble_eq_true rfl⟩ (fun _ h => h) (fun h => ⟨h, c_Md_leaves p1 p3 _⟩) (fun S1 => ?_)
    refine x_aload_n_ref d_Md_resigns_17 rfl ?_
    refine x_getr d_Md_resigns_18 fl_Md_95 ak_70 (q99 (by decide)) (shx sh_70_28) ?_
    refine x_iload_n d_Md_resigns_21 rfl ?_
    refine x_zald d_Md_resigns_22 ak_87 (q99 (by decide)) ?_
    refine x_nm (fun J47 hJ47 => ?_)
    have kJ47 : ∀ (S2 : AS), V G md_Md_resigns (QM G md_Md_resigns iV) (fun _ => True) (some none) 47 [some (.ref 70), some (.int p1), none, some (.int p3)] [] 0 0 S2 (J47 S2) := by
      subst hJ47
      intro S2
      refine x_aload_n_ref d_Md_resigns_47 rfl ?_
      refine x_iload_n d_Md_resigns_48 rfl ?_
      refine x_iload_n d_Md_resigns_49 rfl ?_
      refine x_vV (b' := (some none)) (As := [.int p1, .int p3]) d_Md_resigns_50 mv_Md_278 rfl (fun _ => ak_70) rfl (q99 (by decide)) ⟨Nat.le_of_ble_eq_true rfl, Nat.le_of_ble_eq_true rfl⟩ (Nat.le_of_ble_eq_true rfl) ⟨Nat.le_of_ble_eq_true rfl, Nat.le_of_ble_eq_true rfl⟩ (fun _ h => h) (fun h => ⟨h, c_Md_gives p1 p3 _⟩) (fun S3 => ?_)
      exact x_vret d_Md_resigns_53 rfl (Nat.le_of_ble_eq_true rfl) (Nat.le_of_ble_eq_true rfl)
    clear hJ47
    refine x_if_ne (tgt := 47) d_Md_resigns_23 (by decide) (fun _ => ?_) (fun _ => ?_)
    · exact V.kw (kJ47 S1) ⟨rfl, rfl, rfl, trivial⟩
    · refine x_aload_n_ref d_Md_resigns_26 rfl ?_
      refine x_iload_n d_Md_resigns_27 rfl ?_
      refine x_iload_n d_Md_resigns_28 rfl ?_
      refine x_iconst (v := -1) d_Md_resigns_29 (by decide) ?_
      refine x_iload_n d_Md_resigns_30 rfl ?_
      refine x_vI (b' := (some none)) (As := [.int p1, .int p2, .int (-1), .int p3]) d_Md_resigns_31 mv_Md_259 rfl (fun _ => ak_70) rfl (q99 (by decide)) ⟨Nat.le_of_ble_eq_true rfl, Nat.le_of_ble_eq_true rfl⟩ (Nat.le_of_ble_eq_true rfl) ⟨Nat.le_of_ble_eq_true rfl, Nat.le_of_ble_eq_true rfl⟩ (fun _ h => h) (fun h => ⟨h, c_Md_isBarred p1 p2 (-1) p3 _⟩) (fun r5 S4 => ?_)
      refine x_if_ne (tgt := 47) d_Md_resigns_34 (by decide) (fun _ => ?_) (fun _ => ?_)
      · exact V.kw (kJ47 S4) ⟨rfl, rfl, rfl, trivial⟩
      · refine x_aload_n_ref d_Md_resigns_37 rfl ?_
        refine x_iload_n d_Md_resigns_38 rfl ?_
        refine x_iload_n d_Md_resigns_39 rfl ?_
        refine x_iload_n d_Md_resigns_40 rfl ?_
        refine x_vV (b' := (some none)) (As := [.int p1, .int p2, .int p3]) d_Md_resigns_41 mv_Md_263 rfl (fun _ => ak_70) rfl (q99 (by decide)) ⟨Nat.le_of_ble_eq_true rfl, Nat.le_of_ble_eq_true rfl⟩ (Nat.le_of_ble_eq_true rfl) ⟨Nat.le_of_ble_eq_true rfl, Nat.le_of_ble_eq_true rfl⟩ (fun _ h => h) (fun h => ⟨h, c_Md_takes p1 p2 p3 _⟩) (fun S6 => ?_)
        refine x_goto (tgt := 53) d_Md_resigns_44 (by decide) ?_
        exact x_vret d_Md_resigns_53 rfl (Nat.le_of_ble_eq_true rfl) (Nat.le_of_ble_eq_true rfl)
  · exact x_vret d_Md_resigns_10 rfl (Nat.le_of_ble_eq_true rfl) (Nat.le_of_ble_eq_true rfl)
theorem c_Md_resigns {G : GX} (p1 : Int32) (p2 : Int32) (p3 : Int32) (S : AS) : CN G y_Md_resigns b_Md_resigns 4 none ({ frames := 6, cells := 0, slots := 0, locals := 151 } : Room) (some none) iV [.ref 70, .int p1, .int p2, .int p3] S (f_Md_resigns p1 p2 p3 S) := cn_of_v (M := md_Md_resigns) (ini := false) rfl (by decide +kernel) (fun h => nomatch h) rfl (Nat.le_of_ble_eq_true rfl) (v_Md_resigns p1 p2 p3 S)
noncomputable def f_Md_swaps (p1 : Int32) (p2 : Int32) (p3 : Int32) (S : AS) : Option AS := chk (vp_in p1 16) (nm (gi S 85 (ix p1)) fun v1 => chk (vp_in p2 16) (nm (gi S 85 (ix p2)) fun v2 => if v1 = (-1) then (some S) else (if v2 = (-1) then (some S) else (bV (f_Md_leaves p1 p3 S) fun S3 => bV (f_Md_leaves p2 p3 S3) fun S4 => bV (f_Md_takes p1 v2 p3 S4) fun S5 => bV (f_Md_takes p2 v1 p3 S5) fun S6 => some S6))))
set_option maxHeartbeats 4000000 in
theorem v_Md_swaps {G : GX} (p1 : Int32) (p2 : Int32) (p3 : Int32) (S : AS) : V G md_Md_swaps (QM G md_Md_swaps iV) (fun _ => True) (some none) 0 [some (.ref 70), some (.int p1), some (.int p2), some (.int p3), none, none] [] 0 0 S (f_Md_swaps p1 p2 p3 S) := by
  unfold f_Md_swaps
  refine x_aload_n_ref d_Md_swaps_0 rfl ?_
  refine x_getr d_Md_swaps_1 fl_Md_89 ak_70 (q99 (by decide)) (shx sh_70_26) ?_
  refine x_iload_n d_Md_swaps_4 rfl ?_
  refine x_iald d_Md_swaps_5 ak_85 (q99 (by decide)) ?_
  refine x_topi (fun v1 => ?_)
  refine x_istore (lc' := [some (.ref 70), some (.int p1), some (.int p2), some (.int p3), some (.int v1), none]) d_Md_swaps_6 (by decide) rfl ?_
  refine x_aload_n_ref d_Md_swaps_8 rfl ?_
  refine x_getr d_Md_swaps_9 fl_Md_89 ak_70 (q99 (by decide)) (shx sh_70_26) ?_
  refine x_iload_n d_Md_swaps_12 rfl ?_
  refine x_iald d_Md_swaps_13 ak_85 (q99 (by decide)) ?_
  refine x_topi (fun v2 => ?_)
  refine x_istore (lc' := [some (.ref 70), some (.int p1), some (.int p2), some (.int p3), some (.int v1), some (.int v2)]) d_Md_swaps_14 (by decide) rfl ?_
  refine x_iload d_Md_swaps_16 rfl ?_
  refine x_iconst (v := -1) d_Md_swaps_18 (by decide) ?_
  refine x_icmp_eq (tgt := 28) d_Md_swaps_19 (by decide) (fun _ => ?_) (fun _ => ?_)
  · exact x_vret d_Md_swaps_28 rfl (Nat.le_of_ble_eq_true rfl) (Nat.le_of_ble_eq_true rfl)
  · refine x_iload d_Md_swaps_22 rfl ?_
    refine x_iconst (v := -1) d_Md_swaps_24 (by decide) ?_
    refine x_icmp_ne (tgt := 29) d_Md_swaps_25 (by decide) (fun _ => ?_) (fun _ => ?_)
    · refine x_aload_n_ref d_Md_swaps_29 rfl ?_
      refine x_iload_n d_Md_swaps_30 rfl ?_
      refine x_iload_n d_Md_swaps_31 rfl ?_
      refine x_vV (b' := (some none)) (As := [.int p1, .int p3]) d_Md_swaps_32 mv_Md_275 rfl (fun _ => ak_70) rfl (q99 (by decide)) ⟨Nat.le_of_ble_eq_true rfl, Nat.le_of_ble_eq_true rfl⟩ (Nat.le_of_ble_eq_true rfl) ⟨Nat.le_of_ble_eq_true rfl, Nat.le_of_ble_eq_true rfl⟩ (fun _ h => h) (fun h => ⟨h, c_Md_leaves p1 p3 _⟩) (fun S3 => ?_)
      refine x_aload_n_ref d_Md_swaps_35 rfl ?_
      refine x_iload_n d_Md_swaps_36 rfl ?_
      refine x_iload_n d_Md_swaps_37 rfl ?_
      refine x_vV (b' := (some none)) (As := [.int p2, .int p3]) d_Md_swaps_38 mv_Md_275 rfl (fun _ => ak_70) rfl (q99 (by decide)) ⟨Nat.le_of_ble_eq_true rfl, Nat.le_of_ble_eq_true rfl⟩ (Nat.le_of_ble_eq_true rfl) ⟨Nat.le_of_ble_eq_true rfl, Nat.le_of_ble_eq_true rfl⟩ (fun _ h => h) (fun h => ⟨h, c_Md_leaves p2 p3 _⟩) (fun S4 => ?_)
      refine x_aload_n_ref d_Md_swaps_41 rfl ?_
      refine x_iload_n d_Md_swaps_42 rfl ?_
      refine x_iload d_Md_swaps_43 rfl ?_
      refine x_iload_n d_Md_swaps_45 rfl ?_
      refine x_vV (b' := (some none)) (As := [.int p1, .int v2, .int p3]) d_Md_swaps_46 mv_Md_263 rfl (fun _ => ak_70) rfl (q99 (by decide)) ⟨Nat.le_of_ble_eq_true rfl, Nat.le_of_ble_eq_true rfl⟩ (Nat.le_of_ble_eq_true rfl) ⟨Nat.le_of_ble_eq_true rfl, Nat.le_of_ble_eq_true rfl⟩ (fun _ h => h) (fun h => ⟨h, c_Md_takes p1 v2 p3 _⟩) (fun S5 => ?_)
      refine x_aload_n_ref d_Md_swaps_49 rfl ?_
      refine x_iload_n d_Md_swaps_50 rfl ?_
      refine x_iload d_Md_swaps_51 rfl ?_
      refine x_iload_n d_Md_swaps_53 rfl ?_
      refine x_vV (b' := (some none)) (As := [.int p2, .int v1, .int p3]) d_Md_swaps_54 mv_Md_263 rfl (fun _ => ak_70) rfl (q99 (by decide)) ⟨Nat.le_of_ble_eq_true rfl, Nat.le_of_ble_eq_true rfl⟩ (Nat.le_of_ble_eq_true rfl) ⟨Nat.le_of_ble_eq_true rfl, Nat.le_of_ble_eq_true rfl⟩ (fun _ h => h) (fun h => ⟨h, c_Md_takes p2 v1 p3 _⟩) (fun S6 => ?_)
      exact x_vret d_Md_swaps_57 rfl (Nat.le_of_ble_eq_true rfl) (Nat.le_of_ble_eq_true rfl)
    · exact x_vret d_Md_swaps_28 rfl (Nat.le_of_ble_eq_true rfl) (Nat.le_of_ble_eq_true rfl)
theorem c_Md_swaps {G : GX} (p1 : Int32) (p2 : Int32) (p3 : Int32) (S : AS) : CN G y_Md_swaps b_Md_swaps 6 none ({ frames := 1, cells := 0, slots := 0, locals := 23 } : Room) (some none) iV [.ref 70, .int p1, .int p2, .int p3] S (f_Md_swaps p1 p2 p3 S) := cn_of_v (M := md_Md_swaps) (ini := false) rfl (by decide +kernel) (fun h => nomatch h) rfl (Nat.le_of_ble_eq_true rfl) (v_Md_swaps p1 p2 p3 S)
noncomputable def f_Md_goes_L199 (J249 : Int32 → AS → Option AS) (x1 : Int32) : Nat → Int32 → Int32 → AS → Option AS
  | 0, _, _, _ => none
  | n + 1, c3, c4, S => if x1 < c4 then (J249 c3 S) else (chk (vp_in c4 161) (nm (fun (a20 : Int32) (S21 : AS) => f_Md_goes_L199 J249 x1 n a20 (c4 + 1) S21) fun J242 => nm (fun (S22 : AS) => J242 c3 S22) fun J241 => if (gi S 92 (ix c4)) = 0 then (nm (fun (S23 : AS) => J242 c4 S23) fun J236 => if c3 = (-1) then (J236 S) else (chk (vp_in c4 161) (chk (vp_in c3 161) (if (gi S 75 (ix c3)) ≤ (gi S 75 (ix c4)) then (J241 S) else (J236 S))))) else (J241 S)))
noncomputable def f_Md_goes_L190 (J368 : AS → Option AS) (x1 : Int32) : Nat → Int32 → AS → Option AS
  | 0, _, _ => none
  | n + 1, c3, S => if c3 < 0 then (J368 S) else (nm (fun (a6 : Int32) (S7 : AS) => if 0 ≤ a6 then (chk (vp_in a6 161) (nm (si S7 92 (ix a6) (vp_nar .boolean 1)) fun S8 => chk (vp_in a6 161) (nm (gi S8 75 (ix a6)) fun v9 => chk (vp_in a6 161) (nm (gi S8 76 (ix a6)) fun v10 => chk (vp_in a6 161) (nm (gi S8 77 (ix a6)) fun v11 => chk (vp_in a6 161) (nm (fun (S12 : AS) => f_Md_goes_L190 J368 x1 n a6 S12) fun J365 => if (gi S8 74 (ix a6)) = 0 then (bV (f_Md_comes v10 v9 S8) fun S13 => J365 S13) else (if (gi S8 74 (ix a6)) = 1 then (bV (f_Md_dies v10 v9 S8) fun S14 => J365 S14) else (if (gi S8 74 (ix a6)) = 2 then (bV (f_Md_resigns v10 v11 v9 S8) fun S15 => J365 S15) else (bV (f_Md_swaps v10 v11 v9 S8) fun S16 => J365 S16))))))))) else (f_Md_goes_L190 J368 x1 n a6 S7)) fun J249 => f_Md_goes_L199 J249 x1 FU (-1) 1 S)
noncomputable def f_Md_goes_L108 (J188 : AS → Option AS) (x1 : Int32) (x2 : Int32) : Nat → Int32 → AS → Option AS
  | 0, _, _ => none
  | n + 1, c3, S => if x1 < c3 then (J188 S) else (chk (vp_in c3 161) (nm (fun (a24 : Int32) (a25 : Int32) (S26 : AS) => chk (vp_in a24 161) (nm (si S26 92 (ix a24) (vp_nar .boolean a25)) fun S27 => f_Md_goes_L108 J188 x1 x2 n (c3 + 1) S27)) fun J181 => nm (fun (a28 : Int32) (S29 : AS) => J181 a28 1 S29) fun J176 => if (gi S 74 (ix c3)) = 4 then (J176 c3 S) else (chk (vp_in c3 161) (if x2 < (gi S 75 (ix c3)) then (J176 c3 S) else (chk (vp_in c3 161) (nm (fun (a30 : Int32) (S31 : AS) => J181 a30 0 S31) fun J180 => if (gi S 74 (ix c3)) = 0 then (chk (vp_in c3 161) (chk (vp_in (gi S 76 (ix c3)) 48) (if (gi S 79 (ix (gi S 76 (ix c3)))) ≤ 0 then (J180 c3 S) else (chk (vp_in c3 161) (chk (vp_in (gi S 76 (ix c3)) 48) (if x1 < (gi S 79 (ix (gi S 76 (ix c3)))) then (J180 c3 S) else (J176 c3 S))))))) else (J180 c3 S)))))))
noncomputable def f_Md_goes_L71 (J106 : AS → Option AS) (x1 : Int32) (x2 : Int32) : Nat → Int32 → AS → Option AS
  | 0, _, _ => none
  | n + 1, c3, S => if (gi S 70 11) ≤ c3 then (J106 S) else (chk (vp_in c3 48) (nm (si S 88 (ix c3) (vp_nar .boolean 0)) fun S32 => chk (vp_in c3 48) (nm (si S32 89 (ix c3) (-1)) fun S33 => chk (vp_in c3 48) (nm (si S33 90 (ix c3) (-1)) fun S34 => f_Md_goes_L71 J106 x1 x2 n (c3 + 1) S34))))
noncomputable def f_Md_goes_L41 (J69 : AS → Option AS) (x1 : Int32) (x2 : Int32) : Nat → Int32 → AS → Option AS
  | 0, _, _ => none
  | n + 1, c3, S => if (gi S 70 2) ≤ c3 then (J69 S) else (chk (vp_in c3 24) (nm (si S 87 (ix c3) (vp_nar .boolean 0)) fun S35 => chk (vp_in c3 24) (nm (sl S35 91 (ix c3) 0) fun S36 => f_Md_goes_L41 J69 x1 x2 n (c3 + 1) S36)))
noncomputable def f_Md_goes_L2 (J39 : AS → Option AS) (x1 : Int32) (x2 : Int32) : Nat → Int32 → AS → Option AS
  | 0, _, _ => none
  | n + 1, c3, S => if (gi S 70 4) ≤ c3 then (J39 S) else (chk (vp_in ((3 * c3) + 2) 48) (chk (vp_in c3 16) (nm (si S 85 (ix c3) (gi S 73 (ix ((3 * c3) + 2)))) fun S37 => chk (vp_in c3 16) (nm (si S37 86 (ix c3) 0) fun S38 => f_Md_goes_L2 J39 x1 x2 n (c3 + 1) S38))))
noncomputable def f_Md_goes (p1 : Int32) (p2 : Int32) (S : AS) : Option AS := nm (fun (S1 : AS) => nm (fun (S2 : AS) => nm (fun (S3 : AS) => nm (fun (S4 : AS) => nm (fun (S5 : AS) => some S5) fun J368 => f_Md_goes_L190 J368 p1 FU 0 S4) fun J188 => f_Md_goes_L108 J188 p1 p2 FU 1 S3) fun J106 => f_Md_goes_L71 J106 p1 p2 FU 0 S2) fun J69 => f_Md_goes_L41 J69 p1 p2 FU 0 S1) fun J39 => f_Md_goes_L2 J39 p1 p2 FU 0 S
set_option maxHeartbeats 4000000 in
theorem v_Md_goes_L199 {G : GX} (J249 : Int32 → AS → Option AS) (x1 : Int32) (kJ249 : ∀ (a6 : Int32) (T : AS), V G md_Md_goes (QM G md_Md_goes iV) (fun _ => True) (some none) 249 [some (.ref 70), some (.int x1), none, some (.int a6), none, none, none] [] 0 0 T (J249 a6 T)) : ∀ (n : Nat) (c3 : Int32) (c4 : Int32) (S : AS), V G md_Md_goes (QM G md_Md_goes iV) (fun _ => True) (some none) 199 [some (.ref 70), some (.int x1), none, some (.int c3), some (.int c4), none, none] [] 0 0 S (f_Md_goes_L199 J249 x1 n c3 c4 S) := by
  intro n
  induction n with
  | zero => intro c3 c4 S; exact V.none
  | succ n ih =>
    intro c3 c4 S
    rw [f_Md_goes_L199]
    refine x_iload d_Md_goes_199 rfl ?_
    refine x_iload_n d_Md_goes_201 rfl ?_
    refine x_icmp_gt (tgt := 249) d_Md_goes_202 (by decide) (fun _ => ?_) (fun _ => ?_)
    · exact V.kw (kJ249 c3 S) ⟨rfl, rfl, rfl, trivial⟩
    · refine x_aload_n_ref d_Md_goes_205 rfl ?_
      refine x_getr d_Md_goes_206 fl_Md_112 ak_70 (q99 (by decide)) (shx sh_70_33) ?_
      refine x_iload d_Md_goes_209 rfl ?_
      refine x_zald d_Md_goes_211 ak_92 (q99 (by decide)) ?_
      refine x_nm (fun J242 hJ242 => ?_)
      have kJ242 : ∀ (a20 : Int32) (S21 : AS), V G md_Md_goes (QM G md_Md_goes iV) (fun _ => True) (some none) 242 [some (.ref 70), some (.int x1), none, none, some (.int c4), none, none] [.int a20] 0 0 S21 (J242 a20 S21) := by
        subst hJ242
        intro a20 S21
        refine x_istore_n (lc' := [some (.ref 70), some (.int x1), none, some (.int a20), some (.int c4), none, none]) d_Md_goes_242 (by decide) rfl ?_
        refine x_iinc (w := c4 + 1) (lc' := [some (.ref 70), some (.int x1), none, some (.int a20), some (.int (c4 + 1)), none, none]) d_Md_goes_243 (by decide) rfl rfl rfl ?_
        refine x_goto (tgt := 199) d_Md_goes_246 (by decide) ?_
        exact V.kw (ih a20 (c4 + 1) S21) ⟨rfl, rfl, rfl, rfl, trivial⟩
      clear hJ242
      refine x_nm (fun J241 hJ241 => ?_)
      have kJ241 : ∀ (S22 : AS), V G md_Md_goes (QM G md_Md_goes iV) (fun _ => True) (some none) 241 [some (.ref 70), some (.int x1), none, some (.int c3), some (.int c4), none, none] [] 0 0 S22 (J241 S22) := by
        subst hJ241
        intro S22
        refine x_iload_n d_Md_goes_241 rfl ?_
        exact V.kw (kJ242 c3 S22) ⟨rfl, rfl, rfl, trivial⟩
      clear hJ241
      refine x_if_ne (tgt := 241) d_Md_goes_212 (by decide) (fun _ => ?_) (fun _ => ?_)
      · exact V.kw (kJ241 S) ⟨rfl, rfl, rfl, rfl, trivial⟩
      · refine x_iload_n d_Md_goes_215 rfl ?_
        refine x_iconst (v := -1) d_Md_goes_216 (by decide) ?_
        refine x_nm (fun J236 hJ236 => ?_)
        have kJ236 : ∀ (S23 : AS), V G md_Md_goes (QM G md_Md_goes iV) (fun _ => True) (some none) 236 [some (.ref 70), some (.int x1), none, none, some (.int c4), none, none] [] 0 0 S23 (J236 S23) := by
          subst hJ236
          intro S23
          refine x_iload d_Md_goes_236 rfl ?_
          refine x_goto (tgt := 242) d_Md_goes_238 (by decide) ?_
          exact V.kw (kJ242 c4 S23) ⟨rfl, rfl, rfl, trivial⟩
        clear hJ236
        refine x_icmp_eq (tgt := 236) d_Md_goes_217 (by decide) (fun _ => ?_) (fun _ => ?_)
        · exact V.kw (kJ236 S) ⟨rfl, rfl, rfl, trivial⟩
        · refine x_aload_n_ref d_Md_goes_220 rfl ?_
          refine x_getr d_Md_goes_221 fl_Md_35 ak_70 (q99 (by decide)) (shx sh_70_8) ?_
          refine x_iload d_Md_goes_224 rfl ?_
          refine x_iald d_Md_goes_226 ak_75 (q99 (by decide)) ?_
          refine x_aload_n_ref d_Md_goes_227 rfl ?_
          refine x_getr d_Md_goes_228 fl_Md_35 ak_70 (q99 (by decide)) (shx sh_70_8) ?_
          refine x_iload_n d_Md_goes_231 rfl ?_
          refine x_iald d_Md_goes_232 ak_75 (q99 (by decide)) ?_
          refine x_icmp_ge (tgt := 241) d_Md_goes_233 (by decide) (fun _ => ?_) (fun _ => ?_)
          · exact V.kw (kJ241 S) ⟨rfl, rfl, rfl, rfl, trivial⟩
          · exact V.kw (kJ236 S) ⟨rfl, rfl, rfl, trivial⟩
set_option maxHeartbeats 4000000 in
theorem v_Md_goes_L190 {G : GX} (J368 : AS → Option AS) (x1 : Int32) (kJ368 : ∀ (T : AS), V G md_Md_goes (QM G md_Md_goes iV) (fun _ => True) (some none) 368 [none, none, none, none, none, none, none] [] 0 0 T (J368 T)) : ∀ (n : Nat) (c3 : Int32) (S : AS), V G md_Md_goes (QM G md_Md_goes iV) (fun _ => True) (some none) 190 [some (.ref 70), some (.int x1), none, some (.int c3), none, none, none] [] 0 0 S (f_Md_goes_L190 J368 x1 n c3 S) := by
  intro n
  induction n with
  | zero => intro c3 S; exact V.none
  | succ n ih =>
    intro c3 S
    rw [f_Md_goes_L190]
    refine x_iload_n d_Md_goes_190 rfl ?_
    refine x_if_lt (tgt := 368) d_Md_goes_191 (by decide) (fun _ => ?_) (fun _ => ?_)
    · exact V.kw (kJ368 S) trivial
    · refine x_iconst (v := -1) d_Md_goes_194 (by decide) ?_
      refine x_istore_n (lc' := [some (.ref 70), some (.int x1), none, some (.int (-1)), none, none, none]) d_Md_goes_195 (by decide) rfl ?_
      refine x_iconst (v := 1) d_Md_goes_196 (by decide) ?_
      refine x_istore (lc' := [some (.ref 70), some (.int x1), none, some (.int (-1)), some (.int 1), none, none]) d_Md_goes_197 (by decide) rfl ?_
      refine x_nm (fun J249 hJ249 => ?_)
      have kJ249 : ∀ (a6 : Int32) (S7 : AS), V G md_Md_goes (QM G md_Md_goes iV) (fun _ => True) (some none) 249 [some (.ref 70), some (.int x1), none, some (.int a6), none, none, none] [] 0 0 S7 (J249 a6 S7) := by
        subst hJ249
        intro a6 S7
        refine x_iload_n d_Md_goes_249 rfl ?_
        refine x_if_ge (tgt := 256) d_Md_goes_250 (by decide) (fun _ => ?_) (fun _ => ?_)
        · refine x_aload_n_ref d_Md_goes_256 rfl ?_
          refine x_getr d_Md_goes_257 fl_Md_112 ak_70 (q99 (by decide)) (shx sh_70_33) ?_
          refine x_iload_n d_Md_goes_260 rfl ?_
          refine x_iconst (v := 1) d_Md_goes_261 (by decide) ?_
          refine x_zast d_Md_goes_262 ak_92 (q99 (by decide)) ?_
          refine x_nmS (fun S8 _ => ?_)
          refine x_aload_n_ref d_Md_goes_263 rfl ?_
          refine x_getr d_Md_goes_264 fl_Md_35 ak_70 (q99 (by decide)) (shx sh_70_8) ?_
          refine x_iload_n d_Md_goes_267 rfl ?_
          refine x_iald d_Md_goes_268 ak_75 (q99 (by decide)) ?_
          refine x_topi (fun v9 => ?_)
          refine x_istore (lc' := [some (.ref 70), some (.int x1), none, some (.int a6), some (.int v9), none, none]) d_Md_goes_269 (by decide) rfl ?_
          refine x_aload_n_ref d_Md_goes_271 rfl ?_
          refine x_getr d_Md_goes_272 fl_Md_38 ak_70 (q99 (by decide)) (shx sh_70_9) ?_
          refine x_iload_n d_Md_goes_275 rfl ?_
          refine x_iald d_Md_goes_276 ak_76 (q99 (by decide)) ?_
          refine x_topi (fun v10 => ?_)
          refine x_istore (lc' := [some (.ref 70), some (.int x1), none, some (.int a6), some (.int v9), some (.int v10), none]) d_Md_goes_277 (by decide) rfl ?_
          refine x_aload_n_ref d_Md_goes_279 rfl ?_
          refine x_getr d_Md_goes_280 fl_Md_41 ak_70 (q99 (by decide)) (shx sh_70_10) ?_
          refine x_iload_n d_Md_goes_283 rfl ?_
          refine x_iald d_Md_goes_284 ak_77 (q99 (by decide)) ?_
          refine x_topi (fun v11 => ?_)
          refine x_istore (lc' := [some (.ref 70), some (.int x1), none, some (.int a6), some (.int v9), some (.int v10), some (.int v11)]) d_Md_goes_285 (by decide) rfl ?_
          refine x_aload_n_ref d_Md_goes_287 rfl ?_
          refine x_getr d_Md_goes_288 fl_Md_32 ak_70 (q99 (by decide)) (shx sh_70_7) ?_
          refine x_iload_n d_Md_goes_291 rfl ?_
          refine x_iald d_Md_goes_292 ak_74 (q99 (by decide)) ?_
          refine x_nm (fun J365 hJ365 => ?_)
          have kJ365 : ∀ (S12 : AS), V G md_Md_goes (QM G md_Md_goes iV) (fun _ => True) (some none) 365 [some (.ref 70), some (.int x1), none, some (.int a6), none, none, none] [] 0 0 S12 (J365 S12) := by
            subst hJ365
            intro S12
            refine x_goto (tgt := 190) d_Md_goes_365 (by decide) ?_
            exact V.kw (ih a6 S12) ⟨rfl, rfl, rfl, trivial⟩
          clear hJ365
          refine x_ite (fun hs19 => ?_) (fun hs19 => ?_)
          · refine x_tsw_in (c := 0) (tgt := 320) d_Md_goes_293 hs19 (by decide) (by decide) rfl (by decide) ?_
            refine x_aload_n_ref d_Md_goes_320 rfl ?_
            refine x_iload d_Md_goes_321 rfl ?_
            refine x_iload d_Md_goes_323 rfl ?_
            refine x_vV (b' := (some none)) (As := [.int v10, .int v9]) d_Md_goes_325 mv_Md_281 rfl (fun _ => ak_70) rfl (q99 (by decide)) ⟨Nat.le_of_ble_eq_true rfl, Nat.le_of_ble_eq_true rfl⟩ (Nat.le_of_ble_eq_true rfl) ⟨Nat.le_of_ble_eq_true rfl, Nat.le_of_ble_eq_true rfl⟩ (fun _ h => h) (fun h => ⟨h, c_Md_comes v10 v9 _⟩) (fun S13 => ?_)
            refine x_goto (tgt := 365) d_Md_goes_328 (by decide) ?_
            exact V.kw (kJ365 S13) ⟨rfl, rfl, rfl, trivial⟩
          · refine x_ite (fun hs18 => ?_) (fun hs18 => ?_)
            · refine x_tsw_in (c := 1) (tgt := 331) d_Md_goes_293 hs18 (by decide) (by decide) rfl (by decide) ?_
              refine x_aload_n_ref d_Md_goes_331 rfl ?_
              refine x_iload d_Md_goes_332 rfl ?_
              refine x_iload d_Md_goes_334 rfl ?_
              refine x_vV (b' := (some none)) (As := [.int v10, .int v9]) d_Md_goes_336 mv_Md_284 rfl (fun _ => ak_70) rfl (q99 (by decide)) ⟨Nat.le_of_ble_eq_true rfl, Nat.le_of_ble_eq_true rfl⟩ (Nat.le_of_ble_eq_true rfl) ⟨Nat.le_of_ble_eq_true rfl, Nat.le_of_ble_eq_true rfl⟩ (fun _ h => h) (fun h => ⟨h, c_Md_dies v10 v9 _⟩) (fun S14 => ?_)
              refine x_goto (tgt := 365) d_Md_goes_339 (by decide) ?_
              exact V.kw (kJ365 S14) ⟨rfl, rfl, rfl, trivial⟩
            · refine x_ite (fun hs17 => ?_) (fun hs17 => ?_)
              · refine x_tsw_in (c := 2) (tgt := 342) d_Md_goes_293 hs17 (by decide) (by decide) rfl (by decide) ?_
                refine x_aload_n_ref d_Md_goes_342 rfl ?_
                refine x_iload d_Md_goes_343 rfl ?_
                refine x_iload d_Md_goes_345 rfl ?_
                refine x_iload d_Md_goes_347 rfl ?_
                refine x_vV (b' := (some none)) (As := [.int v10, .int v11, .int v9]) d_Md_goes_349 mv_Md_287 rfl (fun _ => ak_70) rfl (q99 (by decide)) ⟨Nat.le_of_ble_eq_true rfl, Nat.le_of_ble_eq_true rfl⟩ (Nat.le_of_ble_eq_true rfl) ⟨Nat.le_of_ble_eq_true rfl, Nat.le_of_ble_eq_true rfl⟩ (fun _ h => h) (fun h => ⟨h, c_Md_resigns v10 v11 v9 _⟩) (fun S15 => ?_)
                refine x_goto (tgt := 365) d_Md_goes_352 (by decide) ?_
                exact V.kw (kJ365 S15) ⟨rfl, rfl, rfl, trivial⟩
              · refine x_tsw_out (n := 3) (tgt := 355) d_Md_goes_293 (by decide) (fun j hj => by rcases (by omega : j = 0 ∨ j = 1 ∨ j = 2) with rfl | rfl | rfl <;> assumption) (by decide) ?_
                refine x_aload_n_ref d_Md_goes_355 rfl ?_
                refine x_iload d_Md_goes_356 rfl ?_
                refine x_iload d_Md_goes_358 rfl ?_
                refine x_iload d_Md_goes_360 rfl ?_
                refine x_vV (b' := (some none)) (As := [.int v10, .int v11, .int v9]) d_Md_goes_362 mv_Md_290 rfl (fun _ => ak_70) rfl (q99 (by decide)) ⟨Nat.le_of_ble_eq_true rfl, Nat.le_of_ble_eq_true rfl⟩ (Nat.le_of_ble_eq_true rfl) ⟨Nat.le_of_ble_eq_true rfl, Nat.le_of_ble_eq_true rfl⟩ (fun _ h => h) (fun h => ⟨h, c_Md_swaps v10 v11 v9 _⟩) (fun S16 => ?_)
                exact V.kw (kJ365 S16) ⟨rfl, rfl, rfl, trivial⟩
        · refine x_goto (tgt := 190) d_Md_goes_253 (by decide) ?_
          exact V.kw (ih a6 S7) ⟨rfl, rfl, rfl, trivial⟩
      clear hJ249
      exact V.kw (v_Md_goes_L199 J249 x1 kJ249 FU (-1) 1 S) ⟨rfl, rfl, rfl, rfl, trivial⟩
set_option maxHeartbeats 4000000 in
theorem v_Md_goes_L108 {G : GX} (J188 : AS → Option AS) (x1 : Int32) (x2 : Int32) (kJ188 : ∀ (T : AS), V G md_Md_goes (QM G md_Md_goes iV) (fun _ => True) (some none) 188 [some (.ref 70), some (.int x1), none, none, none, none, none] [] 0 0 T (J188 T)) : ∀ (n : Nat) (c3 : Int32) (S : AS), V G md_Md_goes (QM G md_Md_goes iV) (fun _ => True) (some none) 108 [some (.ref 70), some (.int x1), some (.int x2), some (.int c3), none, none, none] [] 0 0 S (f_Md_goes_L108 J188 x1 x2 n c3 S) := by
  intro n
  induction n with
  | zero => intro c3 S; exact V.none
  | succ n ih =>
    intro c3 S
    rw [f_Md_goes_L108]
    refine x_iload_n d_Md_goes_108 rfl ?_
    refine x_iload_n d_Md_goes_109 rfl ?_
    refine x_icmp_gt (tgt := 188) d_Md_goes_110 (by decide) (fun _ => ?_) (fun _ => ?_)
    · exact V.kw (kJ188 S) ⟨rfl, rfl, trivial⟩
    · refine x_aload_n_ref d_Md_goes_113 rfl ?_
      refine x_getr d_Md_goes_114 fl_Md_112 ak_70 (q99 (by decide)) (shx sh_70_33) ?_
      refine x_iload_n d_Md_goes_117 rfl ?_
      refine x_aload_n_ref d_Md_goes_118 rfl ?_
      refine x_getr d_Md_goes_119 fl_Md_32 ak_70 (q99 (by decide)) (shx sh_70_7) ?_
      refine x_iload_n d_Md_goes_122 rfl ?_
      refine x_iald d_Md_goes_123 ak_74 (q99 (by decide)) ?_
      refine x_iconst (v := 4) d_Md_goes_124 (by decide) ?_
      refine x_nm (fun J181 hJ181 => ?_)
      have kJ181 : ∀ (a24 : Int32) (a25 : Int32) (S26 : AS), V G md_Md_goes (QM G md_Md_goes iV) (fun _ => True) (some none) 181 [some (.ref 70), some (.int x1), some (.int x2), some (.int c3), none, none, none] [.int a25, .int a24, .ref 92] 0 0 S26 (J181 a24 a25 S26) := by
        subst hJ181
        intro a24 a25 S26
        refine x_zast d_Md_goes_181 ak_92 (q99 (by decide)) ?_
        refine x_nmS (fun S27 _ => ?_)
        refine x_iinc (w := c3 + 1) (lc' := [some (.ref 70), some (.int x1), some (.int x2), some (.int (c3 + 1)), none, none, none]) d_Md_goes_182 (by decide) rfl rfl rfl ?_
        refine x_goto (tgt := 108) d_Md_goes_185 (by decide) ?_
        exact V.kw (ih (c3 + 1) S27) ⟨rfl, rfl, rfl, rfl, trivial⟩
      clear hJ181
      refine x_nm (fun J176 hJ176 => ?_)
      have kJ176 : ∀ (a28 : Int32) (S29 : AS), V G md_Md_goes (QM G md_Md_goes iV) (fun _ => True) (some none) 176 [some (.ref 70), some (.int x1), some (.int x2), some (.int c3), none, none, none] [.int a28, .ref 92] 0 0 S29 (J176 a28 S29) := by
        subst hJ176
        intro a28 S29
        refine x_iconst (v := 1) d_Md_goes_176 (by decide) ?_
        refine x_goto (tgt := 181) d_Md_goes_177 (by decide) ?_
        exact V.kw (kJ181 a28 1 S29) ⟨rfl, rfl, rfl, rfl, trivial⟩
      clear hJ176
      refine x_icmp_eq (tgt := 176) d_Md_goes_125 (by decide) (fun _ => ?_) (fun _ => ?_)
      · exact V.kw (kJ176 c3 S) ⟨rfl, rfl, rfl, rfl, trivial⟩
      · refine x_aload_n_ref d_Md_goes_128 rfl ?_
        refine x_getr d_Md_goes_129 fl_Md_35 ak_70 (q99 (by decide)) (shx sh_70_8) ?_
        refine x_iload_n d_Md_goes_132 rfl ?_
        refine x_iald d_Md_goes_133 ak_75 (q99 (by decide)) ?_
        refine x_iload_n d_Md_goes_134 rfl ?_
        refine x_icmp_gt (tgt := 176) d_Md_goes_135 (by decide) (fun _ => ?_) (fun _ => ?_)
        · exact V.kw (kJ176 c3 S) ⟨rfl, rfl, rfl, rfl, trivial⟩
        · refine x_aload_n_ref d_Md_goes_138 rfl ?_
          refine x_getr d_Md_goes_139 fl_Md_32 ak_70 (q99 (by decide)) (shx sh_70_7) ?_
          refine x_iload_n d_Md_goes_142 rfl ?_
          refine x_iald d_Md_goes_143 ak_74 (q99 (by decide)) ?_
          refine x_nm (fun J180 hJ180 => ?_)
          have kJ180 : ∀ (a30 : Int32) (S31 : AS), V G md_Md_goes (QM G md_Md_goes iV) (fun _ => True) (some none) 180 [some (.ref 70), some (.int x1), some (.int x2), some (.int c3), none, none, none] [.int a30, .ref 92] 0 0 S31 (J180 a30 S31) := by
            subst hJ180
            intro a30 S31
            refine x_iconst (v := 0) d_Md_goes_180 (by decide) ?_
            exact V.kw (kJ181 a30 0 S31) ⟨rfl, rfl, rfl, rfl, trivial⟩
          clear hJ180
          refine x_if_ne (tgt := 180) d_Md_goes_144 (by decide) (fun _ => ?_) (fun _ => ?_)
          · exact V.kw (kJ180 c3 S) ⟨rfl, rfl, rfl, rfl, trivial⟩
          · refine x_aload_n_ref d_Md_goes_147 rfl ?_
            refine x_getr d_Md_goes_148 fl_Md_50 ak_70 (q99 (by decide)) (shx sh_70_13) ?_
            refine x_aload_n_ref d_Md_goes_151 rfl ?_
            refine x_getr d_Md_goes_152 fl_Md_38 ak_70 (q99 (by decide)) (shx sh_70_9) ?_
            refine x_iload_n d_Md_goes_155 rfl ?_
            refine x_iald d_Md_goes_156 ak_76 (q99 (by decide)) ?_
            refine x_iald d_Md_goes_157 ak_79 (q99 (by decide)) ?_
            refine x_if_le (tgt := 180) d_Md_goes_158 (by decide) (fun _ => ?_) (fun _ => ?_)
            · exact V.kw (kJ180 c3 S) ⟨rfl, rfl, rfl, rfl, trivial⟩
            · refine x_aload_n_ref d_Md_goes_161 rfl ?_
              refine x_getr d_Md_goes_162 fl_Md_50 ak_70 (q99 (by decide)) (shx sh_70_13) ?_
              refine x_aload_n_ref d_Md_goes_165 rfl ?_
              refine x_getr d_Md_goes_166 fl_Md_38 ak_70 (q99 (by decide)) (shx sh_70_9) ?_
              refine x_iload_n d_Md_goes_169 rfl ?_
              refine x_iald d_Md_goes_170 ak_76 (q99 (by decide)) ?_
              refine x_iald d_Md_goes_171 ak_79 (q99 (by decide)) ?_
              refine x_iload_n d_Md_goes_172 rfl ?_
              refine x_icmp_gt (tgt := 180) d_Md_goes_173 (by decide) (fun _ => ?_) (fun _ => ?_)
              · exact V.kw (kJ180 c3 S) ⟨rfl, rfl, rfl, rfl, trivial⟩
              · exact V.kw (kJ176 c3 S) ⟨rfl, rfl, rfl, rfl, trivial⟩
set_option maxHeartbeats 4000000 in
theorem v_Md_goes_L71 {G : GX} (J106 : AS → Option AS) (x1 : Int32) (x2 : Int32) (kJ106 : ∀ (T : AS), V G md_Md_goes (QM G md_Md_goes iV) (fun _ => True) (some none) 106 [some (.ref 70), some (.int x1), some (.int x2), none, none, none, none] [] 0 0 T (J106 T)) : ∀ (n : Nat) (c3 : Int32) (S : AS), V G md_Md_goes (QM G md_Md_goes iV) (fun _ => True) (some none) 71 [some (.ref 70), some (.int x1), some (.int x2), some (.int c3), none, none, none] [] 0 0 S (f_Md_goes_L71 J106 x1 x2 n c3 S) := by
  intro n
  induction n with
  | zero => intro c3 S; exact V.none
  | succ n ih =>
    intro c3 S
    rw [f_Md_goes_L71]
    refine x_iload_n d_Md_goes_71 rfl ?_
    refine x_aload_n_ref d_Md_goes_72 rfl ?_
    refine x_geti d_Md_goes_73 fl_Md_44 ak_70 (q99 (by decide)) ?_
    refine x_icmp_ge (tgt := 106) d_Md_goes_76 (by decide) (fun _ => ?_) (fun _ => ?_)
    · exact V.kw (kJ106 S) ⟨rfl, rfl, rfl, trivial⟩
    · refine x_aload_n_ref d_Md_goes_79 rfl ?_
      refine x_getr d_Md_goes_80 fl_Md_99 ak_70 (q99 (by decide)) (shx sh_70_29) ?_
      refine x_iload_n d_Md_goes_83 rfl ?_
      refine x_iconst (v := 0) d_Md_goes_84 (by decide) ?_
      refine x_zast d_Md_goes_85 ak_88 (q99 (by decide)) ?_
      refine x_nmS (fun S32 _ => ?_)
      refine x_aload_n_ref d_Md_goes_86 rfl ?_
      refine x_getr d_Md_goes_87 fl_Md_102 ak_70 (q99 (by decide)) (shx sh_70_30) ?_
      refine x_iload_n d_Md_goes_90 rfl ?_
      refine x_iconst (v := -1) d_Md_goes_91 (by decide) ?_
      refine x_iast d_Md_goes_92 ak_89 (q99 (by decide)) ?_
      refine x_nmS (fun S33 _ => ?_)
      refine x_aload_n_ref d_Md_goes_93 rfl ?_
      refine x_getr d_Md_goes_94 fl_Md_105 ak_70 (q99 (by decide)) (shx sh_70_31) ?_
      refine x_iload_n d_Md_goes_97 rfl ?_
      refine x_iconst (v := -1) d_Md_goes_98 (by decide) ?_
      refine x_iast d_Md_goes_99 ak_90 (q99 (by decide)) ?_
      refine x_nmS (fun S34 _ => ?_)
      refine x_iinc (w := c3 + 1) (lc' := [some (.ref 70), some (.int x1), some (.int x2), some (.int (c3 + 1)), none, none, none]) d_Md_goes_100 (by decide) rfl rfl rfl ?_
      refine x_goto (tgt := 71) d_Md_goes_103 (by decide) ?_
      exact V.kw (ih (c3 + 1) S34) ⟨rfl, rfl, rfl, rfl, trivial⟩
set_option maxHeartbeats 4000000 in
theorem v_Md_goes_L41 {G : GX} (J69 : AS → Option AS) (x1 : Int32) (x2 : Int32) (kJ69 : ∀ (T : AS), V G md_Md_goes (QM G md_Md_goes iV) (fun _ => True) (some none) 69 [some (.ref 70), some (.int x1), some (.int x2), none, none, none, none] [] 0 0 T (J69 T)) : ∀ (n : Nat) (c3 : Int32) (S : AS), V G md_Md_goes (QM G md_Md_goes iV) (fun _ => True) (some none) 41 [some (.ref 70), some (.int x1), some (.int x2), some (.int c3), none, none, none] [] 0 0 S (f_Md_goes_L41 J69 x1 x2 n c3 S) := by
  intro n
  induction n with
  | zero => intro c3 S; exact V.none
  | succ n ih =>
    intro c3 S
    rw [f_Md_goes_L41]
    refine x_iload_n d_Md_goes_41 rfl ?_
    refine x_aload_n_ref d_Md_goes_42 rfl ?_
    refine x_geti d_Md_goes_43 fl_Md_17 ak_70 (q99 (by decide)) ?_
    refine x_icmp_ge (tgt := 69) d_Md_goes_46 (by decide) (fun _ => ?_) (fun _ => ?_)
    · exact V.kw (kJ69 S) ⟨rfl, rfl, rfl, trivial⟩
    · refine x_aload_n_ref d_Md_goes_49 rfl ?_
      refine x_getr d_Md_goes_50 fl_Md_95 ak_70 (q99 (by decide)) (shx sh_70_28) ?_
      refine x_iload_n d_Md_goes_53 rfl ?_
      refine x_iconst (v := 0) d_Md_goes_54 (by decide) ?_
      refine x_zast d_Md_goes_55 ak_87 (q99 (by decide)) ?_
      refine x_nmS (fun S35 _ => ?_)
      refine x_aload_n_ref d_Md_goes_56 rfl ?_
      refine x_getr d_Md_goes_57 fl_Md_108 ak_70 (q99 (by decide)) (shx sh_70_32) ?_
      refine x_iload_n d_Md_goes_60 rfl ?_
      refine x_lconst0 d_Md_goes_61 ?_
      refine x_last d_Md_goes_62 ak_91 (q99 (by decide)) ?_
      refine x_nmS (fun S36 _ => ?_)
      refine x_iinc (w := c3 + 1) (lc' := [some (.ref 70), some (.int x1), some (.int x2), some (.int (c3 + 1)), none, none, none]) d_Md_goes_63 (by decide) rfl rfl rfl ?_
      refine x_goto (tgt := 41) d_Md_goes_66 (by decide) ?_
      exact V.kw (ih (c3 + 1) S36) ⟨rfl, rfl, rfl, rfl, trivial⟩
set_option maxHeartbeats 4000000 in
theorem v_Md_goes_L2 {G : GX} (J39 : AS → Option AS) (x1 : Int32) (x2 : Int32) (kJ39 : ∀ (T : AS), V G md_Md_goes (QM G md_Md_goes iV) (fun _ => True) (some none) 39 [some (.ref 70), some (.int x1), some (.int x2), none, none, none, none] [] 0 0 T (J39 T)) : ∀ (n : Nat) (c3 : Int32) (S : AS), V G md_Md_goes (QM G md_Md_goes iV) (fun _ => True) (some none) 2 [some (.ref 70), some (.int x1), some (.int x2), some (.int c3), none, none, none] [] 0 0 S (f_Md_goes_L2 J39 x1 x2 n c3 S) := by
  intro n
  induction n with
  | zero => intro c3 S; exact V.none
  | succ n ih =>
    intro c3 S
    rw [f_Md_goes_L2]
    refine x_iload_n d_Md_goes_2 rfl ?_
    refine x_aload_n_ref d_Md_goes_3 rfl ?_
    refine x_geti d_Md_goes_4 fl_Md_23 ak_70 (q99 (by decide)) ?_
    refine x_icmp_ge (tgt := 39) d_Md_goes_7 (by decide) (fun _ => ?_) (fun _ => ?_)
    · exact V.kw (kJ39 S) ⟨rfl, rfl, rfl, trivial⟩
    · refine x_aload_n_ref d_Md_goes_10 rfl ?_
      refine x_getr d_Md_goes_11 fl_Md_89 ak_70 (q99 (by decide)) (shx sh_70_26) ?_
      refine x_iload_n d_Md_goes_14 rfl ?_
      refine x_aload_n_ref d_Md_goes_15 rfl ?_
      refine x_getr d_Md_goes_16 fl_Md_26 ak_70 (q99 (by decide)) (shx sh_70_5) ?_
      refine x_iconst (v := 3) d_Md_goes_19 (by decide) ?_
      refine x_iload_n d_Md_goes_20 rfl ?_
      refine x_imul d_Md_goes_21 ?_
      refine x_iconst (v := 2) d_Md_goes_22 (by decide) ?_
      refine x_iadd d_Md_goes_23 ?_
      refine x_iald d_Md_goes_24 ak_73 (q99 (by decide)) ?_
      refine x_iast d_Md_goes_25 ak_85 (q99 (by decide)) ?_
      refine x_nmS (fun S37 _ => ?_)
      refine x_aload_n_ref d_Md_goes_26 rfl ?_
      refine x_getr d_Md_goes_27 fl_Md_92 ak_70 (q99 (by decide)) (shx sh_70_27) ?_
      refine x_iload_n d_Md_goes_30 rfl ?_
      refine x_iconst (v := 0) d_Md_goes_31 (by decide) ?_
      refine x_iast d_Md_goes_32 ak_86 (q99 (by decide)) ?_
      refine x_nmS (fun S38 _ => ?_)
      refine x_iinc (w := c3 + 1) (lc' := [some (.ref 70), some (.int x1), some (.int x2), some (.int (c3 + 1)), none, none, none]) d_Md_goes_33 (by decide) rfl rfl rfl ?_
      refine x_goto (tgt := 2) d_Md_goes_36 (by decide) ?_
      exact V.kw (ih (c3 + 1) S38) ⟨rfl, rfl, rfl, rfl, trivial⟩
set_option maxHeartbeats 4000000 in
theorem v_Md_goes {G : GX} (p1 : Int32) (p2 : Int32) (S : AS) : V G md_Md_goes (QM G md_Md_goes iV) (fun _ => True) (some none) 0 [some (.ref 70), some (.int p1), some (.int p2), none, none, none, none] [] 0 0 S (f_Md_goes p1 p2 S) := by
  unfold f_Md_goes
  refine x_iconst (v := 0) d_Md_goes_0 (by decide) ?_
  refine x_istore_n (lc' := [some (.ref 70), some (.int p1), some (.int p2), some (.int 0), none, none, none]) d_Md_goes_1 (by decide) rfl ?_
  refine x_nm (fun J39 hJ39 => ?_)
  have kJ39 : ∀ (S1 : AS), V G md_Md_goes (QM G md_Md_goes iV) (fun _ => True) (some none) 39 [some (.ref 70), some (.int p1), some (.int p2), none, none, none, none] [] 0 0 S1 (J39 S1) := by
    subst hJ39
    intro S1
    refine x_iconst (v := 0) d_Md_goes_39 (by decide) ?_
    refine x_istore_n (lc' := [some (.ref 70), some (.int p1), some (.int p2), some (.int 0), none, none, none]) d_Md_goes_40 (by decide) rfl ?_
    refine x_nm (fun J69 hJ69 => ?_)
    have kJ69 : ∀ (S2 : AS), V G md_Md_goes (QM G md_Md_goes iV) (fun _ => True) (some none) 69 [some (.ref 70), some (.int p1), some (.int p2), none, none, none, none] [] 0 0 S2 (J69 S2) := by
      subst hJ69
      intro S2
      refine x_iconst (v := 0) d_Md_goes_69 (by decide) ?_
      refine x_istore_n (lc' := [some (.ref 70), some (.int p1), some (.int p2), some (.int 0), none, none, none]) d_Md_goes_70 (by decide) rfl ?_
      refine x_nm (fun J106 hJ106 => ?_)
      have kJ106 : ∀ (S3 : AS), V G md_Md_goes (QM G md_Md_goes iV) (fun _ => True) (some none) 106 [some (.ref 70), some (.int p1), some (.int p2), none, none, none, none] [] 0 0 S3 (J106 S3) := by
        subst hJ106
        intro S3
        refine x_iconst (v := 1) d_Md_goes_106 (by decide) ?_
        refine x_istore_n (lc' := [some (.ref 70), some (.int p1), some (.int p2), some (.int 1), none, none, none]) d_Md_goes_107 (by decide) rfl ?_
        refine x_nm (fun J188 hJ188 => ?_)
        have kJ188 : ∀ (S4 : AS), V G md_Md_goes (QM G md_Md_goes iV) (fun _ => True) (some none) 188 [some (.ref 70), some (.int p1), none, none, none, none, none] [] 0 0 S4 (J188 S4) := by
          subst hJ188
          intro S4
          refine x_iconst (v := 0) d_Md_goes_188 (by decide) ?_
          refine x_istore_n (lc' := [some (.ref 70), some (.int p1), none, some (.int 0), none, none, none]) d_Md_goes_189 (by decide) rfl ?_
          refine x_nm (fun J368 hJ368 => ?_)
          have kJ368 : ∀ (S5 : AS), V G md_Md_goes (QM G md_Md_goes iV) (fun _ => True) (some none) 368 [none, none, none, none, none, none, none] [] 0 0 S5 (J368 S5) := by
            subst hJ368
            intro S5
            exact x_vret d_Md_goes_368 rfl (Nat.le_of_ble_eq_true rfl) (Nat.le_of_ble_eq_true rfl)
          clear hJ368
          exact V.kw (v_Md_goes_L190 J368 p1 kJ368 FU 0 S4) ⟨rfl, rfl, rfl, trivial⟩
        clear hJ188
        exact V.kw (v_Md_goes_L108 J188 p1 p2 kJ188 FU 1 S3) ⟨rfl, rfl, rfl, rfl, trivial⟩
      clear hJ106
      exact V.kw (v_Md_goes_L71 J106 p1 p2 kJ106 FU 0 S2) ⟨rfl, rfl, rfl, rfl, trivial⟩
    clear hJ69
    exact V.kw (v_Md_goes_L41 J69 p1 p2 kJ69 FU 0 S1) ⟨rfl, rfl, rfl, rfl, trivial⟩
  clear hJ39
  exact V.kw (v_Md_goes_L2 J39 p1 p2 kJ39 FU 0 S) ⟨rfl, rfl, rfl, rfl, trivial⟩
theorem c_Md_goes {G : GX} (p1 : Int32) (p2 : Int32) (S : AS) : CN G y_Md_goes b_Md_goes 7 none ({ frames := 7, cells := 0, slots := 0, locals := 174 } : Room) (some none) iV [.ref 70, .int p1, .int p2] S (f_Md_goes p1 p2 S) := cn_of_v (M := md_Md_goes) (ini := false) rfl (by decide +kernel) (fun h => nomatch h) rfl (Nat.le_of_ble_eq_true rfl) (v_Md_goes p1 p2 S)
noncomputable def f_Md_isTime (p0 : Int32) (S : AS) : Option (Int32 × AS) := bI (f_Md_is p0 0 9999999 S) fun r2 S1 => chk (isb r2) (some (r2, S1))
set_option maxHeartbeats 4000000 in
theorem v_Md_isTime {G : GX} (p0 : Int32) (S : AS) : V G md_Md_isTime (QM G md_Md_isTime iI) (fun _ => True) (some none) 0 [some (.int p0)] [] 0 0 S (f_Md_isTime p0 S) := by
  unfold f_Md_isTime
  refine x_iload_n d_Md_isTime_0 rfl ?_
  refine x_iconst (v := 0) d_Md_isTime_1 (by decide) ?_
  refine x_ldc (v := 9999999) (List.mem_append_right _ (List.mem_append_right _ (List.mem_append_right _ (List.mem_append_right _ (List.mem_append_right _ (List.mem_append_left _ (List.mem_of_getElem? (i := 188) (by decide +kernel)))))))) d_Md_isTime_2 ?_
  refine x_sI (b' := (some none)) (As := [.int p0, .int 0, .int 9999999]) d_Md_isTime_4 ms_Md_147 rfl ⟨Nat.le_of_ble_eq_true rfl, Nat.le_of_ble_eq_true rfl⟩ (Nat.le_of_ble_eq_true rfl) ⟨Nat.le_of_ble_eq_true rfl, Nat.le_of_ble_eq_true rfl⟩ (fun _ h => h) (fun h => ⟨h, c_Md_is p0 0 9999999 _⟩) (fun r2 S1 => ?_)
  exact x_zretc d_Md_isTime_7 rfl (Nat.le_of_ble_eq_true rfl) (Nat.le_of_ble_eq_true rfl)
theorem c_Md_isTime {G : GX} (p0 : Int32) (S : AS) : CN G y_Md_isTime b_Md_isTime 1 (some (FieldType.boolean)) ({ frames := 1, cells := 0, slots := 0, locals := 22 } : Room) (some none) iI [.int p0] S (f_Md_isTime p0 S) := cn_of_v (M := md_Md_isTime) (ini := false) rfl (by decide +kernel) (fun h => nomatch h) rfl (Nat.le_of_ble_eq_true rfl) (v_Md_isTime p0 S)
noncomputable def f_Md_holder (p1 : Int32) (p2 : Int32) (S : AS) : Option (Int32 × AS) := bI (f_Md_isPost p1 S) fun r2 S1 => if r2 = 0 then (some ((-1), S1)) else (bI (f_Md_isTime p2 S1) fun r4 S3 => if r4 = 0 then (some ((-1), S3)) else (bI (f_Md_known S3) fun r6 S5 => bV (f_Md_goes r6 p2 S5) fun S7 => chk (vp_in p1 16) (some (gi S7 85 (ix p1), S7))))
set_option maxHeartbeats 4000000 in
theorem v_Md_holder {G : GX} (p1 : Int32) (p2 : Int32) (S : AS) : V G md_Md_holder (QM G md_Md_holder iI) (fun _ => True) (some none) 0 [some (.ref 70), some (.int p1), some (.int p2)] [] 0 0 S (f_Md_holder p1 p2 S) := by
  unfold f_Md_holder
  refine x_aload_n_ref d_Md_holder_0 rfl ?_
  refine x_iload_n d_Md_holder_1 rfl ?_
  refine x_vI (b' := (some none)) (As := [.int p1]) d_Md_holder_2 mv_Md_151 rfl (fun _ => ak_70) rfl (q99 (by decide)) ⟨Nat.le_of_ble_eq_true rfl, Nat.le_of_ble_eq_true rfl⟩ (Nat.le_of_ble_eq_true rfl) ⟨Nat.le_of_ble_eq_true rfl, Nat.le_of_ble_eq_true rfl⟩ (fun _ h => h) (fun h => ⟨h, c_Md_isPost p1 _⟩) (fun r2 S1 => ?_)
  refine x_if_eq (tgt := 15) d_Md_holder_5 (by decide) (fun _ => ?_) (fun _ => ?_)
  · refine x_iconst (v := -1) d_Md_holder_15 (by decide) ?_
    exact x_ret d_Md_holder_16 rfl rfl (Nat.le_of_ble_eq_true rfl) (Nat.le_of_ble_eq_true rfl)
  · refine x_iload_n d_Md_holder_8 rfl ?_
    refine x_sI (b' := (some none)) (As := [.int p2]) d_Md_holder_9 ms_Md_293 rfl ⟨Nat.le_of_ble_eq_true rfl, Nat.le_of_ble_eq_true rfl⟩ (Nat.le_of_ble_eq_true rfl) ⟨Nat.le_of_ble_eq_true rfl, Nat.le_of_ble_eq_true rfl⟩ (fun _ h => h) (fun h => ⟨h, c_Md_isTime p2 _⟩) (fun r4 S3 => ?_)
    refine x_if_ne (tgt := 17) d_Md_holder_12 (by decide) (fun _ => ?_) (fun _ => ?_)
    · refine x_aload_n_ref d_Md_holder_17 rfl ?_
      refine x_aload_n_ref d_Md_holder_18 rfl ?_
      refine x_vI (b' := (some none)) (As := []) d_Md_holder_19 mv_Md_296 rfl (fun _ => ak_70) rfl (q99 (by decide)) ⟨Nat.le_of_ble_eq_true rfl, Nat.le_of_ble_eq_true rfl⟩ (Nat.le_of_ble_eq_true rfl) ⟨Nat.le_of_ble_eq_true rfl, Nat.le_of_ble_eq_true rfl⟩ (fun _ h => h) (fun h => ⟨h, c_Md_known _⟩) (fun r6 S5 => ?_)
      refine x_iload_n d_Md_holder_22 rfl ?_
      refine x_vV (b' := (some none)) (As := [.int r6, .int p2]) d_Md_holder_23 mv_Md_299 rfl (fun _ => ak_70) rfl (q99 (by decide)) ⟨Nat.le_of_ble_eq_true rfl, Nat.le_of_ble_eq_true rfl⟩ (Nat.le_of_ble_eq_true rfl) ⟨Nat.le_of_ble_eq_true rfl, Nat.le_of_ble_eq_true rfl⟩ (fun _ h => h) (fun h => ⟨h, c_Md_goes r6 p2 _⟩) (fun S7 => ?_)
      refine x_aload_n_ref d_Md_holder_26 rfl ?_
      refine x_getr d_Md_holder_27 fl_Md_89 ak_70 (q99 (by decide)) (shx sh_70_26) ?_
      refine x_iload_n d_Md_holder_30 rfl ?_
      refine x_iald d_Md_holder_31 ak_85 (q99 (by decide)) ?_
      exact x_ret d_Md_holder_32 rfl rfl (Nat.le_of_ble_eq_true rfl) (Nat.le_of_ble_eq_true rfl)
    · refine x_iconst (v := -1) d_Md_holder_15 (by decide) ?_
      exact x_ret d_Md_holder_16 rfl rfl (Nat.le_of_ble_eq_true rfl) (Nat.le_of_ble_eq_true rfl)
theorem c_Md_holder {G : GX} (p1 : Int32) (p2 : Int32) (S : AS) : CN G y_Md_holder b_Md_holder 3 (some (FieldType.int)) ({ frames := 8, cells := 0, slots := 0, locals := 200 } : Room) (some none) iI [.ref 70, .int p1, .int p2] S (f_Md_holder p1 p2 S) := cn_of_v (M := md_Md_holder) (ini := false) rfl (by decide +kernel) (fun h => nomatch h) rfl (Nat.le_of_ble_eq_true rfl) (v_Md_holder p1 p2 S)
noncomputable def f_Md_isPaper (p1 : Int32) (S : AS) : Option (Int32 × AS) := nm (fun (S1 : AS) => some (0, S1)) fun J35 => if p1 < 0 then (J35 S) else (if (gi S 70 11) ≤ p1 then (J35 S) else (chk (vp_in ((7 * p1) + 6) 336) (bI (f_Md_known S) fun r3 S2 => if r3 < (gi S 78 (ix ((7 * p1) + 6))) then (J35 S2) else (some (1, S2)))))
set_option maxHeartbeats 4000000 in
theorem v_Md_isPaper {G : GX} (p1 : Int32) (S : AS) : V G md_Md_isPaper (QM G md_Md_isPaper iI) (fun _ => True) (some none) 0 [some (.ref 70), some (.int p1)] [] 0 0 S (f_Md_isPaper p1 S) := by
  unfold f_Md_isPaper
  refine x_iload_n d_Md_isPaper_0 rfl ?_
  refine x_nm (fun J35 hJ35 => ?_)
  have kJ35 : ∀ (S1 : AS), V G md_Md_isPaper (QM G md_Md_isPaper iI) (fun _ => True) (some none) 35 [none, none] [] 0 0 S1 (J35 S1) := by
    subst hJ35
    intro S1
    refine x_iconst (v := 0) d_Md_isPaper_35 (by decide) ?_
    exact x_ret d_Md_isPaper_36 rfl rfl (Nat.le_of_ble_eq_true rfl) (Nat.le_of_ble_eq_true rfl)
  clear hJ35
  refine x_if_lt (tgt := 35) d_Md_isPaper_1 (by decide) (fun _ => ?_) (fun _ => ?_)
  · exact V.kw (kJ35 S) trivial
  · refine x_iload_n d_Md_isPaper_4 rfl ?_
    refine x_aload_n_ref d_Md_isPaper_5 rfl ?_
    refine x_geti d_Md_isPaper_6 fl_Md_44 ak_70 (q99 (by decide)) ?_
    refine x_icmp_ge (tgt := 35) d_Md_isPaper_9 (by decide) (fun _ => ?_) (fun _ => ?_)
    · exact V.kw (kJ35 S) trivial
    · refine x_aload_n_ref d_Md_isPaper_12 rfl ?_
      refine x_getr d_Md_isPaper_13 fl_Md_47 ak_70 (q99 (by decide)) (shx sh_70_12) ?_
      refine x_bipush (v := 7) d_Md_isPaper_16 (by decide) ?_
      refine x_iload_n d_Md_isPaper_18 rfl ?_
      refine x_imul d_Md_isPaper_19 ?_
      refine x_bipush (v := 6) d_Md_isPaper_20 (by decide) ?_
      refine x_iadd d_Md_isPaper_22 ?_
      refine x_iald d_Md_isPaper_23 ak_78 (q99 (by decide)) ?_
      refine x_aload_n_ref d_Md_isPaper_24 rfl ?_
      refine x_vI (b' := (some none)) (As := []) d_Md_isPaper_25 mv_Md_296 rfl (fun _ => ak_70) rfl (q99 (by decide)) ⟨Nat.le_of_ble_eq_true rfl, Nat.le_of_ble_eq_true rfl⟩ (Nat.le_of_ble_eq_true rfl) ⟨Nat.le_of_ble_eq_true rfl, Nat.le_of_ble_eq_true rfl⟩ (fun _ h => h) (fun h => ⟨h, c_Md_known _⟩) (fun r3 S2 => ?_)
      refine x_icmp_gt (tgt := 35) d_Md_isPaper_28 (by decide) (fun _ => ?_) (fun _ => ?_)
      · exact V.kw (kJ35 S2) trivial
      · refine x_iconst (v := 1) d_Md_isPaper_31 (by decide) ?_
        refine x_goto (tgt := 36) d_Md_isPaper_32 (by decide) ?_
        exact x_ret d_Md_isPaper_36 rfl rfl (Nat.le_of_ble_eq_true rfl) (Nat.le_of_ble_eq_true rfl)
theorem c_Md_isPaper {G : GX} (p1 : Int32) (S : AS) : CN G y_Md_isPaper b_Md_isPaper 2 (some (FieldType.boolean)) ({ frames := 1, cells := 0, slots := 0, locals := 20 } : Room) (some none) iI [.ref 70, .int p1] S (f_Md_isPaper p1 S) := cn_of_v (M := md_Md_isPaper) (ini := false) rfl (by decide +kernel) (fun h => nomatch h) rfl (Nat.le_of_ble_eq_true rfl) (v_Md_isPaper p1 S)
noncomputable def f_Md_paperOf (p1 : Int32) (p2 : Int32) (S : AS) : Option (Int32 × AS) := bI (f_Md_isPaper p1 S) fun r2 S1 => if r2 = 0 then (some ((-2), S1)) else (bI (f_Md_known S1) fun r4 S3 => bV (f_Md_goes r4 9999999 S3) fun S5 => if p2 = 0 then (chk (vp_in p1 48) (some (gi S5 89 (ix p1), S5))) else (if p2 = 1 then (chk (vp_in p1 48) (if (gi S5 89 (ix p1)) = (-1) then (some ((-1), S5)) else (chk (vp_in p1 48) (chk (vp_in ((7 * p1) + 1) 336) (some ((gi S5 90 (ix p1)) - (gi S5 78 (ix ((7 * p1) + 1))), S5)))))) else (if p2 = 2 then (chk (vp_in p1 48) (if (gi S5 88 (ix p1)) = 0 then (some (0, S5)) else (some (1, S5)))) else (if p2 = 3 then (chk (vp_in ((7 * p1) + 6) 336) (some (gi S5 78 (ix ((7 * p1) + 6)), S5))) else (some ((-2), S5))))))
set_option maxHeartbeats 4000000 in
theorem v_Md_paperOf {G : GX} (p1 : Int32) (p2 : Int32) (S : AS) : V G md_Md_paperOf (QM G md_Md_paperOf iI) (fun _ => True) (some none) 0 [some (.ref 70), some (.int p1), some (.int p2)] [] 0 0 S (f_Md_paperOf p1 p2 S) := by
  unfold f_Md_paperOf
  refine x_aload_n_ref d_Md_paperOf_0 rfl ?_
  refine x_iload_n d_Md_paperOf_1 rfl ?_
  refine x_vI (b' := (some none)) (As := [.int p1]) d_Md_paperOf_2 mv_Md_302 rfl (fun _ => ak_70) rfl (q99 (by decide)) ⟨Nat.le_of_ble_eq_true rfl, Nat.le_of_ble_eq_true rfl⟩ (Nat.le_of_ble_eq_true rfl) ⟨Nat.le_of_ble_eq_true rfl, Nat.le_of_ble_eq_true rfl⟩ (fun _ h => h) (fun h => ⟨h, c_Md_isPaper p1 _⟩) (fun r2 S1 => ?_)
  refine x_if_ne (tgt := 11) d_Md_paperOf_5 (by decide) (fun _ => ?_) (fun _ => ?_)
  · refine x_aload_n_ref d_Md_paperOf_11 rfl ?_
    refine x_aload_n_ref d_Md_paperOf_12 rfl ?_
    refine x_vI (b' := (some none)) (As := []) d_Md_paperOf_13 mv_Md_296 rfl (fun _ => ak_70) rfl (q99 (by decide)) ⟨Nat.le_of_ble_eq_true rfl, Nat.le_of_ble_eq_true rfl⟩ (Nat.le_of_ble_eq_true rfl) ⟨Nat.le_of_ble_eq_true rfl, Nat.le_of_ble_eq_true rfl⟩ (fun _ h => h) (fun h => ⟨h, c_Md_known _⟩) (fun r4 S3 => ?_)
    refine x_ldc (v := 9999999) (List.mem_append_right _ (List.mem_append_right _ (List.mem_append_right _ (List.mem_append_right _ (List.mem_append_right _ (List.mem_append_left _ (List.mem_of_getElem? (i := 188) (by decide +kernel)))))))) d_Md_paperOf_16 ?_
    refine x_vV (b' := (some none)) (As := [.int r4, .int 9999999]) d_Md_paperOf_18 mv_Md_299 rfl (fun _ => ak_70) rfl (q99 (by decide)) ⟨Nat.le_of_ble_eq_true rfl, Nat.le_of_ble_eq_true rfl⟩ (Nat.le_of_ble_eq_true rfl) ⟨Nat.le_of_ble_eq_true rfl, Nat.le_of_ble_eq_true rfl⟩ (fun _ h => h) (fun h => ⟨h, c_Md_goes r4 9999999 _⟩) (fun S5 => ?_)
    refine x_iload_n d_Md_paperOf_21 rfl ?_
    refine x_ite (fun hs9 => ?_) (fun hs9 => ?_)
    · refine x_tsw_in (c := 0) (tgt := 52) d_Md_paperOf_22 hs9 (by decide) (by decide) rfl (by decide) ?_
      refine x_aload_n_ref d_Md_paperOf_52 rfl ?_
      refine x_getr d_Md_paperOf_53 fl_Md_102 ak_70 (q99 (by decide)) (shx sh_70_30) ?_
      refine x_iload_n d_Md_paperOf_56 rfl ?_
      refine x_iald d_Md_paperOf_57 ak_89 (q99 (by decide)) ?_
      exact x_ret d_Md_paperOf_58 rfl rfl (Nat.le_of_ble_eq_true rfl) (Nat.le_of_ble_eq_true rfl)
    · refine x_ite (fun hs8 => ?_) (fun hs8 => ?_)
      · refine x_tsw_in (c := 1) (tgt := 59) d_Md_paperOf_22 hs8 (by decide) (by decide) rfl (by decide) ?_
        refine x_aload_n_ref d_Md_paperOf_59 rfl ?_
        refine x_getr d_Md_paperOf_60 fl_Md_102 ak_70 (q99 (by decide)) (shx sh_70_30) ?_
        refine x_iload_n d_Md_paperOf_63 rfl ?_
        refine x_iald d_Md_paperOf_64 ak_89 (q99 (by decide)) ?_
        refine x_iconst (v := -1) d_Md_paperOf_65 (by decide) ?_
        refine x_icmp_ne (tgt := 73) d_Md_paperOf_66 (by decide) (fun _ => ?_) (fun _ => ?_)
        · refine x_aload_n_ref d_Md_paperOf_73 rfl ?_
          refine x_getr d_Md_paperOf_74 fl_Md_105 ak_70 (q99 (by decide)) (shx sh_70_31) ?_
          refine x_iload_n d_Md_paperOf_77 rfl ?_
          refine x_iald d_Md_paperOf_78 ak_90 (q99 (by decide)) ?_
          refine x_aload_n_ref d_Md_paperOf_79 rfl ?_
          refine x_getr d_Md_paperOf_80 fl_Md_47 ak_70 (q99 (by decide)) (shx sh_70_12) ?_
          refine x_bipush (v := 7) d_Md_paperOf_83 (by decide) ?_
          refine x_iload_n d_Md_paperOf_85 rfl ?_
          refine x_imul d_Md_paperOf_86 ?_
          refine x_iconst (v := 1) d_Md_paperOf_87 (by decide) ?_
          refine x_iadd d_Md_paperOf_88 ?_
          refine x_iald d_Md_paperOf_89 ak_78 (q99 (by decide)) ?_
          refine x_isub d_Md_paperOf_90 ?_
          exact x_ret d_Md_paperOf_91 rfl rfl (Nat.le_of_ble_eq_true rfl) (Nat.le_of_ble_eq_true rfl)
        · refine x_iconst (v := -1) d_Md_paperOf_69 (by decide) ?_
          refine x_goto (tgt := 91) d_Md_paperOf_70 (by decide) ?_
          exact x_ret d_Md_paperOf_91 rfl rfl (Nat.le_of_ble_eq_true rfl) (Nat.le_of_ble_eq_true rfl)
      · refine x_ite (fun hs7 => ?_) (fun hs7 => ?_)
        · refine x_tsw_in (c := 2) (tgt := 92) d_Md_paperOf_22 hs7 (by decide) (by decide) rfl (by decide) ?_
          refine x_aload_n_ref d_Md_paperOf_92 rfl ?_
          refine x_getr d_Md_paperOf_93 fl_Md_99 ak_70 (q99 (by decide)) (shx sh_70_29) ?_
          refine x_iload_n d_Md_paperOf_96 rfl ?_
          refine x_zald d_Md_paperOf_97 ak_88 (q99 (by decide)) ?_
          refine x_if_eq (tgt := 105) d_Md_paperOf_98 (by decide) (fun _ => ?_) (fun _ => ?_)
          · refine x_iconst (v := 0) d_Md_paperOf_105 (by decide) ?_
            exact x_ret d_Md_paperOf_106 rfl rfl (Nat.le_of_ble_eq_true rfl) (Nat.le_of_ble_eq_true rfl)
          · refine x_iconst (v := 1) d_Md_paperOf_101 (by decide) ?_
            refine x_goto (tgt := 106) d_Md_paperOf_102 (by decide) ?_
            exact x_ret d_Md_paperOf_106 rfl rfl (Nat.le_of_ble_eq_true rfl) (Nat.le_of_ble_eq_true rfl)
        · refine x_ite (fun hs6 => ?_) (fun hs6 => ?_)
          · refine x_tsw_in (c := 3) (tgt := 107) d_Md_paperOf_22 hs6 (by decide) (by decide) rfl (by decide) ?_
            refine x_aload_n_ref d_Md_paperOf_107 rfl ?_
            refine x_getr d_Md_paperOf_108 fl_Md_47 ak_70 (q99 (by decide)) (shx sh_70_12) ?_
            refine x_bipush (v := 7) d_Md_paperOf_111 (by decide) ?_
            refine x_iload_n d_Md_paperOf_113 rfl ?_
            refine x_imul d_Md_paperOf_114 ?_
            refine x_bipush (v := 6) d_Md_paperOf_115 (by decide) ?_
            refine x_iadd d_Md_paperOf_117 ?_
            refine x_iald d_Md_paperOf_118 ak_78 (q99 (by decide)) ?_
            exact x_ret d_Md_paperOf_119 rfl rfl (Nat.le_of_ble_eq_true rfl) (Nat.le_of_ble_eq_true rfl)
          · refine x_tsw_out (n := 4) (tgt := 120) d_Md_paperOf_22 (by decide) (fun j hj => by rcases (by omega : j = 0 ∨ j = 1 ∨ j = 2 ∨ j = 3) with rfl | rfl | rfl | rfl <;> assumption) (by decide) ?_
            refine x_bipush (v := -2) d_Md_paperOf_120 (by decide) ?_
            exact x_ret d_Md_paperOf_122 rfl rfl (Nat.le_of_ble_eq_true rfl) (Nat.le_of_ble_eq_true rfl)
  · refine x_bipush (v := -2) d_Md_paperOf_8 (by decide) ?_
    exact x_ret d_Md_paperOf_10 rfl rfl (Nat.le_of_ble_eq_true rfl) (Nat.le_of_ble_eq_true rfl)
theorem c_Md_paperOf {G : GX} (p1 : Int32) (p2 : Int32) (S : AS) : CN G y_Md_paperOf b_Md_paperOf 3 (some (FieldType.int)) ({ frames := 8, cells := 0, slots := 0, locals := 200 } : Room) (some none) iI [.ref 70, .int p1, .int p2] S (f_Md_paperOf p1 p2 S) := cn_of_v (M := md_Md_paperOf) (ini := false) rfl (by decide +kernel) (fun h => nomatch h) rfl (Nat.le_of_ble_eq_true rfl) (v_Md_paperOf p1 p2 S)
noncomputable def f_Md_posts (p1 : Int32) (p2 : Int32) (S : AS) : Option (Int32 × AS) := bI (f_Md_isPerson p1 S) fun r2 S1 => if r2 = 0 then (some ((-1), S1)) else (bI (f_Md_isTime p2 S1) fun r4 S3 => if r4 = 0 then (some ((-1), S3)) else (bI (f_Md_known S3) fun r6 S5 => bV (f_Md_goes r6 p2 S5) fun S7 => bI (f_Md_held p1 S7) fun r9 S8 => some (r9, S8)))
set_option maxHeartbeats 4000000 in
theorem v_Md_posts {G : GX} (p1 : Int32) (p2 : Int32) (S : AS) : V G md_Md_posts (QM G md_Md_posts iI) (fun _ => True) (some none) 0 [some (.ref 70), some (.int p1), some (.int p2)] [] 0 0 S (f_Md_posts p1 p2 S) := by
  unfold f_Md_posts
  refine x_aload_n_ref d_Md_posts_0 rfl ?_
  refine x_iload_n d_Md_posts_1 rfl ?_
  refine x_vI (b' := (some none)) (As := [.int p1]) d_Md_posts_2 mv_Md_155 rfl (fun _ => ak_70) rfl (q99 (by decide)) ⟨Nat.le_of_ble_eq_true rfl, Nat.le_of_ble_eq_true rfl⟩ (Nat.le_of_ble_eq_true rfl) ⟨Nat.le_of_ble_eq_true rfl, Nat.le_of_ble_eq_true rfl⟩ (fun _ h => h) (fun h => ⟨h, c_Md_isPerson p1 _⟩) (fun r2 S1 => ?_)
  refine x_if_eq (tgt := 15) d_Md_posts_5 (by decide) (fun _ => ?_) (fun _ => ?_)
  · refine x_iconst (v := -1) d_Md_posts_15 (by decide) ?_
    exact x_ret d_Md_posts_16 rfl rfl (Nat.le_of_ble_eq_true rfl) (Nat.le_of_ble_eq_true rfl)
  · refine x_iload_n d_Md_posts_8 rfl ?_
    refine x_sI (b' := (some none)) (As := [.int p2]) d_Md_posts_9 ms_Md_293 rfl ⟨Nat.le_of_ble_eq_true rfl, Nat.le_of_ble_eq_true rfl⟩ (Nat.le_of_ble_eq_true rfl) ⟨Nat.le_of_ble_eq_true rfl, Nat.le_of_ble_eq_true rfl⟩ (fun _ h => h) (fun h => ⟨h, c_Md_isTime p2 _⟩) (fun r4 S3 => ?_)
    refine x_if_ne (tgt := 17) d_Md_posts_12 (by decide) (fun _ => ?_) (fun _ => ?_)
    · refine x_aload_n_ref d_Md_posts_17 rfl ?_
      refine x_aload_n_ref d_Md_posts_18 rfl ?_
      refine x_vI (b' := (some none)) (As := []) d_Md_posts_19 mv_Md_296 rfl (fun _ => ak_70) rfl (q99 (by decide)) ⟨Nat.le_of_ble_eq_true rfl, Nat.le_of_ble_eq_true rfl⟩ (Nat.le_of_ble_eq_true rfl) ⟨Nat.le_of_ble_eq_true rfl, Nat.le_of_ble_eq_true rfl⟩ (fun _ h => h) (fun h => ⟨h, c_Md_known _⟩) (fun r6 S5 => ?_)
      refine x_iload_n d_Md_posts_22 rfl ?_
      refine x_vV (b' := (some none)) (As := [.int r6, .int p2]) d_Md_posts_23 mv_Md_299 rfl (fun _ => ak_70) rfl (q99 (by decide)) ⟨Nat.le_of_ble_eq_true rfl, Nat.le_of_ble_eq_true rfl⟩ (Nat.le_of_ble_eq_true rfl) ⟨Nat.le_of_ble_eq_true rfl, Nat.le_of_ble_eq_true rfl⟩ (fun _ h => h) (fun h => ⟨h, c_Md_goes r6 p2 _⟩) (fun S7 => ?_)
      refine x_aload_n_ref d_Md_posts_26 rfl ?_
      refine x_iload_n d_Md_posts_27 rfl ?_
      refine x_vI (b' := (some none)) (As := [.int p1]) d_Md_posts_28 mv_Md_237 rfl (fun _ => ak_70) rfl (q99 (by decide)) ⟨Nat.le_of_ble_eq_true rfl, Nat.le_of_ble_eq_true rfl⟩ (Nat.le_of_ble_eq_true rfl) ⟨Nat.le_of_ble_eq_true rfl, Nat.le_of_ble_eq_true rfl⟩ (fun _ h => h) (fun h => ⟨h, c_Md_held p1 _⟩) (fun r9 S8 => ?_)
      exact x_ret d_Md_posts_31 rfl rfl (Nat.le_of_ble_eq_true rfl) (Nat.le_of_ble_eq_true rfl)
    · refine x_iconst (v := -1) d_Md_posts_15 (by decide) ?_
      exact x_ret d_Md_posts_16 rfl rfl (Nat.le_of_ble_eq_true rfl) (Nat.le_of_ble_eq_true rfl)
theorem c_Md_posts {G : GX} (p1 : Int32) (p2 : Int32) (S : AS) : CN G y_Md_posts b_Md_posts 3 (some (FieldType.int)) ({ frames := 8, cells := 0, slots := 0, locals := 200 } : Room) (some none) iI [.ref 70, .int p1, .int p2] S (f_Md_posts p1 p2 S) := cn_of_v (M := md_Md_posts) (ini := false) rfl (by decide +kernel) (fun h => nomatch h) rfl (Nat.le_of_ble_eq_true rfl) (v_Md_posts p1 p2 S)
noncomputable def f_Md_due_L38 (J94 : Int64 → AS → Option (Int64 × AS)) (x1 : Int32) (x2 : Int32) : Nat → Int64 → Int32 → AS → Option (Int64 × AS)
  | 0, _, _, _ => none
  | n + 1, c3, c5, S => if (gi S 70 4) ≤ c5 then (J94 c3 S) else (chk (vp_in c5 16) (nm (fun (a12 : Int64) (a13 : Int64) (S14 : AS) => nm (a12 + a13) fun v15 => f_Md_due_L38 J94 x1 x2 n v15 (c5 + 1) S14) fun J86 => if (gi S 85 (ix c5)) = x1 then (chk (vp_in ((3 * c5) + 1) 48) (chk (vp_in c5 16) (J86 c3 (((gi S 73 (ix ((3 * c5) + 1))).toInt64) * ((x2 - (gi S 86 (ix c5))).toInt64)) S))) else (J86 c3 0 S)))
noncomputable def f_Md_due (p1 : Int32) (p2 : Int32) (S : AS) : Option (Int64 × AS) := bI (f_Md_isPerson p1 S) fun r2 S1 => nm (fun (S3 : AS) => some ((-1), S3)) fun J15 => if r2 = 0 then (J15 S1) else (bI (f_Md_isTime p2 S1) fun r5 S4 => if r5 = 0 then (J15 S4) else (bI (f_Md_known S4) fun r7 S6 => bV (f_Md_goes r7 p2 S6) fun S8 => chk (vp_in p1 24) (nm (gl S8 91 (ix p1)) fun v9 => nm (fun (a10 : Int64) (S11 : AS) => some (a10 / 1440, S11)) fun J94 => f_Md_due_L38 J94 p1 p2 FU v9 0 S8)))
set_option maxHeartbeats 4000000 in
theorem v_Md_due_L38 {G : GX} (J94 : Int64 → AS → Option (Int64 × AS)) (x1 : Int32) (x2 : Int32) (kJ94 : ∀ (a10 : Int64) (T : AS), V G md_Md_due (QM G md_Md_due iL) (fun _ => True) (some none) 94 [none, none, none, some (.long a10), none, none] [] 0 0 T (J94 a10 T)) : ∀ (n : Nat) (c3 : Int64) (c5 : Int32) (S : AS), V G md_Md_due (QM G md_Md_due iL) (fun _ => True) (some none) 38 [some (.ref 70), some (.int x1), some (.int x2), some (.long c3), none, some (.int c5)] [] 0 0 S (f_Md_due_L38 J94 x1 x2 n c3 c5 S) := by
  intro n
  induction n with
  | zero => intro c3 c5 S; exact V.none
  | succ n ih =>
    intro c3 c5 S
    rw [f_Md_due_L38]
    refine x_iload d_Md_due_38 rfl ?_
    refine x_aload_n_ref d_Md_due_40 rfl ?_
    refine x_geti d_Md_due_41 fl_Md_23 ak_70 (q99 (by decide)) ?_
    refine x_icmp_ge (tgt := 94) d_Md_due_44 (by decide) (fun _ => ?_) (fun _ => ?_)
    · exact V.kw (kJ94 c3 S) ⟨rfl, trivial⟩
    · refine x_lload_n d_Md_due_47 rfl ?_
      refine x_aload_n_ref d_Md_due_48 rfl ?_
      refine x_getr d_Md_due_49 fl_Md_89 ak_70 (q99 (by decide)) (shx sh_70_26) ?_
      refine x_iload d_Md_due_52 rfl ?_
      refine x_iald d_Md_due_54 ak_85 (q99 (by decide)) ?_
      refine x_iload_n d_Md_due_55 rfl ?_
      refine x_nm (fun J86 hJ86 => ?_)
      have kJ86 : ∀ (a12 : Int64) (a13 : Int64) (S14 : AS), V G md_Md_due (QM G md_Md_due iL) (fun _ => True) (some none) 86 [some (.ref 70), some (.int x1), some (.int x2), none, none, some (.int c5)] [.long a13, .long a12] 0 0 S14 (J86 a12 a13 S14) := by
        subst hJ86
        intro a12 a13 S14
        refine x_ladd d_Md_due_86 ?_
        refine x_topl (fun v15 => ?_)
        refine x_lstore_n (lc' := [some (.ref 70), some (.int x1), some (.int x2), some (.long v15), none, some (.int c5)]) d_Md_due_87 (by decide) rfl ?_
        refine x_iinc (w := c5 + 1) (lc' := [some (.ref 70), some (.int x1), some (.int x2), some (.long v15), none, some (.int (c5 + 1))]) d_Md_due_88 (by decide) rfl rfl rfl ?_
        refine x_goto (tgt := 38) d_Md_due_91 (by decide) ?_
        exact V.kw (ih v15 (c5 + 1) S14) ⟨rfl, rfl, rfl, rfl, rfl, trivial⟩
      clear hJ86
      refine x_icmp_ne (tgt := 85) d_Md_due_56 (by decide) (fun _ => ?_) (fun _ => ?_)
      · refine x_lconst0 d_Md_due_85 ?_
        exact V.kw (kJ86 c3 0 S) ⟨rfl, rfl, rfl, rfl, trivial⟩
      · refine x_aload_n_ref d_Md_due_59 rfl ?_
        refine x_getr d_Md_due_60 fl_Md_26 ak_70 (q99 (by decide)) (shx sh_70_5) ?_
        refine x_iconst (v := 3) d_Md_due_63 (by decide) ?_
        refine x_iload d_Md_due_64 rfl ?_
        refine x_imul d_Md_due_66 ?_
        refine x_iconst (v := 1) d_Md_due_67 (by decide) ?_
        refine x_iadd d_Md_due_68 ?_
        refine x_iald d_Md_due_69 ak_73 (q99 (by decide)) ?_
        refine x_i2l d_Md_due_70 ?_
        refine x_iload_n d_Md_due_71 rfl ?_
        refine x_aload_n_ref d_Md_due_72 rfl ?_
        refine x_getr d_Md_due_73 fl_Md_92 ak_70 (q99 (by decide)) (shx sh_70_27) ?_
        refine x_iload d_Md_due_76 rfl ?_
        refine x_iald d_Md_due_78 ak_86 (q99 (by decide)) ?_
        refine x_isub d_Md_due_79 ?_
        refine x_i2l d_Md_due_80 ?_
        refine x_lmul d_Md_due_81 ?_
        refine x_goto (tgt := 86) d_Md_due_82 (by decide) ?_
        exact V.kw (kJ86 c3 (((gi S 73 (ix ((3 * c5) + 1))).toInt64) * ((x2 - (gi S 86 (ix c5))).toInt64)) S) ⟨rfl, rfl, rfl, rfl, trivial⟩
set_option maxHeartbeats 4000000 in
theorem v_Md_due {G : GX} (p1 : Int32) (p2 : Int32) (S : AS) : V G md_Md_due (QM G md_Md_due iL) (fun _ => True) (some none) 0 [some (.ref 70), some (.int p1), some (.int p2), none, none, none] [] 0 0 S (f_Md_due p1 p2 S) := by
  unfold f_Md_due
  refine x_aload_n_ref d_Md_due_0 rfl ?_
  refine x_iload_n d_Md_due_1 rfl ?_
  refine x_vI (b' := (some none)) (As := [.int p1]) d_Md_due_2 mv_Md_155 rfl (fun _ => ak_70) rfl (q99 (by decide)) ⟨Nat.le_of_ble_eq_true rfl, Nat.le_of_ble_eq_true rfl⟩ (Nat.le_of_ble_eq_true rfl) ⟨Nat.le_of_ble_eq_true rfl, Nat.le_of_ble_eq_true rfl⟩ (fun _ h => h) (fun h => ⟨h, c_Md_isPerson p1 _⟩) (fun r2 S1 => ?_)
  refine x_nm (fun J15 hJ15 => ?_)
  have kJ15 : ∀ (S3 : AS), V G md_Md_due (QM G md_Md_due iL) (fun _ => True) (some none) 15 [none, none, none, none, none, none] [] 0 0 S3 (J15 S3) := by
    subst hJ15
    intro S3
    refine x_ldc2 (v := -1) (List.mem_append_right _ (List.mem_append_right _ (List.mem_append_right _ (List.mem_append_right _ (List.mem_append_right _ (List.mem_append_right _ (List.mem_of_getElem? (i := 84) (by decide +kernel)))))))) d_Md_due_15 ?_
    exact x_lret d_Md_due_18 rfl (Nat.le_of_ble_eq_true rfl) (Nat.le_of_ble_eq_true rfl)
  clear hJ15
  refine x_if_eq (tgt := 15) d_Md_due_5 (by decide) (fun _ => ?_) (fun _ => ?_)
  · exact V.kw (kJ15 S1) trivial
  · refine x_iload_n d_Md_due_8 rfl ?_
    refine x_sI (b' := (some none)) (As := [.int p2]) d_Md_due_9 ms_Md_293 rfl ⟨Nat.le_of_ble_eq_true rfl, Nat.le_of_ble_eq_true rfl⟩ (Nat.le_of_ble_eq_true rfl) ⟨Nat.le_of_ble_eq_true rfl, Nat.le_of_ble_eq_true rfl⟩ (fun _ h => h) (fun h => ⟨h, c_Md_isTime p2 _⟩) (fun r5 S4 => ?_)
    refine x_if_ne (tgt := 19) d_Md_due_12 (by decide) (fun _ => ?_) (fun _ => ?_)
    · refine x_aload_n_ref d_Md_due_19 rfl ?_
      refine x_aload_n_ref d_Md_due_20 rfl ?_
      refine x_vI (b' := (some none)) (As := []) d_Md_due_21 mv_Md_296 rfl (fun _ => ak_70) rfl (q99 (by decide)) ⟨Nat.le_of_ble_eq_true rfl, Nat.le_of_ble_eq_true rfl⟩ (Nat.le_of_ble_eq_true rfl) ⟨Nat.le_of_ble_eq_true rfl, Nat.le_of_ble_eq_true rfl⟩ (fun _ h => h) (fun h => ⟨h, c_Md_known _⟩) (fun r7 S6 => ?_)
      refine x_iload_n d_Md_due_24 rfl ?_
      refine x_vV (b' := (some none)) (As := [.int r7, .int p2]) d_Md_due_25 mv_Md_299 rfl (fun _ => ak_70) rfl (q99 (by decide)) ⟨Nat.le_of_ble_eq_true rfl, Nat.le_of_ble_eq_true rfl⟩ (Nat.le_of_ble_eq_true rfl) ⟨Nat.le_of_ble_eq_true rfl, Nat.le_of_ble_eq_true rfl⟩ (fun _ h => h) (fun h => ⟨h, c_Md_goes r7 p2 _⟩) (fun S8 => ?_)
      refine x_aload_n_ref d_Md_due_28 rfl ?_
      refine x_getr d_Md_due_29 fl_Md_108 ak_70 (q99 (by decide)) (shx sh_70_32) ?_
      refine x_iload_n d_Md_due_32 rfl ?_
      refine x_lald d_Md_due_33 ak_91 (q99 (by decide)) ?_
      refine x_topl (fun v9 => ?_)
      refine x_lstore_n (lc' := [some (.ref 70), some (.int p1), some (.int p2), some (.long v9), none, none]) d_Md_due_34 (by decide) rfl ?_
      refine x_iconst (v := 0) d_Md_due_35 (by decide) ?_
      refine x_istore (lc' := [some (.ref 70), some (.int p1), some (.int p2), some (.long v9), none, some (.int 0)]) d_Md_due_36 (by decide) rfl ?_
      refine x_nm (fun J94 hJ94 => ?_)
      have kJ94 : ∀ (a10 : Int64) (S11 : AS), V G md_Md_due (QM G md_Md_due iL) (fun _ => True) (some none) 94 [none, none, none, some (.long a10), none, none] [] 0 0 S11 (J94 a10 S11) := by
        subst hJ94
        intro a10 S11
        refine x_lload_n d_Md_due_94 rfl ?_
        refine x_ldc2 (v := 1440) (List.mem_append_right _ (List.mem_append_right _ (List.mem_append_right _ (List.mem_append_right _ (List.mem_append_right _ (List.mem_append_right _ (List.mem_of_getElem? (i := 85) (by decide +kernel)))))))) d_Md_due_95 ?_
        refine x_ldiv (by decide) d_Md_due_98 ?_
        exact x_lret d_Md_due_99 rfl (Nat.le_of_ble_eq_true rfl) (Nat.le_of_ble_eq_true rfl)
      clear hJ94
      exact V.kw (v_Md_due_L38 J94 p1 p2 kJ94 FU v9 0 S8) ⟨rfl, rfl, rfl, rfl, rfl, trivial⟩
    · exact V.kw (kJ15 S4) trivial
theorem c_Md_due {G : GX} (p1 : Int32) (p2 : Int32) (S : AS) : CN G y_Md_due b_Md_due 6 (some (FieldType.long)) ({ frames := 8, cells := 0, slots := 0, locals := 200 } : Room) (some none) iL [.ref 70, .int p1, .int p2] S (f_Md_due p1 p2 S) := cn_of_v (M := md_Md_due) (ini := false) rfl (by decide +kernel) (fun h => nomatch h) rfl (Nat.le_of_ble_eq_true rfl) (v_Md_due p1 p2 S)
noncomputable def f_Md_claims_L67 (J113 : Int32 → AS → Option (Int32 × AS)) (x1 : Int32) (x2 : Int32) (x3 : Int32) : Nat → Int32 → AS → Option (Int32 × AS)
  | 0, _, _ => none
  | n + 1, c4, S => if c4 ≤ 0 then (J113 c4 S) else (chk (vp_in (c4 - 1) 48) (bI (f_Md_decides x1 (gi S 93 (ix (c4 - 1))) x3 x2 S) fun r20 S19 => if 0 ≤ r20 then (J113 c4 S19) else (chk (vp_in (c4 - 1) 48) (chk (vp_in c4 48) (nm (si S19 93 (ix c4) (gi S19 93 (ix (c4 - 1)))) fun S21 => f_Md_claims_L67 J113 x1 x2 x3 n (c4 + (-1)) S21)))))
noncomputable def f_Md_claims_L40 (J137 : AS → Option (Int32 × AS)) (x1 : Int32) (x2 : Int32) : Nat → Int32 → AS → Option (Int32 × AS)
  | 0, _, _ => none
  | n + 1, c3, S => if (gi S 70 11) ≤ c3 then (J137 S) else (bI (f_Md_mayHave c3 x1 x2 S) fun r12 S11 => nm (fun (S13 : AS) => f_Md_claims_L40 J137 x1 x2 n (c3 + 1) S13) fun J131 => if r12 = 0 then (J131 S11) else (nm (gi S11 70 35) fun v14 => nm (fun (a15 : Int32) (S16 : AS) => chk (vp_in a15 48) (nm (si S16 93 (ix a15) c3) fun S17 => nm (si S17 70 35 ((gi S17 70 35) + 1)) fun S18 => J131 S18)) fun J113 => f_Md_claims_L67 J113 x1 x2 c3 FU v14 S11))
noncomputable def f_Md_claims (p1 : Int32) (p2 : Int32) (S : AS) : Option (Int32 × AS) := bI (f_Md_isPost p1 S) fun r2 S1 => if r2 = 0 then (some ((-1), S1)) else (bI (f_Md_isTime p2 S1) fun r4 S3 => if r4 = 0 then (some ((-1), S3)) else (bI (f_Md_known S3) fun r6 S5 => bV (f_Md_goes r6 p2 S5) fun S7 => chk (vp_in p1 16) (nm (si S7 85 (ix p1) (-1)) fun S8 => nm (si S8 70 35 0) fun S9 => nm (fun (S10 : AS) => some (gi S10 70 35, S10)) fun J137 => f_Md_claims_L40 J137 p1 p2 FU 0 S9)))
set_option maxHeartbeats 4000000 in
theorem v_Md_claims_L67 {G : GX} (J113 : Int32 → AS → Option (Int32 × AS)) (x1 : Int32) (x2 : Int32) (x3 : Int32) (kJ113 : ∀ (a15 : Int32) (T : AS), V G md_Md_claims (QM G md_Md_claims iI) (fun _ => True) (some none) 113 [some (.ref 70), some (.int x1), some (.int x2), some (.int x3), some (.int a15)] [] 0 0 T (J113 a15 T)) : ∀ (n : Nat) (c4 : Int32) (S : AS), V G md_Md_claims (QM G md_Md_claims iI) (fun _ => True) (some none) 67 [some (.ref 70), some (.int x1), some (.int x2), some (.int x3), some (.int c4)] [] 0 0 S (f_Md_claims_L67 J113 x1 x2 x3 n c4 S) := by
  intro n
  induction n with
  | zero => intro c4 S; exact V.none
  | succ n ih =>
    intro c4 S
    rw [f_Md_claims_L67]
    refine x_iload d_Md_claims_67 rfl ?_
    refine x_if_le (tgt := 113) d_Md_claims_69 (by decide) (fun _ => ?_) (fun _ => ?_)
    · exact V.kw (kJ113 c4 S) ⟨rfl, rfl, rfl, rfl, rfl, trivial⟩
    · refine x_aload_n_ref d_Md_claims_72 rfl ?_
      refine x_iload_n d_Md_claims_73 rfl ?_
      refine x_aload_n_ref d_Md_claims_74 rfl ?_
      refine x_getr d_Md_claims_75 fl_Md_115 ak_70 (q99 (by decide)) (shx sh_70_34) ?_
      refine x_iload d_Md_claims_78 rfl ?_
      refine x_iconst (v := 1) d_Md_claims_80 (by decide) ?_
      refine x_isub d_Md_claims_81 ?_
      refine x_iald d_Md_claims_82 ak_93 (q99 (by decide)) ?_
      refine x_iload_n d_Md_claims_83 rfl ?_
      refine x_iload_n d_Md_claims_84 rfl ?_
      refine x_vI (b' := (some none)) (As := [.int x1, .int (gi S 93 (ix (c4 - 1))), .int x3, .int x2]) d_Md_claims_85 mv_Md_269 rfl (fun _ => ak_70) rfl (q99 (by decide)) ⟨Nat.le_of_ble_eq_true rfl, Nat.le_of_ble_eq_true rfl⟩ (Nat.le_of_ble_eq_true rfl) ⟨Nat.le_of_ble_eq_true rfl, Nat.le_of_ble_eq_true rfl⟩ (fun _ h => h) (fun h => ⟨h, c_Md_decides x1 (gi S 93 (ix (c4 - 1))) x3 x2 _⟩) (fun r20 S19 => ?_)
      refine x_if_ge (tgt := 113) d_Md_claims_88 (by decide) (fun _ => ?_) (fun _ => ?_)
      · exact V.kw (kJ113 c4 S19) ⟨rfl, rfl, rfl, rfl, rfl, trivial⟩
      · refine x_aload_n_ref d_Md_claims_91 rfl ?_
        refine x_getr d_Md_claims_92 fl_Md_115 ak_70 (q99 (by decide)) (shx sh_70_34) ?_
        refine x_iload d_Md_claims_95 rfl ?_
        refine x_aload_n_ref d_Md_claims_97 rfl ?_
        refine x_getr d_Md_claims_98 fl_Md_115 ak_70 (q99 (by decide)) (shx sh_70_34) ?_
        refine x_iload d_Md_claims_101 rfl ?_
        refine x_iconst (v := 1) d_Md_claims_103 (by decide) ?_
        refine x_isub d_Md_claims_104 ?_
        refine x_iald d_Md_claims_105 ak_93 (q99 (by decide)) ?_
        refine x_iast d_Md_claims_106 ak_93 (q99 (by decide)) ?_
        refine x_nmS (fun S21 _ => ?_)
        refine x_iinc (w := c4 + (-1)) (lc' := [some (.ref 70), some (.int x1), some (.int x2), some (.int x3), some (.int (c4 + (-1)))]) d_Md_claims_107 (by decide) rfl rfl rfl ?_
        refine x_goto (tgt := 67) d_Md_claims_110 (by decide) ?_
        exact V.kw (ih (c4 + (-1)) S21) ⟨rfl, rfl, rfl, rfl, rfl, trivial⟩
set_option maxHeartbeats 4000000 in
theorem v_Md_claims_L40 {G : GX} (J137 : AS → Option (Int32 × AS)) (x1 : Int32) (x2 : Int32) (kJ137 : ∀ (T : AS), V G md_Md_claims (QM G md_Md_claims iI) (fun _ => True) (some none) 137 [some (.ref 70), none, none, none, none] [] 0 0 T (J137 T)) : ∀ (n : Nat) (c3 : Int32) (S : AS), V G md_Md_claims (QM G md_Md_claims iI) (fun _ => True) (some none) 40 [some (.ref 70), some (.int x1), some (.int x2), some (.int c3), none] [] 0 0 S (f_Md_claims_L40 J137 x1 x2 n c3 S) := by
  intro n
  induction n with
  | zero => intro c3 S; exact V.none
  | succ n ih =>
    intro c3 S
    rw [f_Md_claims_L40]
    refine x_iload_n d_Md_claims_40 rfl ?_
    refine x_aload_n_ref d_Md_claims_41 rfl ?_
    refine x_geti d_Md_claims_42 fl_Md_44 ak_70 (q99 (by decide)) ?_
    refine x_icmp_ge (tgt := 137) d_Md_claims_45 (by decide) (fun _ => ?_) (fun _ => ?_)
    · exact V.kw (kJ137 S) ⟨rfl, trivial⟩
    · refine x_aload_n_ref d_Md_claims_48 rfl ?_
      refine x_iload_n d_Md_claims_49 rfl ?_
      refine x_iload_n d_Md_claims_50 rfl ?_
      refine x_iload_n d_Md_claims_51 rfl ?_
      refine x_vI (b' := (some none)) (As := [.int c3, .int x1, .int x2]) d_Md_claims_52 mv_Md_266 rfl (fun _ => ak_70) rfl (q99 (by decide)) ⟨Nat.le_of_ble_eq_true rfl, Nat.le_of_ble_eq_true rfl⟩ (Nat.le_of_ble_eq_true rfl) ⟨Nat.le_of_ble_eq_true rfl, Nat.le_of_ble_eq_true rfl⟩ (fun _ h => h) (fun h => ⟨h, c_Md_mayHave c3 x1 x2 _⟩) (fun r12 S11 => ?_)
      refine x_nm (fun J131 hJ131 => ?_)
      have kJ131 : ∀ (S13 : AS), V G md_Md_claims (QM G md_Md_claims iI) (fun _ => True) (some none) 131 [some (.ref 70), some (.int x1), some (.int x2), some (.int c3), none] [] 0 0 S13 (J131 S13) := by
        subst hJ131
        intro S13
        refine x_iinc (w := c3 + 1) (lc' := [some (.ref 70), some (.int x1), some (.int x2), some (.int (c3 + 1)), none]) d_Md_claims_131 (by decide) rfl rfl rfl ?_
        refine x_goto (tgt := 40) d_Md_claims_134 (by decide) ?_
        exact V.kw (ih (c3 + 1) S13) ⟨rfl, rfl, rfl, rfl, trivial⟩
      clear hJ131
      refine x_if_ne (tgt := 61) d_Md_claims_55 (by decide) (fun _ => ?_) (fun _ => ?_)
      · refine x_aload_n_ref d_Md_claims_61 rfl ?_
        refine x_geti d_Md_claims_62 fl_Md_118 ak_70 (q99 (by decide)) ?_
        refine x_topi (fun v14 => ?_)
        refine x_istore (lc' := [some (.ref 70), some (.int x1), some (.int x2), some (.int c3), some (.int v14)]) d_Md_claims_65 (by decide) rfl ?_
        refine x_nm (fun J113 hJ113 => ?_)
        have kJ113 : ∀ (a15 : Int32) (S16 : AS), V G md_Md_claims (QM G md_Md_claims iI) (fun _ => True) (some none) 113 [some (.ref 70), some (.int x1), some (.int x2), some (.int c3), some (.int a15)] [] 0 0 S16 (J113 a15 S16) := by
          subst hJ113
          intro a15 S16
          refine x_aload_n_ref d_Md_claims_113 rfl ?_
          refine x_getr d_Md_claims_114 fl_Md_115 ak_70 (q99 (by decide)) (shx sh_70_34) ?_
          refine x_iload d_Md_claims_117 rfl ?_
          refine x_iload_n d_Md_claims_119 rfl ?_
          refine x_iast d_Md_claims_120 ak_93 (q99 (by decide)) ?_
          refine x_nmS (fun S17 _ => ?_)
          refine x_aload_n_ref d_Md_claims_121 rfl ?_
          refine x_dup d_Md_claims_122 rfl ?_
          refine x_geti d_Md_claims_123 fl_Md_118 ak_70 (q99 (by decide)) ?_
          refine x_iconst (v := 1) d_Md_claims_126 (by decide) ?_
          refine x_iadd d_Md_claims_127 ?_
          refine x_puti d_Md_claims_128 fl_Md_118 rfl ak_70 (q99 (by decide)) (fun h => nomatch h) (fun h => nomatch h) ?_
          refine x_nmS (fun S18 _ => ?_)
          exact V.kw (kJ131 S18) ⟨rfl, rfl, rfl, rfl, trivial⟩
        clear hJ113
        exact V.kw (v_Md_claims_L67 J113 x1 x2 c3 kJ113 FU v14 S11) ⟨rfl, rfl, rfl, rfl, rfl, trivial⟩
      · refine x_goto (tgt := 131) d_Md_claims_58 (by decide) ?_
        exact V.kw (kJ131 S11) ⟨rfl, rfl, rfl, rfl, trivial⟩
set_option maxHeartbeats 4000000 in
theorem v_Md_claims {G : GX} (p1 : Int32) (p2 : Int32) (S : AS) : V G md_Md_claims (QM G md_Md_claims iI) (fun _ => True) (some none) 0 [some (.ref 70), some (.int p1), some (.int p2), none, none] [] 0 0 S (f_Md_claims p1 p2 S) := by
  unfold f_Md_claims
  refine x_aload_n_ref d_Md_claims_0 rfl ?_
  refine x_iload_n d_Md_claims_1 rfl ?_
  refine x_vI (b' := (some none)) (As := [.int p1]) d_Md_claims_2 mv_Md_151 rfl (fun _ => ak_70) rfl (q99 (by decide)) ⟨Nat.le_of_ble_eq_true rfl, Nat.le_of_ble_eq_true rfl⟩ (Nat.le_of_ble_eq_true rfl) ⟨Nat.le_of_ble_eq_true rfl, Nat.le_of_ble_eq_true rfl⟩ (fun _ h => h) (fun h => ⟨h, c_Md_isPost p1 _⟩) (fun r2 S1 => ?_)
  refine x_if_eq (tgt := 15) d_Md_claims_5 (by decide) (fun _ => ?_) (fun _ => ?_)
  · refine x_iconst (v := -1) d_Md_claims_15 (by decide) ?_
    exact x_ret d_Md_claims_16 rfl rfl (Nat.le_of_ble_eq_true rfl) (Nat.le_of_ble_eq_true rfl)
  · refine x_iload_n d_Md_claims_8 rfl ?_
    refine x_sI (b' := (some none)) (As := [.int p2]) d_Md_claims_9 ms_Md_293 rfl ⟨Nat.le_of_ble_eq_true rfl, Nat.le_of_ble_eq_true rfl⟩ (Nat.le_of_ble_eq_true rfl) ⟨Nat.le_of_ble_eq_true rfl, Nat.le_of_ble_eq_true rfl⟩ (fun _ h => h) (fun h => ⟨h, c_Md_isTime p2 _⟩) (fun r4 S3 => ?_)
    refine x_if_ne (tgt := 17) d_Md_claims_12 (by decide) (fun _ => ?_) (fun _ => ?_)
    · refine x_aload_n_ref d_Md_claims_17 rfl ?_
      refine x_aload_n_ref d_Md_claims_18 rfl ?_
      refine x_vI (b' := (some none)) (As := []) d_Md_claims_19 mv_Md_296 rfl (fun _ => ak_70) rfl (q99 (by decide)) ⟨Nat.le_of_ble_eq_true rfl, Nat.le_of_ble_eq_true rfl⟩ (Nat.le_of_ble_eq_true rfl) ⟨Nat.le_of_ble_eq_true rfl, Nat.le_of_ble_eq_true rfl⟩ (fun _ h => h) (fun h => ⟨h, c_Md_known _⟩) (fun r6 S5 => ?_)
      refine x_iload_n d_Md_claims_22 rfl ?_
      refine x_vV (b' := (some none)) (As := [.int r6, .int p2]) d_Md_claims_23 mv_Md_299 rfl (fun _ => ak_70) rfl (q99 (by decide)) ⟨Nat.le_of_ble_eq_true rfl, Nat.le_of_ble_eq_true rfl⟩ (Nat.le_of_ble_eq_true rfl) ⟨Nat.le_of_ble_eq_true rfl, Nat.le_of_ble_eq_true rfl⟩ (fun _ h => h) (fun h => ⟨h, c_Md_goes r6 p2 _⟩) (fun S7 => ?_)
      refine x_aload_n_ref d_Md_claims_26 rfl ?_
      refine x_getr d_Md_claims_27 fl_Md_89 ak_70 (q99 (by decide)) (shx sh_70_26) ?_
      refine x_iload_n d_Md_claims_30 rfl ?_
      refine x_iconst (v := -1) d_Md_claims_31 (by decide) ?_
      refine x_iast d_Md_claims_32 ak_85 (q99 (by decide)) ?_
      refine x_nmS (fun S8 _ => ?_)
      refine x_aload_n_ref d_Md_claims_33 rfl ?_
      refine x_iconst (v := 0) d_Md_claims_34 (by decide) ?_
      refine x_puti d_Md_claims_35 fl_Md_118 rfl ak_70 (q99 (by decide)) (fun h => nomatch h) (fun h => nomatch h) ?_
      refine x_nmS (fun S9 _ => ?_)
      refine x_iconst (v := 0) d_Md_claims_38 (by decide) ?_
      refine x_istore_n (lc' := [some (.ref 70), some (.int p1), some (.int p2), some (.int 0), none]) d_Md_claims_39 (by decide) rfl ?_
      refine x_nm (fun J137 hJ137 => ?_)
      have kJ137 : ∀ (S10 : AS), V G md_Md_claims (QM G md_Md_claims iI) (fun _ => True) (some none) 137 [some (.ref 70), none, none, none, none] [] 0 0 S10 (J137 S10) := by
        subst hJ137
        intro S10
        refine x_aload_n_ref d_Md_claims_137 rfl ?_
        refine x_geti d_Md_claims_138 fl_Md_118 ak_70 (q99 (by decide)) ?_
        exact x_ret d_Md_claims_141 rfl rfl (Nat.le_of_ble_eq_true rfl) (Nat.le_of_ble_eq_true rfl)
      clear hJ137
      exact V.kw (v_Md_claims_L40 J137 p1 p2 kJ137 FU 0 S9) ⟨rfl, rfl, rfl, rfl, trivial⟩
    · refine x_iconst (v := -1) d_Md_claims_15 (by decide) ?_
      exact x_ret d_Md_claims_16 rfl rfl (Nat.le_of_ble_eq_true rfl) (Nat.le_of_ble_eq_true rfl)
theorem c_Md_claims {G : GX} (p1 : Int32) (p2 : Int32) (S : AS) : CN G y_Md_claims b_Md_claims 5 (some (FieldType.int)) ({ frames := 8, cells := 0, slots := 0, locals := 200 } : Room) (some none) iI [.ref 70, .int p1, .int p2] S (f_Md_claims p1 p2 S) := cn_of_v (M := md_Md_claims) (ini := false) rfl (by decide +kernel) (fun h => nomatch h) rfl (Nat.le_of_ble_eq_true rfl) (v_Md_claims p1 p2 S)
noncomputable def f_Md_claim (p1 : Int32) (S : AS) : Option (Int32 × AS) := nm (fun (S1 : AS) => some ((-1), S1)) fun J12 => if p1 < 0 then (J12 S) else (if p1 < (gi S 70 35) then (chk (vp_in p1 48) (some (gi S 93 (ix p1), S))) else (J12 S))
set_option maxHeartbeats 4000000 in
theorem v_Md_claim {G : GX} (p1 : Int32) (S : AS) : V G md_Md_claim (QM G md_Md_claim iI) (fun _ => True) (some none) 0 [some (.ref 70), some (.int p1)] [] 0 0 S (f_Md_claim p1 S) := by
  unfold f_Md_claim
  refine x_iload_n d_Md_claim_0 rfl ?_
  refine x_nm (fun J12 hJ12 => ?_)
  have kJ12 : ∀ (S1 : AS), V G md_Md_claim (QM G md_Md_claim iI) (fun _ => True) (some none) 12 [none, none] [] 0 0 S1 (J12 S1) := by
    subst hJ12
    intro S1
    refine x_iconst (v := -1) d_Md_claim_12 (by decide) ?_
    refine x_goto (tgt := 22) d_Md_claim_13 (by decide) ?_
    exact x_ret d_Md_claim_22 rfl rfl (Nat.le_of_ble_eq_true rfl) (Nat.le_of_ble_eq_true rfl)
  clear hJ12
  refine x_if_lt (tgt := 12) d_Md_claim_1 (by decide) (fun _ => ?_) (fun _ => ?_)
  · exact V.kw (kJ12 S) trivial
  · refine x_iload_n d_Md_claim_4 rfl ?_
    refine x_aload_n_ref d_Md_claim_5 rfl ?_
    refine x_geti d_Md_claim_6 fl_Md_118 ak_70 (q99 (by decide)) ?_
    refine x_icmp_lt (tgt := 16) d_Md_claim_9 (by decide) (fun _ => ?_) (fun _ => ?_)
    · refine x_aload_n_ref d_Md_claim_16 rfl ?_
      refine x_getr d_Md_claim_17 fl_Md_115 ak_70 (q99 (by decide)) (shx sh_70_34) ?_
      refine x_iload_n d_Md_claim_20 rfl ?_
      refine x_iald d_Md_claim_21 ak_93 (q99 (by decide)) ?_
      exact x_ret d_Md_claim_22 rfl rfl (Nat.le_of_ble_eq_true rfl) (Nat.le_of_ble_eq_true rfl)
    · exact V.kw (kJ12 S) trivial
theorem c_Md_claim {G : GX} (p1 : Int32) (S : AS) : CN G y_Md_claim b_Md_claim 2 (some (FieldType.int)) ({ frames := 0, cells := 0, slots := 0, locals := 0 } : Room) (some none) iI [.ref 70, .int p1] S (f_Md_claim p1 S) := cn_of_v (M := md_Md_claim) (ini := false) rfl (by decide +kernel) (fun h => nomatch h) rfl (Nat.le_of_ble_eq_true rfl) (v_Md_claim p1 S)
noncomputable def f_Md_by (p1 : Int32) (p2 : Int32) (p3 : Int32) (p4 : Int32) (S : AS) : Option (Int32 × AS) := bI (f_Md_isPost p1 S) fun r2 S1 => nm (fun (S3 : AS) => some ((-1000), S3)) fun J38 => if r2 = 0 then (J38 S1) else (bI (f_Md_isTime p2 S1) fun r5 S4 => if r5 = 0 then (J38 S4) else (bI (f_Md_isPaper p3 S4) fun r7 S6 => if r7 = 0 then (J38 S6) else (bI (f_Md_isPaper p4 S6) fun r9 S8 => if r9 = 0 then (J38 S8) else (if p3 = p4 then (J38 S8) else (bI (f_Md_known S8) fun r11 S10 => bV (f_Md_goes r11 p2 S10) fun S12 => chk (vp_in p1 16) (nm (si S12 85 (ix p1) (-1)) fun S13 => bI (f_Md_decides p1 p3 p4 p2 S13) fun r15 S14 => some (r15, S14)))))))
set_option maxHeartbeats 4000000 in
theorem v_Md_by {G : GX} (p1 : Int32) (p2 : Int32) (p3 : Int32) (p4 : Int32) (S : AS) : V G md_Md_by (QM G md_Md_by iI) (fun _ => True) (some none) 0 [some (.ref 70), some (.int p1), some (.int p2), some (.int p3), some (.int p4)] [] 0 0 S (f_Md_by p1 p2 p3 p4 S) := by
  unfold f_Md_by
  refine x_aload_n_ref d_Md_by_0 rfl ?_
  refine x_iload_n d_Md_by_1 rfl ?_
  refine x_vI (b' := (some none)) (As := [.int p1]) d_Md_by_2 mv_Md_151 rfl (fun _ => ak_70) rfl (q99 (by decide)) ⟨Nat.le_of_ble_eq_true rfl, Nat.le_of_ble_eq_true rfl⟩ (Nat.le_of_ble_eq_true rfl) ⟨Nat.le_of_ble_eq_true rfl, Nat.le_of_ble_eq_true rfl⟩ (fun _ h => h) (fun h => ⟨h, c_Md_isPost p1 _⟩) (fun r2 S1 => ?_)
  refine x_nm (fun J38 hJ38 => ?_)
  have kJ38 : ∀ (S3 : AS), V G md_Md_by (QM G md_Md_by iI) (fun _ => True) (some none) 38 [none, none, none, none, none] [] 0 0 S3 (J38 S3) := by
    subst hJ38
    intro S3
    refine x_sipush (v := -1000) d_Md_by_38 (by decide) ?_
    exact x_ret d_Md_by_41 rfl rfl (Nat.le_of_ble_eq_true rfl) (Nat.le_of_ble_eq_true rfl)
  clear hJ38
  refine x_if_eq (tgt := 38) d_Md_by_5 (by decide) (fun _ => ?_) (fun _ => ?_)
  · exact V.kw (kJ38 S1) trivial
  · refine x_iload_n d_Md_by_8 rfl ?_
    refine x_sI (b' := (some none)) (As := [.int p2]) d_Md_by_9 ms_Md_293 rfl ⟨Nat.le_of_ble_eq_true rfl, Nat.le_of_ble_eq_true rfl⟩ (Nat.le_of_ble_eq_true rfl) ⟨Nat.le_of_ble_eq_true rfl, Nat.le_of_ble_eq_true rfl⟩ (fun _ h => h) (fun h => ⟨h, c_Md_isTime p2 _⟩) (fun r5 S4 => ?_)
    refine x_if_eq (tgt := 38) d_Md_by_12 (by decide) (fun _ => ?_) (fun _ => ?_)
    · exact V.kw (kJ38 S4) trivial
    · refine x_aload_n_ref d_Md_by_15 rfl ?_
      refine x_iload_n d_Md_by_16 rfl ?_
      refine x_vI (b' := (some none)) (As := [.int p3]) d_Md_by_17 mv_Md_302 rfl (fun _ => ak_70) rfl (q99 (by decide)) ⟨Nat.le_of_ble_eq_true rfl, Nat.le_of_ble_eq_true rfl⟩ (Nat.le_of_ble_eq_true rfl) ⟨Nat.le_of_ble_eq_true rfl, Nat.le_of_ble_eq_true rfl⟩ (fun _ h => h) (fun h => ⟨h, c_Md_isPaper p3 _⟩) (fun r7 S6 => ?_)
      refine x_if_eq (tgt := 38) d_Md_by_20 (by decide) (fun _ => ?_) (fun _ => ?_)
      · exact V.kw (kJ38 S6) trivial
      · refine x_aload_n_ref d_Md_by_23 rfl ?_
        refine x_iload d_Md_by_24 rfl ?_
        refine x_vI (b' := (some none)) (As := [.int p4]) d_Md_by_26 mv_Md_302 rfl (fun _ => ak_70) rfl (q99 (by decide)) ⟨Nat.le_of_ble_eq_true rfl, Nat.le_of_ble_eq_true rfl⟩ (Nat.le_of_ble_eq_true rfl) ⟨Nat.le_of_ble_eq_true rfl, Nat.le_of_ble_eq_true rfl⟩ (fun _ h => h) (fun h => ⟨h, c_Md_isPaper p4 _⟩) (fun r9 S8 => ?_)
        refine x_if_eq (tgt := 38) d_Md_by_29 (by decide) (fun _ => ?_) (fun _ => ?_)
        · exact V.kw (kJ38 S8) trivial
        · refine x_iload_n d_Md_by_32 rfl ?_
          refine x_iload d_Md_by_33 rfl ?_
          refine x_icmp_ne (tgt := 42) d_Md_by_35 (by decide) (fun _ => ?_) (fun _ => ?_)
          · refine x_aload_n_ref d_Md_by_42 rfl ?_
            refine x_aload_n_ref d_Md_by_43 rfl ?_
            refine x_vI (b' := (some none)) (As := []) d_Md_by_44 mv_Md_296 rfl (fun _ => ak_70) rfl (q99 (by decide)) ⟨Nat.le_of_ble_eq_true rfl, Nat.le_of_ble_eq_true rfl⟩ (Nat.le_of_ble_eq_true rfl) ⟨Nat.le_of_ble_eq_true rfl, Nat.le_of_ble_eq_true rfl⟩ (fun _ h => h) (fun h => ⟨h, c_Md_known _⟩) (fun r11 S10 => ?_)
            refine x_iload_n d_Md_by_47 rfl ?_
            refine x_vV (b' := (some none)) (As := [.int r11, .int p2]) d_Md_by_48 mv_Md_299 rfl (fun _ => ak_70) rfl (q99 (by decide)) ⟨Nat.le_of_ble_eq_true rfl, Nat.le_of_ble_eq_true rfl⟩ (Nat.le_of_ble_eq_true rfl) ⟨Nat.le_of_ble_eq_true rfl, Nat.le_of_ble_eq_true rfl⟩ (fun _ h => h) (fun h => ⟨h, c_Md_goes r11 p2 _⟩) (fun S12 => ?_)
            refine x_aload_n_ref d_Md_by_51 rfl ?_
            refine x_getr d_Md_by_52 fl_Md_89 ak_70 (q99 (by decide)) (shx sh_70_26) ?_
            refine x_iload_n d_Md_by_55 rfl ?_
            refine x_iconst (v := -1) d_Md_by_56 (by decide) ?_
            refine x_iast d_Md_by_57 ak_85 (q99 (by decide)) ?_
            refine x_nmS (fun S13 _ => ?_)
            refine x_aload_n_ref d_Md_by_58 rfl ?_
            refine x_iload_n d_Md_by_59 rfl ?_
            refine x_iload_n d_Md_by_60 rfl ?_
            refine x_iload d_Md_by_61 rfl ?_
            refine x_iload_n d_Md_by_63 rfl ?_
            refine x_vI (b' := (some none)) (As := [.int p1, .int p3, .int p4, .int p2]) d_Md_by_64 mv_Md_269 rfl (fun _ => ak_70) rfl (q99 (by decide)) ⟨Nat.le_of_ble_eq_true rfl, Nat.le_of_ble_eq_true rfl⟩ (Nat.le_of_ble_eq_true rfl) ⟨Nat.le_of_ble_eq_true rfl, Nat.le_of_ble_eq_true rfl⟩ (fun _ h => h) (fun h => ⟨h, c_Md_decides p1 p3 p4 p2 _⟩) (fun r15 S14 => ?_)
            exact x_ret d_Md_by_67 rfl rfl (Nat.le_of_ble_eq_true rfl) (Nat.le_of_ble_eq_true rfl)
          · exact V.kw (kJ38 S8) trivial
theorem c_Md_by {G : GX} (p1 : Int32) (p2 : Int32) (p3 : Int32) (p4 : Int32) (S : AS) : CN G y_Md_by b_Md_by 5 (some (FieldType.int)) ({ frames := 8, cells := 0, slots := 0, locals := 200 } : Room) (some none) iI [.ref 70, .int p1, .int p2, .int p3, .int p4] S (f_Md_by p1 p2 p3 p4 S) := cn_of_v (M := md_Md_by) (ini := false) rfl (by decide +kernel) (fun h => nomatch h) rfl (Nat.le_of_ble_eq_true rfl) (v_Md_by p1 p2 p3 p4 S)
