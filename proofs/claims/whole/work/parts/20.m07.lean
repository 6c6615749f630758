noncomputable def f_Reigns_inForceAt_L4 (J50 : Int32 → AS → Option (Nat × AS)) (x1 : Int32) : Nat → Int32 → Int32 → AS → Option (Nat × AS)
  | 0, _, _, _ => none
  | n + 1, c2, c3, S => if (gi S 38 3) ≤ c3 then (J50 c2 S) else (chk (vp_in c3 6) (nm (fun (a6 : Int32) (S7 : AS) => f_Reigns_inForceAt_L4 J50 x1 n a6 (c3 + 1) S7) fun J44 => if x1 < (gi S 39 (ix c3)) then (J44 c2 S) else (nm (fun (S8 : AS) => J44 c3 S8) fun J42 => if c2 = (-1) then (J42 S) else (chk (vp_in c3 6) (chk (vp_in c2 6) (if (gi S 39 (ix c3)) < (gi S 39 (ix c2)) then (J44 c2 S) else (J42 S)))))))
noncomputable def f_Reigns_inForceAt (p1 : Int32) (S : AS) : Option (Nat × AS) := nm (fun (a1 : Int32) (S2 : AS) => nm (fun (S3 : AS) => some (41, S3)) fun J64 => if a1 = (-1) then (J64 S2) else (chk (vp_in a1 6) (oel (gr S2 40 (ix a1)) (J64 S2) (fun q4 => chk (vp_in a1 6) (oel (gr S2 40 (ix a1)) (none) (fun q5 => some (q5, S2))))))) fun J50 => f_Reigns_inForceAt_L4 J50 p1 FU (-1) 0 S
set_option maxHeartbeats 4000000 in
theorem v_Reigns_inForceAt_L4 {G : GX} (J50 : Int32 → AS → Option (Nat × AS)) (x1 : Int32) (kJ50 : ∀ (a1 : Int32) (T : AS), V G md_Reigns_inForceAt (QM G md_Reigns_inForceAt iR) (fun _ => True) (some none) 50 [some (.ref 38), none, some (.int a1), none] [] 0 0 T (J50 a1 T)) : ∀ (n : Nat) (c2 : Int32) (c3 : Int32) (S : AS), V G md_Reigns_inForceAt (QM G md_Reigns_inForceAt iR) (fun _ => True) (some none) 4 [some (.ref 38), some (.int x1), some (.int c2), some (.int c3)] [] 0 0 S (f_Reigns_inForceAt_L4 J50 x1 n c2 c3 S) := by
  intro n
  induction n with
  | zero => intro c2 c3 S; exact V.none
  | succ n ih =>
    intro c2 c3 S
    rw [f_Reigns_inForceAt_L4]
    refine x_iload_n d_Reigns_inForceAt_4 rfl ?_
    refine x_aload_n_ref d_Reigns_inForceAt_5 rfl ?_
    refine x_geti d_Reigns_inForceAt_6 fl_Reigns_26 ak_38 (q99 (by decide)) ?_
    refine x_icmp_ge (tgt := 50) d_Reigns_inForceAt_9 (by decide) (fun _ => ?_) (fun _ => ?_)
    · exact V.kw (kJ50 c2 S) ⟨rfl, rfl, trivial⟩
    · refine x_aload_n_ref d_Reigns_inForceAt_12 rfl ?_
      refine x_getr d_Reigns_inForceAt_13 fl_Reigns_9 ak_38 (q99 (by decide)) (shx sh_38_0) ?_
      refine x_iload_n d_Reigns_inForceAt_16 rfl ?_
      refine x_iald d_Reigns_inForceAt_17 ak_39 (q99 (by decide)) ?_
      refine x_iload_n d_Reigns_inForceAt_18 rfl ?_
      refine x_nm (fun J44 hJ44 => ?_)
      have kJ44 : ∀ (a6 : Int32) (S7 : AS), V G md_Reigns_inForceAt (QM G md_Reigns_inForceAt iR) (fun _ => True) (some none) 44 [some (.ref 38), some (.int x1), some (.int a6), some (.int c3)] [] 0 0 S7 (J44 a6 S7) := by
        subst hJ44
        intro a6 S7
        refine x_iinc (w := c3 + 1) (lc' := [some (.ref 38), some (.int x1), some (.int a6), some (.int (c3 + 1))]) d_Reigns_inForceAt_44 (by decide) rfl rfl rfl ?_
        refine x_goto (tgt := 4) d_Reigns_inForceAt_47 (by decide) ?_
        exact V.kw (ih a6 (c3 + 1) S7) ⟨rfl, rfl, rfl, rfl, trivial⟩
      clear hJ44
      refine x_icmp_gt (tgt := 44) d_Reigns_inForceAt_19 (by decide) (fun _ => ?_) (fun _ => ?_)
      · exact V.kw (kJ44 c2 S) ⟨rfl, rfl, rfl, rfl, trivial⟩
      · refine x_iload_n d_Reigns_inForceAt_22 rfl ?_
        refine x_iconst (v := -1) d_Reigns_inForceAt_23 (by decide) ?_
        refine x_nm (fun J42 hJ42 => ?_)
        have kJ42 : ∀ (S8 : AS), V G md_Reigns_inForceAt (QM G md_Reigns_inForceAt iR) (fun _ => True) (some none) 42 [some (.ref 38), some (.int x1), none, some (.int c3)] [] 0 0 S8 (J42 S8) := by
          subst hJ42
          intro S8
          refine x_iload_n d_Reigns_inForceAt_42 rfl ?_
          refine x_istore_n (lc' := [some (.ref 38), some (.int x1), some (.int c3), some (.int c3)]) d_Reigns_inForceAt_43 (by decide) rfl ?_
          exact V.kw (kJ44 c3 S8) ⟨rfl, rfl, rfl, rfl, trivial⟩
        clear hJ42
        refine x_icmp_eq (tgt := 42) d_Reigns_inForceAt_24 (by decide) (fun _ => ?_) (fun _ => ?_)
        · exact V.kw (kJ42 S) ⟨rfl, rfl, rfl, trivial⟩
        · refine x_aload_n_ref d_Reigns_inForceAt_27 rfl ?_
          refine x_getr d_Reigns_inForceAt_28 fl_Reigns_9 ak_38 (q99 (by decide)) (shx sh_38_0) ?_
          refine x_iload_n d_Reigns_inForceAt_31 rfl ?_
          refine x_iald d_Reigns_inForceAt_32 ak_39 (q99 (by decide)) ?_
          refine x_aload_n_ref d_Reigns_inForceAt_33 rfl ?_
          refine x_getr d_Reigns_inForceAt_34 fl_Reigns_9 ak_38 (q99 (by decide)) (shx sh_38_0) ?_
          refine x_iload_n d_Reigns_inForceAt_37 rfl ?_
          refine x_iald d_Reigns_inForceAt_38 ak_39 (q99 (by decide)) ?_
          refine x_icmp_lt (tgt := 44) d_Reigns_inForceAt_39 (by decide) (fun _ => ?_) (fun _ => ?_)
          · exact V.kw (kJ44 c2 S) ⟨rfl, rfl, rfl, rfl, trivial⟩
          · exact V.kw (kJ42 S) ⟨rfl, rfl, rfl, trivial⟩
set_option maxHeartbeats 4000000 in
theorem v_Reigns_inForceAt {G : GX} (p1 : Int32) (S : AS) : V G md_Reigns_inForceAt (QM G md_Reigns_inForceAt iR) (fun _ => True) (some none) 0 [some (.ref 38), some (.int p1), none, none] [] 0 0 S (f_Reigns_inForceAt p1 S) := by
  unfold f_Reigns_inForceAt
  refine x_iconst (v := -1) d_Reigns_inForceAt_0 (by decide) ?_
  refine x_istore_n (lc' := [some (.ref 38), some (.int p1), some (.int (-1)), none]) d_Reigns_inForceAt_1 (by decide) rfl ?_
  refine x_iconst (v := 0) d_Reigns_inForceAt_2 (by decide) ?_
  refine x_istore_n (lc' := [some (.ref 38), some (.int p1), some (.int (-1)), some (.int 0)]) d_Reigns_inForceAt_3 (by decide) rfl ?_
  refine x_nm (fun J50 hJ50 => ?_)
  have kJ50 : ∀ (a1 : Int32) (S2 : AS), V G md_Reigns_inForceAt (QM G md_Reigns_inForceAt iR) (fun _ => True) (some none) 50 [some (.ref 38), none, some (.int a1), none] [] 0 0 S2 (J50 a1 S2) := by
    subst hJ50
    intro a1 S2
    refine x_iload_n d_Reigns_inForceAt_50 rfl ?_
    refine x_iconst (v := -1) d_Reigns_inForceAt_51 (by decide) ?_
    refine x_nm (fun J64 hJ64 => ?_)
    have kJ64 : ∀ (S3 : AS), V G md_Reigns_inForceAt (QM G md_Reigns_inForceAt iR) (fun _ => True) (some none) 64 [some (.ref 38), none, none, none] [] 0 0 S3 (J64 S3) := by
      subst hJ64
      intro S3
      refine x_aload_n_ref d_Reigns_inForceAt_64 rfl ?_
      refine x_getr d_Reigns_inForceAt_65 fl_Reigns_22 ak_38 (q99 (by decide)) (shx sh_38_2) ?_
      refine x_goto (tgt := 77) d_Reigns_inForceAt_68 (by decide) ?_
      exact x_aret d_Reigns_inForceAt_77 rfl (Nat.le_of_ble_eq_true rfl) (Nat.le_of_ble_eq_true rfl)
    clear hJ64
    refine x_icmp_eq (tgt := 64) d_Reigns_inForceAt_52 (by decide) (fun _ => ?_) (fun _ => ?_)
    · exact V.kw (kJ64 S2) ⟨rfl, trivial⟩
    · refine x_aload_n_ref d_Reigns_inForceAt_55 rfl ?_
      refine x_getr d_Reigns_inForceAt_56 fl_Reigns_17 ak_38 (q99 (by decide)) (shx sh_38_1) ?_
      refine x_iload_n d_Reigns_inForceAt_59 rfl ?_
      refine x_aald d_Reigns_inForceAt_60 ak_40 (q99 (by decide)) (fun _ => ?_) (fun q4 hq4 => ?_)
      · refine x_nonnull_null d_Reigns_inForceAt_61 ?_
        exact V.kw (kJ64 S2) ⟨rfl, trivial⟩
      · refine x_nonnull_ref (tgt := 71) d_Reigns_inForceAt_61 (by decide) ?_
        refine x_aload_n_ref d_Reigns_inForceAt_71 rfl ?_
        refine x_getr d_Reigns_inForceAt_72 fl_Reigns_17 ak_38 (q99 (by decide)) (shx sh_38_1) ?_
        refine x_iload_n d_Reigns_inForceAt_75 rfl ?_
        refine x_aald d_Reigns_inForceAt_76 ak_40 (q99 (by decide)) (fun _ => ?_) (fun q5 hq5 => ?_)
        · exact V.none
        · exact x_aret d_Reigns_inForceAt_77 rfl (Nat.le_of_ble_eq_true rfl) (Nat.le_of_ble_eq_true rfl)
  clear hJ50
  exact V.kw (v_Reigns_inForceAt_L4 J50 p1 kJ50 FU (-1) 0 S) ⟨rfl, rfl, rfl, rfl, trivial⟩
theorem c_Reigns_inForceAt {G : GX} (p1 : Int32) (S : AS) : CN G y_Reigns_inForceAt b_Reigns_inForceAt 4 (some (FieldType.object "PaperChancery$RuleBook")) ({ frames := 0, cells := 0, slots := 0, locals := 0 } : Room) (some none) iR [.ref 38, .int p1] S (f_Reigns_inForceAt p1 S) := cn_of_v (M := md_Reigns_inForceAt) (ini := false) rfl (by decide +kernel) (fun h => nomatch h) rfl (Nat.le_of_ble_eq_true rfl) (v_Reigns_inForceAt p1 S)
noncomputable def f_Course_goTo (p1 : Int32) (S : AS) : Option AS := nm (si S 49 14 p1) fun S1 => bR (f_Reigns_inForceAt p1 S1) fun r3 S2 => chk (isBk S2 r3) (nm (sr S2 49 15 (some r3)) fun S5 => some S5)
set_option maxHeartbeats 4000000 in
theorem v_Course_goTo {G : GX} (p1 : Int32) (S : AS) : V G md_Course_goTo (QM G md_Course_goTo iV) (fun _ => True) (some none) 0 [some (.ref 49), some (.int p1)] [] 0 0 S (f_Course_goTo p1 S) := by
  unfold f_Course_goTo
  refine x_aload_n_ref d_Course_goTo_0 rfl ?_
  refine x_iload_n d_Course_goTo_1 rfl ?_
  refine x_puti d_Course_goTo_2 fl_Course_124 rfl ak_49 (q99 (by decide)) (fun h => nomatch h) (fun h => nomatch h) ?_
  refine x_nmS (fun S1 _ => ?_)
  refine x_aload_n_ref d_Course_goTo_5 rfl ?_
  refine x_aload_n_ref d_Course_goTo_6 rfl ?_
  refine x_getr d_Course_goTo_7 fl_Course_56 ak_49 (q99 (by decide)) (shx sh_49_3) ?_
  refine x_iload_n d_Course_goTo_10 rfl ?_
  refine x_vR (b' := (some none)) (As := [.int p1]) d_Course_goTo_11 mv_Course_127 rfl (fun _ => ak_38) rfl (q99 (by decide)) ⟨Nat.le_of_ble_eq_true rfl, Nat.le_of_ble_eq_true rfl⟩ (Nat.le_of_ble_eq_true rfl) ⟨Nat.le_of_ble_eq_true rfl, Nat.le_of_ble_eq_true rfl⟩ (fun _ h => h) (fun h => ⟨h, c_Reigns_inForceAt p1 _⟩) (fun r3 S2 => ?_)
  refine x_chk (fun hc4 => ?_)
  refine x_putr d_Course_goTo_14 fl_Course_66 rfl rfl ak_49 (q99 (by decide)) (fun h => nomatch h) (fun h => nomatch h) (sp_rules hc4) ?_
  refine x_nmS (fun S5 _ => ?_)
  exact x_vret d_Course_goTo_17 rfl (Nat.le_of_ble_eq_true rfl) (Nat.le_of_ble_eq_true rfl)
theorem c_Course_goTo {G : GX} (p1 : Int32) (S : AS) : CN G y_Course_goTo b_Course_goTo 2 none ({ frames := 1, cells := 0, slots := 0, locals := 23 } : Room) (some none) iV [.ref 49, .int p1] S (f_Course_goTo p1 S) := cn_of_v (M := md_Course_goTo) (ini := false) rfl (by decide +kernel) (fun h => nomatch h) rfl (Nat.le_of_ble_eq_true rfl) (v_Course_goTo p1 S)
noncomputable def f_PaperBox_isVoid (p1 : Int32) (p2 : Int32) (S : AS) : Option (Int32 × AS) := chk (vp_in p1 48) (nm (fun (S1 : AS) => some (0, S1)) fun J24 => if (gi S 31 (ix p1)) = (-1) then (J24 S) else (chk (vp_in p1 48) (if p2 < (gi S 31 (ix p1)) then (J24 S) else (some (1, S)))))
set_option maxHeartbeats 4000000 in
theorem v_PaperBox_isVoid {G : GX} (p1 : Int32) (p2 : Int32) (S : AS) : V G md_PaperBox_isVoid (QM G md_PaperBox_isVoid iI) (fun _ => True) (some none) 0 [some (.ref 23), some (.int p1), some (.int p2)] [] 0 0 S (f_PaperBox_isVoid p1 p2 S) := by
  unfold f_PaperBox_isVoid
  refine x_aload_n_ref d_PaperBox_isVoid_0 rfl ?_
  refine x_getr d_PaperBox_isVoid_1 fl_PaperBox_33 ak_23 (q99 (by decide)) (shx sh_23_7) ?_
  refine x_iload_n d_PaperBox_isVoid_4 rfl ?_
  refine x_iald d_PaperBox_isVoid_5 ak_31 (q99 (by decide)) ?_
  refine x_iconst (v := -1) d_PaperBox_isVoid_6 (by decide) ?_
  refine x_nm (fun J24 hJ24 => ?_)
  have kJ24 : ∀ (S1 : AS), V G md_PaperBox_isVoid (QM G md_PaperBox_isVoid iI) (fun _ => True) (some none) 24 [none, none, none] [] 0 0 S1 (J24 S1) := by
    subst hJ24
    intro S1
    refine x_iconst (v := 0) d_PaperBox_isVoid_24 (by decide) ?_
    exact x_ret d_PaperBox_isVoid_25 rfl rfl (Nat.le_of_ble_eq_true rfl) (Nat.le_of_ble_eq_true rfl)
  clear hJ24
  refine x_icmp_eq (tgt := 24) d_PaperBox_isVoid_7 (by decide) (fun _ => ?_) (fun _ => ?_)
  · exact V.kw (kJ24 S) trivial
  · refine x_aload_n_ref d_PaperBox_isVoid_10 rfl ?_
    refine x_getr d_PaperBox_isVoid_11 fl_PaperBox_33 ak_23 (q99 (by decide)) (shx sh_23_7) ?_
    refine x_iload_n d_PaperBox_isVoid_14 rfl ?_
    refine x_iald d_PaperBox_isVoid_15 ak_31 (q99 (by decide)) ?_
    refine x_iload_n d_PaperBox_isVoid_16 rfl ?_
    refine x_icmp_gt (tgt := 24) d_PaperBox_isVoid_17 (by decide) (fun _ => ?_) (fun _ => ?_)
    · exact V.kw (kJ24 S) trivial
    · refine x_iconst (v := 1) d_PaperBox_isVoid_20 (by decide) ?_
      refine x_goto (tgt := 25) d_PaperBox_isVoid_21 (by decide) ?_
      exact x_ret d_PaperBox_isVoid_25 rfl rfl (Nat.le_of_ble_eq_true rfl) (Nat.le_of_ble_eq_true rfl)
theorem c_PaperBox_isVoid {G : GX} (p1 : Int32) (p2 : Int32) (S : AS) : CN G y_PaperBox_isVoid b_PaperBox_isVoid 3 (some (FieldType.boolean)) ({ frames := 0, cells := 0, slots := 0, locals := 0 } : Room) (some none) iI [.ref 23, .int p1, .int p2] S (f_PaperBox_isVoid p1 p2 S) := cn_of_v (M := md_PaperBox_isVoid) (ini := false) rfl (by decide +kernel) (fun h => nomatch h) rfl (Nat.le_of_ble_eq_true rfl) (v_PaperBox_isVoid p1 p2 S)
noncomputable def f_Course_give (p1 : Int32) (p2 : Int32) (S : AS) : Option AS := chk (vp_in p1 16) (nm (fun (S1 : AS) => chk (vp_in p1 16) (nm (si S1 51 (ix p1) (gi S1 49 14)) fun S2 => bV (f_Course_place p1 p2 S2) fun S3 => some S3)) fun J47 => if (gi S 50 (ix p1)) = (-1) then (J47 S) else (chk (vp_in p1 16) (chk (vp_in (gi S 50 (ix p1)) 24) (chk (vp_in p1 16) (chk (vp_in p1 16) (chk (vp_in (gi S 50 (ix p1)) 24) (nm (sl S 53 (ix (gi S 50 (ix p1))) ((gl S 53 (ix (gi S 50 (ix p1)))) + (((gi S 21 (ix p1)).toInt64) * (((gi S 49 14) - (gi S 51 (ix p1))).toInt64)))) fun S4 => J47 S4)))))))
set_option maxHeartbeats 4000000 in
theorem v_Course_give {G : GX} (p1 : Int32) (p2 : Int32) (S : AS) : V G md_Course_give (QM G md_Course_give iV) (fun _ => True) (some none) 0 [some (.ref 49), some (.int p1), some (.int p2)] [] 0 0 S (f_Course_give p1 p2 S) := by
  unfold f_Course_give
  refine x_aload_n_ref d_Course_give_0 rfl ?_
  refine x_getr d_Course_give_1 fl_Course_9 ak_49 (q99 (by decide)) (shx sh_49_4) ?_
  refine x_iload_n d_Course_give_4 rfl ?_
  refine x_iald d_Course_give_5 ak_50 (q99 (by decide)) ?_
  refine x_iconst (v := -1) d_Course_give_6 (by decide) ?_
  refine x_nm (fun J47 hJ47 => ?_)
  have kJ47 : ∀ (S1 : AS), V G md_Course_give (QM G md_Course_give iV) (fun _ => True) (some none) 47 [some (.ref 49), some (.int p1), some (.int p2)] [] 0 0 S1 (J47 S1) := by
    subst hJ47
    intro S1
    refine x_aload_n_ref d_Course_give_47 rfl ?_
    refine x_getr d_Course_give_48 fl_Course_15 ak_49 (q99 (by decide)) (shx sh_49_5) ?_
    refine x_iload_n d_Course_give_51 rfl ?_
    refine x_aload_n_ref d_Course_give_52 rfl ?_
    refine x_geti d_Course_give_53 fl_Course_124 ak_49 (q99 (by decide)) ?_
    refine x_iast d_Course_give_56 ak_51 (q99 (by decide)) ?_
    refine x_nmS (fun S2 _ => ?_)
    refine x_aload_n_ref d_Course_give_57 rfl ?_
    refine x_iload_n d_Course_give_58 rfl ?_
    refine x_iload_n d_Course_give_59 rfl ?_
    refine x_vV (b' := (some none)) (As := [.int p1, .int p2]) d_Course_give_60 mv_Course_121 rfl (fun _ => ak_49) rfl (q99 (by decide)) ⟨Nat.le_of_ble_eq_true rfl, Nat.le_of_ble_eq_true rfl⟩ (Nat.le_of_ble_eq_true rfl) ⟨Nat.le_of_ble_eq_true rfl, Nat.le_of_ble_eq_true rfl⟩ (fun _ h => h) (fun h => ⟨h, c_Course_place p1 p2 _⟩) (fun S3 => ?_)
    exact x_vret d_Course_give_63 rfl (Nat.le_of_ble_eq_true rfl) (Nat.le_of_ble_eq_true rfl)
  clear hJ47
  refine x_icmp_eq (tgt := 47) d_Course_give_7 (by decide) (fun _ => ?_) (fun _ => ?_)
  · exact V.kw (kJ47 S) ⟨rfl, rfl, rfl, trivial⟩
  · refine x_aload_n_ref d_Course_give_10 rfl ?_
    refine x_getr d_Course_give_11 fl_Course_21 ak_49 (q99 (by decide)) (shx sh_49_7) ?_
    refine x_aload_n_ref d_Course_give_14 rfl ?_
    refine x_getr d_Course_give_15 fl_Course_9 ak_49 (q99 (by decide)) (shx sh_49_4) ?_
    refine x_iload_n d_Course_give_18 rfl ?_
    refine x_iald d_Course_give_19 ak_50 (q99 (by decide)) ?_
    refine x_dup2 d_Course_give_20 rfl rfl ?_
    refine x_lald d_Course_give_21 ak_53 (q99 (by decide)) ?_
    refine x_aload_n_ref d_Course_give_22 rfl ?_
    refine x_getr d_Course_give_23 fl_Course_44 ak_49 (q99 (by decide)) (shx sh_49_0) ?_
    refine x_getr d_Course_give_26 fl_Course_161 ak_16 (q99 (by decide)) (shx sh_16_5) ?_
    refine x_iload_n d_Course_give_29 rfl ?_
    refine x_iald d_Course_give_30 ak_21 (q99 (by decide)) ?_
    refine x_i2l d_Course_give_31 ?_
    refine x_aload_n_ref d_Course_give_32 rfl ?_
    refine x_geti d_Course_give_33 fl_Course_124 ak_49 (q99 (by decide)) ?_
    refine x_aload_n_ref d_Course_give_36 rfl ?_
    refine x_getr d_Course_give_37 fl_Course_15 ak_49 (q99 (by decide)) (shx sh_49_5) ?_
    refine x_iload_n d_Course_give_40 rfl ?_
    refine x_iald d_Course_give_41 ak_51 (q99 (by decide)) ?_
    refine x_isub d_Course_give_42 ?_
    refine x_i2l d_Course_give_43 ?_
    refine x_lmul d_Course_give_44 ?_
    refine x_ladd d_Course_give_45 ?_
    refine x_last d_Course_give_46 ak_53 (q99 (by decide)) ?_
    refine x_nmS (fun S4 _ => ?_)
    exact V.kw (kJ47 S4) ⟨rfl, rfl, rfl, trivial⟩
theorem c_Course_give {G : GX} (p1 : Int32) (p2 : Int32) (S : AS) : CN G y_Course_give b_Course_give 3 none ({ frames := 1, cells := 0, slots := 0, locals := 22 } : Room) (some none) iV [.ref 49, .int p1, .int p2] S (f_Course_give p1 p2 S) := cn_of_v (M := md_Course_give) (ini := false) rfl (by decide +kernel) (fun h => nomatch h) rfl (Nat.le_of_ble_eq_true rfl) (v_Course_give p1 p2 S)
noncomputable def f_Course_use (p1 : Int32) (p2 : Int32) (S : AS) : Option AS := chk (vp_in p1 48) (nm (si S 55 (ix p1) (vp_nar .boolean 0)) fun S1 => chk (vp_in p1 48) (nm (si S1 56 (ix p1) p2) fun S2 => chk (vp_in p1 48) (nm (si S2 57 (ix p1) (gi S2 49 14)) fun S3 => chk (vp_in p1 48) (bV (f_Course_give p2 (gi S3 24 (ix p1)) S3) fun S4 => some S4))))
set_option maxHeartbeats 4000000 in
theorem v_Course_use {G : GX} (p1 : Int32) (p2 : Int32) (S : AS) : V G md_Course_use (QM G md_Course_use iV) (fun _ => True) (some none) 0 [some (.ref 49), some (.int p1), some (.int p2)] [] 0 0 S (f_Course_use p1 p2 S) := by
  unfold f_Course_use
  refine x_aload_n_ref d_Course_use_0 rfl ?_
  refine x_getr d_Course_use_1 fl_Course_29 ak_49 (q99 (by decide)) (shx sh_49_9) ?_
  refine x_iload_n d_Course_use_4 rfl ?_
  refine x_iconst (v := 0) d_Course_use_5 (by decide) ?_
  refine x_zast d_Course_use_6 ak_55 (q99 (by decide)) ?_
  refine x_nmS (fun S1 _ => ?_)
  refine x_aload_n_ref d_Course_use_7 rfl ?_
  refine x_getr d_Course_use_8 fl_Course_32 ak_49 (q99 (by decide)) (shx sh_49_10) ?_
  refine x_iload_n d_Course_use_11 rfl ?_
  refine x_iload_n d_Course_use_12 rfl ?_
  refine x_iast d_Course_use_13 ak_56 (q99 (by decide)) ?_
  refine x_nmS (fun S2 _ => ?_)
  refine x_aload_n_ref d_Course_use_14 rfl ?_
  refine x_getr d_Course_use_15 fl_Course_35 ak_49 (q99 (by decide)) (shx sh_49_11) ?_
  refine x_iload_n d_Course_use_18 rfl ?_
  refine x_aload_n_ref d_Course_use_19 rfl ?_
  refine x_geti d_Course_use_20 fl_Course_124 ak_49 (q99 (by decide)) ?_
  refine x_iast d_Course_use_23 ak_57 (q99 (by decide)) ?_
  refine x_nmS (fun S3 _ => ?_)
  refine x_aload_n_ref d_Course_use_24 rfl ?_
  refine x_iload_n d_Course_use_25 rfl ?_
  refine x_aload_n_ref d_Course_use_26 rfl ?_
  refine x_getr d_Course_use_27 fl_Course_48 ak_49 (q99 (by decide)) (shx sh_49_1) ?_
  refine x_getr d_Course_use_30 fl_Course_158 ak_23 (q99 (by decide)) (shx sh_23_0) ?_
  refine x_iload_n d_Course_use_33 rfl ?_
  refine x_iald d_Course_use_34 ak_24 (q99 (by decide)) ?_
  refine x_vV (b' := (some none)) (As := [.int p2, .int (gi S3 24 (ix p1))]) d_Course_use_35 mv_Course_173 rfl (fun _ => ak_49) rfl (q99 (by decide)) ⟨Nat.le_of_ble_eq_true rfl, Nat.le_of_ble_eq_true rfl⟩ (Nat.le_of_ble_eq_true rfl) ⟨Nat.le_of_ble_eq_true rfl, Nat.le_of_ble_eq_true rfl⟩ (fun _ h => h) (fun h => ⟨h, c_Course_give p2 (gi S3 24 (ix p1)) _⟩) (fun S4 => ?_)
  exact x_vret d_Course_use_38 rfl (Nat.le_of_ble_eq_true rfl) (Nat.le_of_ble_eq_true rfl)
theorem c_Course_use {G : GX} (p1 : Int32) (p2 : Int32) (S : AS) : CN G y_Course_use b_Course_use 3 none ({ frames := 2, cells := 0, slots := 0, locals := 44 } : Room) (some none) iV [.ref 49, .int p1, .int p2] S (f_Course_use p1 p2 S) := cn_of_v (M := md_Course_use) (ini := false) rfl (by decide +kernel) (fun h => nomatch h) rfl (Nat.le_of_ble_eq_true rfl) (v_Course_use p1 p2 S)
noncomputable def f_PaperBox_reaches (p1 : Int32) (p2 : Int32) (p3 : Int32) (S : AS) : Option (Int32 × AS) := chk (vp_in p1 48) (nm (fun (S1 : AS) => some (0, S1)) fun J38 => if (((gi S 27 (ix p1)) >>> (p2 &&& 31)) &&& 1) = 1 then (chk (vp_in p1 48) (if p3 < (gi S 28 (ix p1)) then (J38 S) else (chk (vp_in p1 48) (if (gi S 29 (ix p1)) < p3 then (J38 S) else (some (1, S)))))) else (J38 S))
set_option maxHeartbeats 4000000 in
theorem v_PaperBox_reaches {G : GX} (p1 : Int32) (p2 : Int32) (p3 : Int32) (S : AS) : V G md_PaperBox_reaches (QM G md_PaperBox_reaches iI) (fun _ => True) (some none) 0 [some (.ref 23), some (.int p1), some (.int p2), some (.int p3)] [] 0 0 S (f_PaperBox_reaches p1 p2 p3 S) := by
  unfold f_PaperBox_reaches
  refine x_aload_n_ref d_PaperBox_reaches_0 rfl ?_
  refine x_getr d_PaperBox_reaches_1 fl_PaperBox_21 ak_23 (q99 (by decide)) (shx sh_23_3) ?_
  refine x_iload_n d_PaperBox_reaches_4 rfl ?_
  refine x_iald d_PaperBox_reaches_5 ak_27 (q99 (by decide)) ?_
  refine x_iload_n d_PaperBox_reaches_6 rfl ?_
  refine x_ishr d_PaperBox_reaches_7 ?_
  refine x_iconst (v := 1) d_PaperBox_reaches_8 (by decide) ?_
  refine x_iand d_PaperBox_reaches_9 ?_
  refine x_iconst (v := 1) d_PaperBox_reaches_10 (by decide) ?_
  refine x_nm (fun J38 hJ38 => ?_)
  have kJ38 : ∀ (S1 : AS), V G md_PaperBox_reaches (QM G md_PaperBox_reaches iI) (fun _ => True) (some none) 38 [none, none, none, none] [] 0 0 S1 (J38 S1) := by
    subst hJ38
    intro S1
    refine x_iconst (v := 0) d_PaperBox_reaches_38 (by decide) ?_
    exact x_ret d_PaperBox_reaches_39 rfl rfl (Nat.le_of_ble_eq_true rfl) (Nat.le_of_ble_eq_true rfl)
  clear hJ38
  refine x_icmp_ne (tgt := 38) d_PaperBox_reaches_11 (by decide) (fun _ => ?_) (fun _ => ?_)
  · exact V.kw (kJ38 S) trivial
  · refine x_iload_n d_PaperBox_reaches_14 rfl ?_
    refine x_aload_n_ref d_PaperBox_reaches_15 rfl ?_
    refine x_getr d_PaperBox_reaches_16 fl_PaperBox_24 ak_23 (q99 (by decide)) (shx sh_23_4) ?_
    refine x_iload_n d_PaperBox_reaches_19 rfl ?_
    refine x_iald d_PaperBox_reaches_20 ak_28 (q99 (by decide)) ?_
    refine x_icmp_lt (tgt := 38) d_PaperBox_reaches_21 (by decide) (fun _ => ?_) (fun _ => ?_)
    · exact V.kw (kJ38 S) trivial
    · refine x_iload_n d_PaperBox_reaches_24 rfl ?_
      refine x_aload_n_ref d_PaperBox_reaches_25 rfl ?_
      refine x_getr d_PaperBox_reaches_26 fl_PaperBox_27 ak_23 (q99 (by decide)) (shx sh_23_5) ?_
      refine x_iload_n d_PaperBox_reaches_29 rfl ?_
      refine x_iald d_PaperBox_reaches_30 ak_29 (q99 (by decide)) ?_
      refine x_icmp_gt (tgt := 38) d_PaperBox_reaches_31 (by decide) (fun _ => ?_) (fun _ => ?_)
      · exact V.kw (kJ38 S) trivial
      · refine x_iconst (v := 1) d_PaperBox_reaches_34 (by decide) ?_
        refine x_goto (tgt := 39) d_PaperBox_reaches_35 (by decide) ?_
        exact x_ret d_PaperBox_reaches_39 rfl rfl (Nat.le_of_ble_eq_true rfl) (Nat.le_of_ble_eq_true rfl)
theorem c_PaperBox_reaches {G : GX} (p1 : Int32) (p2 : Int32) (p3 : Int32) (S : AS) : CN G y_PaperBox_reaches b_PaperBox_reaches 4 (some (FieldType.boolean)) ({ frames := 0, cells := 0, slots := 0, locals := 0 } : Room) (some none) iI [.ref 23, .int p1, .int p2, .int p3] S (f_PaperBox_reaches p1 p2 p3 S) := cn_of_v (M := md_PaperBox_reaches) (ini := false) rfl (by decide +kernel) (fun h => nomatch h) rfl (Nat.le_of_ble_eq_true rfl) (v_PaperBox_reaches p1 p2 p3 S)
noncomputable def f_Course_loadFacts_58 (p2 : Int32) (p3 : Int32) (p4 : Int32) (S : AS) : Option AS := chk (vp_in p2 16) (chk (vp_in 0 9) (nm (si S 58 (ix 0) (gi S 21 (ix p2))) fun S1 => chk (vp_in p2 16) (chk (vp_in 1 9) (nm (si S1 58 (ix 1) (gi S1 20 (ix p2))) fun S2 => chk (vp_in p3 24) (chk (vp_in 2 9) (nm (si S2 58 (ix 2) (gi S2 17 (ix p3))) fun S3 => chk (vp_in p3 24) (chk (vp_in 3 9) (nm (si S3 58 (ix 3) (gi S3 18 (ix p3))) fun S4 => chk (vp_in p3 24) (chk (vp_in 4 9) (nm (si S4 58 (ix 4) (gi S4 52 (ix p3))) fun S5 => nm (fun (a6 : Int32) (a7 : Int32) (S8 : AS) => chk (vp_in a6 9) (nm (si S8 58 (ix a6) a7) fun S9 => nm (fun (a10 : Int32) (a11 : Int32) (S12 : AS) => chk (vp_in a10 9) (nm (si S12 58 (ix a10) a11) fun S13 => chk (vp_in p3 24) (chk (vp_in p2 16) (nm (fun (a14 : Int32) (a15 : Int32) (S16 : AS) => chk (vp_in a14 9) (nm (si S16 58 (ix a14) a15) fun S17 => nm (fun (a18 : Int32) (a19 : Int32) (S20 : AS) => chk (vp_in a18 9) (nm (si S20 58 (ix a18) a19) fun S21 => some S21)) fun J183 => if p4 = (-1) then (J183 8 0 S17) else (chk (vp_in p4 48) (J183 8 (gi S17 26 (ix p4)) S17)))) fun J159 => if (gi S13 19 (ix p3)) = (gi S13 20 (ix p2)) then (J159 7 1 S13) else (J159 7 0 S13))))) fun J129 => nm (fun (a22 : Int32) (S23 : AS) => J129 a22 0 S23) fun J106 => if p4 = (-1) then (J106 6 S9) else (chk (vp_in p4 48) (if (gi S9 25 (ix p4)) ≤ (gi S9 49 14) then (chk (vp_in p4 48) (J129 6 (((gi S9 49 14) - (gi S9 25 (ix p4))) / 1440) S9)) else (J106 6 S9))))) fun J79 => if p4 = (-1) then (J79 5 0 S5) else (chk (vp_in p4 48) (J79 5 (gi S5 25 (ix p4)) S5))))))))))))
set_option maxHeartbeats 4000000 in
theorem v_Course_loadFacts_58 {G : GX} (p2 : Int32) (p3 : Int32) (p4 : Int32) (S : AS) : V G md_Course_loadFacts (QM G md_Course_loadFacts iV) (fun _ => True) (some none) 0 [some (.ref 49), some (.ref 58), some (.int p2), some (.int p3), some (.int p4)] [] 0 0 S (f_Course_loadFacts_58 p2 p3 p4 S) := by
  unfold f_Course_loadFacts_58
  refine x_aload_n_ref d_Course_loadFacts_0 rfl ?_
  refine x_iconst (v := 0) d_Course_loadFacts_1 (by decide) ?_
  refine x_aload_n_ref d_Course_loadFacts_2 rfl ?_
  refine x_getr d_Course_loadFacts_3 fl_Course_44 ak_49 (q99 (by decide)) (shx sh_49_0) ?_
  refine x_getr d_Course_loadFacts_6 fl_Course_161 ak_16 (q99 (by decide)) (shx sh_16_5) ?_
  refine x_iload_n d_Course_loadFacts_9 rfl ?_
  refine x_iald d_Course_loadFacts_10 ak_21 (q99 (by decide)) ?_
  refine x_iast d_Course_loadFacts_11 ak_58 (q99 (by decide)) ?_
  refine x_nmS (fun S1 _ => ?_)
  refine x_aload_n_ref d_Course_loadFacts_12 rfl ?_
  refine x_iconst (v := 1) d_Course_loadFacts_13 (by decide) ?_
  refine x_aload_n_ref d_Course_loadFacts_14 rfl ?_
  refine x_getr d_Course_loadFacts_15 fl_Course_44 ak_49 (q99 (by decide)) (shx sh_49_0) ?_
  refine x_getr d_Course_loadFacts_18 fl_Course_192 ak_16 (q99 (by decide)) (shx sh_16_4) ?_
  refine x_iload_n d_Course_loadFacts_21 rfl ?_
  refine x_iald d_Course_loadFacts_22 ak_20 (q99 (by decide)) ?_
  refine x_iast d_Course_loadFacts_23 ak_58 (q99 (by decide)) ?_
  refine x_nmS (fun S2 _ => ?_)
  refine x_aload_n_ref d_Course_loadFacts_24 rfl ?_
  refine x_iconst (v := 2) d_Course_loadFacts_25 (by decide) ?_
  refine x_aload_n_ref d_Course_loadFacts_26 rfl ?_
  refine x_getr d_Course_loadFacts_27 fl_Course_44 ak_49 (q99 (by decide)) (shx sh_49_0) ?_
  refine x_getr d_Course_loadFacts_30 fl_Course_202 ak_16 (q99 (by decide)) (shx sh_16_0) ?_
  refine x_iload_n d_Course_loadFacts_33 rfl ?_
  refine x_iald d_Course_loadFacts_34 ak_17 (q99 (by decide)) ?_
  refine x_iast d_Course_loadFacts_35 ak_58 (q99 (by decide)) ?_
  refine x_nmS (fun S3 _ => ?_)
  refine x_aload_n_ref d_Course_loadFacts_36 rfl ?_
  refine x_iconst (v := 3) d_Course_loadFacts_37 (by decide) ?_
  refine x_aload_n_ref d_Course_loadFacts_38 rfl ?_
  refine x_getr d_Course_loadFacts_39 fl_Course_44 ak_49 (q99 (by decide)) (shx sh_49_0) ?_
  refine x_getr d_Course_loadFacts_42 fl_Course_205 ak_16 (q99 (by decide)) (shx sh_16_1) ?_
  refine x_iload_n d_Course_loadFacts_45 rfl ?_
  refine x_iald d_Course_loadFacts_46 ak_18 (q99 (by decide)) ?_
  refine x_iast d_Course_loadFacts_47 ak_58 (q99 (by decide)) ?_
  refine x_nmS (fun S4 _ => ?_)
  refine x_aload_n_ref d_Course_loadFacts_48 rfl ?_
  refine x_iconst (v := 4) d_Course_loadFacts_49 (by decide) ?_
  refine x_aload_n_ref d_Course_loadFacts_50 rfl ?_
  refine x_getr d_Course_loadFacts_51 fl_Course_18 ak_49 (q99 (by decide)) (shx sh_49_6) ?_
  refine x_iload_n d_Course_loadFacts_54 rfl ?_
  refine x_iald d_Course_loadFacts_55 ak_52 (q99 (by decide)) ?_
  refine x_iast d_Course_loadFacts_56 ak_58 (q99 (by decide)) ?_
  refine x_nmS (fun S5 _ => ?_)
  refine x_aload_n_ref d_Course_loadFacts_57 rfl ?_
  refine x_iconst (v := 5) d_Course_loadFacts_58 (by decide) ?_
  refine x_iload d_Course_loadFacts_59 rfl ?_
  refine x_iconst (v := -1) d_Course_loadFacts_61 (by decide) ?_
  refine x_nm (fun J79 hJ79 => ?_)
  have kJ79 : ∀ (a6 : Int32) (a7 : Int32) (S8 : AS), V G md_Course_loadFacts (QM G md_Course_loadFacts iV) (fun _ => True) (some none) 79 [some (.ref 49), some (.ref 58), some (.int p2), some (.int p3), some (.int p4)] [.int a7, .int a6, .ref 58] 0 0 S8 (J79 a6 a7 S8) := by
    subst hJ79
    intro a6 a7 S8
    refine x_iast d_Course_loadFacts_79 ak_58 (q99 (by decide)) ?_
    refine x_nmS (fun S9 _ => ?_)
    refine x_aload_n_ref d_Course_loadFacts_80 rfl ?_
    refine x_bipush (v := 6) d_Course_loadFacts_81 (by decide) ?_
    refine x_iload d_Course_loadFacts_83 rfl ?_
    refine x_iconst (v := -1) d_Course_loadFacts_85 (by decide) ?_
    refine x_nm (fun J129 hJ129 => ?_)
    have kJ129 : ∀ (a10 : Int32) (a11 : Int32) (S12 : AS), V G md_Course_loadFacts (QM G md_Course_loadFacts iV) (fun _ => True) (some none) 129 [some (.ref 49), some (.ref 58), some (.int p2), some (.int p3), some (.int p4)] [.int a11, .int a10, .ref 58] 0 0 S12 (J129 a10 a11 S12) := by
      subst hJ129
      intro a10 a11 S12
      refine x_iast d_Course_loadFacts_129 ak_58 (q99 (by decide)) ?_
      refine x_nmS (fun S13 _ => ?_)
      refine x_aload_n_ref d_Course_loadFacts_130 rfl ?_
      refine x_bipush (v := 7) d_Course_loadFacts_131 (by decide) ?_
      refine x_aload_n_ref d_Course_loadFacts_133 rfl ?_
      refine x_getr d_Course_loadFacts_134 fl_Course_44 ak_49 (q99 (by decide)) (shx sh_49_0) ?_
      refine x_getr d_Course_loadFacts_137 fl_Course_211 ak_16 (q99 (by decide)) (shx sh_16_2) ?_
      refine x_iload_n d_Course_loadFacts_140 rfl ?_
      refine x_iald d_Course_loadFacts_141 ak_19 (q99 (by decide)) ?_
      refine x_aload_n_ref d_Course_loadFacts_142 rfl ?_
      refine x_getr d_Course_loadFacts_143 fl_Course_44 ak_49 (q99 (by decide)) (shx sh_49_0) ?_
      refine x_getr d_Course_loadFacts_146 fl_Course_192 ak_16 (q99 (by decide)) (shx sh_16_4) ?_
      refine x_iload_n d_Course_loadFacts_149 rfl ?_
      refine x_iald d_Course_loadFacts_150 ak_20 (q99 (by decide)) ?_
      refine x_nm (fun J159 hJ159 => ?_)
      have kJ159 : ∀ (a14 : Int32) (a15 : Int32) (S16 : AS), V G md_Course_loadFacts (QM G md_Course_loadFacts iV) (fun _ => True) (some none) 159 [some (.ref 49), some (.ref 58), none, none, some (.int p4)] [.int a15, .int a14, .ref 58] 0 0 S16 (J159 a14 a15 S16) := by
        subst hJ159
        intro a14 a15 S16
        refine x_iast d_Course_loadFacts_159 ak_58 (q99 (by decide)) ?_
        refine x_nmS (fun S17 _ => ?_)
        refine x_aload_n_ref d_Course_loadFacts_160 rfl ?_
        refine x_bipush (v := 8) d_Course_loadFacts_161 (by decide) ?_
        refine x_iload d_Course_loadFacts_163 rfl ?_
        refine x_iconst (v := -1) d_Course_loadFacts_165 (by decide) ?_
        refine x_nm (fun J183 hJ183 => ?_)
        have kJ183 : ∀ (a18 : Int32) (a19 : Int32) (S20 : AS), V G md_Course_loadFacts (QM G md_Course_loadFacts iV) (fun _ => True) (some none) 183 [none, none, none, none, none] [.int a19, .int a18, .ref 58] 0 0 S20 (J183 a18 a19 S20) := by
          subst hJ183
          intro a18 a19 S20
          refine x_iast d_Course_loadFacts_183 ak_58 (q99 (by decide)) ?_
          refine x_nmS (fun S21 _ => ?_)
          exact x_vret d_Course_loadFacts_184 rfl (Nat.le_of_ble_eq_true rfl) (Nat.le_of_ble_eq_true rfl)
        clear hJ183
        refine x_icmp_ne (tgt := 173) d_Course_loadFacts_166 (by decide) (fun _ => ?_) (fun _ => ?_)
        · refine x_aload_n_ref d_Course_loadFacts_173 rfl ?_
          refine x_getr d_Course_loadFacts_174 fl_Course_48 ak_49 (q99 (by decide)) (shx sh_49_1) ?_
          refine x_getr d_Course_loadFacts_177 fl_Course_214 ak_23 (q99 (by decide)) (shx sh_23_2) ?_
          refine x_iload d_Course_loadFacts_180 rfl ?_
          refine x_iald d_Course_loadFacts_182 ak_26 (q99 (by decide)) ?_
          exact V.kw (kJ183 8 (gi S17 26 (ix p4)) S17) trivial
        · refine x_iconst (v := 0) d_Course_loadFacts_169 (by decide) ?_
          refine x_goto (tgt := 183) d_Course_loadFacts_170 (by decide) ?_
          exact V.kw (kJ183 8 0 S17) trivial
      clear hJ159
      refine x_icmp_ne (tgt := 158) d_Course_loadFacts_151 (by decide) (fun _ => ?_) (fun _ => ?_)
      · refine x_iconst (v := 0) d_Course_loadFacts_158 (by decide) ?_
        exact V.kw (kJ159 7 0 S13) ⟨rfl, rfl, rfl, trivial⟩
      · refine x_iconst (v := 1) d_Course_loadFacts_154 (by decide) ?_
        refine x_goto (tgt := 159) d_Course_loadFacts_155 (by decide) ?_
        exact V.kw (kJ159 7 1 S13) ⟨rfl, rfl, rfl, trivial⟩
    clear hJ129
    refine x_nm (fun J106 hJ106 => ?_)
    have kJ106 : ∀ (a22 : Int32) (S23 : AS), V G md_Course_loadFacts (QM G md_Course_loadFacts iV) (fun _ => True) (some none) 106 [some (.ref 49), some (.ref 58), some (.int p2), some (.int p3), some (.int p4)] [.int a22, .ref 58] 0 0 S23 (J106 a22 S23) := by
      subst hJ106
      intro a22 S23
      refine x_iconst (v := 0) d_Course_loadFacts_106 (by decide) ?_
      refine x_goto (tgt := 129) d_Course_loadFacts_107 (by decide) ?_
      exact V.kw (kJ129 a22 0 S23) ⟨rfl, rfl, rfl, rfl, rfl, trivial⟩
    clear hJ106
    refine x_icmp_eq (tgt := 106) d_Course_loadFacts_86 (by decide) (fun _ => ?_) (fun _ => ?_)
    · exact V.kw (kJ106 6 S9) ⟨rfl, rfl, rfl, rfl, rfl, trivial⟩
    · refine x_aload_n_ref d_Course_loadFacts_89 rfl ?_
      refine x_geti d_Course_loadFacts_90 fl_Course_124 ak_49 (q99 (by decide)) ?_
      refine x_aload_n_ref d_Course_loadFacts_93 rfl ?_
      refine x_getr d_Course_loadFacts_94 fl_Course_48 ak_49 (q99 (by decide)) (shx sh_49_1) ?_
      refine x_getr d_Course_loadFacts_97 fl_Course_208 ak_23 (q99 (by decide)) (shx sh_23_1) ?_
      refine x_iload d_Course_loadFacts_100 rfl ?_
      refine x_iald d_Course_loadFacts_102 ak_25 (q99 (by decide)) ?_
      refine x_icmp_ge (tgt := 110) d_Course_loadFacts_103 (by decide) (fun _ => ?_) (fun _ => ?_)
      · refine x_aload_n_ref d_Course_loadFacts_110 rfl ?_
        refine x_geti d_Course_loadFacts_111 fl_Course_124 ak_49 (q99 (by decide)) ?_
        refine x_aload_n_ref d_Course_loadFacts_114 rfl ?_
        refine x_getr d_Course_loadFacts_115 fl_Course_48 ak_49 (q99 (by decide)) (shx sh_49_1) ?_
        refine x_getr d_Course_loadFacts_118 fl_Course_208 ak_23 (q99 (by decide)) (shx sh_23_1) ?_
        refine x_iload d_Course_loadFacts_121 rfl ?_
        refine x_iald d_Course_loadFacts_123 ak_25 (q99 (by decide)) ?_
        refine x_isub d_Course_loadFacts_124 ?_
        refine x_sipush (v := 1440) d_Course_loadFacts_125 (by decide) ?_
        refine x_idiv (by decide) d_Course_loadFacts_128 ?_
        exact V.kw (kJ129 6 (((gi S9 49 14) - (gi S9 25 (ix p4))) / 1440) S9) ⟨rfl, rfl, rfl, rfl, rfl, trivial⟩
      · exact V.kw (kJ106 6 S9) ⟨rfl, rfl, rfl, rfl, rfl, trivial⟩
  clear hJ79
  refine x_icmp_ne (tgt := 69) d_Course_loadFacts_62 (by decide) (fun _ => ?_) (fun _ => ?_)
  · refine x_aload_n_ref d_Course_loadFacts_69 rfl ?_
    refine x_getr d_Course_loadFacts_70 fl_Course_48 ak_49 (q99 (by decide)) (shx sh_49_1) ?_
    refine x_getr d_Course_loadFacts_73 fl_Course_208 ak_23 (q99 (by decide)) (shx sh_23_1) ?_
    refine x_iload d_Course_loadFacts_76 rfl ?_
    refine x_iald d_Course_loadFacts_78 ak_25 (q99 (by decide)) ?_
    exact V.kw (kJ79 5 (gi S5 25 (ix p4)) S5) ⟨rfl, rfl, rfl, rfl, rfl, trivial⟩
  · refine x_iconst (v := 0) d_Course_loadFacts_65 (by decide) ?_
    refine x_goto (tgt := 79) d_Course_loadFacts_66 (by decide) ?_
    exact V.kw (kJ79 5 0 S5) ⟨rfl, rfl, rfl, rfl, rfl, trivial⟩
theorem c_Course_loadFacts_58 {G : GX} (p2 : Int32) (p3 : Int32) (p4 : Int32) (S : AS) : CN G y_Course_loadFacts b_Course_loadFacts 5 none ({ frames := 0, cells := 0, slots := 0, locals := 0 } : Room) (some none) iV [.ref 49, .ref 58, .int p2, .int p3, .int p4] S (f_Course_loadFacts_58 p2 p3 p4 S) := cn_of_v (M := md_Course_loadFacts) (ini := false) rfl (by decide +kernel) (fun h => nomatch h) rfl (Nat.le_of_ble_eq_true rfl) (v_Course_loadFacts_58 p2 p3 p4 S)
noncomputable def f_RuleBook_testsHold_58_L7 (q : Nat) (J79 : AS → Option (Int32 × AS)) (x1 : Int32) : Nat → Int32 → AS → Option (Int32 × AS)
  | 0, _, _ => none
  | n + 1, c3, S => chk (vp_in x1 16) (if (gi S (q + 4) (ix x1)) ≤ c3 then (J79 S) else (chk (vp_in c3 64) (chk (vp_in (gi S (q + 5) (ix c3)) 9) (nm (gi S 58 (ix (gi S (q + 5) (ix c3)))) fun v3 => chk (vp_in c3 64) (nm (fun (a4 : Int32) (S5 : AS) => chk (vp_in c3 64) (if a4 = (gi S5 (q + 6) (ix c3)) then (f_RuleBook_testsHold_58_L7 q J79 x1 n (c3 + 1) S5) else (some (0, S5)))) fun J58 => if (gi S (q + 7) (ix c3)) ≤ v3 then (chk (vp_in c3 64) (if v3 ≤ (gi S (q + 7) (ix c3)) then (J58 0 S) else (J58 1 S))) else (J58 (-1) S))))))
noncomputable def f_RuleBook_testsHold_58 (q : Nat) (p1 : Int32) (S : AS) : Option (Int32 × AS) := chk (vp_in p1 16) (nm (gi S (q + 3) (ix p1)) fun v1 => nm (fun (S2 : AS) => some (1, S2)) fun J79 => f_RuleBook_testsHold_58_L7 q J79 p1 FU v1 S)
set_option maxHeartbeats 4000000 in
theorem v_RuleBook_testsHold_58_L7 {G : GX} (q : Nat) (hq : isq q) (J79 : AS → Option (Int32 × AS)) (x1 : Int32) (kJ79 : ∀ (T : AS), V G md_RuleBook_testsHold (QM G md_RuleBook_testsHold iI) (fun _ => True) (some (some q)) 79 [none, none, none, none, none, none] [] 0 0 T (J79 T)) : ∀ (n : Nat) (c3 : Int32) (S : AS), V G md_RuleBook_testsHold (QM G md_RuleBook_testsHold iI) (fun _ => True) (some (some q)) 7 [some (.ref q), some (.int x1), some (.ref 58), some (.int c3), none, none] [] 0 0 S (f_RuleBook_testsHold_58_L7 q J79 x1 n c3 S) := by
  intro n
  induction n with
  | zero => intro c3 S; exact V.none
  | succ n ih =>
    intro c3 S
    rw [f_RuleBook_testsHold_58_L7]
    refine x_iload_n d_RuleBook_testsHold_7 rfl ?_
    refine x_aload_n_ref d_RuleBook_testsHold_8 rfl ?_
    refine x_getr d_RuleBook_testsHold_9 fl_RuleBook_21 (ak_q q 0 hq (by decide)) (bq_lt (q := q) (i := 0) (by decide)) bq_3 ?_
    refine x_iload_n d_RuleBook_testsHold_12 rfl ?_
    refine x_iald d_RuleBook_testsHold_13 (ak_q q 4 hq (by decide)) (bq_lt (q := q) (i := 4) (by decide)) ?_
    refine x_icmp_ge (tgt := 79) d_RuleBook_testsHold_14 (by decide) (fun _ => ?_) (fun _ => ?_)
    · exact V.kw (kJ79 S) trivial
    · refine x_aload_n_ref d_RuleBook_testsHold_17 rfl ?_
      refine x_aload_n_ref d_RuleBook_testsHold_18 rfl ?_
      refine x_getr d_RuleBook_testsHold_19 fl_RuleBook_24 (ak_q q 0 hq (by decide)) (bq_lt (q := q) (i := 0) (by decide)) bq_5 ?_
      refine x_iload_n d_RuleBook_testsHold_22 rfl ?_
      refine x_iald d_RuleBook_testsHold_23 (ak_q q 5 hq (by decide)) (bq_lt (q := q) (i := 5) (by decide)) ?_
      refine x_iald d_RuleBook_testsHold_24 ak_58 (q99 (by decide)) ?_
      refine x_topi (fun v3 => ?_)
      refine x_istore (lc' := [some (.ref q), some (.int x1), some (.ref 58), some (.int c3), some (.int v3), none]) d_RuleBook_testsHold_25 (by decide) rfl ?_
      refine x_iload d_RuleBook_testsHold_27 rfl ?_
      refine x_aload_n_ref d_RuleBook_testsHold_29 rfl ?_
      refine x_getr d_RuleBook_testsHold_30 fl_RuleBook_30 (ak_q q 0 hq (by decide)) (bq_lt (q := q) (i := 0) (by decide)) bq_7 ?_
      refine x_iload_n d_RuleBook_testsHold_33 rfl ?_
      refine x_iald d_RuleBook_testsHold_34 (ak_q q 7 hq (by decide)) (bq_lt (q := q) (i := 7) (by decide)) ?_
      refine x_nm (fun J58 hJ58 => ?_)
      have kJ58 : ∀ (a4 : Int32) (S5 : AS), V G md_RuleBook_testsHold (QM G md_RuleBook_testsHold iI) (fun _ => True) (some (some q)) 58 [some (.ref q), some (.int x1), some (.ref 58), some (.int c3), none, none] [.int a4] 0 0 S5 (J58 a4 S5) := by
        subst hJ58
        intro a4 S5
        refine x_istore (lc' := [some (.ref q), some (.int x1), some (.ref 58), some (.int c3), none, some (.int a4)]) d_RuleBook_testsHold_58 (by decide) rfl ?_
        refine x_iload d_RuleBook_testsHold_60 rfl ?_
        refine x_aload_n_ref d_RuleBook_testsHold_62 rfl ?_
        refine x_getr d_RuleBook_testsHold_63 fl_RuleBook_27 (ak_q q 0 hq (by decide)) (bq_lt (q := q) (i := 0) (by decide)) bq_6 ?_
        refine x_iload_n d_RuleBook_testsHold_66 rfl ?_
        refine x_iald d_RuleBook_testsHold_67 (ak_q q 6 hq (by decide)) (bq_lt (q := q) (i := 6) (by decide)) ?_
        refine x_icmp_eq (tgt := 73) d_RuleBook_testsHold_68 (by decide) (fun _ => ?_) (fun _ => ?_)
        · refine x_iinc (w := c3 + 1) (lc' := [some (.ref q), some (.int x1), some (.ref 58), some (.int (c3 + 1)), none, some (.int a4)]) d_RuleBook_testsHold_73 (by decide) rfl rfl rfl ?_
          refine x_goto (tgt := 7) d_RuleBook_testsHold_76 (by decide) ?_
          exact V.kw (ih (c3 + 1) S5) ⟨rfl, rfl, rfl, rfl, trivial⟩
        · refine x_iconst (v := 0) d_RuleBook_testsHold_71 (by decide) ?_
          exact x_ret d_RuleBook_testsHold_72 rfl rfl (Nat.le_of_ble_eq_true rfl) (Nat.le_of_ble_eq_true rfl)
      clear hJ58
      refine x_icmp_ge (tgt := 42) d_RuleBook_testsHold_35 (by decide) (fun _ => ?_) (fun _ => ?_)
      · refine x_iload d_RuleBook_testsHold_42 rfl ?_
        refine x_aload_n_ref d_RuleBook_testsHold_44 rfl ?_
        refine x_getr d_RuleBook_testsHold_45 fl_RuleBook_30 (ak_q q 0 hq (by decide)) (bq_lt (q := q) (i := 0) (by decide)) bq_7 ?_
        refine x_iload_n d_RuleBook_testsHold_48 rfl ?_
        refine x_iald d_RuleBook_testsHold_49 (ak_q q 7 hq (by decide)) (bq_lt (q := q) (i := 7) (by decide)) ?_
        refine x_icmp_le (tgt := 57) d_RuleBook_testsHold_50 (by decide) (fun _ => ?_) (fun _ => ?_)
        · refine x_iconst (v := 0) d_RuleBook_testsHold_57 (by decide) ?_
          exact V.kw (kJ58 0 S) ⟨rfl, rfl, rfl, rfl, trivial⟩
        · refine x_iconst (v := 1) d_RuleBook_testsHold_53 (by decide) ?_
          refine x_goto (tgt := 58) d_RuleBook_testsHold_54 (by decide) ?_
          exact V.kw (kJ58 1 S) ⟨rfl, rfl, rfl, rfl, trivial⟩
      · refine x_iconst (v := -1) d_RuleBook_testsHold_38 (by decide) ?_
        refine x_goto (tgt := 58) d_RuleBook_testsHold_39 (by decide) ?_
        exact V.kw (kJ58 (-1) S) ⟨rfl, rfl, rfl, rfl, trivial⟩
set_option maxHeartbeats 4000000 in
theorem v_RuleBook_testsHold_58 {G : GX} (q : Nat) (hq : isq q) (p1 : Int32) (S : AS) : V G md_RuleBook_testsHold (QM G md_RuleBook_testsHold iI) (fun _ => True) (some (some q)) 0 [some (.ref q), some (.int p1), some (.ref 58), none, none, none] [] 0 0 S (f_RuleBook_testsHold_58 q p1 S) := by
  unfold f_RuleBook_testsHold_58
  refine x_aload_n_ref d_RuleBook_testsHold_0 rfl ?_
  refine x_getr d_RuleBook_testsHold_1 fl_RuleBook_18 (ak_q q 0 hq (by decide)) (bq_lt (q := q) (i := 0) (by decide)) bq_2 ?_
  refine x_iload_n d_RuleBook_testsHold_4 rfl ?_
  refine x_iald d_RuleBook_testsHold_5 (ak_q q 3 hq (by decide)) (bq_lt (q := q) (i := 3) (by decide)) ?_
  refine x_topi (fun v1 => ?_)
  refine x_istore_n (lc' := [some (.ref q), some (.int p1), some (.ref 58), some (.int v1), none, none]) d_RuleBook_testsHold_6 (by decide) rfl ?_
  refine x_nm (fun J79 hJ79 => ?_)
  have kJ79 : ∀ (S2 : AS), V G md_RuleBook_testsHold (QM G md_RuleBook_testsHold iI) (fun _ => True) (some (some q)) 79 [none, none, none, none, none, none] [] 0 0 S2 (J79 S2) := by
    subst hJ79
    intro S2
    refine x_iconst (v := 1) d_RuleBook_testsHold_79 (by decide) ?_
    exact x_ret d_RuleBook_testsHold_80 rfl rfl (Nat.le_of_ble_eq_true rfl) (Nat.le_of_ble_eq_true rfl)
  clear hJ79
  exact V.kw (v_RuleBook_testsHold_58_L7 q hq J79 p1 kJ79 FU v1 S) ⟨rfl, rfl, rfl, rfl, trivial⟩
theorem c_RuleBook_testsHold_58 {G : GX} (q : Nat) (hq : isq q) (p1 : Int32) (S : AS) : CN G y_RuleBook_testsHold b_RuleBook_testsHold 6 (some (FieldType.boolean)) ({ frames := 0, cells := 0, slots := 0, locals := 0 } : Room) (some (some q)) iI [.ref q, .int p1, .ref 58] S (f_RuleBook_testsHold_58 q p1 S) := cn_of_v (M := md_RuleBook_testsHold) (ini := false) rfl (by decide +kernel) (fun h => nomatch h) rfl (Nat.le_of_ble_eq_true rfl) (v_RuleBook_testsHold_58 q hq p1 S)
noncomputable def f_RuleBook_bars_58_L2 (q : Nat) (J38 : AS → Option (Int32 × AS)) : Nat → Int32 → AS → Option (Int32 × AS)
  | 0, _, _ => none
  | n + 1, c2, S => if (gi S q 4) ≤ c2 then (J38 S) else (chk (vp_in c2 16) (nm (fun (S2 : AS) => f_RuleBook_bars_58_L2 q J38 n (c2 + 1) S2) fun J32 => if (gi S (q + 1) (ix c2)) = 11 then (bI (f_RuleBook_testsHold_58 q c2 S) fun r4 S3 => if r4 = 0 then (J32 S3) else (some (1, S3))) else (J32 S)))
noncomputable def f_RuleBook_bars_58 (q : Nat) (S : AS) : Option (Int32 × AS) := nm (fun (S1 : AS) => some (0, S1)) fun J38 => f_RuleBook_bars_58_L2 q J38 FU 0 S
set_option maxHeartbeats 4000000 in
theorem v_RuleBook_bars_58_L2 {G : GX} (q : Nat) (hq : isq q) (J38 : AS → Option (Int32 × AS)) (kJ38 : ∀ (T : AS), V G md_RuleBook_bars (QM G md_RuleBook_bars iI) (fun _ => True) (some (some q)) 38 [none, none, none] [] 0 0 T (J38 T)) : ∀ (n : Nat) (c2 : Int32) (S : AS), V G md_RuleBook_bars (QM G md_RuleBook_bars iI) (fun _ => True) (some (some q)) 2 [some (.ref q), some (.ref 58), some (.int c2)] [] 0 0 S (f_RuleBook_bars_58_L2 q J38 n c2 S) := by
  intro n
  induction n with
  | zero => intro c2 S; exact V.none
  | succ n ih =>
    intro c2 S
    rw [f_RuleBook_bars_58_L2]
    refine x_iload_n d_RuleBook_bars_2 rfl ?_
    refine x_aload_n_ref d_RuleBook_bars_3 rfl ?_
    refine x_geti d_RuleBook_bars_4 fl_RuleBook_33 (ak_q q 0 hq (by decide)) (bq_lt (q := q) (i := 0) (by decide)) ?_
    refine x_icmp_ge (tgt := 38) d_RuleBook_bars_7 (by decide) (fun _ => ?_) (fun _ => ?_)
    · exact V.kw (kJ38 S) trivial
    · refine x_aload_n_ref d_RuleBook_bars_10 rfl ?_
      refine x_getr d_RuleBook_bars_11 fl_RuleBook_9 (ak_q q 0 hq (by decide)) (bq_lt (q := q) (i := 0) (by decide)) bq_0 ?_
      refine x_iload_n d_RuleBook_bars_14 rfl ?_
      refine x_iald d_RuleBook_bars_15 (ak_q q 1 hq (by decide)) (bq_lt (q := q) (i := 1) (by decide)) ?_
      refine x_bipush (v := 11) d_RuleBook_bars_16 (by decide) ?_
      refine x_nm (fun J32 hJ32 => ?_)
      have kJ32 : ∀ (S2 : AS), V G md_RuleBook_bars (QM G md_RuleBook_bars iI) (fun _ => True) (some (some q)) 32 [some (.ref q), some (.ref 58), some (.int c2)] [] 0 0 S2 (J32 S2) := by
        subst hJ32
        intro S2
        refine x_iinc (w := c2 + 1) (lc' := [some (.ref q), some (.ref 58), some (.int (c2 + 1))]) d_RuleBook_bars_32 (by decide) rfl rfl rfl ?_
        refine x_goto (tgt := 2) d_RuleBook_bars_35 (by decide) ?_
        exact V.kw (ih (c2 + 1) S2) ⟨rfl, rfl, rfl, trivial⟩
      clear hJ32
      refine x_icmp_ne (tgt := 32) d_RuleBook_bars_18 (by decide) (fun _ => ?_) (fun _ => ?_)
      · exact V.kw (kJ32 S) ⟨rfl, rfl, rfl, trivial⟩
      · refine x_aload_n_ref d_RuleBook_bars_21 rfl ?_
        refine x_iload_n d_RuleBook_bars_22 rfl ?_
        refine x_aload_n_ref d_RuleBook_bars_23 rfl ?_
        refine x_vI (b' := (some (some q))) (As := [.int c2, .ref 58]) d_RuleBook_bars_24 mv_RuleBook_50 rfl (fun _ => (ak_q q 0 hq (by decide))) rfl (bq_lt (q := q) (i := 0) (by decide)) ⟨Nat.le_of_ble_eq_true rfl, Nat.le_of_ble_eq_true rfl⟩ (Nat.le_of_ble_eq_true rfl) ⟨Nat.le_of_ble_eq_true rfl, Nat.le_of_ble_eq_true rfl⟩ (fun _ h => h) (fun h => ⟨h, c_RuleBook_testsHold_58 q hq c2 _⟩) (fun r4 S3 => ?_)
        refine x_if_eq (tgt := 32) d_RuleBook_bars_27 (by decide) (fun _ => ?_) (fun _ => ?_)
        · exact V.kw (kJ32 S3) ⟨rfl, rfl, rfl, trivial⟩
        · refine x_iconst (v := 1) d_RuleBook_bars_30 (by decide) ?_
          exact x_ret d_RuleBook_bars_31 rfl rfl (Nat.le_of_ble_eq_true rfl) (Nat.le_of_ble_eq_true rfl)
set_option maxHeartbeats 4000000 in
theorem v_RuleBook_bars_58 {G : GX} (q : Nat) (hq : isq q) (S : AS) : V G md_RuleBook_bars (QM G md_RuleBook_bars iI) (fun _ => True) (some (some q)) 0 [some (.ref q), some (.ref 58), none] [] 0 0 S (f_RuleBook_bars_58 q S) := by
  unfold f_RuleBook_bars_58
  refine x_iconst (v := 0) d_RuleBook_bars_0 (by decide) ?_
  refine x_istore_n (lc' := [some (.ref q), some (.ref 58), some (.int 0)]) d_RuleBook_bars_1 (by decide) rfl ?_
  refine x_nm (fun J38 hJ38 => ?_)
  have kJ38 : ∀ (S1 : AS), V G md_RuleBook_bars (QM G md_RuleBook_bars iI) (fun _ => True) (some (some q)) 38 [none, none, none] [] 0 0 S1 (J38 S1) := by
    subst hJ38
    intro S1
    refine x_iconst (v := 0) d_RuleBook_bars_38 (by decide) ?_
    exact x_ret d_RuleBook_bars_39 rfl rfl (Nat.le_of_ble_eq_true rfl) (Nat.le_of_ble_eq_true rfl)
  clear hJ38
  exact V.kw (v_RuleBook_bars_58_L2 q hq J38 kJ38 FU 0 S) ⟨rfl, rfl, rfl, trivial⟩
theorem c_RuleBook_bars_58 {G : GX} (q : Nat) (hq : isq q) (S : AS) : CN G y_RuleBook_bars b_RuleBook_bars 3 (some (FieldType.boolean)) ({ frames := 1, cells := 0, slots := 0, locals := 25 } : Room) (some (some q)) iI [.ref q, .ref 58] S (f_RuleBook_bars_58 q S) := cn_of_v (M := md_RuleBook_bars) (ini := false) rfl (by decide +kernel) (fun h => nomatch h) rfl (Nat.le_of_ble_eq_true rfl) (v_RuleBook_bars_58 q hq S)
noncomputable def f_Course_mayClaim (p1 : Int32) (p2 : Int32) (S : AS) : Option (Int32 × AS) := chk (vp_in p1 48) (if (gi S 55 (ix p1)) = 0 then (some (0, S)) else (chk (vp_in p2 16) (chk (vp_in p2 16) (bI (f_PaperBox_reaches p1 (gi S 20 (ix p2)) (gi S 21 (ix p2)) S) fun r2 S1 => if r2 = 0 then (some (0, S1)) else (chk (vp_in p1 48) (bV (f_Course_loadFacts_58 p2 (gi S1 24 (ix p1)) p1 S1) fun S3 => obd (gr S3 49 15) fun q4 => bI (f_RuleBook_bars_58 q4 S3) fun r6 S5 => if r6 = 0 then (some (1, S5)) else (some (0, S5))))))))
set_option maxHeartbeats 4000000 in
theorem v_Course_mayClaim {G : GX} (p1 : Int32) (p2 : Int32) (S : AS) : V G md_Course_mayClaim (QM G md_Course_mayClaim iI) (fun _ => True) (some none) 0 [some (.ref 49), some (.int p1), some (.int p2)] [] 0 0 S (f_Course_mayClaim p1 p2 S) := by
  unfold f_Course_mayClaim
  refine x_aload_n_ref d_Course_mayClaim_0 rfl ?_
  refine x_getr d_Course_mayClaim_1 fl_Course_29 ak_49 (q99 (by decide)) (shx sh_49_9) ?_
  refine x_iload_n d_Course_mayClaim_4 rfl ?_
  refine x_zald d_Course_mayClaim_5 ak_55 (q99 (by decide)) ?_
  refine x_if_eq (tgt := 38) d_Course_mayClaim_6 (by decide) (fun _ => ?_) (fun _ => ?_)
  · refine x_iconst (v := 0) d_Course_mayClaim_38 (by decide) ?_
    exact x_ret d_Course_mayClaim_39 rfl rfl (Nat.le_of_ble_eq_true rfl) (Nat.le_of_ble_eq_true rfl)
  · refine x_aload_n_ref d_Course_mayClaim_9 rfl ?_
    refine x_getr d_Course_mayClaim_10 fl_Course_48 ak_49 (q99 (by decide)) (shx sh_49_1) ?_
    refine x_iload_n d_Course_mayClaim_13 rfl ?_
    refine x_aload_n_ref d_Course_mayClaim_14 rfl ?_
    refine x_getr d_Course_mayClaim_15 fl_Course_44 ak_49 (q99 (by decide)) (shx sh_49_0) ?_
    refine x_getr d_Course_mayClaim_18 fl_Course_192 ak_16 (q99 (by decide)) (shx sh_16_4) ?_
    refine x_iload_n d_Course_mayClaim_21 rfl ?_
    refine x_iald d_Course_mayClaim_22 ak_20 (q99 (by decide)) ?_
    refine x_aload_n_ref d_Course_mayClaim_23 rfl ?_
    refine x_getr d_Course_mayClaim_24 fl_Course_44 ak_49 (q99 (by decide)) (shx sh_49_0) ?_
    refine x_getr d_Course_mayClaim_27 fl_Course_161 ak_16 (q99 (by decide)) (shx sh_16_5) ?_
    refine x_iload_n d_Course_mayClaim_30 rfl ?_
    refine x_iald d_Course_mayClaim_31 ak_21 (q99 (by decide)) ?_
    refine x_vI (b' := (some none)) (As := [.int p1, .int (gi S 20 (ix p2)), .int (gi S 21 (ix p2))]) d_Course_mayClaim_32 mv_Course_195 rfl (fun _ => ak_23) rfl (q99 (by decide)) ⟨Nat.le_of_ble_eq_true rfl, Nat.le_of_ble_eq_true rfl⟩ (Nat.le_of_ble_eq_true rfl) ⟨Nat.le_of_ble_eq_true rfl, Nat.le_of_ble_eq_true rfl⟩ (fun _ h => h) (fun h => ⟨h, c_PaperBox_reaches p1 (gi S 20 (ix p2)) (gi S 21 (ix p2)) _⟩) (fun r2 S1 => ?_)
    refine x_if_ne (tgt := 40) d_Course_mayClaim_35 (by decide) (fun _ => ?_) (fun _ => ?_)
    · refine x_aload_n_ref d_Course_mayClaim_40 rfl ?_
      refine x_aload_n_ref d_Course_mayClaim_41 rfl ?_
      refine x_getr d_Course_mayClaim_42 fl_Course_38 ak_49 (q99 (by decide)) (shx sh_49_12) ?_
      refine x_iload_n d_Course_mayClaim_45 rfl ?_
      refine x_aload_n_ref d_Course_mayClaim_46 rfl ?_
      refine x_getr d_Course_mayClaim_47 fl_Course_48 ak_49 (q99 (by decide)) (shx sh_49_1) ?_
      refine x_getr d_Course_mayClaim_50 fl_Course_158 ak_23 (q99 (by decide)) (shx sh_23_0) ?_
      refine x_iload_n d_Course_mayClaim_53 rfl ?_
      refine x_iald d_Course_mayClaim_54 ak_24 (q99 (by decide)) ?_
      refine x_iload_n d_Course_mayClaim_55 rfl ?_
      refine x_vV (b' := (some none)) (As := [.ref 58, .int p2, .int (gi S1 24 (ix p1)), .int p1]) d_Course_mayClaim_56 mv_Course_178 rfl (fun _ => ak_49) rfl (q99 (by decide)) ⟨Nat.le_of_ble_eq_true rfl, Nat.le_of_ble_eq_true rfl⟩ (Nat.le_of_ble_eq_true rfl) ⟨Nat.le_of_ble_eq_true rfl, Nat.le_of_ble_eq_true rfl⟩ (fun _ h => h) (fun h => ⟨h, c_Course_loadFacts_58 p2 (gi S1 24 (ix p1)) p1 _⟩) (fun S3 => ?_)
      refine x_aload_n_ref d_Course_mayClaim_59 rfl ?_
      refine x_geto d_Course_mayClaim_60 fl_Course_66 ak_49 (q99 (by decide)) (fun q4 hq4 => ?_)
      refine x_aload_n_ref d_Course_mayClaim_63 rfl ?_
      refine x_getr d_Course_mayClaim_64 fl_Course_38 ak_49 (q99 (by decide)) (shx sh_49_12) ?_
      refine x_vI (b' := (some (some q4))) (As := [.ref 58]) d_Course_mayClaim_67 mv_Course_182 rfl (fun h => (ak_q q4 0 (bk_rules hq4 h).q (by decide))) rfl (fun h => bq_lt (q := q4) (i := 0) (by decide) (sp_bk (bk_rules hq4 h) h)) ⟨Nat.le_of_ble_eq_true rfl, Nat.le_of_ble_eq_true rfl⟩ (Nat.le_of_ble_eq_true rfl) ⟨Nat.le_of_ble_eq_true rfl, Nat.le_of_ble_eq_true rfl⟩ (fun _ h => h.1) (fun h => ⟨sp_bk (bk_rules hq4 h) h, c_RuleBook_bars_58 q4 (bk_rules hq4 h).q _⟩) (fun r6 S5 => ?_)
      refine x_if_ne (tgt := 77) d_Course_mayClaim_70 (by decide) (fun _ => ?_) (fun _ => ?_)
      · refine x_iconst (v := 0) d_Course_mayClaim_77 (by decide) ?_
        exact x_ret d_Course_mayClaim_78 rfl rfl (Nat.le_of_ble_eq_true rfl) (Nat.le_of_ble_eq_true rfl)
      · refine x_iconst (v := 1) d_Course_mayClaim_73 (by decide) ?_
        refine x_goto (tgt := 78) d_Course_mayClaim_74 (by decide) ?_
        exact x_ret d_Course_mayClaim_78 rfl rfl (Nat.le_of_ble_eq_true rfl) (Nat.le_of_ble_eq_true rfl)
    · refine x_iconst (v := 0) d_Course_mayClaim_38 (by decide) ?_
      exact x_ret d_Course_mayClaim_39 rfl rfl (Nat.le_of_ble_eq_true rfl) (Nat.le_of_ble_eq_true rfl)
theorem c_Course_mayClaim {G : GX} (p1 : Int32) (p2 : Int32) (S : AS) : CN G y_Course_mayClaim b_Course_mayClaim 3 (some (FieldType.boolean)) ({ frames := 2, cells := 0, slots := 0, locals := 47 } : Room) (some none) iI [.ref 49, .int p1, .int p2] S (f_Course_mayClaim p1 p2 S) := cn_of_v (M := md_Course_mayClaim) (ini := false) rfl (by decide +kernel) (fun h => nomatch h) rfl (Nat.le_of_ble_eq_true rfl) (v_Course_mayClaim p1 p2 S)
noncomputable def f_Course_comeAlive_L29 (J93 : Int32 → AS → Option AS) (x1 : Int32) : Nat → Int32 → Int32 → AS → Option AS
  | 0, _, _, _ => none
  | n + 1, c2, c3, S => if (gi S 16 7) ≤ c3 then (J93 c2 S) else (chk (vp_in c3 16) (nm (fun (a5 : Int32) (S6 : AS) => f_Course_comeAlive_L29 J93 x1 n a5 (c3 + 1) S6) fun J87 => if (gi S 50 (ix c3)) = (-1) then (nm (fun (S7 : AS) => bI (f_Course_mayClaim x1 c3 S7) fun r9 S8 => if r9 = 0 then (J87 c2 S8) else (J87 c3 S8)) fun J76 => if c2 = (-1) then (J76 S) else (chk (vp_in c3 16) (chk (vp_in c2 16) (if (gi S 21 (ix c3)) ≤ (gi S 21 (ix c2)) then (J87 c2 S) else (J76 S))))) else (J87 c2 S)))
noncomputable def f_Course_comeAlive (p1 : Int32) (S : AS) : Option AS := chk (vp_in p1 48) (chk (vp_in (gi S 24 (ix p1)) 24) (if (gi S 54 (ix (gi S 24 (ix p1)))) = 0 then (chk (vp_in p1 48) (nm (si S 55 (ix p1) (vp_nar .boolean 1)) fun S1 => nm (fun (a2 : Int32) (S3 : AS) => if a2 = (-1) then (some S3) else (bV (f_Course_use p1 a2 S3) fun S4 => some S4)) fun J93 => f_Course_comeAlive_L29 J93 p1 FU (-1) 0 S1)) else (some S)))
set_option maxHeartbeats 4000000 in
theorem v_Course_comeAlive_L29 {G : GX} (J93 : Int32 → AS → Option AS) (x1 : Int32) (kJ93 : ∀ (a2 : Int32) (T : AS), V G md_Course_comeAlive (QM G md_Course_comeAlive iV) (fun _ => True) (some none) 93 [some (.ref 49), some (.int x1), some (.int a2), none] [] 0 0 T (J93 a2 T)) : ∀ (n : Nat) (c2 : Int32) (c3 : Int32) (S : AS), V G md_Course_comeAlive (QM G md_Course_comeAlive iV) (fun _ => True) (some none) 29 [some (.ref 49), some (.int x1), some (.int c2), some (.int c3)] [] 0 0 S (f_Course_comeAlive_L29 J93 x1 n c2 c3 S) := by
  intro n
  induction n with
  | zero => intro c2 c3 S; exact V.none
  | succ n ih =>
    intro c2 c3 S
    rw [f_Course_comeAlive_L29]
    refine x_iload_n d_Course_comeAlive_29 rfl ?_
    refine x_aload_n_ref d_Course_comeAlive_30 rfl ?_
    refine x_getr d_Course_comeAlive_31 fl_Course_44 ak_49 (q99 (by decide)) (shx sh_49_0) ?_
    refine x_geti d_Course_comeAlive_34 fl_Course_115 ak_16 (q99 (by decide)) ?_
    refine x_icmp_ge (tgt := 93) d_Course_comeAlive_37 (by decide) (fun _ => ?_) (fun _ => ?_)
    · exact V.kw (kJ93 c2 S) ⟨rfl, rfl, rfl, trivial⟩
    · refine x_aload_n_ref d_Course_comeAlive_40 rfl ?_
      refine x_getr d_Course_comeAlive_41 fl_Course_9 ak_49 (q99 (by decide)) (shx sh_49_4) ?_
      refine x_iload_n d_Course_comeAlive_44 rfl ?_
      refine x_iald d_Course_comeAlive_45 ak_50 (q99 (by decide)) ?_
      refine x_iconst (v := -1) d_Course_comeAlive_46 (by decide) ?_
      refine x_nm (fun J87 hJ87 => ?_)
      have kJ87 : ∀ (a5 : Int32) (S6 : AS), V G md_Course_comeAlive (QM G md_Course_comeAlive iV) (fun _ => True) (some none) 87 [some (.ref 49), some (.int x1), some (.int a5), some (.int c3)] [] 0 0 S6 (J87 a5 S6) := by
        subst hJ87
        intro a5 S6
        refine x_iinc (w := c3 + 1) (lc' := [some (.ref 49), some (.int x1), some (.int a5), some (.int (c3 + 1))]) d_Course_comeAlive_87 (by decide) rfl rfl rfl ?_
        refine x_goto (tgt := 29) d_Course_comeAlive_90 (by decide) ?_
        exact V.kw (ih a5 (c3 + 1) S6) ⟨rfl, rfl, rfl, rfl, trivial⟩
      clear hJ87
      refine x_icmp_ne (tgt := 87) d_Course_comeAlive_47 (by decide) (fun _ => ?_) (fun _ => ?_)
      · exact V.kw (kJ87 c2 S) ⟨rfl, rfl, rfl, rfl, trivial⟩
      · refine x_iload_n d_Course_comeAlive_50 rfl ?_
        refine x_iconst (v := -1) d_Course_comeAlive_51 (by decide) ?_
        refine x_nm (fun J76 hJ76 => ?_)
        have kJ76 : ∀ (S7 : AS), V G md_Course_comeAlive (QM G md_Course_comeAlive iV) (fun _ => True) (some none) 76 [some (.ref 49), some (.int x1), some (.int c2), some (.int c3)] [] 0 0 S7 (J76 S7) := by
          subst hJ76
          intro S7
          refine x_aload_n_ref d_Course_comeAlive_76 rfl ?_
          refine x_iload_n d_Course_comeAlive_77 rfl ?_
          refine x_iload_n d_Course_comeAlive_78 rfl ?_
          refine x_vI (b' := (some none)) (As := [.int x1, .int c3]) d_Course_comeAlive_79 mv_Course_164 rfl (fun _ => ak_49) rfl (q99 (by decide)) ⟨Nat.le_of_ble_eq_true rfl, Nat.le_of_ble_eq_true rfl⟩ (Nat.le_of_ble_eq_true rfl) ⟨Nat.le_of_ble_eq_true rfl, Nat.le_of_ble_eq_true rfl⟩ (fun _ h => h) (fun h => ⟨h, c_Course_mayClaim x1 c3 _⟩) (fun r9 S8 => ?_)
          refine x_if_eq (tgt := 87) d_Course_comeAlive_82 (by decide) (fun _ => ?_) (fun _ => ?_)
          · exact V.kw (kJ87 c2 S8) ⟨rfl, rfl, rfl, rfl, trivial⟩
          · refine x_iload_n d_Course_comeAlive_85 rfl ?_
            refine x_istore_n (lc' := [some (.ref 49), some (.int x1), some (.int c3), some (.int c3)]) d_Course_comeAlive_86 (by decide) rfl ?_
            exact V.kw (kJ87 c3 S8) ⟨rfl, rfl, rfl, rfl, trivial⟩
        clear hJ76
        refine x_icmp_eq (tgt := 76) d_Course_comeAlive_52 (by decide) (fun _ => ?_) (fun _ => ?_)
        · exact V.kw (kJ76 S) ⟨rfl, rfl, rfl, rfl, trivial⟩
        · refine x_aload_n_ref d_Course_comeAlive_55 rfl ?_
          refine x_getr d_Course_comeAlive_56 fl_Course_44 ak_49 (q99 (by decide)) (shx sh_49_0) ?_
          refine x_getr d_Course_comeAlive_59 fl_Course_161 ak_16 (q99 (by decide)) (shx sh_16_5) ?_
          refine x_iload_n d_Course_comeAlive_62 rfl ?_
          refine x_iald d_Course_comeAlive_63 ak_21 (q99 (by decide)) ?_
          refine x_aload_n_ref d_Course_comeAlive_64 rfl ?_
          refine x_getr d_Course_comeAlive_65 fl_Course_44 ak_49 (q99 (by decide)) (shx sh_49_0) ?_
          refine x_getr d_Course_comeAlive_68 fl_Course_161 ak_16 (q99 (by decide)) (shx sh_16_5) ?_
          refine x_iload_n d_Course_comeAlive_71 rfl ?_
          refine x_iald d_Course_comeAlive_72 ak_21 (q99 (by decide)) ?_
          refine x_icmp_le (tgt := 87) d_Course_comeAlive_73 (by decide) (fun _ => ?_) (fun _ => ?_)
          · exact V.kw (kJ87 c2 S) ⟨rfl, rfl, rfl, rfl, trivial⟩
          · exact V.kw (kJ76 S) ⟨rfl, rfl, rfl, rfl, trivial⟩
set_option maxHeartbeats 4000000 in
theorem v_Course_comeAlive {G : GX} (p1 : Int32) (S : AS) : V G md_Course_comeAlive (QM G md_Course_comeAlive iV) (fun _ => True) (some none) 0 [some (.ref 49), some (.int p1), none, none] [] 0 0 S (f_Course_comeAlive p1 S) := by
  unfold f_Course_comeAlive
  refine x_aload_n_ref d_Course_comeAlive_0 rfl ?_
  refine x_getr d_Course_comeAlive_1 fl_Course_25 ak_49 (q99 (by decide)) (shx sh_49_8) ?_
  refine x_aload_n_ref d_Course_comeAlive_4 rfl ?_
  refine x_getr d_Course_comeAlive_5 fl_Course_48 ak_49 (q99 (by decide)) (shx sh_49_1) ?_
  refine x_getr d_Course_comeAlive_8 fl_Course_158 ak_23 (q99 (by decide)) (shx sh_23_0) ?_
  refine x_iload_n d_Course_comeAlive_11 rfl ?_
  refine x_iald d_Course_comeAlive_12 ak_24 (q99 (by decide)) ?_
  refine x_zald d_Course_comeAlive_13 ak_54 (q99 (by decide)) ?_
  refine x_if_eq (tgt := 18) d_Course_comeAlive_14 (by decide) (fun _ => ?_) (fun _ => ?_)
  · refine x_aload_n_ref d_Course_comeAlive_18 rfl ?_
    refine x_getr d_Course_comeAlive_19 fl_Course_29 ak_49 (q99 (by decide)) (shx sh_49_9) ?_
    refine x_iload_n d_Course_comeAlive_22 rfl ?_
    refine x_iconst (v := 1) d_Course_comeAlive_23 (by decide) ?_
    refine x_zast d_Course_comeAlive_24 ak_55 (q99 (by decide)) ?_
    refine x_nmS (fun S1 _ => ?_)
    refine x_iconst (v := -1) d_Course_comeAlive_25 (by decide) ?_
    refine x_istore_n (lc' := [some (.ref 49), some (.int p1), some (.int (-1)), none]) d_Course_comeAlive_26 (by decide) rfl ?_
    refine x_iconst (v := 0) d_Course_comeAlive_27 (by decide) ?_
    refine x_istore_n (lc' := [some (.ref 49), some (.int p1), some (.int (-1)), some (.int 0)]) d_Course_comeAlive_28 (by decide) rfl ?_
    refine x_nm (fun J93 hJ93 => ?_)
    have kJ93 : ∀ (a2 : Int32) (S3 : AS), V G md_Course_comeAlive (QM G md_Course_comeAlive iV) (fun _ => True) (some none) 93 [some (.ref 49), some (.int p1), some (.int a2), none] [] 0 0 S3 (J93 a2 S3) := by
      subst hJ93
      intro a2 S3
      refine x_iload_n d_Course_comeAlive_93 rfl ?_
      refine x_iconst (v := -1) d_Course_comeAlive_94 (by decide) ?_
      refine x_icmp_eq (tgt := 104) d_Course_comeAlive_95 (by decide) (fun _ => ?_) (fun _ => ?_)
      · exact x_vret d_Course_comeAlive_104 rfl (Nat.le_of_ble_eq_true rfl) (Nat.le_of_ble_eq_true rfl)
      · refine x_aload_n_ref d_Course_comeAlive_98 rfl ?_
        refine x_iload_n d_Course_comeAlive_99 rfl ?_
        refine x_iload_n d_Course_comeAlive_100 rfl ?_
        refine x_vV (b' := (some none)) (As := [.int p1, .int a2]) d_Course_comeAlive_101 mv_Course_167 rfl (fun _ => ak_49) rfl (q99 (by decide)) ⟨Nat.le_of_ble_eq_true rfl, Nat.le_of_ble_eq_true rfl⟩ (Nat.le_of_ble_eq_true rfl) ⟨Nat.le_of_ble_eq_true rfl, Nat.le_of_ble_eq_true rfl⟩ (fun _ h => h) (fun h => ⟨h, c_Course_use p1 a2 _⟩) (fun S4 => ?_)
        exact x_vret d_Course_comeAlive_104 rfl (Nat.le_of_ble_eq_true rfl) (Nat.le_of_ble_eq_true rfl)
    clear hJ93
    exact V.kw (v_Course_comeAlive_L29 J93 p1 kJ93 FU (-1) 0 S1) ⟨rfl, rfl, rfl, rfl, trivial⟩
  · exact x_vret d_Course_comeAlive_17 rfl (Nat.le_of_ble_eq_true rfl) (Nat.le_of_ble_eq_true rfl)
theorem c_Course_comeAlive {G : GX} (p1 : Int32) (S : AS) : CN G y_Course_comeAlive b_Course_comeAlive 4 none ({ frames := 3, cells := 0, slots := 0, locals := 69 } : Room) (some none) iV [.ref 49, .int p1] S (f_Course_comeAlive p1 S) := cn_of_v (M := md_Course_comeAlive) (ini := false) rfl (by decide +kernel) (fun h => nomatch h) rfl (Nat.le_of_ble_eq_true rfl) (v_Course_comeAlive p1 S)
noncomputable def f_Course_loadFacts_59 (p2 : Int32) (p3 : Int32) (p4 : Int32) (S : AS) : Option AS := chk (vp_in p2 16) (chk (vp_in 0 9) (nm (si S 59 (ix 0) (gi S 21 (ix p2))) fun S1 => chk (vp_in p2 16) (chk (vp_in 1 9) (nm (si S1 59 (ix 1) (gi S1 20 (ix p2))) fun S2 => chk (vp_in p3 24) (chk (vp_in 2 9) (nm (si S2 59 (ix 2) (gi S2 17 (ix p3))) fun S3 => chk (vp_in p3 24) (chk (vp_in 3 9) (nm (si S3 59 (ix 3) (gi S3 18 (ix p3))) fun S4 => chk (vp_in p3 24) (chk (vp_in 4 9) (nm (si S4 59 (ix 4) (gi S4 52 (ix p3))) fun S5 => nm (fun (a6 : Int32) (a7 : Int32) (S8 : AS) => chk (vp_in a6 9) (nm (si S8 59 (ix a6) a7) fun S9 => nm (fun (a10 : Int32) (a11 : Int32) (S12 : AS) => chk (vp_in a10 9) (nm (si S12 59 (ix a10) a11) fun S13 => chk (vp_in p3 24) (chk (vp_in p2 16) (nm (fun (a14 : Int32) (a15 : Int32) (S16 : AS) => chk (vp_in a14 9) (nm (si S16 59 (ix a14) a15) fun S17 => nm (fun (a18 : Int32) (a19 : Int32) (S20 : AS) => chk (vp_in a18 9) (nm (si S20 59 (ix a18) a19) fun S21 => some S21)) fun J183 => if p4 = (-1) then (J183 8 0 S17) else (chk (vp_in p4 48) (J183 8 (gi S17 26 (ix p4)) S17)))) fun J159 => if (gi S13 19 (ix p3)) = (gi S13 20 (ix p2)) then (J159 7 1 S13) else (J159 7 0 S13))))) fun J129 => nm (fun (a22 : Int32) (S23 : AS) => J129 a22 0 S23) fun J106 => if p4 = (-1) then (J106 6 S9) else (chk (vp_in p4 48) (if (gi S9 25 (ix p4)) ≤ (gi S9 49 14) then (chk (vp_in p4 48) (J129 6 (((gi S9 49 14) - (gi S9 25 (ix p4))) / 1440) S9)) else (J106 6 S9))))) fun J79 => if p4 = (-1) then (J79 5 0 S5) else (chk (vp_in p4 48) (J79 5 (gi S5 25 (ix p4)) S5))))))))))))
set_option maxHeartbeats 4000000 in
theorem v_Course_loadFacts_59 {G : GX} (p2 : Int32) (p3 : Int32) (p4 : Int32) (S : AS) : V G md_Course_loadFacts (QM G md_Course_loadFacts iV) (fun _ => True) (some none) 0 [some (.ref 49), some (.ref 59), some (.int p2), some (.int p3), some (.int p4)] [] 0 0 S (f_Course_loadFacts_59 p2 p3 p4 S) := by
  unfold f_Course_loadFacts_59
  refine x_aload_n_ref d_Course_loadFacts_0 rfl ?_
  refine x_iconst (v := 0) d_Course_loadFacts_1 (by decide) ?_
  refine x_aload_n_ref d_Course_loadFacts_2 rfl ?_
  refine x_getr d_Course_loadFacts_3 fl_Course_44 ak_49 (q99 (by decide)) (shx sh_49_0) ?_
  refine x_getr d_Course_loadFacts_6 fl_Course_161 ak_16 (q99 (by decide)) (shx sh_16_5) ?_
  refine x_iload_n d_Course_loadFacts_9 rfl ?_
  refine x_iald d_Course_loadFacts_10 ak_21 (q99 (by decide)) ?_
  refine x_iast d_Course_loadFacts_11 ak_59 (q99 (by decide)) ?_
  refine x_nmS (fun S1 _ => ?_)
  refine x_aload_n_ref d_Course_loadFacts_12 rfl ?_
  refine x_iconst (v := 1) d_Course_loadFacts_13 (by decide) ?_
  refine x_aload_n_ref d_Course_loadFacts_14 rfl ?_
  refine x_getr d_Course_loadFacts_15 fl_Course_44 ak_49 (q99 (by decide)) (shx sh_49_0) ?_
  refine x_getr d_Course_loadFacts_18 fl_Course_192 ak_16 (q99 (by decide)) (shx sh_16_4) ?_
  refine x_iload_n d_Course_loadFacts_21 rfl ?_
  refine x_iald d_Course_loadFacts_22 ak_20 (q99 (by decide)) ?_
  refine x_iast d_Course_loadFacts_23 ak_59 (q99 (by decide)) ?_
  refine x_nmS (fun S2 _ => ?_)
  refine x_aload_n_ref d_Course_loadFacts_24 rfl ?_
  refine x_iconst (v := 2) d_Course_loadFacts_25 (by decide) ?_
  refine x_aload_n_ref d_Course_loadFacts_26 rfl ?_
  refine x_getr d_Course_loadFacts_27 fl_Course_44 ak_49 (q99 (by decide)) (shx sh_49_0) ?_
  refine x_getr d_Course_loadFacts_30 fl_Course_202 ak_16 (q99 (by decide)) (shx sh_16_0) ?_
  refine x_iload_n d_Course_loadFacts_33 rfl ?_
  refine x_iald d_Course_loadFacts_34 ak_17 (q99 (by decide)) ?_
  refine x_iast d_Course_loadFacts_35 ak_59 (q99 (by decide)) ?_
  refine x_nmS (fun S3 _ => ?_)
  refine x_aload_n_ref d_Course_loadFacts_36 rfl ?_
  refine x_iconst (v := 3) d_Course_loadFacts_37 (by decide) ?_
  refine x_aload_n_ref d_Course_loadFacts_38 rfl ?_
  refine x_getr d_Course_loadFacts_39 fl_Course_44 ak_49 (q99 (by decide)) (shx sh_49_0) ?_
  refine x_getr d_Course_loadFacts_42 fl_Course_205 ak_16 (q99 (by decide)) (shx sh_16_1) ?_
  refine x_iload_n d_Course_loadFacts_45 rfl ?_
  refine x_iald d_Course_loadFacts_46 ak_18 (q99 (by decide)) ?_
  refine x_iast d_Course_loadFacts_47 ak_59 (q99 (by decide)) ?_
  refine x_nmS (fun S4 _ => ?_)
  refine x_aload_n_ref d_Course_loadFacts_48 rfl ?_
  refine x_iconst (v := 4) d_Course_loadFacts_49 (by decide) ?_
  refine x_aload_n_ref d_Course_loadFacts_50 rfl ?_
  refine x_getr d_Course_loadFacts_51 fl_Course_18 ak_49 (q99 (by decide)) (shx sh_49_6) ?_
  refine x_iload_n d_Course_loadFacts_54 rfl ?_
  refine x_iald d_Course_loadFacts_55 ak_52 (q99 (by decide)) ?_
  refine x_iast d_Course_loadFacts_56 ak_59 (q99 (by decide)) ?_
  refine x_nmS (fun S5 _ => ?_)
  refine x_aload_n_ref d_Course_loadFacts_57 rfl ?_
  refine x_iconst (v := 5) d_Course_loadFacts_58 (by decide) ?_
  refine x_iload d_Course_loadFacts_59 rfl ?_
  refine x_iconst (v := -1) d_Course_loadFacts_61 (by decide) ?_
  refine x_nm (fun J79 hJ79 => ?_)
  have kJ79 : ∀ (a6 : Int32) (a7 : Int32) (S8 : AS), V G md_Course_loadFacts (QM G md_Course_loadFacts iV) (fun _ => True) (some none) 79 [some (.ref 49), some (.ref 59), some (.int p2), some (.int p3), some (.int p4)] [.int a7, .int a6, .ref 59] 0 0 S8 (J79 a6 a7 S8) := by
    subst hJ79
    intro a6 a7 S8
    refine x_iast d_Course_loadFacts_79 ak_59 (q99 (by decide)) ?_
    refine x_nmS (fun S9 _ => ?_)
    refine x_aload_n_ref d_Course_loadFacts_80 rfl ?_
    refine x_bipush (v := 6) d_Course_loadFacts_81 (by decide) ?_
    refine x_iload d_Course_loadFacts_83 rfl ?_
    refine x_iconst (v := -1) d_Course_loadFacts_85 (by decide) ?_
    refine x_nm (fun J129 hJ129 => ?_)
    have kJ129 : ∀ (a10 : Int32) (a11 : Int32) (S12 : AS), V G md_Course_loadFacts (QM G md_Course_loadFacts iV) (fun _ => True) (some none) 129 [some (.ref 49), some (.ref 59), some (.int p2), some (.int p3), some (.int p4)] [.int a11, .int a10, .ref 59] 0 0 S12 (J129 a10 a11 S12) := by
      subst hJ129
      intro a10 a11 S12
      refine x_iast d_Course_loadFacts_129 ak_59 (q99 (by decide)) ?_
      refine x_nmS (fun S13 _ => ?_)
      refine x_aload_n_ref d_Course_loadFacts_130 rfl ?_
      refine x_bipush (v := 7) d_Course_loadFacts_131 (by decide) ?_
      refine x_aload_n_ref d_Course_loadFacts_133 rfl ?_
      refine x_getr d_Course_loadFacts_134 fl_Course_44 ak_49 (q99 (by decide)) (shx sh_49_0) ?_
      refine x_getr d_Course_loadFacts_137 fl_Course_211 ak_16 (q99 (by decide)) (shx sh_16_2) ?_
      refine x_iload_n d_Course_loadFacts_140 rfl ?_
      refine x_iald d_Course_loadFacts_141 ak_19 (q99 (by decide)) ?_
      refine x_aload_n_ref d_Course_loadFacts_142 rfl ?_
      refine x_getr d_Course_loadFacts_143 fl_Course_44 ak_49 (q99 (by decide)) (shx sh_49_0) ?_
      refine x_getr d_Course_loadFacts_146 fl_Course_192 ak_16 (q99 (by decide)) (shx sh_16_4) ?_
      refine x_iload_n d_Course_loadFacts_149 rfl ?_
      refine x_iald d_Course_loadFacts_150 ak_20 (q99 (by decide)) ?_
      refine x_nm (fun J159 hJ159 => ?_)
      have kJ159 : ∀ (a14 : Int32) (a15 : Int32) (S16 : AS), V G md_Course_loadFacts (QM G md_Course_loadFacts iV) (fun _ => True) (some none) 159 [some (.ref 49), some (.ref 59), none, none, some (.int p4)] [.int a15, .int a14, .ref 59] 0 0 S16 (J159 a14 a15 S16) := by
        subst hJ159
        intro a14 a15 S16
        refine x_iast d_Course_loadFacts_159 ak_59 (q99 (by decide)) ?_
        refine x_nmS (fun S17 _ => ?_)
        refine x_aload_n_ref d_Course_loadFacts_160 rfl ?_
        refine x_bipush (v := 8) d_Course_loadFacts_161 (by decide) ?_
        refine x_iload d_Course_loadFacts_163 rfl ?_
        refine x_iconst (v := -1) d_Course_loadFacts_165 (by decide) ?_
        refine x_nm (fun J183 hJ183 => ?_)
        have kJ183 : ∀ (a18 : Int32) (a19 : Int32) (S20 : AS), V G md_Course_loadFacts (QM G md_Course_loadFacts iV) (fun _ => True) (some none) 183 [none, none, none, none, none] [.int a19, .int a18, .ref 59] 0 0 S20 (J183 a18 a19 S20) := by
          subst hJ183
          intro a18 a19 S20
          refine x_iast d_Course_loadFacts_183 ak_59 (q99 (by decide)) ?_
          refine x_nmS (fun S21 _ => ?_)
          exact x_vret d_Course_loadFacts_184 rfl (Nat.le_of_ble_eq_true rfl) (Nat.le_of_ble_eq_true rfl)
        clear hJ183
        refine x_icmp_ne (tgt := 173) d_Course_loadFacts_166 (by decide) (fun _ => ?_) (fun _ => ?_)
        · refine x_aload_n_ref d_Course_loadFacts_173 rfl ?_
          refine x_getr d_Course_loadFacts_174 fl_Course_48 ak_49 (q99 (by decide)) (shx sh_49_1) ?_
          refine x_getr d_Course_loadFacts_177 fl_Course_214 ak_23 (q99 (by decide)) (shx sh_23_2) ?_
          refine x_iload d_Course_loadFacts_180 rfl ?_
          refine x_iald d_Course_loadFacts_182 ak_26 (q99 (by decide)) ?_
          exact V.kw (kJ183 8 (gi S17 26 (ix p4)) S17) trivial
        · refine x_iconst (v := 0) d_Course_loadFacts_169 (by decide) ?_
          refine x_goto (tgt := 183) d_Course_loadFacts_170 (by decide) ?_
          exact V.kw (kJ183 8 0 S17) trivial
      clear hJ159
      refine x_icmp_ne (tgt := 158) d_Course_loadFacts_151 (by decide) (fun _ => ?_) (fun _ => ?_)
      · refine x_iconst (v := 0) d_Course_loadFacts_158 (by decide) ?_
        exact V.kw (kJ159 7 0 S13) ⟨rfl, rfl, rfl, trivial⟩
      · refine x_iconst (v := 1) d_Course_loadFacts_154 (by decide) ?_
        refine x_goto (tgt := 159) d_Course_loadFacts_155 (by decide) ?_
        exact V.kw (kJ159 7 1 S13) ⟨rfl, rfl, rfl, trivial⟩
    clear hJ129
    refine x_nm (fun J106 hJ106 => ?_)
    have kJ106 : ∀ (a22 : Int32) (S23 : AS), V G md_Course_loadFacts (QM G md_Course_loadFacts iV) (fun _ => True) (some none) 106 [some (.ref 49), some (.ref 59), some (.int p2), some (.int p3), some (.int p4)] [.int a22, .ref 59] 0 0 S23 (J106 a22 S23) := by
      subst hJ106
      intro a22 S23
      refine x_iconst (v := 0) d_Course_loadFacts_106 (by decide) ?_
      refine x_goto (tgt := 129) d_Course_loadFacts_107 (by decide) ?_
      exact V.kw (kJ129 a22 0 S23) ⟨rfl, rfl, rfl, rfl, rfl, trivial⟩
    clear hJ106
    refine x_icmp_eq (tgt := 106) d_Course_loadFacts_86 (by decide) (fun _ => ?_) (fun _ => ?_)
    · exact V.kw (kJ106 6 S9) ⟨rfl, rfl, rfl, rfl, rfl, trivial⟩
    · refine x_aload_n_ref d_Course_loadFacts_89 rfl ?_
      refine x_geti d_Course_loadFacts_90 fl_Course_124 ak_49 (q99 (by decide)) ?_
      refine x_aload_n_ref d_Course_loadFacts_93 rfl ?_
      refine x_getr d_Course_loadFacts_94 fl_Course_48 ak_49 (q99 (by decide)) (shx sh_49_1) ?_
      refine x_getr d_Course_loadFacts_97 fl_Course_208 ak_23 (q99 (by decide)) (shx sh_23_1) ?_
      refine x_iload d_Course_loadFacts_100 rfl ?_
      refine x_iald d_Course_loadFacts_102 ak_25 (q99 (by decide)) ?_
      refine x_icmp_ge (tgt := 110) d_Course_loadFacts_103 (by decide) (fun _ => ?_) (fun _ => ?_)
      · refine x_aload_n_ref d_Course_loadFacts_110 rfl ?_
        refine x_geti d_Course_loadFacts_111 fl_Course_124 ak_49 (q99 (by decide)) ?_
        refine x_aload_n_ref d_Course_loadFacts_114 rfl ?_
        refine x_getr d_Course_loadFacts_115 fl_Course_48 ak_49 (q99 (by decide)) (shx sh_49_1) ?_
        refine x_getr d_Course_loadFacts_118 fl_Course_208 ak_23 (q99 (by decide)) (shx sh_23_1) ?_
        refine x_iload d_Course_loadFacts_121 rfl ?_
        refine x_iald d_Course_loadFacts_123 ak_25 (q99 (by decide)) ?_
        refine x_isub d_Course_loadFacts_124 ?_
        refine x_sipush (v := 1440) d_Course_loadFacts_125 (by decide) ?_
        refine x_idiv (by decide) d_Course_loadFacts_128 ?_
        exact V.kw (kJ129 6 (((gi S9 49 14) - (gi S9 25 (ix p4))) / 1440) S9) ⟨rfl, rfl, rfl, rfl, rfl, trivial⟩
      · exact V.kw (kJ106 6 S9) ⟨rfl, rfl, rfl, rfl, rfl, trivial⟩
  clear hJ79
  refine x_icmp_ne (tgt := 69) d_Course_loadFacts_62 (by decide) (fun _ => ?_) (fun _ => ?_)
  · refine x_aload_n_ref d_Course_loadFacts_69 rfl ?_
    refine x_getr d_Course_loadFacts_70 fl_Course_48 ak_49 (q99 (by decide)) (shx sh_49_1) ?_
    refine x_getr d_Course_loadFacts_73 fl_Course_208 ak_23 (q99 (by decide)) (shx sh_23_1) ?_
    refine x_iload d_Course_loadFacts_76 rfl ?_
    refine x_iald d_Course_loadFacts_78 ak_25 (q99 (by decide)) ?_
    exact V.kw (kJ79 5 (gi S5 25 (ix p4)) S5) ⟨rfl, rfl, rfl, rfl, rfl, trivial⟩
  · refine x_iconst (v := 0) d_Course_loadFacts_65 (by decide) ?_
    refine x_goto (tgt := 79) d_Course_loadFacts_66 (by decide) ?_
    exact V.kw (kJ79 5 0 S5) ⟨rfl, rfl, rfl, rfl, rfl, trivial⟩
theorem c_Course_loadFacts_59 {G : GX} (p2 : Int32) (p3 : Int32) (p4 : Int32) (S : AS) : CN G y_Course_loadFacts b_Course_loadFacts 5 none ({ frames := 0, cells := 0, slots := 0, locals := 0 } : Room) (some none) iV [.ref 49, .ref 59, .int p2, .int p3, .int p4] S (f_Course_loadFacts_59 p2 p3 p4 S) := cn_of_v (M := md_Course_loadFacts) (ini := false) rfl (by decide +kernel) (fun h => nomatch h) rfl (Nat.le_of_ble_eq_true rfl) (v_Course_loadFacts_59 p2 p3 p4 S)
noncomputable def f_RuleBook_standing_58 (q : Nat) (p1 : Int32) (S : AS) : Option (Int32 × AS) := chk (vp_in p1 16) (if (gi S (q + 1) (ix p1)) = 7 then (chk (vp_in 8 9) (chk (vp_in p1 16) (some (((gi S 58 (ix 8)) >>> ((gi S (q + 2) (ix p1)) &&& 31)) &&& 1, S)))) else (if (gi S (q + 1) (ix p1)) = 8 then (chk (vp_in 7 9) (some (gi S 58 (ix 7), S))) else (if (gi S (q + 1) (ix p1)) = 9 then (chk (vp_in p1 16) (chk (vp_in (gi S (q + 2) (ix p1)) 9) (some (gi S 58 (ix (gi S (q + 2) (ix p1))), S)))) else (if (gi S (q + 1) (ix p1)) = 10 then (chk (vp_in p1 16) (chk (vp_in (gi S (q + 2) (ix p1)) 9) (some (-(gi S 58 (ix (gi S (q + 2) (ix p1)))), S)))) else (some (0, S))))))
set_option maxHeartbeats 4000000 in
theorem v_RuleBook_standing_58 {G : GX} (q : Nat) (hq : isq q) (p1 : Int32) (S : AS) : V G md_RuleBook_standing (QM G md_RuleBook_standing iI) (fun _ => True) (some (some q)) 0 [some (.ref q), some (.int p1), some (.ref 58)] [] 0 0 S (f_RuleBook_standing_58 q p1 S) := by
  unfold f_RuleBook_standing_58
  refine x_aload_n_ref d_RuleBook_standing_0 rfl ?_
  refine x_getr d_RuleBook_standing_1 fl_RuleBook_9 (ak_q q 0 hq (by decide)) (bq_lt (q := q) (i := 0) (by decide)) bq_0 ?_
  refine x_iload_n d_RuleBook_standing_4 rfl ?_
  refine x_iald d_RuleBook_standing_5 (ak_q q 1 hq (by decide)) (bq_lt (q := q) (i := 1) (by decide)) ?_
  refine x_ite (fun hs4 => ?_) (fun hs4 => ?_)
  · refine x_tsw_in (c := 7) (tgt := 36) d_RuleBook_standing_6 hs4 (by decide) (by decide) rfl (by decide) ?_
    refine x_aload_n_ref d_RuleBook_standing_36 rfl ?_
    refine x_bipush (v := 8) d_RuleBook_standing_37 (by decide) ?_
    refine x_iald d_RuleBook_standing_39 ak_58 (q99 (by decide)) ?_
    refine x_aload_n_ref d_RuleBook_standing_40 rfl ?_
    refine x_getr d_RuleBook_standing_41 fl_RuleBook_15 (ak_q q 0 hq (by decide)) (bq_lt (q := q) (i := 0) (by decide)) bq_1 ?_
    refine x_iload_n d_RuleBook_standing_44 rfl ?_
    refine x_iald d_RuleBook_standing_45 (ak_q q 2 hq (by decide)) (bq_lt (q := q) (i := 2) (by decide)) ?_
    refine x_ishr d_RuleBook_standing_46 ?_
    refine x_iconst (v := 1) d_RuleBook_standing_47 (by decide) ?_
    refine x_iand d_RuleBook_standing_48 ?_
    exact x_ret d_RuleBook_standing_49 rfl rfl (Nat.le_of_ble_eq_true rfl) (Nat.le_of_ble_eq_true rfl)
  · refine x_ite (fun hs3 => ?_) (fun hs3 => ?_)
    · refine x_tsw_in (c := 8) (tgt := 50) d_RuleBook_standing_6 hs3 (by decide) (by decide) rfl (by decide) ?_
      refine x_aload_n_ref d_RuleBook_standing_50 rfl ?_
      refine x_bipush (v := 7) d_RuleBook_standing_51 (by decide) ?_
      refine x_iald d_RuleBook_standing_53 ak_58 (q99 (by decide)) ?_
      exact x_ret d_RuleBook_standing_54 rfl rfl (Nat.le_of_ble_eq_true rfl) (Nat.le_of_ble_eq_true rfl)
    · refine x_ite (fun hs2 => ?_) (fun hs2 => ?_)
      · refine x_tsw_in (c := 9) (tgt := 55) d_RuleBook_standing_6 hs2 (by decide) (by decide) rfl (by decide) ?_
        refine x_aload_n_ref d_RuleBook_standing_55 rfl ?_
        refine x_aload_n_ref d_RuleBook_standing_56 rfl ?_
        refine x_getr d_RuleBook_standing_57 fl_RuleBook_15 (ak_q q 0 hq (by decide)) (bq_lt (q := q) (i := 0) (by decide)) bq_1 ?_
        refine x_iload_n d_RuleBook_standing_60 rfl ?_
        refine x_iald d_RuleBook_standing_61 (ak_q q 2 hq (by decide)) (bq_lt (q := q) (i := 2) (by decide)) ?_
        refine x_iald d_RuleBook_standing_62 ak_58 (q99 (by decide)) ?_
        exact x_ret d_RuleBook_standing_63 rfl rfl (Nat.le_of_ble_eq_true rfl) (Nat.le_of_ble_eq_true rfl)
      · refine x_ite (fun hs1 => ?_) (fun hs1 => ?_)
        · refine x_tsw_in (c := 10) (tgt := 64) d_RuleBook_standing_6 hs1 (by decide) (by decide) rfl (by decide) ?_
          refine x_aload_n_ref d_RuleBook_standing_64 rfl ?_
          refine x_aload_n_ref d_RuleBook_standing_65 rfl ?_
          refine x_getr d_RuleBook_standing_66 fl_RuleBook_15 (ak_q q 0 hq (by decide)) (bq_lt (q := q) (i := 0) (by decide)) bq_1 ?_
          refine x_iload_n d_RuleBook_standing_69 rfl ?_
          refine x_iald d_RuleBook_standing_70 (ak_q q 2 hq (by decide)) (bq_lt (q := q) (i := 2) (by decide)) ?_
          refine x_iald d_RuleBook_standing_71 ak_58 (q99 (by decide)) ?_
          refine x_ineg d_RuleBook_standing_72 ?_
          exact x_ret d_RuleBook_standing_73 rfl rfl (Nat.le_of_ble_eq_true rfl) (Nat.le_of_ble_eq_true rfl)
        · refine x_tsw_out (n := 4) (tgt := 74) d_RuleBook_standing_6 (by decide) (fun j hj => by rcases (by omega : j = 0 ∨ j = 1 ∨ j = 2 ∨ j = 3) with rfl | rfl | rfl | rfl <;> assumption) (by decide) ?_
          refine x_iconst (v := 0) d_RuleBook_standing_74 (by decide) ?_
          exact x_ret d_RuleBook_standing_75 rfl rfl (Nat.le_of_ble_eq_true rfl) (Nat.le_of_ble_eq_true rfl)
theorem c_RuleBook_standing_58 {G : GX} (q : Nat) (hq : isq q) (p1 : Int32) (S : AS) : CN G y_RuleBook_standing b_RuleBook_standing 3 (some (FieldType.int)) ({ frames := 0, cells := 0, slots := 0, locals := 0 } : Room) (some (some q)) iI [.ref q, .int p1, .ref 58] S (f_RuleBook_standing_58 q p1 S) := cn_of_v (M := md_RuleBook_standing) (ini := false) rfl (by decide +kernel) (fun h => nomatch h) rfl (Nat.le_of_ble_eq_true rfl) (v_RuleBook_standing_58 q hq p1 S)
noncomputable def f_RuleBook_standing_59 (q : Nat) (p1 : Int32) (S : AS) : Option (Int32 × AS) := chk (vp_in p1 16) (if (gi S (q + 1) (ix p1)) = 7 then (chk (vp_in 8 9) (chk (vp_in p1 16) (some (((gi S 59 (ix 8)) >>> ((gi S (q + 2) (ix p1)) &&& 31)) &&& 1, S)))) else (if (gi S (q + 1) (ix p1)) = 8 then (chk (vp_in 7 9) (some (gi S 59 (ix 7), S))) else (if (gi S (q + 1) (ix p1)) = 9 then (chk (vp_in p1 16) (chk (vp_in (gi S (q + 2) (ix p1)) 9) (some (gi S 59 (ix (gi S (q + 2) (ix p1))), S)))) else (if (gi S (q + 1) (ix p1)) = 10 then (chk (vp_in p1 16) (chk (vp_in (gi S (q + 2) (ix p1)) 9) (some (-(gi S 59 (ix (gi S (q + 2) (ix p1)))), S)))) else (some (0, S))))))
set_option maxHeartbeats 4000000 in
theorem v_RuleBook_standing_59 {G : GX} (q : Nat) (hq : isq q) (p1 : Int32) (S : AS) : V G md_RuleBook_standing (QM G md_RuleBook_standing iI) (fun _ => True) (some (some q)) 0 [some (.ref q), some (.int p1), some (.ref 59)] [] 0 0 S (f_RuleBook_standing_59 q p1 S) := by
  unfold f_RuleBook_standing_59
  refine x_aload_n_ref d_RuleBook_standing_0 rfl ?_
  refine x_getr d_RuleBook_standing_1 fl_RuleBook_9 (ak_q q 0 hq (by decide)) (bq_lt (q := q) (i := 0) (by decide)) bq_0 ?_
  refine x_iload_n d_RuleBook_standing_4 rfl ?_
  refine x_iald d_RuleBook_standing_5 (ak_q q 1 hq (by decide)) (bq_lt (q := q) (i := 1) (by decide)) ?_
  refine x_ite (fun hs4 => ?_) (fun hs4 => ?_)
  · refine x_tsw_in (c := 7) (tgt := 36) d_RuleBook_standing_6 hs4 (by decide) (by decide) rfl (by decide) ?_
    refine x_aload_n_ref d_RuleBook_standing_36 rfl ?_
    refine x_bipush (v := 8) d_RuleBook_standing_37 (by decide) ?_
    refine x_iald d_RuleBook_standing_39 ak_59 (q99 (by decide)) ?_
    refine x_aload_n_ref d_RuleBook_standing_40 rfl ?_
    refine x_getr d_RuleBook_standing_41 fl_RuleBook_15 (ak_q q 0 hq (by decide)) (bq_lt (q := q) (i := 0) (by decide)) bq_1 ?_
    refine x_iload_n d_RuleBook_standing_44 rfl ?_
    refine x_iald d_RuleBook_standing_45 (ak_q q 2 hq (by decide)) (bq_lt (q := q) (i := 2) (by decide)) ?_
    refine x_ishr d_RuleBook_standing_46 ?_
    refine x_iconst (v := 1) d_RuleBook_standing_47 (by decide) ?_
    refine x_iand d_RuleBook_standing_48 ?_
    exact x_ret d_RuleBook_standing_49 rfl rfl (Nat.le_of_ble_eq_true rfl) (Nat.le_of_ble_eq_true rfl)
  · refine x_ite (fun hs3 => ?_) (fun hs3 => ?_)
    · refine x_tsw_in (c := 8) (tgt := 50) d_RuleBook_standing_6 hs3 (by decide) (by decide) rfl (by decide) ?_
      refine x_aload_n_ref d_RuleBook_standing_50 rfl ?_
      refine x_bipush (v := 7) d_RuleBook_standing_51 (by decide) ?_
      refine x_iald d_RuleBook_standing_53 ak_59 (q99 (by decide)) ?_
      exact x_ret d_RuleBook_standing_54 rfl rfl (Nat.le_of_ble_eq_true rfl) (Nat.le_of_ble_eq_true rfl)
    · refine x_ite (fun hs2 => ?_) (fun hs2 => ?_)
      · refine x_tsw_in (c := 9) (tgt := 55) d_RuleBook_standing_6 hs2 (by decide) (by decide) rfl (by decide) ?_
        refine x_aload_n_ref d_RuleBook_standing_55 rfl ?_
        refine x_aload_n_ref d_RuleBook_standing_56 rfl ?_
        refine x_getr d_RuleBook_standing_57 fl_RuleBook_15 (ak_q q 0 hq (by decide)) (bq_lt (q := q) (i := 0) (by decide)) bq_1 ?_
        refine x_iload_n d_RuleBook_standing_60 rfl ?_
        refine x_iald d_RuleBook_standing_61 (ak_q q 2 hq (by decide)) (bq_lt (q := q) (i := 2) (by decide)) ?_
        refine x_iald d_RuleBook_standing_62 ak_59 (q99 (by decide)) ?_
        exact x_ret d_RuleBook_standing_63 rfl rfl (Nat.le_of_ble_eq_true rfl) (Nat.le_of_ble_eq_true rfl)
      · refine x_ite (fun hs1 => ?_) (fun hs1 => ?_)
        · refine x_tsw_in (c := 10) (tgt := 64) d_RuleBook_standing_6 hs1 (by decide) (by decide) rfl (by decide) ?_
          refine x_aload_n_ref d_RuleBook_standing_64 rfl ?_
          refine x_aload_n_ref d_RuleBook_standing_65 rfl ?_
          refine x_getr d_RuleBook_standing_66 fl_RuleBook_15 (ak_q q 0 hq (by decide)) (bq_lt (q := q) (i := 0) (by decide)) bq_1 ?_
          refine x_iload_n d_RuleBook_standing_69 rfl ?_
          refine x_iald d_RuleBook_standing_70 (ak_q q 2 hq (by decide)) (bq_lt (q := q) (i := 2) (by decide)) ?_
          refine x_iald d_RuleBook_standing_71 ak_59 (q99 (by decide)) ?_
          refine x_ineg d_RuleBook_standing_72 ?_
          exact x_ret d_RuleBook_standing_73 rfl rfl (Nat.le_of_ble_eq_true rfl) (Nat.le_of_ble_eq_true rfl)
        · refine x_tsw_out (n := 4) (tgt := 74) d_RuleBook_standing_6 (by decide) (fun j hj => by rcases (by omega : j = 0 ∨ j = 1 ∨ j = 2 ∨ j = 3) with rfl | rfl | rfl | rfl <;> assumption) (by decide) ?_
          refine x_iconst (v := 0) d_RuleBook_standing_74 (by decide) ?_
          exact x_ret d_RuleBook_standing_75 rfl rfl (Nat.le_of_ble_eq_true rfl) (Nat.le_of_ble_eq_true rfl)
theorem c_RuleBook_standing_59 {G : GX} (q : Nat) (hq : isq q) (p1 : Int32) (S : AS) : CN G y_RuleBook_standing b_RuleBook_standing 3 (some (FieldType.int)) ({ frames := 0, cells := 0, slots := 0, locals := 0 } : Room) (some (some q)) iI [.ref q, .int p1, .ref 59] S (f_RuleBook_standing_59 q p1 S) := cn_of_v (M := md_RuleBook_standing) (ini := false) rfl (by decide +kernel) (fun h => nomatch h) rfl (Nat.le_of_ble_eq_true rfl) (v_RuleBook_standing_59 q hq p1 S)
noncomputable def f_RuleBook_duel_58_59_L2 (q : Nat) (J75 : AS → Option (Int32 × AS)) (J53 : Int32 → Int32 → Int32 → AS → Option (Int32 × AS)) : Nat → Int32 → AS → Option (Int32 × AS)
  | 0, _, _ => none
  | n + 1, c3, S => if (gi S q 4) ≤ c3 then (J75 S) else (chk (vp_in c3 16) (nm (fun (S6 : AS) => f_RuleBook_duel_58_59_L2 q J75 J53 n (c3 + 1) S6) fun J69 => if (gi S (q + 1) (ix c3)) = 11 then (J69 S) else (bI (f_RuleBook_testsHold_58 q c3 S) fun r8 S7 => if r8 = 0 then (J69 S7) else (bI (f_RuleBook_standing_58 q c3 S7) fun r10 S9 => bI (f_RuleBook_standing_59 q c3 S9) fun r12 S11 => if r10 = r12 then (J69 S11) else (J53 c3 r10 r12 S11)))))
noncomputable def f_RuleBook_duel_58_59 (q : Nat) (S : AS) : Option (Int32 × AS) := nm (fun (S1 : AS) => some (100, S1)) fun J75 => nm (fun (a2 : Int32) (a3 : Int32) (a4 : Int32) (S5 : AS) => if a3 ≤ a4 then (some ((-a2) - 1, S5)) else (some (a2, S5))) fun J53 => f_RuleBook_duel_58_59_L2 q J75 J53 FU 0 S
set_option maxHeartbeats 4000000 in
theorem v_RuleBook_duel_58_59_L2 {G : GX} (q : Nat) (hq : isq q) (J75 : AS → Option (Int32 × AS)) (J53 : Int32 → Int32 → Int32 → AS → Option (Int32 × AS)) (kJ75 : ∀ (T : AS), V G md_RuleBook_duel (QM G md_RuleBook_duel iI) (fun _ => True) (some (some q)) 75 [none, none, none, none, none, none] [] 0 0 T (J75 T)) (kJ53 : ∀ (a2 : Int32) (a3 : Int32) (a4 : Int32) (T : AS), V G md_RuleBook_duel (QM G md_RuleBook_duel iI) (fun _ => True) (some (some q)) 53 [none, none, none, some (.int a2), some (.int a3), some (.int a4)] [] 0 0 T (J53 a2 a3 a4 T)) : ∀ (n : Nat) (c3 : Int32) (S : AS), V G md_RuleBook_duel (QM G md_RuleBook_duel iI) (fun _ => True) (some (some q)) 2 [some (.ref q), some (.ref 58), some (.ref 59), some (.int c3), none, none] [] 0 0 S (f_RuleBook_duel_58_59_L2 q J75 J53 n c3 S) := by
  intro n
  induction n with
  | zero => intro c3 S; exact V.none
  | succ n ih =>
    intro c3 S
    rw [f_RuleBook_duel_58_59_L2]
    refine x_iload_n d_RuleBook_duel_2 rfl ?_
    refine x_aload_n_ref d_RuleBook_duel_3 rfl ?_
    refine x_geti d_RuleBook_duel_4 fl_RuleBook_33 (ak_q q 0 hq (by decide)) (bq_lt (q := q) (i := 0) (by decide)) ?_
    refine x_icmp_ge (tgt := 75) d_RuleBook_duel_7 (by decide) (fun _ => ?_) (fun _ => ?_)
    · exact V.kw (kJ75 S) trivial
    · refine x_aload_n_ref d_RuleBook_duel_10 rfl ?_
      refine x_getr d_RuleBook_duel_11 fl_RuleBook_9 (ak_q q 0 hq (by decide)) (bq_lt (q := q) (i := 0) (by decide)) bq_0 ?_
      refine x_iload_n d_RuleBook_duel_14 rfl ?_
      refine x_iald d_RuleBook_duel_15 (ak_q q 1 hq (by decide)) (bq_lt (q := q) (i := 1) (by decide)) ?_
      refine x_bipush (v := 11) d_RuleBook_duel_16 (by decide) ?_
      refine x_nm (fun J69 hJ69 => ?_)
      have kJ69 : ∀ (S6 : AS), V G md_RuleBook_duel (QM G md_RuleBook_duel iI) (fun _ => True) (some (some q)) 69 [some (.ref q), some (.ref 58), some (.ref 59), some (.int c3), none, none] [] 0 0 S6 (J69 S6) := by
        subst hJ69
        intro S6
        refine x_iinc (w := c3 + 1) (lc' := [some (.ref q), some (.ref 58), some (.ref 59), some (.int (c3 + 1)), none, none]) d_RuleBook_duel_69 (by decide) rfl rfl rfl ?_
        refine x_goto (tgt := 2) d_RuleBook_duel_72 (by decide) ?_
        exact V.kw (ih (c3 + 1) S6) ⟨rfl, rfl, rfl, rfl, trivial⟩
      clear hJ69
      refine x_icmp_eq (tgt := 69) d_RuleBook_duel_18 (by decide) (fun _ => ?_) (fun _ => ?_)
      · exact V.kw (kJ69 S) ⟨rfl, rfl, rfl, rfl, trivial⟩
      · refine x_aload_n_ref d_RuleBook_duel_21 rfl ?_
        refine x_iload_n d_RuleBook_duel_22 rfl ?_
        refine x_aload_n_ref d_RuleBook_duel_23 rfl ?_
        refine x_vI (b' := (some (some q))) (As := [.int c3, .ref 58]) d_RuleBook_duel_24 mv_RuleBook_50 rfl (fun _ => (ak_q q 0 hq (by decide))) rfl (bq_lt (q := q) (i := 0) (by decide)) ⟨Nat.le_of_ble_eq_true rfl, Nat.le_of_ble_eq_true rfl⟩ (Nat.le_of_ble_eq_true rfl) ⟨Nat.le_of_ble_eq_true rfl, Nat.le_of_ble_eq_true rfl⟩ (fun _ h => h) (fun h => ⟨h, c_RuleBook_testsHold_58 q hq c3 _⟩) (fun r8 S7 => ?_)
        refine x_if_eq (tgt := 69) d_RuleBook_duel_27 (by decide) (fun _ => ?_) (fun _ => ?_)
        · exact V.kw (kJ69 S7) ⟨rfl, rfl, rfl, rfl, trivial⟩
        · refine x_aload_n_ref d_RuleBook_duel_30 rfl ?_
          refine x_iload_n d_RuleBook_duel_31 rfl ?_
          refine x_aload_n_ref d_RuleBook_duel_32 rfl ?_
          refine x_vI (b' := (some (some q))) (As := [.int c3, .ref 58]) d_RuleBook_duel_33 mv_RuleBook_54 rfl (fun _ => (ak_q q 0 hq (by decide))) rfl (bq_lt (q := q) (i := 0) (by decide)) ⟨Nat.le_of_ble_eq_true rfl, Nat.le_of_ble_eq_true rfl⟩ (Nat.le_of_ble_eq_true rfl) ⟨Nat.le_of_ble_eq_true rfl, Nat.le_of_ble_eq_true rfl⟩ (fun _ h => h) (fun h => ⟨h, c_RuleBook_standing_58 q hq c3 _⟩) (fun r10 S9 => ?_)
          refine x_istore (lc' := [some (.ref q), some (.ref 58), some (.ref 59), some (.int c3), some (.int r10), none]) d_RuleBook_duel_36 (by decide) rfl ?_
          refine x_aload_n_ref d_RuleBook_duel_38 rfl ?_
          refine x_iload_n d_RuleBook_duel_39 rfl ?_
          refine x_aload_n_ref d_RuleBook_duel_40 rfl ?_
          refine x_vI (b' := (some (some q))) (As := [.int c3, .ref 59]) d_RuleBook_duel_41 mv_RuleBook_54 rfl (fun _ => (ak_q q 0 hq (by decide))) rfl (bq_lt (q := q) (i := 0) (by decide)) ⟨Nat.le_of_ble_eq_true rfl, Nat.le_of_ble_eq_true rfl⟩ (Nat.le_of_ble_eq_true rfl) ⟨Nat.le_of_ble_eq_true rfl, Nat.le_of_ble_eq_true rfl⟩ (fun _ h => h) (fun h => ⟨h, c_RuleBook_standing_59 q hq c3 _⟩) (fun r12 S11 => ?_)
          refine x_istore (lc' := [some (.ref q), some (.ref 58), some (.ref 59), some (.int c3), some (.int r10), some (.int r12)]) d_RuleBook_duel_44 (by decide) rfl ?_
          refine x_iload d_RuleBook_duel_46 rfl ?_
          refine x_iload d_RuleBook_duel_48 rfl ?_
          refine x_icmp_eq (tgt := 69) d_RuleBook_duel_50 (by decide) (fun _ => ?_) (fun _ => ?_)
          · exact V.kw (kJ69 S11) ⟨rfl, rfl, rfl, rfl, trivial⟩
          · exact V.kw (kJ53 c3 r10 r12 S11) ⟨rfl, rfl, rfl, trivial⟩
set_option maxHeartbeats 4000000 in
theorem v_RuleBook_duel_58_59 {G : GX} (q : Nat) (hq : isq q) (S : AS) : V G md_RuleBook_duel (QM G md_RuleBook_duel iI) (fun _ => True) (some (some q)) 0 [some (.ref q), some (.ref 58), some (.ref 59), none, none, none] [] 0 0 S (f_RuleBook_duel_58_59 q S) := by
  unfold f_RuleBook_duel_58_59
  refine x_iconst (v := 0) d_RuleBook_duel_0 (by decide) ?_
  refine x_istore_n (lc' := [some (.ref q), some (.ref 58), some (.ref 59), some (.int 0), none, none]) d_RuleBook_duel_1 (by decide) rfl ?_
  refine x_nm (fun J75 hJ75 => ?_)
  have kJ75 : ∀ (S1 : AS), V G md_RuleBook_duel (QM G md_RuleBook_duel iI) (fun _ => True) (some (some q)) 75 [none, none, none, none, none, none] [] 0 0 S1 (J75 S1) := by
    subst hJ75
    intro S1
    refine x_bipush (v := 100) d_RuleBook_duel_75 (by decide) ?_
    exact x_ret d_RuleBook_duel_77 rfl rfl (Nat.le_of_ble_eq_true rfl) (Nat.le_of_ble_eq_true rfl)
  clear hJ75
  refine x_nm (fun J53 hJ53 => ?_)
  have kJ53 : ∀ (a2 : Int32) (a3 : Int32) (a4 : Int32) (S5 : AS), V G md_RuleBook_duel (QM G md_RuleBook_duel iI) (fun _ => True) (some (some q)) 53 [none, none, none, some (.int a2), some (.int a3), some (.int a4)] [] 0 0 S5 (J53 a2 a3 a4 S5) := by
    subst hJ53
    intro a2 a3 a4 S5
    refine x_iload d_RuleBook_duel_53 rfl ?_
    refine x_iload d_RuleBook_duel_55 rfl ?_
    refine x_icmp_le (tgt := 64) d_RuleBook_duel_57 (by decide) (fun _ => ?_) (fun _ => ?_)
    · refine x_iload_n d_RuleBook_duel_64 rfl ?_
      refine x_ineg d_RuleBook_duel_65 ?_
      refine x_iconst (v := 1) d_RuleBook_duel_66 (by decide) ?_
      refine x_isub d_RuleBook_duel_67 ?_
      exact x_ret d_RuleBook_duel_68 rfl rfl (Nat.le_of_ble_eq_true rfl) (Nat.le_of_ble_eq_true rfl)
    · refine x_iload_n d_RuleBook_duel_60 rfl ?_
      refine x_goto (tgt := 68) d_RuleBook_duel_61 (by decide) ?_
      exact x_ret d_RuleBook_duel_68 rfl rfl (Nat.le_of_ble_eq_true rfl) (Nat.le_of_ble_eq_true rfl)
  clear hJ53
  exact V.kw (v_RuleBook_duel_58_59_L2 q hq J75 J53 kJ75 kJ53 FU 0 S) ⟨rfl, rfl, rfl, rfl, trivial⟩
theorem c_RuleBook_duel_58_59 {G : GX} (q : Nat) (hq : isq q) (S : AS) : CN G y_RuleBook_duel b_RuleBook_duel 6 (some (FieldType.int)) ({ frames := 1, cells := 0, slots := 0, locals := 25 } : Room) (some (some q)) iI [.ref q, .ref 58, .ref 59] S (f_RuleBook_duel_58_59 q S) := cn_of_v (M := md_RuleBook_duel) (ini := false) rfl (by decide +kernel) (fun h => nomatch h) rfl (Nat.le_of_ble_eq_true rfl) (v_RuleBook_duel_58_59 q hq S)
