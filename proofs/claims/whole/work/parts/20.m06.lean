noncomputable def f_Chan_post (p1 : Int32) (p2 : Int32) (S : AS) : Option (Int32 × AS) := bI (f_Chan_isWithin p1 0 7 S) fun r2 S1 => if r2 = 0 then (some ((-1), S1)) else (bI (f_Chan_isWithin p2 1 1000 S1) fun r4 S3 => if r4 = 0 then (some ((-1), S3)) else (bI (f_Roll_addPost p1 p2 S3) fun r6 S5 => some (r6, S5)))
set_option maxHeartbeats 4000000 in
theorem v_Chan_post {G : GX} (p1 : Int32) (p2 : Int32) (S : AS) : V G md_Chan_post (QM G md_Chan_post iI) (fun _ => True) (some none) 0 [some (.ref 0), some (.int p1), some (.int p2)] [] 0 0 S (f_Chan_post p1 p2 S) := by
  unfold f_Chan_post
  refine x_iload_n d_Chan_post_0 rfl ?_
  refine x_iconst (v := 0) d_Chan_post_1 (by decide) ?_
  refine x_bipush (v := 7) d_Chan_post_2 (by decide) ?_
  refine x_sI (b' := (some none)) (As := [.int p1, .int 0, .int 7]) d_Chan_post_4 ms_Chan_101 rfl ⟨Nat.le_of_ble_eq_true rfl, Nat.le_of_ble_eq_true rfl⟩ (Nat.le_of_ble_eq_true rfl) ⟨Nat.le_of_ble_eq_true rfl, Nat.le_of_ble_eq_true rfl⟩ (fun _ h => h) (fun h => ⟨h, c_Chan_isWithin p1 0 7 _⟩) (fun r2 S1 => ?_)
  refine x_if_eq (tgt := 21) d_Chan_post_7 (by decide) (fun _ => ?_) (fun _ => ?_)
  · refine x_iconst (v := -1) d_Chan_post_21 (by decide) ?_
    exact x_ret d_Chan_post_22 rfl rfl (Nat.le_of_ble_eq_true rfl) (Nat.le_of_ble_eq_true rfl)
  · refine x_iload_n d_Chan_post_10 rfl ?_
    refine x_iconst (v := 1) d_Chan_post_11 (by decide) ?_
    refine x_sipush (v := 1000) d_Chan_post_12 (by decide) ?_
    refine x_sI (b' := (some none)) (As := [.int p2, .int 1, .int 1000]) d_Chan_post_15 ms_Chan_101 rfl ⟨Nat.le_of_ble_eq_true rfl, Nat.le_of_ble_eq_true rfl⟩ (Nat.le_of_ble_eq_true rfl) ⟨Nat.le_of_ble_eq_true rfl, Nat.le_of_ble_eq_true rfl⟩ (fun _ h => h) (fun h => ⟨h, c_Chan_isWithin p2 1 1000 _⟩) (fun r4 S3 => ?_)
    refine x_if_ne (tgt := 23) d_Chan_post_18 (by decide) (fun _ => ?_) (fun _ => ?_)
    · refine x_aload_n_ref d_Chan_post_23 rfl ?_
      refine x_getr d_Chan_post_24 fl_Chan_28 ak_0 (q99 (by decide)) (shx sh_0_2) ?_
      refine x_iload_n d_Chan_post_27 rfl ?_
      refine x_iload_n d_Chan_post_28 rfl ?_
      refine x_vI (b' := (some none)) (As := [.int p1, .int p2]) d_Chan_post_29 mv_Chan_109 rfl (fun _ => ak_16) rfl (q99 (by decide)) ⟨Nat.le_of_ble_eq_true rfl, Nat.le_of_ble_eq_true rfl⟩ (Nat.le_of_ble_eq_true rfl) ⟨Nat.le_of_ble_eq_true rfl, Nat.le_of_ble_eq_true rfl⟩ (fun _ h => h) (fun h => ⟨h, c_Roll_addPost p1 p2 _⟩) (fun r6 S5 => ?_)
      exact x_ret d_Chan_post_32 rfl rfl (Nat.le_of_ble_eq_true rfl) (Nat.le_of_ble_eq_true rfl)
    · refine x_iconst (v := -1) d_Chan_post_21 (by decide) ?_
      exact x_ret d_Chan_post_22 rfl rfl (Nat.le_of_ble_eq_true rfl) (Nat.le_of_ble_eq_true rfl)
theorem c_Chan_post {G : GX} (p1 : Int32) (p2 : Int32) (S : AS) : CN G y_Chan_post b_Chan_post 3 (some (FieldType.int)) ({ frames := 1, cells := 0, slots := 0, locals := 22 } : Room) (some none) iI [.ref 0, .int p1, .int p2] S (f_Chan_post p1 p2 S) := cn_of_v (M := md_Chan_post) (ini := false) rfl (by decide +kernel) (fun h => nomatch h) rfl (Nat.le_of_ble_eq_true rfl) (v_Chan_post p1 p2 S)
noncomputable def f_Roll_isPost (p1 : Int32) (S : AS) : Option (Int32 × AS) := nm (fun (S1 : AS) => some (0, S1)) fun J16 => if p1 < 0 then (J16 S) else (if (gi S 16 7) ≤ p1 then (J16 S) else (some (1, S)))
set_option maxHeartbeats 4000000 in
theorem v_Roll_isPost {G : GX} (p1 : Int32) (S : AS) : V G md_Roll_isPost (QM G md_Roll_isPost iI) (fun _ => True) (some none) 0 [some (.ref 16), some (.int p1)] [] 0 0 S (f_Roll_isPost p1 S) := by
  unfold f_Roll_isPost
  refine x_iload_n d_Roll_isPost_0 rfl ?_
  refine x_nm (fun J16 hJ16 => ?_)
  have kJ16 : ∀ (S1 : AS), V G md_Roll_isPost (QM G md_Roll_isPost iI) (fun _ => True) (some none) 16 [none, none] [] 0 0 S1 (J16 S1) := by
    subst hJ16
    intro S1
    refine x_iconst (v := 0) d_Roll_isPost_16 (by decide) ?_
    exact x_ret d_Roll_isPost_17 rfl rfl (Nat.le_of_ble_eq_true rfl) (Nat.le_of_ble_eq_true rfl)
  clear hJ16
  refine x_if_lt (tgt := 16) d_Roll_isPost_1 (by decide) (fun _ => ?_) (fun _ => ?_)
  · exact V.kw (kJ16 S) trivial
  · refine x_iload_n d_Roll_isPost_4 rfl ?_
    refine x_aload_n_ref d_Roll_isPost_5 rfl ?_
    refine x_geti d_Roll_isPost_6 fl_Roll_34 ak_16 (q99 (by decide)) ?_
    refine x_icmp_ge (tgt := 16) d_Roll_isPost_9 (by decide) (fun _ => ?_) (fun _ => ?_)
    · exact V.kw (kJ16 S) trivial
    · refine x_iconst (v := 1) d_Roll_isPost_12 (by decide) ?_
      refine x_goto (tgt := 17) d_Roll_isPost_13 (by decide) ?_
      exact x_ret d_Roll_isPost_17 rfl rfl (Nat.le_of_ble_eq_true rfl) (Nat.le_of_ble_eq_true rfl)
theorem c_Roll_isPost {G : GX} (p1 : Int32) (S : AS) : CN G y_Roll_isPost b_Roll_isPost 2 (some (FieldType.boolean)) ({ frames := 0, cells := 0, slots := 0, locals := 0 } : Room) (some none) iI [.ref 16, .int p1] S (f_Roll_isPost p1 S) := cn_of_v (M := md_Roll_isPost) (ini := false) rfl (by decide +kernel) (fun h => nomatch h) rfl (Nat.le_of_ble_eq_true rfl) (v_Roll_isPost p1 S)
noncomputable def f_Roll_putSeat (p1 : Int32) (p2 : Int32) (S : AS) : Option AS := bI (f_Roll_isPost p1 S) fun r2 S1 => if r2 = 0 then (some S1) else (chk (vp_in p1 16) (nm (si S1 22 (ix p1) p2) fun S3 => nm (si S3 16 8 ((gi S3 16 8) + 1)) fun S4 => some S4))
set_option maxHeartbeats 4000000 in
theorem v_Roll_putSeat {G : GX} (p1 : Int32) (p2 : Int32) (S : AS) : V G md_Roll_putSeat (QM G md_Roll_putSeat iV) (fun _ => True) (some none) 0 [some (.ref 16), some (.int p1), some (.int p2)] [] 0 0 S (f_Roll_putSeat p1 p2 S) := by
  unfold f_Roll_putSeat
  refine x_aload_n_ref d_Roll_putSeat_0 rfl ?_
  refine x_iload_n d_Roll_putSeat_1 rfl ?_
  refine x_vI (b' := (some none)) (As := [.int p1]) d_Roll_putSeat_2 mv_Roll_40 rfl (fun _ => ak_16) rfl (q99 (by decide)) ⟨Nat.le_of_ble_eq_true rfl, Nat.le_of_ble_eq_true rfl⟩ (Nat.le_of_ble_eq_true rfl) ⟨Nat.le_of_ble_eq_true rfl, Nat.le_of_ble_eq_true rfl⟩ (fun _ h => h) (fun h => ⟨h, c_Roll_isPost p1 _⟩) (fun r2 S1 => ?_)
  refine x_if_eq (tgt := 25) d_Roll_putSeat_5 (by decide) (fun _ => ?_) (fun _ => ?_)
  · exact x_vret d_Roll_putSeat_25 rfl (Nat.le_of_ble_eq_true rfl) (Nat.le_of_ble_eq_true rfl)
  · refine x_aload_n_ref d_Roll_putSeat_8 rfl ?_
    refine x_getr d_Roll_putSeat_9 fl_Roll_27 ak_16 (q99 (by decide)) (shx sh_16_6) ?_
    refine x_iload_n d_Roll_putSeat_12 rfl ?_
    refine x_iload_n d_Roll_putSeat_13 rfl ?_
    refine x_iast d_Roll_putSeat_14 ak_22 (q99 (by decide)) ?_
    refine x_nmS (fun S3 _ => ?_)
    refine x_aload_n_ref d_Roll_putSeat_15 rfl ?_
    refine x_dup d_Roll_putSeat_16 rfl ?_
    refine x_geti d_Roll_putSeat_17 fl_Roll_37 ak_16 (q99 (by decide)) ?_
    refine x_iconst (v := 1) d_Roll_putSeat_20 (by decide) ?_
    refine x_iadd d_Roll_putSeat_21 ?_
    refine x_puti d_Roll_putSeat_22 fl_Roll_37 rfl ak_16 (q99 (by decide)) (fun h => nomatch h) (fun h => nomatch h) ?_
    refine x_nmS (fun S4 _ => ?_)
    exact x_vret d_Roll_putSeat_25 rfl (Nat.le_of_ble_eq_true rfl) (Nat.le_of_ble_eq_true rfl)
theorem c_Roll_putSeat {G : GX} (p1 : Int32) (p2 : Int32) (S : AS) : CN G y_Roll_putSeat b_Roll_putSeat 3 none ({ frames := 1, cells := 0, slots := 0, locals := 21 } : Room) (some none) iV [.ref 16, .int p1, .int p2] S (f_Roll_putSeat p1 p2 S) := cn_of_v (M := md_Roll_putSeat) (ini := false) rfl (by decide +kernel) (fun h => nomatch h) rfl (Nat.le_of_ble_eq_true rfl) (v_Roll_putSeat p1 p2 S)
noncomputable def f_Roll_isPerson (p1 : Int32) (S : AS) : Option (Int32 × AS) := nm (fun (S1 : AS) => some (0, S1)) fun J16 => if p1 < 0 then (J16 S) else (if (gi S 16 3) ≤ p1 then (J16 S) else (some (1, S)))
set_option maxHeartbeats 4000000 in
theorem v_Roll_isPerson {G : GX} (p1 : Int32) (S : AS) : V G md_Roll_isPerson (QM G md_Roll_isPerson iI) (fun _ => True) (some none) 0 [some (.ref 16), some (.int p1)] [] 0 0 S (f_Roll_isPerson p1 S) := by
  unfold f_Roll_isPerson
  refine x_iload_n d_Roll_isPerson_0 rfl ?_
  refine x_nm (fun J16 hJ16 => ?_)
  have kJ16 : ∀ (S1 : AS), V G md_Roll_isPerson (QM G md_Roll_isPerson iI) (fun _ => True) (some none) 16 [none, none] [] 0 0 S1 (J16 S1) := by
    subst hJ16
    intro S1
    refine x_iconst (v := 0) d_Roll_isPerson_16 (by decide) ?_
    exact x_ret d_Roll_isPerson_17 rfl rfl (Nat.le_of_ble_eq_true rfl) (Nat.le_of_ble_eq_true rfl)
  clear hJ16
  refine x_if_lt (tgt := 16) d_Roll_isPerson_1 (by decide) (fun _ => ?_) (fun _ => ?_)
  · exact V.kw (kJ16 S) trivial
  · refine x_iload_n d_Roll_isPerson_4 rfl ?_
    refine x_aload_n_ref d_Roll_isPerson_5 rfl ?_
    refine x_geti d_Roll_isPerson_6 fl_Roll_30 ak_16 (q99 (by decide)) ?_
    refine x_icmp_ge (tgt := 16) d_Roll_isPerson_9 (by decide) (fun _ => ?_) (fun _ => ?_)
    · exact V.kw (kJ16 S) trivial
    · refine x_iconst (v := 1) d_Roll_isPerson_12 (by decide) ?_
      refine x_goto (tgt := 17) d_Roll_isPerson_13 (by decide) ?_
      exact x_ret d_Roll_isPerson_17 rfl rfl (Nat.le_of_ble_eq_true rfl) (Nat.le_of_ble_eq_true rfl)
theorem c_Roll_isPerson {G : GX} (p1 : Int32) (S : AS) : CN G y_Roll_isPerson b_Roll_isPerson 2 (some (FieldType.boolean)) ({ frames := 0, cells := 0, slots := 0, locals := 0 } : Room) (some none) iI [.ref 16, .int p1] S (f_Roll_isPerson p1 S) := cn_of_v (M := md_Roll_isPerson) (ini := false) rfl (by decide +kernel) (fun h => nomatch h) rfl (Nat.le_of_ble_eq_true rfl) (v_Roll_isPerson p1 S)
noncomputable def f_Chan_seat (p1 : Int32) (p2 : Int32) (S : AS) : Option (Int32 × AS) := bI (f_Roll_isPost p1 S) fun r2 S1 => if r2 = 0 then (some (0, S1)) else (nm (fun (S3 : AS) => if (gi S3 32 4) ≤ 0 then (bV (f_Roll_putSeat p1 p2 S3) fun S4 => some (1, S4)) else (some (0, S3))) fun J27 => if p2 = (-1) then (J27 S1) else (bI (f_Roll_isPerson p2 S1) fun r6 S5 => if r6 = 0 then (some (0, S5)) else (J27 S5)))
set_option maxHeartbeats 4000000 in
theorem v_Chan_seat {G : GX} (p1 : Int32) (p2 : Int32) (S : AS) : V G md_Chan_seat (QM G md_Chan_seat iI) (fun _ => True) (some none) 0 [some (.ref 0), some (.int p1), some (.int p2)] [] 0 0 S (f_Chan_seat p1 p2 S) := by
  unfold f_Chan_seat
  refine x_aload_n_ref d_Chan_seat_0 rfl ?_
  refine x_getr d_Chan_seat_1 fl_Chan_28 ak_0 (q99 (by decide)) (shx sh_0_2) ?_
  refine x_iload_n d_Chan_seat_4 rfl ?_
  refine x_vI (b' := (some none)) (As := [.int p1]) d_Chan_seat_5 mv_Chan_113 rfl (fun _ => ak_16) rfl (q99 (by decide)) ⟨Nat.le_of_ble_eq_true rfl, Nat.le_of_ble_eq_true rfl⟩ (Nat.le_of_ble_eq_true rfl) ⟨Nat.le_of_ble_eq_true rfl, Nat.le_of_ble_eq_true rfl⟩ (fun _ h => h) (fun h => ⟨h, c_Roll_isPost p1 _⟩) (fun r2 S1 => ?_)
  refine x_if_eq (tgt := 37) d_Chan_seat_8 (by decide) (fun _ => ?_) (fun _ => ?_)
  · refine x_iconst (v := 0) d_Chan_seat_37 (by decide) ?_
    exact x_ret d_Chan_seat_38 rfl rfl (Nat.le_of_ble_eq_true rfl) (Nat.le_of_ble_eq_true rfl)
  · refine x_iload_n d_Chan_seat_11 rfl ?_
    refine x_iconst (v := -1) d_Chan_seat_12 (by decide) ?_
    refine x_nm (fun J27 hJ27 => ?_)
    have kJ27 : ∀ (S3 : AS), V G md_Chan_seat (QM G md_Chan_seat iI) (fun _ => True) (some none) 27 [some (.ref 0), some (.int p1), some (.int p2)] [] 0 0 S3 (J27 S3) := by
      subst hJ27
      intro S3
      refine x_aload_n_ref d_Chan_seat_27 rfl ?_
      refine x_getr d_Chan_seat_28 fl_Chan_42 ak_0 (q99 (by decide)) (shx sh_0_4) ?_
      refine x_geti d_Chan_seat_31 fl_Chan_119 ak_32 (q99 (by decide)) ?_
      refine x_if_le (tgt := 39) d_Chan_seat_34 (by decide) (fun _ => ?_) (fun _ => ?_)
      · refine x_aload_n_ref d_Chan_seat_39 rfl ?_
        refine x_getr d_Chan_seat_40 fl_Chan_28 ak_0 (q99 (by decide)) (shx sh_0_2) ?_
        refine x_iload_n d_Chan_seat_43 rfl ?_
        refine x_iload_n d_Chan_seat_44 rfl ?_
        refine x_vV (b' := (some none)) (As := [.int p1, .int p2]) d_Chan_seat_45 mv_Chan_122 rfl (fun _ => ak_16) rfl (q99 (by decide)) ⟨Nat.le_of_ble_eq_true rfl, Nat.le_of_ble_eq_true rfl⟩ (Nat.le_of_ble_eq_true rfl) ⟨Nat.le_of_ble_eq_true rfl, Nat.le_of_ble_eq_true rfl⟩ (fun _ h => h) (fun h => ⟨h, c_Roll_putSeat p1 p2 _⟩) (fun S4 => ?_)
        refine x_iconst (v := 1) d_Chan_seat_48 (by decide) ?_
        exact x_ret d_Chan_seat_49 rfl rfl (Nat.le_of_ble_eq_true rfl) (Nat.le_of_ble_eq_true rfl)
      · refine x_iconst (v := 0) d_Chan_seat_37 (by decide) ?_
        exact x_ret d_Chan_seat_38 rfl rfl (Nat.le_of_ble_eq_true rfl) (Nat.le_of_ble_eq_true rfl)
    clear hJ27
    refine x_icmp_eq (tgt := 27) d_Chan_seat_13 (by decide) (fun _ => ?_) (fun _ => ?_)
    · exact V.kw (kJ27 S1) ⟨rfl, rfl, rfl, trivial⟩
    · refine x_aload_n_ref d_Chan_seat_16 rfl ?_
      refine x_getr d_Chan_seat_17 fl_Chan_28 ak_0 (q99 (by decide)) (shx sh_0_2) ?_
      refine x_iload_n d_Chan_seat_20 rfl ?_
      refine x_vI (b' := (some none)) (As := [.int p2]) d_Chan_seat_21 mv_Chan_116 rfl (fun _ => ak_16) rfl (q99 (by decide)) ⟨Nat.le_of_ble_eq_true rfl, Nat.le_of_ble_eq_true rfl⟩ (Nat.le_of_ble_eq_true rfl) ⟨Nat.le_of_ble_eq_true rfl, Nat.le_of_ble_eq_true rfl⟩ (fun _ h => h) (fun h => ⟨h, c_Roll_isPerson p2 _⟩) (fun r6 S5 => ?_)
      refine x_if_eq (tgt := 37) d_Chan_seat_24 (by decide) (fun _ => ?_) (fun _ => ?_)
      · refine x_iconst (v := 0) d_Chan_seat_37 (by decide) ?_
        exact x_ret d_Chan_seat_38 rfl rfl (Nat.le_of_ble_eq_true rfl) (Nat.le_of_ble_eq_true rfl)
      · exact V.kw (kJ27 S5) ⟨rfl, rfl, rfl, trivial⟩
theorem c_Chan_seat {G : GX} (p1 : Int32) (p2 : Int32) (S : AS) : CN G y_Chan_seat b_Chan_seat 3 (some (FieldType.boolean)) ({ frames := 2, cells := 0, slots := 0, locals := 43 } : Room) (some none) iI [.ref 0, .int p1, .int p2] S (f_Chan_seat p1 p2 S) := cn_of_v (M := md_Chan_seat) (ini := false) rfl (by decide +kernel) (fun h => nomatch h) rfl (Nat.le_of_ble_eq_true rfl) (v_Chan_seat p1 p2 S)
noncomputable def f_Chan_fault (p1 : Int32) (S : AS) : Option (Int32 × AS) := if p1 = 0 then (some (gi S 3 4, S)) else (if p1 = 1 then (some (gi S 3 5, S)) else (some ((-1), S)))
set_option maxHeartbeats 4000000 in
theorem v_Chan_fault {G : GX} (p1 : Int32) (S : AS) : V G md_Chan_fault (QM G md_Chan_fault iI) (fun _ => True) (some none) 0 [some (.ref 0), some (.int p1)] [] 0 0 S (f_Chan_fault p1 S) := by
  unfold f_Chan_fault
  refine x_iload_n d_Chan_fault_0 rfl ?_
  refine x_ite (fun hs1 => ?_) (fun hs1 => ?_)
  · refine x_lsw (tgt := 28) d_Chan_fault_1 (by decide) (lsw_0 hs1) (by decide) ?_
    refine x_aload_n_ref d_Chan_fault_28 rfl ?_
    refine x_getr d_Chan_fault_29 fl_Chan_21 ak_0 (q99 (by decide)) (shx sh_0_1) ?_
    refine x_geti d_Chan_fault_32 fl_Chan_149 ak_3 (q99 (by decide)) ?_
    exact x_ret d_Chan_fault_35 rfl rfl (Nat.le_of_ble_eq_true rfl) (Nat.le_of_ble_eq_true rfl)
  · refine x_ite (fun hs2 => ?_) (fun hs2 => ?_)
    · refine x_lsw (tgt := 36) d_Chan_fault_1 (by decide) (lsw_1 hs2) (by decide) ?_
      refine x_aload_n_ref d_Chan_fault_36 rfl ?_
      refine x_getr d_Chan_fault_37 fl_Chan_21 ak_0 (q99 (by decide)) (shx sh_0_1) ?_
      refine x_geti d_Chan_fault_40 fl_Chan_152 ak_3 (q99 (by decide)) ?_
      exact x_ret d_Chan_fault_43 rfl rfl (Nat.le_of_ble_eq_true rfl) (Nat.le_of_ble_eq_true rfl)
    · refine x_lsw (tgt := 44) d_Chan_fault_1 (by decide) (lsw_d hs1 hs2) (by decide) ?_
      refine x_iconst (v := -1) d_Chan_fault_44 (by decide) ?_
      exact x_ret d_Chan_fault_45 rfl rfl (Nat.le_of_ble_eq_true rfl) (Nat.le_of_ble_eq_true rfl)
theorem c_Chan_fault {G : GX} (p1 : Int32) (S : AS) : CN G y_Chan_fault b_Chan_fault 2 (some (FieldType.int)) ({ frames := 0, cells := 0, slots := 0, locals := 0 } : Room) (some none) iI [.ref 0, .int p1] S (f_Chan_fault p1 S) := cn_of_v (M := md_Chan_fault) (ini := false) rfl (by decide +kernel) (fun h => nomatch h) rfl (Nat.le_of_ble_eq_true rfl) (v_Chan_fault p1 S)
noncomputable def f_PaperBox_isFull (S : AS) : Option (Int32 × AS) := if (gi S 23 8) < 48 then (some (0, S)) else (some (1, S))
set_option maxHeartbeats 4000000 in
theorem v_PaperBox_isFull {G : GX} (S : AS) : V G md_PaperBox_isFull (QM G md_PaperBox_isFull iI) (fun _ => True) (some none) 0 [some (.ref 23)] [] 0 0 S (f_PaperBox_isFull S) := by
  unfold f_PaperBox_isFull
  refine x_aload_n_ref d_PaperBox_isFull_0 rfl ?_
  refine x_geti d_PaperBox_isFull_1 fl_PaperBox_36 ak_23 (q99 (by decide)) ?_
  refine x_bipush (v := 48) d_PaperBox_isFull_4 (by decide) ?_
  refine x_icmp_lt (tgt := 13) d_PaperBox_isFull_6 (by decide) (fun _ => ?_) (fun _ => ?_)
  · refine x_iconst (v := 0) d_PaperBox_isFull_13 (by decide) ?_
    exact x_ret d_PaperBox_isFull_14 rfl rfl (Nat.le_of_ble_eq_true rfl) (Nat.le_of_ble_eq_true rfl)
  · refine x_iconst (v := 1) d_PaperBox_isFull_9 (by decide) ?_
    refine x_goto (tgt := 14) d_PaperBox_isFull_10 (by decide) ?_
    exact x_ret d_PaperBox_isFull_14 rfl rfl (Nat.le_of_ble_eq_true rfl) (Nat.le_of_ble_eq_true rfl)
theorem c_PaperBox_isFull {G : GX} (S : AS) : CN G y_PaperBox_isFull b_PaperBox_isFull 1 (some (FieldType.boolean)) ({ frames := 0, cells := 0, slots := 0, locals := 0 } : Room) (some none) iI [.ref 23] S (f_PaperBox_isFull S) := cn_of_v (M := md_PaperBox_isFull) (ini := false) rfl (by decide +kernel) (fun h => nomatch h) rfl (Nat.le_of_ble_eq_true rfl) (v_PaperBox_isFull S)
noncomputable def f_Gazette_isFull (S : AS) : Option (Int32 × AS) := if (gi S 32 4) < 160 then (some (0, S)) else (some (1, S))
set_option maxHeartbeats 4000000 in
theorem v_Gazette_isFull {G : GX} (S : AS) : V G md_Gazette_isFull (QM G md_Gazette_isFull iI) (fun _ => True) (some none) 0 [some (.ref 32)] [] 0 0 S (f_Gazette_isFull S) := by
  unfold f_Gazette_isFull
  refine x_aload_n_ref d_Gazette_isFull_0 rfl ?_
  refine x_geti d_Gazette_isFull_1 fl_Gazette_27 ak_32 (q99 (by decide)) ?_
  refine x_sipush (v := 160) d_Gazette_isFull_4 (by decide) ?_
  refine x_icmp_lt (tgt := 14) d_Gazette_isFull_7 (by decide) (fun _ => ?_) (fun _ => ?_)
  · refine x_iconst (v := 0) d_Gazette_isFull_14 (by decide) ?_
    exact x_ret d_Gazette_isFull_15 rfl rfl (Nat.le_of_ble_eq_true rfl) (Nat.le_of_ble_eq_true rfl)
  · refine x_iconst (v := 1) d_Gazette_isFull_10 (by decide) ?_
    refine x_goto (tgt := 15) d_Gazette_isFull_11 (by decide) ?_
    exact x_ret d_Gazette_isFull_15 rfl rfl (Nat.le_of_ble_eq_true rfl) (Nat.le_of_ble_eq_true rfl)
theorem c_Gazette_isFull {G : GX} (S : AS) : CN G y_Gazette_isFull b_Gazette_isFull 1 (some (FieldType.boolean)) ({ frames := 0, cells := 0, slots := 0, locals := 0 } : Room) (some none) iI [.ref 32] S (f_Gazette_isFull S) := cn_of_v (M := md_Gazette_isFull) (ini := false) rfl (by decide +kernel) (fun h => nomatch h) rfl (Nat.le_of_ble_eq_true rfl) (v_Gazette_isFull S)
noncomputable def f_Gazette_putInOrder_L18 (J64 : Int32 → AS → Option AS) (x1 : Int32) : Nat → Int32 → AS → Option AS
  | 0, _, _ => none
  | n + 1, c2, S => if c2 ≤ 0 then (J64 c2 S) else (chk (vp_in (c2 - 1) 160) (chk (vp_in (gi S 37 (ix (c2 - 1))) 161) (chk (vp_in x1 161) (if (gi S 34 (ix (gi S 37 (ix (c2 - 1))))) ≤ (gi S 34 (ix x1)) then (J64 c2 S) else (chk (vp_in (c2 - 1) 160) (chk (vp_in c2 160) (nm (si S 37 (ix c2) (gi S 37 (ix (c2 - 1)))) fun S6 => f_Gazette_putInOrder_L18 J64 x1 n (c2 + (-1)) S6)))))))
noncomputable def f_Gazette_putInOrder (p1 : Int32) (S : AS) : Option AS := if (gi S 32 6) < 160 then (nm (gi S 32 6) fun v1 => nm (fun (a2 : Int32) (S3 : AS) => chk (vp_in a2 160) (nm (si S3 37 (ix a2) p1) fun S4 => nm (si S4 32 6 ((gi S4 32 6) + 1)) fun S5 => some S5)) fun J64 => f_Gazette_putInOrder_L18 J64 p1 FU v1 S) else (some S)
set_option maxHeartbeats 4000000 in
theorem v_Gazette_putInOrder_L18 {G : GX} (J64 : Int32 → AS → Option AS) (x1 : Int32) (kJ64 : ∀ (a2 : Int32) (T : AS), V G md_Gazette_putInOrder (QM G md_Gazette_putInOrder iV) (fun _ => True) (some none) 64 [some (.ref 32), some (.int x1), some (.int a2)] [] 0 0 T (J64 a2 T)) : ∀ (n : Nat) (c2 : Int32) (S : AS), V G md_Gazette_putInOrder (QM G md_Gazette_putInOrder iV) (fun _ => True) (some none) 18 [some (.ref 32), some (.int x1), some (.int c2)] [] 0 0 S (f_Gazette_putInOrder_L18 J64 x1 n c2 S) := by
  intro n
  induction n with
  | zero => intro c2 S; exact V.none
  | succ n ih =>
    intro c2 S
    rw [f_Gazette_putInOrder_L18]
    refine x_iload_n d_Gazette_putInOrder_18 rfl ?_
    refine x_if_le (tgt := 64) d_Gazette_putInOrder_19 (by decide) (fun _ => ?_) (fun _ => ?_)
    · exact V.kw (kJ64 c2 S) ⟨rfl, rfl, rfl, trivial⟩
    · refine x_aload_n_ref d_Gazette_putInOrder_22 rfl ?_
      refine x_getr d_Gazette_putInOrder_23 fl_Gazette_15 ak_32 (q99 (by decide)) (shx sh_32_1) ?_
      refine x_aload_n_ref d_Gazette_putInOrder_26 rfl ?_
      refine x_getr d_Gazette_putInOrder_27 fl_Gazette_24 ak_32 (q99 (by decide)) (shx sh_32_5) ?_
      refine x_iload_n d_Gazette_putInOrder_30 rfl ?_
      refine x_iconst (v := 1) d_Gazette_putInOrder_31 (by decide) ?_
      refine x_isub d_Gazette_putInOrder_32 ?_
      refine x_iald d_Gazette_putInOrder_33 ak_37 (q99 (by decide)) ?_
      refine x_iald d_Gazette_putInOrder_34 ak_34 (q99 (by decide)) ?_
      refine x_aload_n_ref d_Gazette_putInOrder_35 rfl ?_
      refine x_getr d_Gazette_putInOrder_36 fl_Gazette_15 ak_32 (q99 (by decide)) (shx sh_32_1) ?_
      refine x_iload_n d_Gazette_putInOrder_39 rfl ?_
      refine x_iald d_Gazette_putInOrder_40 ak_34 (q99 (by decide)) ?_
      refine x_icmp_le (tgt := 64) d_Gazette_putInOrder_41 (by decide) (fun _ => ?_) (fun _ => ?_)
      · exact V.kw (kJ64 c2 S) ⟨rfl, rfl, rfl, trivial⟩
      · refine x_aload_n_ref d_Gazette_putInOrder_44 rfl ?_
        refine x_getr d_Gazette_putInOrder_45 fl_Gazette_24 ak_32 (q99 (by decide)) (shx sh_32_5) ?_
        refine x_iload_n d_Gazette_putInOrder_48 rfl ?_
        refine x_aload_n_ref d_Gazette_putInOrder_49 rfl ?_
        refine x_getr d_Gazette_putInOrder_50 fl_Gazette_24 ak_32 (q99 (by decide)) (shx sh_32_5) ?_
        refine x_iload_n d_Gazette_putInOrder_53 rfl ?_
        refine x_iconst (v := 1) d_Gazette_putInOrder_54 (by decide) ?_
        refine x_isub d_Gazette_putInOrder_55 ?_
        refine x_iald d_Gazette_putInOrder_56 ak_37 (q99 (by decide)) ?_
        refine x_iast d_Gazette_putInOrder_57 ak_37 (q99 (by decide)) ?_
        refine x_nmS (fun S6 _ => ?_)
        refine x_iinc (w := c2 + (-1)) (lc' := [some (.ref 32), some (.int x1), some (.int (c2 + (-1)))]) d_Gazette_putInOrder_58 (by decide) rfl rfl rfl ?_
        refine x_goto (tgt := 18) d_Gazette_putInOrder_61 (by decide) ?_
        exact V.kw (ih (c2 + (-1)) S6) ⟨rfl, rfl, rfl, trivial⟩
set_option maxHeartbeats 4000000 in
theorem v_Gazette_putInOrder {G : GX} (p1 : Int32) (S : AS) : V G md_Gazette_putInOrder (QM G md_Gazette_putInOrder iV) (fun _ => True) (some none) 0 [some (.ref 32), some (.int p1), none] [] 0 0 S (f_Gazette_putInOrder p1 S) := by
  unfold f_Gazette_putInOrder
  refine x_aload_n_ref d_Gazette_putInOrder_0 rfl ?_
  refine x_geti d_Gazette_putInOrder_1 fl_Gazette_39 ak_32 (q99 (by decide)) ?_
  refine x_aload_n_ref d_Gazette_putInOrder_4 rfl ?_
  refine x_getr d_Gazette_putInOrder_5 fl_Gazette_24 ak_32 (q99 (by decide)) (shx sh_32_5) ?_
  refine x_alen (v := 160) d_Gazette_putInOrder_8 ak_37 (by decide) (by decide) (q99 (by decide)) ?_
  refine x_icmp_lt (tgt := 13) d_Gazette_putInOrder_9 (by decide) (fun _ => ?_) (fun _ => ?_)
  · refine x_aload_n_ref d_Gazette_putInOrder_13 rfl ?_
    refine x_geti d_Gazette_putInOrder_14 fl_Gazette_39 ak_32 (q99 (by decide)) ?_
    refine x_topi (fun v1 => ?_)
    refine x_istore_n (lc' := [some (.ref 32), some (.int p1), some (.int v1)]) d_Gazette_putInOrder_17 (by decide) rfl ?_
    refine x_nm (fun J64 hJ64 => ?_)
    have kJ64 : ∀ (a2 : Int32) (S3 : AS), V G md_Gazette_putInOrder (QM G md_Gazette_putInOrder iV) (fun _ => True) (some none) 64 [some (.ref 32), some (.int p1), some (.int a2)] [] 0 0 S3 (J64 a2 S3) := by
      subst hJ64
      intro a2 S3
      refine x_aload_n_ref d_Gazette_putInOrder_64 rfl ?_
      refine x_getr d_Gazette_putInOrder_65 fl_Gazette_24 ak_32 (q99 (by decide)) (shx sh_32_5) ?_
      refine x_iload_n d_Gazette_putInOrder_68 rfl ?_
      refine x_iload_n d_Gazette_putInOrder_69 rfl ?_
      refine x_iast d_Gazette_putInOrder_70 ak_37 (q99 (by decide)) ?_
      refine x_nmS (fun S4 _ => ?_)
      refine x_aload_n_ref d_Gazette_putInOrder_71 rfl ?_
      refine x_dup d_Gazette_putInOrder_72 rfl ?_
      refine x_geti d_Gazette_putInOrder_73 fl_Gazette_39 ak_32 (q99 (by decide)) ?_
      refine x_iconst (v := 1) d_Gazette_putInOrder_76 (by decide) ?_
      refine x_iadd d_Gazette_putInOrder_77 ?_
      refine x_puti d_Gazette_putInOrder_78 fl_Gazette_39 rfl ak_32 (q99 (by decide)) (fun h => nomatch h) (fun h => nomatch h) ?_
      refine x_nmS (fun S5 _ => ?_)
      exact x_vret d_Gazette_putInOrder_81 rfl (Nat.le_of_ble_eq_true rfl) (Nat.le_of_ble_eq_true rfl)
    clear hJ64
    exact V.kw (v_Gazette_putInOrder_L18 J64 p1 kJ64 FU v1 S) ⟨rfl, rfl, rfl, trivial⟩
  · exact x_vret d_Gazette_putInOrder_12 rfl (Nat.le_of_ble_eq_true rfl) (Nat.le_of_ble_eq_true rfl)
theorem c_Gazette_putInOrder {G : GX} (p1 : Int32) (S : AS) : CN G y_Gazette_putInOrder b_Gazette_putInOrder 3 none ({ frames := 0, cells := 0, slots := 0, locals := 0 } : Room) (some none) iV [.ref 32, .int p1] S (f_Gazette_putInOrder p1 S) := cn_of_v (M := md_Gazette_putInOrder) (ini := false) rfl (by decide +kernel) (fun h => nomatch h) rfl (Nat.le_of_ble_eq_true rfl) (v_Gazette_putInOrder p1 S)
noncomputable def f_Gazette_add (p1 : Int32) (p2 : Int32) (p3 : Int32) (p4 : Int32) (S : AS) : Option (Int32 × AS) := bI (f_Gazette_isFull S) fun r2 S1 => if r2 = 0 then (nm (si S1 32 4 ((gi S1 32 4) + 1)) fun S3 => chk (vp_in (gi S3 32 4) 161) (nm (si S3 33 (ix (gi S3 32 4)) p1) fun S4 => chk (vp_in (gi S4 32 4) 161) (nm (si S4 34 (ix (gi S4 32 4)) p2) fun S5 => chk (vp_in (gi S5 32 4) 161) (nm (si S5 35 (ix (gi S5 32 4)) p3) fun S6 => chk (vp_in (gi S6 32 4) 161) (nm (si S6 36 (ix (gi S6 32 4)) p4) fun S7 => nm (fun (S8 : AS) => some (gi S8 32 4, S8)) fun J73 => if p1 = 4 then (J73 S7) else (bV (f_Gazette_putInOrder (gi S7 32 4) S7) fun S9 => J73 S9)))))) else (some ((-1), S1))
set_option maxHeartbeats 4000000 in
theorem v_Gazette_add {G : GX} (p1 : Int32) (p2 : Int32) (p3 : Int32) (p4 : Int32) (S : AS) : V G md_Gazette_add (QM G md_Gazette_add iI) (fun _ => True) (some none) 0 [some (.ref 32), some (.int p1), some (.int p2), some (.int p3), some (.int p4)] [] 0 0 S (f_Gazette_add p1 p2 p3 p4 S) := by
  unfold f_Gazette_add
  refine x_aload_n_ref d_Gazette_add_0 rfl ?_
  refine x_vI (b' := (some none)) (As := []) d_Gazette_add_1 mv_Gazette_31 rfl (fun _ => ak_32) rfl (q99 (by decide)) ⟨Nat.le_of_ble_eq_true rfl, Nat.le_of_ble_eq_true rfl⟩ (Nat.le_of_ble_eq_true rfl) ⟨Nat.le_of_ble_eq_true rfl, Nat.le_of_ble_eq_true rfl⟩ (fun _ h => h) (fun h => ⟨h, c_Gazette_isFull _⟩) (fun r2 S1 => ?_)
  refine x_if_eq (tgt := 9) d_Gazette_add_4 (by decide) (fun _ => ?_) (fun _ => ?_)
  · refine x_aload_n_ref d_Gazette_add_9 rfl ?_
    refine x_dup d_Gazette_add_10 rfl ?_
    refine x_geti d_Gazette_add_11 fl_Gazette_27 ak_32 (q99 (by decide)) ?_
    refine x_iconst (v := 1) d_Gazette_add_14 (by decide) ?_
    refine x_iadd d_Gazette_add_15 ?_
    refine x_puti d_Gazette_add_16 fl_Gazette_27 rfl ak_32 (q99 (by decide)) (fun h => nomatch h) (fun h => nomatch h) ?_
    refine x_nmS (fun S3 _ => ?_)
    refine x_aload_n_ref d_Gazette_add_19 rfl ?_
    refine x_getr d_Gazette_add_20 fl_Gazette_9 ak_32 (q99 (by decide)) (shx sh_32_0) ?_
    refine x_aload_n_ref d_Gazette_add_23 rfl ?_
    refine x_geti d_Gazette_add_24 fl_Gazette_27 ak_32 (q99 (by decide)) ?_
    refine x_iload_n d_Gazette_add_27 rfl ?_
    refine x_iast d_Gazette_add_28 ak_33 (q99 (by decide)) ?_
    refine x_nmS (fun S4 _ => ?_)
    refine x_aload_n_ref d_Gazette_add_29 rfl ?_
    refine x_getr d_Gazette_add_30 fl_Gazette_15 ak_32 (q99 (by decide)) (shx sh_32_1) ?_
    refine x_aload_n_ref d_Gazette_add_33 rfl ?_
    refine x_geti d_Gazette_add_34 fl_Gazette_27 ak_32 (q99 (by decide)) ?_
    refine x_iload_n d_Gazette_add_37 rfl ?_
    refine x_iast d_Gazette_add_38 ak_34 (q99 (by decide)) ?_
    refine x_nmS (fun S5 _ => ?_)
    refine x_aload_n_ref d_Gazette_add_39 rfl ?_
    refine x_getr d_Gazette_add_40 fl_Gazette_18 ak_32 (q99 (by decide)) (shx sh_32_2) ?_
    refine x_aload_n_ref d_Gazette_add_43 rfl ?_
    refine x_geti d_Gazette_add_44 fl_Gazette_27 ak_32 (q99 (by decide)) ?_
    refine x_iload_n d_Gazette_add_47 rfl ?_
    refine x_iast d_Gazette_add_48 ak_35 (q99 (by decide)) ?_
    refine x_nmS (fun S6 _ => ?_)
    refine x_aload_n_ref d_Gazette_add_49 rfl ?_
    refine x_getr d_Gazette_add_50 fl_Gazette_21 ak_32 (q99 (by decide)) (shx sh_32_3) ?_
    refine x_aload_n_ref d_Gazette_add_53 rfl ?_
    refine x_geti d_Gazette_add_54 fl_Gazette_27 ak_32 (q99 (by decide)) ?_
    refine x_iload d_Gazette_add_57 rfl ?_
    refine x_iast d_Gazette_add_59 ak_36 (q99 (by decide)) ?_
    refine x_nmS (fun S7 _ => ?_)
    refine x_iload_n d_Gazette_add_60 rfl ?_
    refine x_iconst (v := 4) d_Gazette_add_61 (by decide) ?_
    refine x_nm (fun J73 hJ73 => ?_)
    have kJ73 : ∀ (S8 : AS), V G md_Gazette_add (QM G md_Gazette_add iI) (fun _ => True) (some none) 73 [some (.ref 32), none, none, none, none] [] 0 0 S8 (J73 S8) := by
      subst hJ73
      intro S8
      refine x_aload_n_ref d_Gazette_add_73 rfl ?_
      refine x_geti d_Gazette_add_74 fl_Gazette_27 ak_32 (q99 (by decide)) ?_
      exact x_ret d_Gazette_add_77 rfl rfl (Nat.le_of_ble_eq_true rfl) (Nat.le_of_ble_eq_true rfl)
    clear hJ73
    refine x_icmp_eq (tgt := 73) d_Gazette_add_62 (by decide) (fun _ => ?_) (fun _ => ?_)
    · exact V.kw (kJ73 S7) ⟨rfl, trivial⟩
    · refine x_aload_n_ref d_Gazette_add_65 rfl ?_
      refine x_aload_n_ref d_Gazette_add_66 rfl ?_
      refine x_geti d_Gazette_add_67 fl_Gazette_27 ak_32 (q99 (by decide)) ?_
      refine x_vV (b' := (some none)) (As := [.int (gi S7 32 4)]) d_Gazette_add_70 mv_Gazette_35 rfl (fun _ => ak_32) rfl (q99 (by decide)) ⟨Nat.le_of_ble_eq_true rfl, Nat.le_of_ble_eq_true rfl⟩ (Nat.le_of_ble_eq_true rfl) ⟨Nat.le_of_ble_eq_true rfl, Nat.le_of_ble_eq_true rfl⟩ (fun _ h => h) (fun h => ⟨h, c_Gazette_putInOrder (gi S7 32 4) _⟩) (fun S9 => ?_)
      exact V.kw (kJ73 S9) ⟨rfl, trivial⟩
  · refine x_iconst (v := -1) d_Gazette_add_7 (by decide) ?_
    exact x_ret d_Gazette_add_8 rfl rfl (Nat.le_of_ble_eq_true rfl) (Nat.le_of_ble_eq_true rfl)
theorem c_Gazette_add {G : GX} (p1 : Int32) (p2 : Int32) (p3 : Int32) (p4 : Int32) (S : AS) : CN G y_Gazette_add b_Gazette_add 5 (some (FieldType.int)) ({ frames := 1, cells := 0, slots := 0, locals := 22 } : Room) (some none) iI [.ref 32, .int p1, .int p2, .int p3, .int p4] S (f_Gazette_add p1 p2 p3 p4 S) := cn_of_v (M := md_Gazette_add) (ini := false) rfl (by decide +kernel) (fun h => nomatch h) rfl (Nat.le_of_ble_eq_true rfl) (v_Gazette_add p1 p2 p3 p4 S)
noncomputable def f_PaperBox_add (p1 : Int32) (p2 : Int32) (p3 : Int32) (p4 : Int32) (p5 : Int32) (p6 : Int32) (p7 : Int32) (S : AS) : Option AS := bI (f_PaperBox_isFull S) fun r2 S1 => if r2 = 0 then (chk (vp_in (gi S1 23 8) 48) (nm (si S1 24 (ix (gi S1 23 8)) p1) fun S3 => chk (vp_in (gi S3 23 8) 48) (nm (si S3 25 (ix (gi S3 23 8)) p2) fun S4 => chk (vp_in (gi S4 23 8) 48) (nm (si S4 26 (ix (gi S4 23 8)) p3) fun S5 => chk (vp_in (gi S5 23 8) 48) (nm (si S5 27 (ix (gi S5 23 8)) p4) fun S6 => chk (vp_in (gi S6 23 8) 48) (nm (si S6 28 (ix (gi S6 23 8)) p5) fun S7 => chk (vp_in (gi S7 23 8) 48) (nm (si S7 29 (ix (gi S7 23 8)) p6) fun S8 => chk (vp_in (gi S8 23 8) 48) (nm (si S8 30 (ix (gi S8 23 8)) p7) fun S9 => chk (vp_in (gi S9 23 8) 48) (nm (si S9 31 (ix (gi S9 23 8)) (-1)) fun S10 => nm (si S10 23 8 ((gi S10 23 8) + 1)) fun S11 => some S11))))))))) else (some S1)
set_option maxHeartbeats 4000000 in
theorem v_PaperBox_add {G : GX} (p1 : Int32) (p2 : Int32) (p3 : Int32) (p4 : Int32) (p5 : Int32) (p6 : Int32) (p7 : Int32) (S : AS) : V G md_PaperBox_add (QM G md_PaperBox_add iV) (fun _ => True) (some none) 0 [some (.ref 23), some (.int p1), some (.int p2), some (.int p3), some (.int p4), some (.int p5), some (.int p6), some (.int p7)] [] 0 0 S (f_PaperBox_add p1 p2 p3 p4 p5 p6 p7 S) := by
  unfold f_PaperBox_add
  refine x_aload_n_ref d_PaperBox_add_0 rfl ?_
  refine x_vI (b' := (some none)) (As := []) d_PaperBox_add_1 mv_PaperBox_44 rfl (fun _ => ak_23) rfl (q99 (by decide)) ⟨Nat.le_of_ble_eq_true rfl, Nat.le_of_ble_eq_true rfl⟩ (Nat.le_of_ble_eq_true rfl) ⟨Nat.le_of_ble_eq_true rfl, Nat.le_of_ble_eq_true rfl⟩ (fun _ h => h) (fun h => ⟨h, c_PaperBox_isFull _⟩) (fun r2 S1 => ?_)
  refine x_if_eq (tgt := 8) d_PaperBox_add_4 (by decide) (fun _ => ?_) (fun _ => ?_)
  · refine x_aload_n_ref d_PaperBox_add_8 rfl ?_
    refine x_getr d_PaperBox_add_9 fl_PaperBox_9 ak_23 (q99 (by decide)) (shx sh_23_0) ?_
    refine x_aload_n_ref d_PaperBox_add_12 rfl ?_
    refine x_geti d_PaperBox_add_13 fl_PaperBox_36 ak_23 (q99 (by decide)) ?_
    refine x_iload_n d_PaperBox_add_16 rfl ?_
    refine x_iast d_PaperBox_add_17 ak_24 (q99 (by decide)) ?_
    refine x_nmS (fun S3 _ => ?_)
    refine x_aload_n_ref d_PaperBox_add_18 rfl ?_
    refine x_getr d_PaperBox_add_19 fl_PaperBox_15 ak_23 (q99 (by decide)) (shx sh_23_1) ?_
    refine x_aload_n_ref d_PaperBox_add_22 rfl ?_
    refine x_geti d_PaperBox_add_23 fl_PaperBox_36 ak_23 (q99 (by decide)) ?_
    refine x_iload_n d_PaperBox_add_26 rfl ?_
    refine x_iast d_PaperBox_add_27 ak_25 (q99 (by decide)) ?_
    refine x_nmS (fun S4 _ => ?_)
    refine x_aload_n_ref d_PaperBox_add_28 rfl ?_
    refine x_getr d_PaperBox_add_29 fl_PaperBox_18 ak_23 (q99 (by decide)) (shx sh_23_2) ?_
    refine x_aload_n_ref d_PaperBox_add_32 rfl ?_
    refine x_geti d_PaperBox_add_33 fl_PaperBox_36 ak_23 (q99 (by decide)) ?_
    refine x_iload_n d_PaperBox_add_36 rfl ?_
    refine x_iast d_PaperBox_add_37 ak_26 (q99 (by decide)) ?_
    refine x_nmS (fun S5 _ => ?_)
    refine x_aload_n_ref d_PaperBox_add_38 rfl ?_
    refine x_getr d_PaperBox_add_39 fl_PaperBox_21 ak_23 (q99 (by decide)) (shx sh_23_3) ?_
    refine x_aload_n_ref d_PaperBox_add_42 rfl ?_
    refine x_geti d_PaperBox_add_43 fl_PaperBox_36 ak_23 (q99 (by decide)) ?_
    refine x_iload d_PaperBox_add_46 rfl ?_
    refine x_iast d_PaperBox_add_48 ak_27 (q99 (by decide)) ?_
    refine x_nmS (fun S6 _ => ?_)
    refine x_aload_n_ref d_PaperBox_add_49 rfl ?_
    refine x_getr d_PaperBox_add_50 fl_PaperBox_24 ak_23 (q99 (by decide)) (shx sh_23_4) ?_
    refine x_aload_n_ref d_PaperBox_add_53 rfl ?_
    refine x_geti d_PaperBox_add_54 fl_PaperBox_36 ak_23 (q99 (by decide)) ?_
    refine x_iload d_PaperBox_add_57 rfl ?_
    refine x_iast d_PaperBox_add_59 ak_28 (q99 (by decide)) ?_
    refine x_nmS (fun S7 _ => ?_)
    refine x_aload_n_ref d_PaperBox_add_60 rfl ?_
    refine x_getr d_PaperBox_add_61 fl_PaperBox_27 ak_23 (q99 (by decide)) (shx sh_23_5) ?_
    refine x_aload_n_ref d_PaperBox_add_64 rfl ?_
    refine x_geti d_PaperBox_add_65 fl_PaperBox_36 ak_23 (q99 (by decide)) ?_
    refine x_iload d_PaperBox_add_68 rfl ?_
    refine x_iast d_PaperBox_add_70 ak_29 (q99 (by decide)) ?_
    refine x_nmS (fun S8 _ => ?_)
    refine x_aload_n_ref d_PaperBox_add_71 rfl ?_
    refine x_getr d_PaperBox_add_72 fl_PaperBox_30 ak_23 (q99 (by decide)) (shx sh_23_6) ?_
    refine x_aload_n_ref d_PaperBox_add_75 rfl ?_
    refine x_geti d_PaperBox_add_76 fl_PaperBox_36 ak_23 (q99 (by decide)) ?_
    refine x_iload d_PaperBox_add_79 rfl ?_
    refine x_iast d_PaperBox_add_81 ak_30 (q99 (by decide)) ?_
    refine x_nmS (fun S9 _ => ?_)
    refine x_aload_n_ref d_PaperBox_add_82 rfl ?_
    refine x_getr d_PaperBox_add_83 fl_PaperBox_33 ak_23 (q99 (by decide)) (shx sh_23_7) ?_
    refine x_aload_n_ref d_PaperBox_add_86 rfl ?_
    refine x_geti d_PaperBox_add_87 fl_PaperBox_36 ak_23 (q99 (by decide)) ?_
    refine x_iconst (v := -1) d_PaperBox_add_90 (by decide) ?_
    refine x_iast d_PaperBox_add_91 ak_31 (q99 (by decide)) ?_
    refine x_nmS (fun S10 _ => ?_)
    refine x_aload_n_ref d_PaperBox_add_92 rfl ?_
    refine x_dup d_PaperBox_add_93 rfl ?_
    refine x_geti d_PaperBox_add_94 fl_PaperBox_36 ak_23 (q99 (by decide)) ?_
    refine x_iconst (v := 1) d_PaperBox_add_97 (by decide) ?_
    refine x_iadd d_PaperBox_add_98 ?_
    refine x_puti d_PaperBox_add_99 fl_PaperBox_36 rfl ak_23 (q99 (by decide)) (fun h => nomatch h) (fun h => nomatch h) ?_
    refine x_nmS (fun S11 _ => ?_)
    exact x_vret d_PaperBox_add_102 rfl (Nat.le_of_ble_eq_true rfl) (Nat.le_of_ble_eq_true rfl)
  · exact x_vret d_PaperBox_add_7 rfl (Nat.le_of_ble_eq_true rfl) (Nat.le_of_ble_eq_true rfl)
theorem c_PaperBox_add {G : GX} (p1 : Int32) (p2 : Int32) (p3 : Int32) (p4 : Int32) (p5 : Int32) (p6 : Int32) (p7 : Int32) (S : AS) : CN G y_PaperBox_add b_PaperBox_add 8 none ({ frames := 1, cells := 0, slots := 0, locals := 20 } : Room) (some none) iV [.ref 23, .int p1, .int p2, .int p3, .int p4, .int p5, .int p6, .int p7] S (f_PaperBox_add p1 p2 p3 p4 p5 p6 p7 S) := cn_of_v (M := md_PaperBox_add) (ini := false) rfl (by decide +kernel) (fun h => nomatch h) rfl (Nat.le_of_ble_eq_true rfl) (v_PaperBox_add p1 p2 p3 p4 p5 p6 p7 S)
noncomputable def f_Chan_isTime (p0 : Int32) (S : AS) : Option (Int32 × AS) := nm (fun (S1 : AS) => some (0, S1)) fun J14 => if p0 < 0 then (J14 S) else (if 9999999 < p0 then (J14 S) else (some (1, S)))
set_option maxHeartbeats 4000000 in
theorem v_Chan_isTime {G : GX} (p0 : Int32) (S : AS) : V G md_Chan_isTime (QM G md_Chan_isTime iI) (fun _ => True) (some none) 0 [some (.int p0)] [] 0 0 S (f_Chan_isTime p0 S) := by
  unfold f_Chan_isTime
  refine x_iload_n d_Chan_isTime_0 rfl ?_
  refine x_nm (fun J14 hJ14 => ?_)
  have kJ14 : ∀ (S1 : AS), V G md_Chan_isTime (QM G md_Chan_isTime iI) (fun _ => True) (some none) 14 [none] [] 0 0 S1 (J14 S1) := by
    subst hJ14
    intro S1
    refine x_iconst (v := 0) d_Chan_isTime_14 (by decide) ?_
    exact x_ret d_Chan_isTime_15 rfl rfl (Nat.le_of_ble_eq_true rfl) (Nat.le_of_ble_eq_true rfl)
  clear hJ14
  refine x_if_lt (tgt := 14) d_Chan_isTime_1 (by decide) (fun _ => ?_) (fun _ => ?_)
  · exact V.kw (kJ14 S) trivial
  · refine x_iload_n d_Chan_isTime_4 rfl ?_
    refine x_ldc (v := 9999999) (List.mem_append_right _ (List.mem_append_right _ (List.mem_append_right _ (List.mem_append_left _ (List.mem_of_getElem? (i := 147) (by decide +kernel)))))) d_Chan_isTime_5 ?_
    refine x_icmp_gt (tgt := 14) d_Chan_isTime_7 (by decide) (fun _ => ?_) (fun _ => ?_)
    · exact V.kw (kJ14 S) trivial
    · refine x_iconst (v := 1) d_Chan_isTime_10 (by decide) ?_
      refine x_goto (tgt := 15) d_Chan_isTime_11 (by decide) ?_
      exact x_ret d_Chan_isTime_15 rfl rfl (Nat.le_of_ble_eq_true rfl) (Nat.le_of_ble_eq_true rfl)
theorem c_Chan_isTime {G : GX} (p0 : Int32) (S : AS) : CN G y_Chan_isTime b_Chan_isTime 1 (some (FieldType.boolean)) ({ frames := 0, cells := 0, slots := 0, locals := 0 } : Room) (some none) iI [.int p0] S (f_Chan_isTime p0 S) := cn_of_v (M := md_Chan_isTime) (ini := false) rfl (by decide +kernel) (fun h => nomatch h) rfl (Nat.le_of_ble_eq_true rfl) (v_Chan_isTime p0 S)
noncomputable def f_Chan_paper (p1 : Int32) (p2 : Int32) (p3 : Int32) (p4 : Int32) (p5 : Int32) (p6 : Int32) (S : AS) : Option (Int32 × AS) := bI (f_Roll_isPerson p1 S) fun r2 S1 => nm (fun (a3 : Int32) (S4 : AS) => if a3 = 0 then (some ((-1), S4)) else (bI (f_PaperBox_isFull S4) fun r6 S5 => if r6 = 0 then (bI (f_Gazette_isFull S5) fun r8 S7 => if r8 = 0 then (bI (f_Gazette_add 0 p2 (gi S7 23 8) (-1) S7) fun r10 S9 => bV (f_PaperBox_add p1 p2 p3 p4 p5 p6 r10 S9) fun S11 => some (r10, S11)) else (some ((-1), S7))) else (some ((-1), S5)))) fun J71 => nm (fun (S12 : AS) => J71 0 S12) fun J70 => if r2 = 0 then (J70 S1) else (bI (f_Chan_isTime p2 S1) fun r14 S13 => if r14 = 0 then (J70 S13) else (bI (f_Chan_isWithin p3 0 255 S13) fun r16 S15 => if r16 = 0 then (J70 S15) else (bI (f_Chan_isWithin p4 0 255 S15) fun r18 S17 => if r18 = 0 then (J70 S17) else (bI (f_Chan_isWithin p5 1 1000 S17) fun r20 S19 => if r20 = 0 then (J70 S19) else (bI (f_Chan_isWithin p6 p5 1000 S19) fun r22 S21 => if r22 = 0 then (J70 S21) else (J71 1 S21))))))
set_option maxHeartbeats 4000000 in
theorem v_Chan_paper {G : GX} (p1 : Int32) (p2 : Int32) (p3 : Int32) (p4 : Int32) (p5 : Int32) (p6 : Int32) (S : AS) : V G md_Chan_paper (QM G md_Chan_paper iI) (fun _ => True) (some none) 0 [some (.ref 0), some (.int p1), some (.int p2), some (.int p3), some (.int p4), some (.int p5), some (.int p6), none, none] [] 0 0 S (f_Chan_paper p1 p2 p3 p4 p5 p6 S) := by
  unfold f_Chan_paper
  refine x_aload_n_ref d_Chan_paper_0 rfl ?_
  refine x_getr d_Chan_paper_1 fl_Chan_28 ak_0 (q99 (by decide)) (shx sh_0_2) ?_
  refine x_iload_n d_Chan_paper_4 rfl ?_
  refine x_vI (b' := (some none)) (As := [.int p1]) d_Chan_paper_5 mv_Chan_116 rfl (fun _ => ak_16) rfl (q99 (by decide)) ⟨Nat.le_of_ble_eq_true rfl, Nat.le_of_ble_eq_true rfl⟩ (Nat.le_of_ble_eq_true rfl) ⟨Nat.le_of_ble_eq_true rfl, Nat.le_of_ble_eq_true rfl⟩ (fun _ h => h) (fun h => ⟨h, c_Roll_isPerson p1 _⟩) (fun r2 S1 => ?_)
  refine x_nm (fun J71 hJ71 => ?_)
  have kJ71 : ∀ (a3 : Int32) (S4 : AS), V G md_Chan_paper (QM G md_Chan_paper iI) (fun _ => True) (some none) 71 [some (.ref 0), some (.int p1), some (.int p2), some (.int p3), some (.int p4), some (.int p5), some (.int p6), none, none] [.int a3] 0 0 S4 (J71 a3 S4) := by
    subst hJ71
    intro a3 S4
    refine x_istore (lc' := [some (.ref 0), some (.int p1), some (.int p2), some (.int p3), some (.int p4), some (.int p5), some (.int p6), some (.int a3), none]) d_Chan_paper_71 (by decide) rfl ?_
    refine x_iload d_Chan_paper_73 rfl ?_
    refine x_if_eq (tgt := 98) d_Chan_paper_75 (by decide) (fun _ => ?_) (fun _ => ?_)
    · refine x_iconst (v := -1) d_Chan_paper_98 (by decide) ?_
      exact x_ret d_Chan_paper_99 rfl rfl (Nat.le_of_ble_eq_true rfl) (Nat.le_of_ble_eq_true rfl)
    · refine x_aload_n_ref d_Chan_paper_78 rfl ?_
      refine x_getr d_Chan_paper_79 fl_Chan_35 ak_0 (q99 (by decide)) (shx sh_0_3) ?_
      refine x_vI (b' := (some none)) (As := []) d_Chan_paper_82 mv_Chan_155 rfl (fun _ => ak_23) rfl (q99 (by decide)) ⟨Nat.le_of_ble_eq_true rfl, Nat.le_of_ble_eq_true rfl⟩ (Nat.le_of_ble_eq_true rfl) ⟨Nat.le_of_ble_eq_true rfl, Nat.le_of_ble_eq_true rfl⟩ (fun _ h => h) (fun h => ⟨h, c_PaperBox_isFull _⟩) (fun r6 S5 => ?_)
      refine x_if_ne (tgt := 98) d_Chan_paper_85 (by decide) (fun _ => ?_) (fun _ => ?_)
      · refine x_iconst (v := -1) d_Chan_paper_98 (by decide) ?_
        exact x_ret d_Chan_paper_99 rfl rfl (Nat.le_of_ble_eq_true rfl) (Nat.le_of_ble_eq_true rfl)
      · refine x_aload_n_ref d_Chan_paper_88 rfl ?_
        refine x_getr d_Chan_paper_89 fl_Chan_42 ak_0 (q99 (by decide)) (shx sh_0_4) ?_
        refine x_vI (b' := (some none)) (As := []) d_Chan_paper_92 mv_Chan_158 rfl (fun _ => ak_32) rfl (q99 (by decide)) ⟨Nat.le_of_ble_eq_true rfl, Nat.le_of_ble_eq_true rfl⟩ (Nat.le_of_ble_eq_true rfl) ⟨Nat.le_of_ble_eq_true rfl, Nat.le_of_ble_eq_true rfl⟩ (fun _ h => h) (fun h => ⟨h, c_Gazette_isFull _⟩) (fun r8 S7 => ?_)
        refine x_if_eq (tgt := 100) d_Chan_paper_95 (by decide) (fun _ => ?_) (fun _ => ?_)
        · refine x_aload_n_ref d_Chan_paper_100 rfl ?_
          refine x_getr d_Chan_paper_101 fl_Chan_42 ak_0 (q99 (by decide)) (shx sh_0_4) ?_
          refine x_iconst (v := 0) d_Chan_paper_104 (by decide) ?_
          refine x_iload_n d_Chan_paper_105 rfl ?_
          refine x_aload_n_ref d_Chan_paper_106 rfl ?_
          refine x_getr d_Chan_paper_107 fl_Chan_35 ak_0 (q99 (by decide)) (shx sh_0_3) ?_
          refine x_geti d_Chan_paper_110 fl_Chan_159 ak_23 (q99 (by decide)) ?_
          refine x_iconst (v := -1) d_Chan_paper_113 (by decide) ?_
          refine x_vI (b' := (some none)) (As := [.int 0, .int p2, .int (gi S7 23 8), .int (-1)]) d_Chan_paper_114 mv_Chan_160 rfl (fun _ => ak_32) rfl (q99 (by decide)) ⟨Nat.le_of_ble_eq_true rfl, Nat.le_of_ble_eq_true rfl⟩ (Nat.le_of_ble_eq_true rfl) ⟨Nat.le_of_ble_eq_true rfl, Nat.le_of_ble_eq_true rfl⟩ (fun _ h => h) (fun h => ⟨h, c_Gazette_add 0 p2 (gi S7 23 8) (-1) _⟩) (fun r10 S9 => ?_)
          refine x_istore (lc' := [some (.ref 0), some (.int p1), some (.int p2), some (.int p3), some (.int p4), some (.int p5), some (.int p6), some (.int a3), some (.int r10)]) d_Chan_paper_117 (by decide) rfl ?_
          refine x_aload_n_ref d_Chan_paper_119 rfl ?_
          refine x_getr d_Chan_paper_120 fl_Chan_35 ak_0 (q99 (by decide)) (shx sh_0_3) ?_
          refine x_iload_n d_Chan_paper_123 rfl ?_
          refine x_iload_n d_Chan_paper_124 rfl ?_
          refine x_iload_n d_Chan_paper_125 rfl ?_
          refine x_iload d_Chan_paper_126 rfl ?_
          refine x_iload d_Chan_paper_128 rfl ?_
          refine x_iload d_Chan_paper_130 rfl ?_
          refine x_iload d_Chan_paper_132 rfl ?_
          refine x_vV (b' := (some none)) (As := [.int p1, .int p2, .int p3, .int p4, .int p5, .int p6, .int r10]) d_Chan_paper_134 mv_Chan_163 rfl (fun _ => ak_23) rfl (q99 (by decide)) ⟨Nat.le_of_ble_eq_true rfl, Nat.le_of_ble_eq_true rfl⟩ (Nat.le_of_ble_eq_true rfl) ⟨Nat.le_of_ble_eq_true rfl, Nat.le_of_ble_eq_true rfl⟩ (fun _ h => h) (fun h => ⟨h, c_PaperBox_add p1 p2 p3 p4 p5 p6 r10 _⟩) (fun S11 => ?_)
          refine x_iload d_Chan_paper_137 rfl ?_
          exact x_ret d_Chan_paper_139 rfl rfl (Nat.le_of_ble_eq_true rfl) (Nat.le_of_ble_eq_true rfl)
        · refine x_iconst (v := -1) d_Chan_paper_98 (by decide) ?_
          exact x_ret d_Chan_paper_99 rfl rfl (Nat.le_of_ble_eq_true rfl) (Nat.le_of_ble_eq_true rfl)
  clear hJ71
  refine x_nm (fun J70 hJ70 => ?_)
  have kJ70 : ∀ (S12 : AS), V G md_Chan_paper (QM G md_Chan_paper iI) (fun _ => True) (some none) 70 [some (.ref 0), some (.int p1), some (.int p2), some (.int p3), some (.int p4), some (.int p5), some (.int p6), none, none] [] 0 0 S12 (J70 S12) := by
    subst hJ70
    intro S12
    refine x_iconst (v := 0) d_Chan_paper_70 (by decide) ?_
    exact V.kw (kJ71 0 S12) ⟨rfl, rfl, rfl, rfl, rfl, rfl, rfl, trivial⟩
  clear hJ70
  refine x_if_eq (tgt := 70) d_Chan_paper_8 (by decide) (fun _ => ?_) (fun _ => ?_)
  · exact V.kw (kJ70 S1) ⟨rfl, rfl, rfl, rfl, rfl, rfl, rfl, trivial⟩
  · refine x_iload_n d_Chan_paper_11 rfl ?_
    refine x_sI (b' := (some none)) (As := [.int p2]) d_Chan_paper_12 ms_Chan_129 rfl ⟨Nat.le_of_ble_eq_true rfl, Nat.le_of_ble_eq_true rfl⟩ (Nat.le_of_ble_eq_true rfl) ⟨Nat.le_of_ble_eq_true rfl, Nat.le_of_ble_eq_true rfl⟩ (fun _ h => h) (fun h => ⟨h, c_Chan_isTime p2 _⟩) (fun r14 S13 => ?_)
    refine x_if_eq (tgt := 70) d_Chan_paper_15 (by decide) (fun _ => ?_) (fun _ => ?_)
    · exact V.kw (kJ70 S13) ⟨rfl, rfl, rfl, rfl, rfl, rfl, rfl, trivial⟩
    · refine x_iload_n d_Chan_paper_18 rfl ?_
      refine x_iconst (v := 0) d_Chan_paper_19 (by decide) ?_
      refine x_sipush (v := 255) d_Chan_paper_20 (by decide) ?_
      refine x_sI (b' := (some none)) (As := [.int p3, .int 0, .int 255]) d_Chan_paper_23 ms_Chan_101 rfl ⟨Nat.le_of_ble_eq_true rfl, Nat.le_of_ble_eq_true rfl⟩ (Nat.le_of_ble_eq_true rfl) ⟨Nat.le_of_ble_eq_true rfl, Nat.le_of_ble_eq_true rfl⟩ (fun _ h => h) (fun h => ⟨h, c_Chan_isWithin p3 0 255 _⟩) (fun r16 S15 => ?_)
      refine x_if_eq (tgt := 70) d_Chan_paper_26 (by decide) (fun _ => ?_) (fun _ => ?_)
      · exact V.kw (kJ70 S15) ⟨rfl, rfl, rfl, rfl, rfl, rfl, rfl, trivial⟩
      · refine x_iload d_Chan_paper_29 rfl ?_
        refine x_iconst (v := 0) d_Chan_paper_31 (by decide) ?_
        refine x_sipush (v := 255) d_Chan_paper_32 (by decide) ?_
        refine x_sI (b' := (some none)) (As := [.int p4, .int 0, .int 255]) d_Chan_paper_35 ms_Chan_101 rfl ⟨Nat.le_of_ble_eq_true rfl, Nat.le_of_ble_eq_true rfl⟩ (Nat.le_of_ble_eq_true rfl) ⟨Nat.le_of_ble_eq_true rfl, Nat.le_of_ble_eq_true rfl⟩ (fun _ h => h) (fun h => ⟨h, c_Chan_isWithin p4 0 255 _⟩) (fun r18 S17 => ?_)
        refine x_if_eq (tgt := 70) d_Chan_paper_38 (by decide) (fun _ => ?_) (fun _ => ?_)
        · exact V.kw (kJ70 S17) ⟨rfl, rfl, rfl, rfl, rfl, rfl, rfl, trivial⟩
        · refine x_iload d_Chan_paper_41 rfl ?_
          refine x_iconst (v := 1) d_Chan_paper_43 (by decide) ?_
          refine x_sipush (v := 1000) d_Chan_paper_44 (by decide) ?_
          refine x_sI (b' := (some none)) (As := [.int p5, .int 1, .int 1000]) d_Chan_paper_47 ms_Chan_101 rfl ⟨Nat.le_of_ble_eq_true rfl, Nat.le_of_ble_eq_true rfl⟩ (Nat.le_of_ble_eq_true rfl) ⟨Nat.le_of_ble_eq_true rfl, Nat.le_of_ble_eq_true rfl⟩ (fun _ h => h) (fun h => ⟨h, c_Chan_isWithin p5 1 1000 _⟩) (fun r20 S19 => ?_)
          refine x_if_eq (tgt := 70) d_Chan_paper_50 (by decide) (fun _ => ?_) (fun _ => ?_)
          · exact V.kw (kJ70 S19) ⟨rfl, rfl, rfl, rfl, rfl, rfl, rfl, trivial⟩
          · refine x_iload d_Chan_paper_53 rfl ?_
            refine x_iload d_Chan_paper_55 rfl ?_
            refine x_sipush (v := 1000) d_Chan_paper_57 (by decide) ?_
            refine x_sI (b' := (some none)) (As := [.int p6, .int p5, .int 1000]) d_Chan_paper_60 ms_Chan_101 rfl ⟨Nat.le_of_ble_eq_true rfl, Nat.le_of_ble_eq_true rfl⟩ (Nat.le_of_ble_eq_true rfl) ⟨Nat.le_of_ble_eq_true rfl, Nat.le_of_ble_eq_true rfl⟩ (fun _ h => h) (fun h => ⟨h, c_Chan_isWithin p6 p5 1000 _⟩) (fun r22 S21 => ?_)
            refine x_if_eq (tgt := 70) d_Chan_paper_63 (by decide) (fun _ => ?_) (fun _ => ?_)
            · exact V.kw (kJ70 S21) ⟨rfl, rfl, rfl, rfl, rfl, rfl, rfl, trivial⟩
            · refine x_iconst (v := 1) d_Chan_paper_66 (by decide) ?_
              refine x_goto (tgt := 71) d_Chan_paper_67 (by decide) ?_
              exact V.kw (kJ71 1 S21) ⟨rfl, rfl, rfl, rfl, rfl, rfl, rfl, trivial⟩
theorem c_Chan_paper {G : GX} (p1 : Int32) (p2 : Int32) (p3 : Int32) (p4 : Int32) (p5 : Int32) (p6 : Int32) (S : AS) : CN G y_Chan_paper b_Chan_paper 9 (some (FieldType.int)) ({ frames := 2, cells := 0, slots := 0, locals := 47 } : Room) (some none) iI [.ref 0, .int p1, .int p2, .int p3, .int p4, .int p5, .int p6] S (f_Chan_paper p1 p2 p3 p4 p5 p6 S) := cn_of_v (M := md_Chan_paper) (ini := false) rfl (by decide +kernel) (fun h => nomatch h) rfl (Nat.le_of_ble_eq_true rfl) (v_Chan_paper p1 p2 p3 p4 p5 p6 S)
noncomputable def f_Chan_death (p1 : Int32) (p2 : Int32) (S : AS) : Option (Int32 × AS) := bI (f_Roll_isPerson p1 S) fun r2 S1 => if r2 = 0 then (some ((-1), S1)) else (bI (f_Chan_isTime p2 S1) fun r4 S3 => if r4 = 0 then (some ((-1), S3)) else (bI (f_Gazette_add 1 p2 p1 (-1) S3) fun r6 S5 => some (r6, S5)))
set_option maxHeartbeats 4000000 in
theorem v_Chan_death {G : GX} (p1 : Int32) (p2 : Int32) (S : AS) : V G md_Chan_death (QM G md_Chan_death iI) (fun _ => True) (some none) 0 [some (.ref 0), some (.int p1), some (.int p2)] [] 0 0 S (f_Chan_death p1 p2 S) := by
  unfold f_Chan_death
  refine x_aload_n_ref d_Chan_death_0 rfl ?_
  refine x_getr d_Chan_death_1 fl_Chan_28 ak_0 (q99 (by decide)) (shx sh_0_2) ?_
  refine x_iload_n d_Chan_death_4 rfl ?_
  refine x_vI (b' := (some none)) (As := [.int p1]) d_Chan_death_5 mv_Chan_116 rfl (fun _ => ak_16) rfl (q99 (by decide)) ⟨Nat.le_of_ble_eq_true rfl, Nat.le_of_ble_eq_true rfl⟩ (Nat.le_of_ble_eq_true rfl) ⟨Nat.le_of_ble_eq_true rfl, Nat.le_of_ble_eq_true rfl⟩ (fun _ h => h) (fun h => ⟨h, c_Roll_isPerson p1 _⟩) (fun r2 S1 => ?_)
  refine x_if_eq (tgt := 18) d_Chan_death_8 (by decide) (fun _ => ?_) (fun _ => ?_)
  · refine x_iconst (v := -1) d_Chan_death_18 (by decide) ?_
    exact x_ret d_Chan_death_19 rfl rfl (Nat.le_of_ble_eq_true rfl) (Nat.le_of_ble_eq_true rfl)
  · refine x_iload_n d_Chan_death_11 rfl ?_
    refine x_sI (b' := (some none)) (As := [.int p2]) d_Chan_death_12 ms_Chan_129 rfl ⟨Nat.le_of_ble_eq_true rfl, Nat.le_of_ble_eq_true rfl⟩ (Nat.le_of_ble_eq_true rfl) ⟨Nat.le_of_ble_eq_true rfl, Nat.le_of_ble_eq_true rfl⟩ (fun _ h => h) (fun h => ⟨h, c_Chan_isTime p2 _⟩) (fun r4 S3 => ?_)
    refine x_if_ne (tgt := 20) d_Chan_death_15 (by decide) (fun _ => ?_) (fun _ => ?_)
    · refine x_aload_n_ref d_Chan_death_20 rfl ?_
      refine x_getr d_Chan_death_21 fl_Chan_42 ak_0 (q99 (by decide)) (shx sh_0_4) ?_
      refine x_iconst (v := 1) d_Chan_death_24 (by decide) ?_
      refine x_iload_n d_Chan_death_25 rfl ?_
      refine x_iload_n d_Chan_death_26 rfl ?_
      refine x_iconst (v := -1) d_Chan_death_27 (by decide) ?_
      refine x_vI (b' := (some none)) (As := [.int 1, .int p2, .int p1, .int (-1)]) d_Chan_death_28 mv_Chan_160 rfl (fun _ => ak_32) rfl (q99 (by decide)) ⟨Nat.le_of_ble_eq_true rfl, Nat.le_of_ble_eq_true rfl⟩ (Nat.le_of_ble_eq_true rfl) ⟨Nat.le_of_ble_eq_true rfl, Nat.le_of_ble_eq_true rfl⟩ (fun _ h => h) (fun h => ⟨h, c_Gazette_add 1 p2 p1 (-1) _⟩) (fun r6 S5 => ?_)
      exact x_ret d_Chan_death_31 rfl rfl (Nat.le_of_ble_eq_true rfl) (Nat.le_of_ble_eq_true rfl)
    · refine x_iconst (v := -1) d_Chan_death_18 (by decide) ?_
      exact x_ret d_Chan_death_19 rfl rfl (Nat.le_of_ble_eq_true rfl) (Nat.le_of_ble_eq_true rfl)
theorem c_Chan_death {G : GX} (p1 : Int32) (p2 : Int32) (S : AS) : CN G y_Chan_death b_Chan_death 3 (some (FieldType.int)) ({ frames := 2, cells := 0, slots := 0, locals := 46 } : Room) (some none) iI [.ref 0, .int p1, .int p2] S (f_Chan_death p1 p2 S) := cn_of_v (M := md_Chan_death) (ini := false) rfl (by decide +kernel) (fun h => nomatch h) rfl (Nat.le_of_ble_eq_true rfl) (v_Chan_death p1 p2 S)
noncomputable def f_Chan_resign (p1 : Int32) (p2 : Int32) (p3 : Int32) (S : AS) : Option (Int32 × AS) := bI (f_Roll_isPost p1 S) fun r2 S1 => if r2 = 0 then (some ((-1), S1)) else (bI (f_Roll_isPerson p2 S1) fun r4 S3 => if r4 = 0 then (some ((-1), S3)) else (bI (f_Chan_isTime p3 S3) fun r6 S5 => if r6 = 0 then (some ((-1), S5)) else (bI (f_Gazette_add 2 p3 p1 p2 S5) fun r8 S7 => some (r8, S7))))
set_option maxHeartbeats 4000000 in
theorem v_Chan_resign {G : GX} (p1 : Int32) (p2 : Int32) (p3 : Int32) (S : AS) : V G md_Chan_resign (QM G md_Chan_resign iI) (fun _ => True) (some none) 0 [some (.ref 0), some (.int p1), some (.int p2), some (.int p3)] [] 0 0 S (f_Chan_resign p1 p2 p3 S) := by
  unfold f_Chan_resign
  refine x_aload_n_ref d_Chan_resign_0 rfl ?_
  refine x_getr d_Chan_resign_1 fl_Chan_28 ak_0 (q99 (by decide)) (shx sh_0_2) ?_
  refine x_iload_n d_Chan_resign_4 rfl ?_
  refine x_vI (b' := (some none)) (As := [.int p1]) d_Chan_resign_5 mv_Chan_113 rfl (fun _ => ak_16) rfl (q99 (by decide)) ⟨Nat.le_of_ble_eq_true rfl, Nat.le_of_ble_eq_true rfl⟩ (Nat.le_of_ble_eq_true rfl) ⟨Nat.le_of_ble_eq_true rfl, Nat.le_of_ble_eq_true rfl⟩ (fun _ h => h) (fun h => ⟨h, c_Roll_isPost p1 _⟩) (fun r2 S1 => ?_)
  refine x_if_eq (tgt := 29) d_Chan_resign_8 (by decide) (fun _ => ?_) (fun _ => ?_)
  · refine x_iconst (v := -1) d_Chan_resign_29 (by decide) ?_
    exact x_ret d_Chan_resign_30 rfl rfl (Nat.le_of_ble_eq_true rfl) (Nat.le_of_ble_eq_true rfl)
  · refine x_aload_n_ref d_Chan_resign_11 rfl ?_
    refine x_getr d_Chan_resign_12 fl_Chan_28 ak_0 (q99 (by decide)) (shx sh_0_2) ?_
    refine x_iload_n d_Chan_resign_15 rfl ?_
    refine x_vI (b' := (some none)) (As := [.int p2]) d_Chan_resign_16 mv_Chan_116 rfl (fun _ => ak_16) rfl (q99 (by decide)) ⟨Nat.le_of_ble_eq_true rfl, Nat.le_of_ble_eq_true rfl⟩ (Nat.le_of_ble_eq_true rfl) ⟨Nat.le_of_ble_eq_true rfl, Nat.le_of_ble_eq_true rfl⟩ (fun _ h => h) (fun h => ⟨h, c_Roll_isPerson p2 _⟩) (fun r4 S3 => ?_)
    refine x_if_eq (tgt := 29) d_Chan_resign_19 (by decide) (fun _ => ?_) (fun _ => ?_)
    · refine x_iconst (v := -1) d_Chan_resign_29 (by decide) ?_
      exact x_ret d_Chan_resign_30 rfl rfl (Nat.le_of_ble_eq_true rfl) (Nat.le_of_ble_eq_true rfl)
    · refine x_iload_n d_Chan_resign_22 rfl ?_
      refine x_sI (b' := (some none)) (As := [.int p3]) d_Chan_resign_23 ms_Chan_129 rfl ⟨Nat.le_of_ble_eq_true rfl, Nat.le_of_ble_eq_true rfl⟩ (Nat.le_of_ble_eq_true rfl) ⟨Nat.le_of_ble_eq_true rfl, Nat.le_of_ble_eq_true rfl⟩ (fun _ h => h) (fun h => ⟨h, c_Chan_isTime p3 _⟩) (fun r6 S5 => ?_)
      refine x_if_ne (tgt := 31) d_Chan_resign_26 (by decide) (fun _ => ?_) (fun _ => ?_)
      · refine x_aload_n_ref d_Chan_resign_31 rfl ?_
        refine x_getr d_Chan_resign_32 fl_Chan_42 ak_0 (q99 (by decide)) (shx sh_0_4) ?_
        refine x_iconst (v := 2) d_Chan_resign_35 (by decide) ?_
        refine x_iload_n d_Chan_resign_36 rfl ?_
        refine x_iload_n d_Chan_resign_37 rfl ?_
        refine x_iload_n d_Chan_resign_38 rfl ?_
        refine x_vI (b' := (some none)) (As := [.int 2, .int p3, .int p1, .int p2]) d_Chan_resign_39 mv_Chan_160 rfl (fun _ => ak_32) rfl (q99 (by decide)) ⟨Nat.le_of_ble_eq_true rfl, Nat.le_of_ble_eq_true rfl⟩ (Nat.le_of_ble_eq_true rfl) ⟨Nat.le_of_ble_eq_true rfl, Nat.le_of_ble_eq_true rfl⟩ (fun _ h => h) (fun h => ⟨h, c_Gazette_add 2 p3 p1 p2 _⟩) (fun r8 S7 => ?_)
        exact x_ret d_Chan_resign_42 rfl rfl (Nat.le_of_ble_eq_true rfl) (Nat.le_of_ble_eq_true rfl)
      · refine x_iconst (v := -1) d_Chan_resign_29 (by decide) ?_
        exact x_ret d_Chan_resign_30 rfl rfl (Nat.le_of_ble_eq_true rfl) (Nat.le_of_ble_eq_true rfl)
theorem c_Chan_resign {G : GX} (p1 : Int32) (p2 : Int32) (p3 : Int32) (S : AS) : CN G y_Chan_resign b_Chan_resign 4 (some (FieldType.int)) ({ frames := 2, cells := 0, slots := 0, locals := 46 } : Room) (some none) iI [.ref 0, .int p1, .int p2, .int p3] S (f_Chan_resign p1 p2 p3 S) := cn_of_v (M := md_Chan_resign) (ini := false) rfl (by decide +kernel) (fun h => nomatch h) rfl (Nat.le_of_ble_eq_true rfl) (v_Chan_resign p1 p2 p3 S)
noncomputable def f_Chan_swap (p1 : Int32) (p2 : Int32) (p3 : Int32) (S : AS) : Option (Int32 × AS) := bI (f_Roll_isPost p1 S) fun r2 S1 => if r2 = 0 then (some ((-1), S1)) else (bI (f_Roll_isPost p2 S1) fun r4 S3 => if r4 = 0 then (some ((-1), S3)) else (if p1 = p2 then (some ((-1), S3)) else (bI (f_Chan_isTime p3 S3) fun r6 S5 => if r6 = 0 then (some ((-1), S5)) else (bI (f_Gazette_add 3 p3 p1 p2 S5) fun r8 S7 => some (r8, S7)))))
set_option maxHeartbeats 4000000 in
theorem v_Chan_swap {G : GX} (p1 : Int32) (p2 : Int32) (p3 : Int32) (S : AS) : V G md_Chan_swap (QM G md_Chan_swap iI) (fun _ => True) (some none) 0 [some (.ref 0), some (.int p1), some (.int p2), some (.int p3)] [] 0 0 S (f_Chan_swap p1 p2 p3 S) := by
  unfold f_Chan_swap
  refine x_aload_n_ref d_Chan_swap_0 rfl ?_
  refine x_getr d_Chan_swap_1 fl_Chan_28 ak_0 (q99 (by decide)) (shx sh_0_2) ?_
  refine x_iload_n d_Chan_swap_4 rfl ?_
  refine x_vI (b' := (some none)) (As := [.int p1]) d_Chan_swap_5 mv_Chan_113 rfl (fun _ => ak_16) rfl (q99 (by decide)) ⟨Nat.le_of_ble_eq_true rfl, Nat.le_of_ble_eq_true rfl⟩ (Nat.le_of_ble_eq_true rfl) ⟨Nat.le_of_ble_eq_true rfl, Nat.le_of_ble_eq_true rfl⟩ (fun _ h => h) (fun h => ⟨h, c_Roll_isPost p1 _⟩) (fun r2 S1 => ?_)
  refine x_if_eq (tgt := 34) d_Chan_swap_8 (by decide) (fun _ => ?_) (fun _ => ?_)
  · refine x_iconst (v := -1) d_Chan_swap_34 (by decide) ?_
    exact x_ret d_Chan_swap_35 rfl rfl (Nat.le_of_ble_eq_true rfl) (Nat.le_of_ble_eq_true rfl)
  · refine x_aload_n_ref d_Chan_swap_11 rfl ?_
    refine x_getr d_Chan_swap_12 fl_Chan_28 ak_0 (q99 (by decide)) (shx sh_0_2) ?_
    refine x_iload_n d_Chan_swap_15 rfl ?_
    refine x_vI (b' := (some none)) (As := [.int p2]) d_Chan_swap_16 mv_Chan_113 rfl (fun _ => ak_16) rfl (q99 (by decide)) ⟨Nat.le_of_ble_eq_true rfl, Nat.le_of_ble_eq_true rfl⟩ (Nat.le_of_ble_eq_true rfl) ⟨Nat.le_of_ble_eq_true rfl, Nat.le_of_ble_eq_true rfl⟩ (fun _ h => h) (fun h => ⟨h, c_Roll_isPost p2 _⟩) (fun r4 S3 => ?_)
    refine x_if_eq (tgt := 34) d_Chan_swap_19 (by decide) (fun _ => ?_) (fun _ => ?_)
    · refine x_iconst (v := -1) d_Chan_swap_34 (by decide) ?_
      exact x_ret d_Chan_swap_35 rfl rfl (Nat.le_of_ble_eq_true rfl) (Nat.le_of_ble_eq_true rfl)
    · refine x_iload_n d_Chan_swap_22 rfl ?_
      refine x_iload_n d_Chan_swap_23 rfl ?_
      refine x_icmp_eq (tgt := 34) d_Chan_swap_24 (by decide) (fun _ => ?_) (fun _ => ?_)
      · refine x_iconst (v := -1) d_Chan_swap_34 (by decide) ?_
        exact x_ret d_Chan_swap_35 rfl rfl (Nat.le_of_ble_eq_true rfl) (Nat.le_of_ble_eq_true rfl)
      · refine x_iload_n d_Chan_swap_27 rfl ?_
        refine x_sI (b' := (some none)) (As := [.int p3]) d_Chan_swap_28 ms_Chan_129 rfl ⟨Nat.le_of_ble_eq_true rfl, Nat.le_of_ble_eq_true rfl⟩ (Nat.le_of_ble_eq_true rfl) ⟨Nat.le_of_ble_eq_true rfl, Nat.le_of_ble_eq_true rfl⟩ (fun _ h => h) (fun h => ⟨h, c_Chan_isTime p3 _⟩) (fun r6 S5 => ?_)
        refine x_if_ne (tgt := 36) d_Chan_swap_31 (by decide) (fun _ => ?_) (fun _ => ?_)
        · refine x_aload_n_ref d_Chan_swap_36 rfl ?_
          refine x_getr d_Chan_swap_37 fl_Chan_42 ak_0 (q99 (by decide)) (shx sh_0_4) ?_
          refine x_iconst (v := 3) d_Chan_swap_40 (by decide) ?_
          refine x_iload_n d_Chan_swap_41 rfl ?_
          refine x_iload_n d_Chan_swap_42 rfl ?_
          refine x_iload_n d_Chan_swap_43 rfl ?_
          refine x_vI (b' := (some none)) (As := [.int 3, .int p3, .int p1, .int p2]) d_Chan_swap_44 mv_Chan_160 rfl (fun _ => ak_32) rfl (q99 (by decide)) ⟨Nat.le_of_ble_eq_true rfl, Nat.le_of_ble_eq_true rfl⟩ (Nat.le_of_ble_eq_true rfl) ⟨Nat.le_of_ble_eq_true rfl, Nat.le_of_ble_eq_true rfl⟩ (fun _ h => h) (fun h => ⟨h, c_Gazette_add 3 p3 p1 p2 _⟩) (fun r8 S7 => ?_)
          exact x_ret d_Chan_swap_47 rfl rfl (Nat.le_of_ble_eq_true rfl) (Nat.le_of_ble_eq_true rfl)
        · refine x_iconst (v := -1) d_Chan_swap_34 (by decide) ?_
          exact x_ret d_Chan_swap_35 rfl rfl (Nat.le_of_ble_eq_true rfl) (Nat.le_of_ble_eq_true rfl)
theorem c_Chan_swap {G : GX} (p1 : Int32) (p2 : Int32) (p3 : Int32) (S : AS) : CN G y_Chan_swap b_Chan_swap 4 (some (FieldType.int)) ({ frames := 2, cells := 0, slots := 0, locals := 46 } : Room) (some none) iI [.ref 0, .int p1, .int p2, .int p3] S (f_Chan_swap p1 p2 p3 S) := cn_of_v (M := md_Chan_swap) (ini := false) rfl (by decide +kernel) (fun h => nomatch h) rfl (Nat.le_of_ble_eq_true rfl) (v_Chan_swap p1 p2 p3 S)
noncomputable def f_PaperBox_has (p1 : Int32) (S : AS) : Option (Int32 × AS) := nm (fun (S1 : AS) => some (0, S1)) fun J16 => if p1 < 0 then (J16 S) else (if (gi S 23 8) ≤ p1 then (J16 S) else (some (1, S)))
set_option maxHeartbeats 4000000 in
theorem v_PaperBox_has {G : GX} (p1 : Int32) (S : AS) : V G md_PaperBox_has (QM G md_PaperBox_has iI) (fun _ => True) (some none) 0 [some (.ref 23), some (.int p1)] [] 0 0 S (f_PaperBox_has p1 S) := by
  unfold f_PaperBox_has
  refine x_iload_n d_PaperBox_has_0 rfl ?_
  refine x_nm (fun J16 hJ16 => ?_)
  have kJ16 : ∀ (S1 : AS), V G md_PaperBox_has (QM G md_PaperBox_has iI) (fun _ => True) (some none) 16 [none, none] [] 0 0 S1 (J16 S1) := by
    subst hJ16
    intro S1
    refine x_iconst (v := 0) d_PaperBox_has_16 (by decide) ?_
    exact x_ret d_PaperBox_has_17 rfl rfl (Nat.le_of_ble_eq_true rfl) (Nat.le_of_ble_eq_true rfl)
  clear hJ16
  refine x_if_lt (tgt := 16) d_PaperBox_has_1 (by decide) (fun _ => ?_) (fun _ => ?_)
  · exact V.kw (kJ16 S) trivial
  · refine x_iload_n d_PaperBox_has_4 rfl ?_
    refine x_aload_n_ref d_PaperBox_has_5 rfl ?_
    refine x_geti d_PaperBox_has_6 fl_PaperBox_36 ak_23 (q99 (by decide)) ?_
    refine x_icmp_ge (tgt := 16) d_PaperBox_has_9 (by decide) (fun _ => ?_) (fun _ => ?_)
    · exact V.kw (kJ16 S) trivial
    · refine x_iconst (v := 1) d_PaperBox_has_12 (by decide) ?_
      refine x_goto (tgt := 17) d_PaperBox_has_13 (by decide) ?_
      exact x_ret d_PaperBox_has_17 rfl rfl (Nat.le_of_ble_eq_true rfl) (Nat.le_of_ble_eq_true rfl)
theorem c_PaperBox_has {G : GX} (p1 : Int32) (S : AS) : CN G y_PaperBox_has b_PaperBox_has 2 (some (FieldType.boolean)) ({ frames := 0, cells := 0, slots := 0, locals := 0 } : Room) (some none) iI [.ref 23, .int p1] S (f_PaperBox_has p1 S) := cn_of_v (M := md_PaperBox_has) (ini := false) rfl (by decide +kernel) (fun h => nomatch h) rfl (Nat.le_of_ble_eq_true rfl) (v_PaperBox_has p1 S)
noncomputable def f_Chan_disprove (p1 : Int32) (S : AS) : Option (Int32 × AS) := bI (f_PaperBox_has p1 S) fun r2 S1 => if r2 = 0 then (some ((-1), S1)) else (chk (vp_in p1 48) (if (gi S1 31 (ix p1)) = (-1) then (bI (f_Gazette_isFull S1) fun r4 S3 => if r4 = 0 then (bI (f_Gazette_add 4 (-1) p1 (-1) S3) fun r6 S5 => chk (vp_in p1 48) (nm (si S5 31 (ix p1) r6) fun S7 => some (r6, S7))) else (some ((-1), S3))) else (some ((-1), S1))))
set_option maxHeartbeats 4000000 in
theorem v_Chan_disprove {G : GX} (p1 : Int32) (S : AS) : V G md_Chan_disprove (QM G md_Chan_disprove iI) (fun _ => True) (some none) 0 [some (.ref 0), some (.int p1), none] [] 0 0 S (f_Chan_disprove p1 S) := by
  unfold f_Chan_disprove
  refine x_aload_n_ref d_Chan_disprove_0 rfl ?_
  refine x_getr d_Chan_disprove_1 fl_Chan_35 ak_0 (q99 (by decide)) (shx sh_0_3) ?_
  refine x_iload_n d_Chan_disprove_4 rfl ?_
  refine x_vI (b' := (some none)) (As := [.int p1]) d_Chan_disprove_5 mv_Chan_166 rfl (fun _ => ak_23) rfl (q99 (by decide)) ⟨Nat.le_of_ble_eq_true rfl, Nat.le_of_ble_eq_true rfl⟩ (Nat.le_of_ble_eq_true rfl) ⟨Nat.le_of_ble_eq_true rfl, Nat.le_of_ble_eq_true rfl⟩ (fun _ h => h) (fun h => ⟨h, c_PaperBox_has p1 _⟩) (fun r2 S1 => ?_)
  refine x_if_eq (tgt := 34) d_Chan_disprove_8 (by decide) (fun _ => ?_) (fun _ => ?_)
  · refine x_iconst (v := -1) d_Chan_disprove_34 (by decide) ?_
    exact x_ret d_Chan_disprove_35 rfl rfl (Nat.le_of_ble_eq_true rfl) (Nat.le_of_ble_eq_true rfl)
  · refine x_aload_n_ref d_Chan_disprove_11 rfl ?_
    refine x_getr d_Chan_disprove_12 fl_Chan_35 ak_0 (q99 (by decide)) (shx sh_0_3) ?_
    refine x_getr d_Chan_disprove_15 fl_Chan_169 ak_23 (q99 (by decide)) (shx sh_23_7) ?_
    refine x_iload_n d_Chan_disprove_18 rfl ?_
    refine x_iald d_Chan_disprove_19 ak_31 (q99 (by decide)) ?_
    refine x_iconst (v := -1) d_Chan_disprove_20 (by decide) ?_
    refine x_icmp_ne (tgt := 34) d_Chan_disprove_21 (by decide) (fun _ => ?_) (fun _ => ?_)
    · refine x_iconst (v := -1) d_Chan_disprove_34 (by decide) ?_
      exact x_ret d_Chan_disprove_35 rfl rfl (Nat.le_of_ble_eq_true rfl) (Nat.le_of_ble_eq_true rfl)
    · refine x_aload_n_ref d_Chan_disprove_24 rfl ?_
      refine x_getr d_Chan_disprove_25 fl_Chan_42 ak_0 (q99 (by decide)) (shx sh_0_4) ?_
      refine x_vI (b' := (some none)) (As := []) d_Chan_disprove_28 mv_Chan_158 rfl (fun _ => ak_32) rfl (q99 (by decide)) ⟨Nat.le_of_ble_eq_true rfl, Nat.le_of_ble_eq_true rfl⟩ (Nat.le_of_ble_eq_true rfl) ⟨Nat.le_of_ble_eq_true rfl, Nat.le_of_ble_eq_true rfl⟩ (fun _ h => h) (fun h => ⟨h, c_Gazette_isFull _⟩) (fun r4 S3 => ?_)
      refine x_if_eq (tgt := 36) d_Chan_disprove_31 (by decide) (fun _ => ?_) (fun _ => ?_)
      · refine x_aload_n_ref d_Chan_disprove_36 rfl ?_
        refine x_getr d_Chan_disprove_37 fl_Chan_42 ak_0 (q99 (by decide)) (shx sh_0_4) ?_
        refine x_iconst (v := 4) d_Chan_disprove_40 (by decide) ?_
        refine x_iconst (v := -1) d_Chan_disprove_41 (by decide) ?_
        refine x_iload_n d_Chan_disprove_42 rfl ?_
        refine x_iconst (v := -1) d_Chan_disprove_43 (by decide) ?_
        refine x_vI (b' := (some none)) (As := [.int 4, .int (-1), .int p1, .int (-1)]) d_Chan_disprove_44 mv_Chan_160 rfl (fun _ => ak_32) rfl (q99 (by decide)) ⟨Nat.le_of_ble_eq_true rfl, Nat.le_of_ble_eq_true rfl⟩ (Nat.le_of_ble_eq_true rfl) ⟨Nat.le_of_ble_eq_true rfl, Nat.le_of_ble_eq_true rfl⟩ (fun _ h => h) (fun h => ⟨h, c_Gazette_add 4 (-1) p1 (-1) _⟩) (fun r6 S5 => ?_)
        refine x_istore_n (lc' := [some (.ref 0), some (.int p1), some (.int r6)]) d_Chan_disprove_47 (by decide) rfl ?_
        refine x_aload_n_ref d_Chan_disprove_48 rfl ?_
        refine x_getr d_Chan_disprove_49 fl_Chan_35 ak_0 (q99 (by decide)) (shx sh_0_3) ?_
        refine x_getr d_Chan_disprove_52 fl_Chan_169 ak_23 (q99 (by decide)) (shx sh_23_7) ?_
        refine x_iload_n d_Chan_disprove_55 rfl ?_
        refine x_iload_n d_Chan_disprove_56 rfl ?_
        refine x_iast d_Chan_disprove_57 ak_31 (q99 (by decide)) ?_
        refine x_nmS (fun S7 _ => ?_)
        refine x_iload_n d_Chan_disprove_58 rfl ?_
        exact x_ret d_Chan_disprove_59 rfl rfl (Nat.le_of_ble_eq_true rfl) (Nat.le_of_ble_eq_true rfl)
      · refine x_iconst (v := -1) d_Chan_disprove_34 (by decide) ?_
        exact x_ret d_Chan_disprove_35 rfl rfl (Nat.le_of_ble_eq_true rfl) (Nat.le_of_ble_eq_true rfl)
theorem c_Chan_disprove {G : GX} (p1 : Int32) (S : AS) : CN G y_Chan_disprove b_Chan_disprove 3 (some (FieldType.int)) ({ frames := 2, cells := 0, slots := 0, locals := 46 } : Room) (some none) iI [.ref 0, .int p1] S (f_Chan_disprove p1 S) := cn_of_v (M := md_Chan_disprove) (ini := false) rfl (by decide +kernel) (fun h => nomatch h) rfl (Nat.le_of_ble_eq_true rfl) (v_Chan_disprove p1 S)
noncomputable def f_Chan_as (p1 : Int32) (S : AS) : Option (Int32 × AS) := nm (fun (S1 : AS) => nm (si S1 0 11 p1) fun S2 => some (1, S2)) fun J22 => if p1 = (-1) then (J22 S) else (bI (f_Chan_isWithin p1 0 (gi S 32 4) S) fun r4 S3 => if r4 = 0 then (some (0, S3)) else (J22 S3))
set_option maxHeartbeats 4000000 in
theorem v_Chan_as {G : GX} (p1 : Int32) (S : AS) : V G md_Chan_as (QM G md_Chan_as iI) (fun _ => True) (some none) 0 [some (.ref 0), some (.int p1)] [] 0 0 S (f_Chan_as p1 S) := by
  unfold f_Chan_as
  refine x_iload_n d_Chan_as_0 rfl ?_
  refine x_iconst (v := -1) d_Chan_as_1 (by decide) ?_
  refine x_nm (fun J22 hJ22 => ?_)
  have kJ22 : ∀ (S1 : AS), V G md_Chan_as (QM G md_Chan_as iI) (fun _ => True) (some none) 22 [some (.ref 0), some (.int p1)] [] 0 0 S1 (J22 S1) := by
    subst hJ22
    intro S1
    refine x_aload_n_ref d_Chan_as_22 rfl ?_
    refine x_iload_n d_Chan_as_23 rfl ?_
    refine x_puti d_Chan_as_24 fl_Chan_82 rfl ak_0 (q99 (by decide)) (fun h => nomatch h) (fun h => nomatch h) ?_
    refine x_nmS (fun S2 _ => ?_)
    refine x_iconst (v := 1) d_Chan_as_27 (by decide) ?_
    exact x_ret d_Chan_as_28 rfl rfl (Nat.le_of_ble_eq_true rfl) (Nat.le_of_ble_eq_true rfl)
  clear hJ22
  refine x_icmp_eq (tgt := 22) d_Chan_as_2 (by decide) (fun _ => ?_) (fun _ => ?_)
  · exact V.kw (kJ22 S) ⟨rfl, rfl, trivial⟩
  · refine x_iload_n d_Chan_as_5 rfl ?_
    refine x_iconst (v := 0) d_Chan_as_6 (by decide) ?_
    refine x_aload_n_ref d_Chan_as_7 rfl ?_
    refine x_getr d_Chan_as_8 fl_Chan_42 ak_0 (q99 (by decide)) (shx sh_0_4) ?_
    refine x_geti d_Chan_as_11 fl_Chan_119 ak_32 (q99 (by decide)) ?_
    refine x_sI (b' := (some none)) (As := [.int p1, .int 0, .int (gi S 32 4)]) d_Chan_as_14 ms_Chan_101 rfl ⟨Nat.le_of_ble_eq_true rfl, Nat.le_of_ble_eq_true rfl⟩ (Nat.le_of_ble_eq_true rfl) ⟨Nat.le_of_ble_eq_true rfl, Nat.le_of_ble_eq_true rfl⟩ (fun _ h => h) (fun h => ⟨h, c_Chan_isWithin p1 0 (gi S 32 4) _⟩) (fun r4 S3 => ?_)
    refine x_if_ne (tgt := 22) d_Chan_as_17 (by decide) (fun _ => ?_) (fun _ => ?_)
    · exact V.kw (kJ22 S3) ⟨rfl, rfl, trivial⟩
    · refine x_iconst (v := 0) d_Chan_as_20 (by decide) ?_
      exact x_ret d_Chan_as_21 rfl rfl (Nat.le_of_ble_eq_true rfl) (Nat.le_of_ble_eq_true rfl)
theorem c_Chan_as {G : GX} (p1 : Int32) (S : AS) : CN G y_Chan_as b_Chan_as 2 (some (FieldType.boolean)) ({ frames := 1, cells := 0, slots := 0, locals := 22 } : Room) (some none) iI [.ref 0, .int p1] S (f_Chan_as p1 S) := cn_of_v (M := md_Chan_as) (ini := false) rfl (by decide +kernel) (fun h => nomatch h) rfl (Nat.le_of_ble_eq_true rfl) (v_Chan_as p1 S)
noncomputable def f_Chan_knownNow (S : AS) : Option (Int32 × AS) := if (gi S 0 11) = (-1) then (some (gi S 32 4, S)) else (some (gi S 0 11, S))
set_option maxHeartbeats 4000000 in
theorem v_Chan_knownNow {G : GX} (S : AS) : V G md_Chan_knownNow (QM G md_Chan_knownNow iI) (fun _ => True) (some none) 0 [some (.ref 0)] [] 0 0 S (f_Chan_knownNow S) := by
  unfold f_Chan_knownNow
  refine x_aload_n_ref d_Chan_knownNow_0 rfl ?_
  refine x_geti d_Chan_knownNow_1 fl_Chan_82 ak_0 (q99 (by decide)) ?_
  refine x_iconst (v := -1) d_Chan_knownNow_4 (by decide) ?_
  refine x_icmp_ne (tgt := 18) d_Chan_knownNow_5 (by decide) (fun _ => ?_) (fun _ => ?_)
  · refine x_aload_n_ref d_Chan_knownNow_18 rfl ?_
    refine x_geti d_Chan_knownNow_19 fl_Chan_82 ak_0 (q99 (by decide)) ?_
    exact x_ret d_Chan_knownNow_22 rfl rfl (Nat.le_of_ble_eq_true rfl) (Nat.le_of_ble_eq_true rfl)
  · refine x_aload_n_ref d_Chan_knownNow_8 rfl ?_
    refine x_getr d_Chan_knownNow_9 fl_Chan_42 ak_0 (q99 (by decide)) (shx sh_0_4) ?_
    refine x_geti d_Chan_knownNow_12 fl_Chan_119 ak_32 (q99 (by decide)) ?_
    refine x_goto (tgt := 22) d_Chan_knownNow_15 (by decide) ?_
    exact x_ret d_Chan_knownNow_22 rfl rfl (Nat.le_of_ble_eq_true rfl) (Nat.le_of_ble_eq_true rfl)
theorem c_Chan_knownNow {G : GX} (S : AS) : CN G y_Chan_knownNow b_Chan_knownNow 1 (some (FieldType.int)) ({ frames := 0, cells := 0, slots := 0, locals := 0 } : Room) (some none) iI [.ref 0] S (f_Chan_knownNow S) := cn_of_v (M := md_Chan_knownNow) (ini := false) rfl (by decide +kernel) (fun h => nomatch h) rfl (Nat.le_of_ble_eq_true rfl) (v_Chan_knownNow S)
noncomputable def f_Arrays_fill_i_52_L5 (J20 : AS → Option AS) (x1 : Int32) (x3 : Int32) : Nat → Int32 → AS → Option AS
  | 0, _, _ => none
  | n + 1, c2, S => if x3 ≤ c2 then (J20 S) else (chk (vp_in c2 24) (nm (si S 52 (ix c2) x1) fun S2 => f_Arrays_fill_i_52_L5 J20 x1 x3 n (c2 + 1) S2))
noncomputable def f_Arrays_fill_i_52 (p1 : Int32) (S : AS) : Option AS := nm (fun (S1 : AS) => some S1) fun J20 => f_Arrays_fill_i_52_L5 J20 p1 24 FU 0 S
set_option maxHeartbeats 4000000 in
theorem v_Arrays_fill_i_52_L5 {G : GX} (J20 : AS → Option AS) (x1 : Int32) (x3 : Int32) (kJ20 : ∀ (T : AS), V G md_Arrays_fill_i (QM G md_Arrays_fill_i iV) (fun _ => True) (some none) 20 [none, none, none, none] [] 0 0 T (J20 T)) : ∀ (n : Nat) (c2 : Int32) (S : AS), V G md_Arrays_fill_i (QM G md_Arrays_fill_i iV) (fun _ => True) (some none) 5 [some (.ref 52), some (.int x1), some (.int c2), some (.int x3)] [] 0 0 S (f_Arrays_fill_i_52_L5 J20 x1 x3 n c2 S) := by
  intro n
  induction n with
  | zero => intro c2 S; exact V.none
  | succ n ih =>
    intro c2 S
    rw [f_Arrays_fill_i_52_L5]
    refine x_iload_n d_Arrays_fill_i_5 rfl ?_
    refine x_iload_n d_Arrays_fill_i_6 rfl ?_
    refine x_icmp_ge (tgt := 20) d_Arrays_fill_i_7 (by decide) (fun _ => ?_) (fun _ => ?_)
    · exact V.kw (kJ20 S) trivial
    · refine x_aload_n_ref d_Arrays_fill_i_10 rfl ?_
      refine x_iload_n d_Arrays_fill_i_11 rfl ?_
      refine x_iload_n d_Arrays_fill_i_12 rfl ?_
      refine x_iast d_Arrays_fill_i_13 ak_52 (q99 (by decide)) ?_
      refine x_nmS (fun S2 _ => ?_)
      refine x_iinc (w := c2 + 1) (lc' := [some (.ref 52), some (.int x1), some (.int (c2 + 1)), some (.int x3)]) d_Arrays_fill_i_14 (by decide) rfl rfl rfl ?_
      refine x_goto (tgt := 5) d_Arrays_fill_i_17 (by decide) ?_
      exact V.kw (ih (c2 + 1) S2) ⟨rfl, rfl, rfl, rfl, trivial⟩
set_option maxHeartbeats 4000000 in
theorem v_Arrays_fill_i_52 {G : GX} (p1 : Int32) (S : AS) : V G md_Arrays_fill_i (QM G md_Arrays_fill_i iV) (fun _ => True) (some none) 0 [some (.ref 52), some (.int p1), none, none] [] 0 0 S (f_Arrays_fill_i_52 p1 S) := by
  unfold f_Arrays_fill_i_52
  refine x_iconst (v := 0) d_Arrays_fill_i_0 (by decide) ?_
  refine x_istore_n (lc' := [some (.ref 52), some (.int p1), some (.int 0), none]) d_Arrays_fill_i_1 (by decide) rfl ?_
  refine x_aload_n_ref d_Arrays_fill_i_2 rfl ?_
  refine x_alen (v := 24) d_Arrays_fill_i_3 ak_52 (by decide) (by decide) (q99 (by decide)) ?_
  refine x_istore_n (lc' := [some (.ref 52), some (.int p1), some (.int 0), some (.int 24)]) d_Arrays_fill_i_4 (by decide) rfl ?_
  refine x_nm (fun J20 hJ20 => ?_)
  have kJ20 : ∀ (S1 : AS), V G md_Arrays_fill_i (QM G md_Arrays_fill_i iV) (fun _ => True) (some none) 20 [none, none, none, none] [] 0 0 S1 (J20 S1) := by
    subst hJ20
    intro S1
    exact x_vret d_Arrays_fill_i_20 rfl (Nat.le_of_ble_eq_true rfl) (Nat.le_of_ble_eq_true rfl)
  clear hJ20
  exact V.kw (v_Arrays_fill_i_52_L5 J20 p1 24 kJ20 FU 0 S) ⟨rfl, rfl, rfl, rfl, trivial⟩
theorem c_Arrays_fill_i_52 {G : GX} (p1 : Int32) (S : AS) : CN G y_Arrays_fill_i b_Arrays_fill_i 4 none ({ frames := 0, cells := 0, slots := 0, locals := 0 } : Room) (some none) iV [.ref 52, .int p1] S (f_Arrays_fill_i_52 p1 S) := cn_of_v (M := md_Arrays_fill_i) (ini := false) rfl (by decide +kernel) (fun h => nomatch h) rfl (Nat.le_of_ble_eq_true rfl) (v_Arrays_fill_i_52 p1 S)
noncomputable def f_Arrays_fill_l_53_L6 (J22 : AS → Option AS) (x1 : Int64) (x4 : Int32) : Nat → Int32 → AS → Option AS
  | 0, _, _ => none
  | n + 1, c3, S => if x4 ≤ c3 then (J22 S) else (chk (vp_in c3 24) (nm (sl S 53 (ix c3) x1) fun S2 => f_Arrays_fill_l_53_L6 J22 x1 x4 n (c3 + 1) S2))
noncomputable def f_Arrays_fill_l_53 (p1 : Int64) (S : AS) : Option AS := nm (fun (S1 : AS) => some S1) fun J22 => f_Arrays_fill_l_53_L6 J22 p1 24 FU 0 S
set_option maxHeartbeats 4000000 in
theorem v_Arrays_fill_l_53_L6 {G : GX} (J22 : AS → Option AS) (x1 : Int64) (x4 : Int32) (kJ22 : ∀ (T : AS), V G md_Arrays_fill_l (QM G md_Arrays_fill_l iV) (fun _ => True) (some none) 22 [none, none, none, none, none] [] 0 0 T (J22 T)) : ∀ (n : Nat) (c3 : Int32) (S : AS), V G md_Arrays_fill_l (QM G md_Arrays_fill_l iV) (fun _ => True) (some none) 6 [some (.ref 53), some (.long x1), none, some (.int c3), some (.int x4)] [] 0 0 S (f_Arrays_fill_l_53_L6 J22 x1 x4 n c3 S) := by
  intro n
  induction n with
  | zero => intro c3 S; exact V.none
  | succ n ih =>
    intro c3 S
    rw [f_Arrays_fill_l_53_L6]
    refine x_iload_n d_Arrays_fill_l_6 rfl ?_
    refine x_iload d_Arrays_fill_l_7 rfl ?_
    refine x_icmp_ge (tgt := 22) d_Arrays_fill_l_9 (by decide) (fun _ => ?_) (fun _ => ?_)
    · exact V.kw (kJ22 S) trivial
    · refine x_aload_n_ref d_Arrays_fill_l_12 rfl ?_
      refine x_iload_n d_Arrays_fill_l_13 rfl ?_
      refine x_lload_n d_Arrays_fill_l_14 rfl ?_
      refine x_last d_Arrays_fill_l_15 ak_53 (q99 (by decide)) ?_
      refine x_nmS (fun S2 _ => ?_)
      refine x_iinc (w := c3 + 1) (lc' := [some (.ref 53), some (.long x1), none, some (.int (c3 + 1)), some (.int x4)]) d_Arrays_fill_l_16 (by decide) rfl rfl rfl ?_
      refine x_goto (tgt := 6) d_Arrays_fill_l_19 (by decide) ?_
      exact V.kw (ih (c3 + 1) S2) ⟨rfl, rfl, rfl, rfl, trivial⟩
set_option maxHeartbeats 4000000 in
theorem v_Arrays_fill_l_53 {G : GX} (p1 : Int64) (S : AS) : V G md_Arrays_fill_l (QM G md_Arrays_fill_l iV) (fun _ => True) (some none) 0 [some (.ref 53), some (.long p1), none, none, none] [] 0 0 S (f_Arrays_fill_l_53 p1 S) := by
  unfold f_Arrays_fill_l_53
  refine x_iconst (v := 0) d_Arrays_fill_l_0 (by decide) ?_
  refine x_istore_n (lc' := [some (.ref 53), some (.long p1), none, some (.int 0), none]) d_Arrays_fill_l_1 (by decide) rfl ?_
  refine x_aload_n_ref d_Arrays_fill_l_2 rfl ?_
  refine x_alen (v := 24) d_Arrays_fill_l_3 ak_53 (by decide) (by decide) (q99 (by decide)) ?_
  refine x_istore (lc' := [some (.ref 53), some (.long p1), none, some (.int 0), some (.int 24)]) d_Arrays_fill_l_4 (by decide) rfl ?_
  refine x_nm (fun J22 hJ22 => ?_)
  have kJ22 : ∀ (S1 : AS), V G md_Arrays_fill_l (QM G md_Arrays_fill_l iV) (fun _ => True) (some none) 22 [none, none, none, none, none] [] 0 0 S1 (J22 S1) := by
    subst hJ22
    intro S1
    exact x_vret d_Arrays_fill_l_22 rfl (Nat.le_of_ble_eq_true rfl) (Nat.le_of_ble_eq_true rfl)
  clear hJ22
  exact V.kw (v_Arrays_fill_l_53_L6 J22 p1 24 kJ22 FU 0 S) ⟨rfl, rfl, rfl, rfl, trivial⟩
theorem c_Arrays_fill_l_53 {G : GX} (p1 : Int64) (S : AS) : CN G y_Arrays_fill_l b_Arrays_fill_l 5 none ({ frames := 0, cells := 0, slots := 0, locals := 0 } : Room) (some none) iV [.ref 53, .long p1] S (f_Arrays_fill_l_53 p1 S) := cn_of_v (M := md_Arrays_fill_l) (ini := false) rfl (by decide +kernel) (fun h => nomatch h) rfl (Nat.le_of_ble_eq_true rfl) (v_Arrays_fill_l_53 p1 S)
noncomputable def f_Arrays_fill_i_56_L5 (J20 : AS → Option AS) (x1 : Int32) (x3 : Int32) : Nat → Int32 → AS → Option AS
  | 0, _, _ => none
  | n + 1, c2, S => if x3 ≤ c2 then (J20 S) else (chk (vp_in c2 48) (nm (si S 56 (ix c2) x1) fun S2 => f_Arrays_fill_i_56_L5 J20 x1 x3 n (c2 + 1) S2))
noncomputable def f_Arrays_fill_i_56 (p1 : Int32) (S : AS) : Option AS := nm (fun (S1 : AS) => some S1) fun J20 => f_Arrays_fill_i_56_L5 J20 p1 48 FU 0 S
set_option maxHeartbeats 4000000 in
theorem v_Arrays_fill_i_56_L5 {G : GX} (J20 : AS → Option AS) (x1 : Int32) (x3 : Int32) (kJ20 : ∀ (T : AS), V G md_Arrays_fill_i (QM G md_Arrays_fill_i iV) (fun _ => True) (some none) 20 [none, none, none, none] [] 0 0 T (J20 T)) : ∀ (n : Nat) (c2 : Int32) (S : AS), V G md_Arrays_fill_i (QM G md_Arrays_fill_i iV) (fun _ => True) (some none) 5 [some (.ref 56), some (.int x1), some (.int c2), some (.int x3)] [] 0 0 S (f_Arrays_fill_i_56_L5 J20 x1 x3 n c2 S) := by
  intro n
  induction n with
  | zero => intro c2 S; exact V.none
  | succ n ih =>
    intro c2 S
    rw [f_Arrays_fill_i_56_L5]
    refine x_iload_n d_Arrays_fill_i_5 rfl ?_
    refine x_iload_n d_Arrays_fill_i_6 rfl ?_
    refine x_icmp_ge (tgt := 20) d_Arrays_fill_i_7 (by decide) (fun _ => ?_) (fun _ => ?_)
    · exact V.kw (kJ20 S) trivial
    · refine x_aload_n_ref d_Arrays_fill_i_10 rfl ?_
      refine x_iload_n d_Arrays_fill_i_11 rfl ?_
      refine x_iload_n d_Arrays_fill_i_12 rfl ?_
      refine x_iast d_Arrays_fill_i_13 ak_56 (q99 (by decide)) ?_
      refine x_nmS (fun S2 _ => ?_)
      refine x_iinc (w := c2 + 1) (lc' := [some (.ref 56), some (.int x1), some (.int (c2 + 1)), some (.int x3)]) d_Arrays_fill_i_14 (by decide) rfl rfl rfl ?_
      refine x_goto (tgt := 5) d_Arrays_fill_i_17 (by decide) ?_
      exact V.kw (ih (c2 + 1) S2) ⟨rfl, rfl, rfl, rfl, trivial⟩
set_option maxHeartbeats 4000000 in
theorem v_Arrays_fill_i_56 {G : GX} (p1 : Int32) (S : AS) : V G md_Arrays_fill_i (QM G md_Arrays_fill_i iV) (fun _ => True) (some none) 0 [some (.ref 56), some (.int p1), none, none] [] 0 0 S (f_Arrays_fill_i_56 p1 S) := by
  unfold f_Arrays_fill_i_56
  refine x_iconst (v := 0) d_Arrays_fill_i_0 (by decide) ?_
  refine x_istore_n (lc' := [some (.ref 56), some (.int p1), some (.int 0), none]) d_Arrays_fill_i_1 (by decide) rfl ?_
  refine x_aload_n_ref d_Arrays_fill_i_2 rfl ?_
  refine x_alen (v := 48) d_Arrays_fill_i_3 ak_56 (by decide) (by decide) (q99 (by decide)) ?_
  refine x_istore_n (lc' := [some (.ref 56), some (.int p1), some (.int 0), some (.int 48)]) d_Arrays_fill_i_4 (by decide) rfl ?_
  refine x_nm (fun J20 hJ20 => ?_)
  have kJ20 : ∀ (S1 : AS), V G md_Arrays_fill_i (QM G md_Arrays_fill_i iV) (fun _ => True) (some none) 20 [none, none, none, none] [] 0 0 S1 (J20 S1) := by
    subst hJ20
    intro S1
    exact x_vret d_Arrays_fill_i_20 rfl (Nat.le_of_ble_eq_true rfl) (Nat.le_of_ble_eq_true rfl)
  clear hJ20
  exact V.kw (v_Arrays_fill_i_56_L5 J20 p1 48 kJ20 FU 0 S) ⟨rfl, rfl, rfl, rfl, trivial⟩
theorem c_Arrays_fill_i_56 {G : GX} (p1 : Int32) (S : AS) : CN G y_Arrays_fill_i b_Arrays_fill_i 4 none ({ frames := 0, cells := 0, slots := 0, locals := 0 } : Room) (some none) iV [.ref 56, .int p1] S (f_Arrays_fill_i_56 p1 S) := cn_of_v (M := md_Arrays_fill_i) (ini := false) rfl (by decide +kernel) (fun h => nomatch h) rfl (Nat.le_of_ble_eq_true rfl) (v_Arrays_fill_i_56 p1 S)
noncomputable def f_Arrays_fill_i_57_L5 (J20 : AS → Option AS) (x1 : Int32) (x3 : Int32) : Nat → Int32 → AS → Option AS
  | 0, _, _ => none
  | n + 1, c2, S => if x3 ≤ c2 then (J20 S) else (chk (vp_in c2 48) (nm (si S 57 (ix c2) x1) fun S2 => f_Arrays_fill_i_57_L5 J20 x1 x3 n (c2 + 1) S2))
noncomputable def f_Arrays_fill_i_57 (p1 : Int32) (S : AS) : Option AS := nm (fun (S1 : AS) => some S1) fun J20 => f_Arrays_fill_i_57_L5 J20 p1 48 FU 0 S
set_option maxHeartbeats 4000000 in
theorem v_Arrays_fill_i_57_L5 {G : GX} (J20 : AS → Option AS) (x1 : Int32) (x3 : Int32) (kJ20 : ∀ (T : AS), V G md_Arrays_fill_i (QM G md_Arrays_fill_i iV) (fun _ => True) (some none) 20 [none, none, none, none] [] 0 0 T (J20 T)) : ∀ (n : Nat) (c2 : Int32) (S : AS), V G md_Arrays_fill_i (QM G md_Arrays_fill_i iV) (fun _ => True) (some none) 5 [some (.ref 57), some (.int x1), some (.int c2), some (.int x3)] [] 0 0 S (f_Arrays_fill_i_57_L5 J20 x1 x3 n c2 S) := by
  intro n
  induction n with
  | zero => intro c2 S; exact V.none
  | succ n ih =>
    intro c2 S
    rw [f_Arrays_fill_i_57_L5]
    refine x_iload_n d_Arrays_fill_i_5 rfl ?_
    refine x_iload_n d_Arrays_fill_i_6 rfl ?_
    refine x_icmp_ge (tgt := 20) d_Arrays_fill_i_7 (by decide) (fun _ => ?_) (fun _ => ?_)
    · exact V.kw (kJ20 S) trivial
    · refine x_aload_n_ref d_Arrays_fill_i_10 rfl ?_
      refine x_iload_n d_Arrays_fill_i_11 rfl ?_
      refine x_iload_n d_Arrays_fill_i_12 rfl ?_
      refine x_iast d_Arrays_fill_i_13 ak_57 (q99 (by decide)) ?_
      refine x_nmS (fun S2 _ => ?_)
      refine x_iinc (w := c2 + 1) (lc' := [some (.ref 57), some (.int x1), some (.int (c2 + 1)), some (.int x3)]) d_Arrays_fill_i_14 (by decide) rfl rfl rfl ?_
      refine x_goto (tgt := 5) d_Arrays_fill_i_17 (by decide) ?_
      exact V.kw (ih (c2 + 1) S2) ⟨rfl, rfl, rfl, rfl, trivial⟩
set_option maxHeartbeats 4000000 in
theorem v_Arrays_fill_i_57 {G : GX} (p1 : Int32) (S : AS) : V G md_Arrays_fill_i (QM G md_Arrays_fill_i iV) (fun _ => True) (some none) 0 [some (.ref 57), some (.int p1), none, none] [] 0 0 S (f_Arrays_fill_i_57 p1 S) := by
  unfold f_Arrays_fill_i_57
  refine x_iconst (v := 0) d_Arrays_fill_i_0 (by decide) ?_
  refine x_istore_n (lc' := [some (.ref 57), some (.int p1), some (.int 0), none]) d_Arrays_fill_i_1 (by decide) rfl ?_
  refine x_aload_n_ref d_Arrays_fill_i_2 rfl ?_
  refine x_alen (v := 48) d_Arrays_fill_i_3 ak_57 (by decide) (by decide) (q99 (by decide)) ?_
  refine x_istore_n (lc' := [some (.ref 57), some (.int p1), some (.int 0), some (.int 48)]) d_Arrays_fill_i_4 (by decide) rfl ?_
  refine x_nm (fun J20 hJ20 => ?_)
  have kJ20 : ∀ (S1 : AS), V G md_Arrays_fill_i (QM G md_Arrays_fill_i iV) (fun _ => True) (some none) 20 [none, none, none, none] [] 0 0 S1 (J20 S1) := by
    subst hJ20
    intro S1
    exact x_vret d_Arrays_fill_i_20 rfl (Nat.le_of_ble_eq_true rfl) (Nat.le_of_ble_eq_true rfl)
  clear hJ20
  exact V.kw (v_Arrays_fill_i_57_L5 J20 p1 48 kJ20 FU 0 S) ⟨rfl, rfl, rfl, rfl, trivial⟩
theorem c_Arrays_fill_i_57 {G : GX} (p1 : Int32) (S : AS) : CN G y_Arrays_fill_i b_Arrays_fill_i 4 none ({ frames := 0, cells := 0, slots := 0, locals := 0 } : Room) (some none) iV [.ref 57, .int p1] S (f_Arrays_fill_i_57 p1 S) := cn_of_v (M := md_Arrays_fill_i) (ini := false) rfl (by decide +kernel) (fun h => nomatch h) rfl (Nat.le_of_ble_eq_true rfl) (v_Arrays_fill_i_57 p1 S)
noncomputable def f_Course_place (p1 : Int32) (p2 : Int32) (S : AS) : Option AS := chk (vp_in p1 16) (nm (fun (S1 : AS) => chk (vp_in p1 16) (nm (si S1 50 (ix p1) p2) fun S2 => if p2 = (-1) then (some S2) else (chk (vp_in p2 24) (chk (vp_in p2 24) (nm (si S2 52 (ix p2) ((gi S2 52 (ix p2)) + 1)) fun S3 => some S3))))) fun J25 => if (gi S 50 (ix p1)) = (-1) then (J25 S) else (chk (vp_in p1 16) (chk (vp_in (gi S 50 (ix p1)) 24) (chk (vp_in (gi S 50 (ix p1)) 24) (nm (si S 52 (ix (gi S 50 (ix p1))) ((gi S 52 (ix (gi S 50 (ix p1)))) - 1)) fun S4 => J25 S4)))))
set_option maxHeartbeats 4000000 in
theorem v_Course_place {G : GX} (p1 : Int32) (p2 : Int32) (S : AS) : V G md_Course_place (QM G md_Course_place iV) (fun _ => True) (some none) 0 [some (.ref 49), some (.int p1), some (.int p2)] [] 0 0 S (f_Course_place p1 p2 S) := by
  unfold f_Course_place
  refine x_aload_n_ref d_Course_place_0 rfl ?_
  refine x_getr d_Course_place_1 fl_Course_9 ak_49 (q99 (by decide)) (shx sh_49_4) ?_
  refine x_iload_n d_Course_place_4 rfl ?_
  refine x_iald d_Course_place_5 ak_50 (q99 (by decide)) ?_
  refine x_iconst (v := -1) d_Course_place_6 (by decide) ?_
  refine x_nm (fun J25 hJ25 => ?_)
  have kJ25 : ∀ (S1 : AS), V G md_Course_place (QM G md_Course_place iV) (fun _ => True) (some none) 25 [some (.ref 49), some (.int p1), some (.int p2)] [] 0 0 S1 (J25 S1) := by
    subst hJ25
    intro S1
    refine x_aload_n_ref d_Course_place_25 rfl ?_
    refine x_getr d_Course_place_26 fl_Course_9 ak_49 (q99 (by decide)) (shx sh_49_4) ?_
    refine x_iload_n d_Course_place_29 rfl ?_
    refine x_iload_n d_Course_place_30 rfl ?_
    refine x_iast d_Course_place_31 ak_50 (q99 (by decide)) ?_
    refine x_nmS (fun S2 _ => ?_)
    refine x_iload_n d_Course_place_32 rfl ?_
    refine x_iconst (v := -1) d_Course_place_33 (by decide) ?_
    refine x_icmp_eq (tgt := 47) d_Course_place_34 (by decide) (fun _ => ?_) (fun _ => ?_)
    · exact x_vret d_Course_place_47 rfl (Nat.le_of_ble_eq_true rfl) (Nat.le_of_ble_eq_true rfl)
    · refine x_aload_n_ref d_Course_place_37 rfl ?_
      refine x_getr d_Course_place_38 fl_Course_18 ak_49 (q99 (by decide)) (shx sh_49_6) ?_
      refine x_iload_n d_Course_place_41 rfl ?_
      refine x_dup2 d_Course_place_42 rfl rfl ?_
      refine x_iald d_Course_place_43 ak_52 (q99 (by decide)) ?_
      refine x_iconst (v := 1) d_Course_place_44 (by decide) ?_
      refine x_iadd d_Course_place_45 ?_
      refine x_iast d_Course_place_46 ak_52 (q99 (by decide)) ?_
      refine x_nmS (fun S3 _ => ?_)
      exact x_vret d_Course_place_47 rfl (Nat.le_of_ble_eq_true rfl) (Nat.le_of_ble_eq_true rfl)
  clear hJ25
  refine x_icmp_eq (tgt := 25) d_Course_place_7 (by decide) (fun _ => ?_) (fun _ => ?_)
  · exact V.kw (kJ25 S) ⟨rfl, rfl, rfl, trivial⟩
  · refine x_aload_n_ref d_Course_place_10 rfl ?_
    refine x_getr d_Course_place_11 fl_Course_18 ak_49 (q99 (by decide)) (shx sh_49_6) ?_
    refine x_aload_n_ref d_Course_place_14 rfl ?_
    refine x_getr d_Course_place_15 fl_Course_9 ak_49 (q99 (by decide)) (shx sh_49_4) ?_
    refine x_iload_n d_Course_place_18 rfl ?_
    refine x_iald d_Course_place_19 ak_50 (q99 (by decide)) ?_
    refine x_dup2 d_Course_place_20 rfl rfl ?_
    refine x_iald d_Course_place_21 ak_52 (q99 (by decide)) ?_
    refine x_iconst (v := 1) d_Course_place_22 (by decide) ?_
    refine x_isub d_Course_place_23 ?_
    refine x_iast d_Course_place_24 ak_52 (q99 (by decide)) ?_
    refine x_nmS (fun S4 _ => ?_)
    exact V.kw (kJ25 S4) ⟨rfl, rfl, rfl, trivial⟩
theorem c_Course_place {G : GX} (p1 : Int32) (p2 : Int32) (S : AS) : CN G y_Course_place b_Course_place 3 none ({ frames := 0, cells := 0, slots := 0, locals := 0 } : Room) (some none) iV [.ref 49, .int p1, .int p2] S (f_Course_place p1 p2 S) := cn_of_v (M := md_Course_place) (ini := false) rfl (by decide +kernel) (fun h => nomatch h) rfl (Nat.le_of_ble_eq_true rfl) (v_Course_place p1 p2 S)
noncomputable def f_Course_begin_L76 (J127 : AS → Option AS) : Nat → Int32 → AS → Option AS
  | 0, _, _ => none
  | n + 1, c1, S => if 16 ≤ c1 then (J127 S) else (chk (vp_in c1 16) (nm (si S 50 (ix c1) (-1)) fun S8 => chk (vp_in c1 16) (nm (si S8 51 (ix c1) 0) fun S9 => nm (fun (S10 : AS) => f_Course_begin_L76 J127 n (c1 + 1) S10) fun J121 => if (gi S9 16 7) ≤ c1 then (J121 S9) else (chk (vp_in c1 16) (bV (f_Course_place c1 (gi S9 22 (ix c1)) S9) fun S11 => J121 S11)))))
noncomputable def f_Course_begin_L55 (J74 : AS → Option AS) : Nat → Int32 → AS → Option AS
  | 0, _, _ => none
  | n + 1, c1, S => if 48 ≤ c1 then (J74 S) else (chk (vp_in c1 48) (nm (si S 55 (ix c1) (vp_nar .boolean 0)) fun S12 => f_Course_begin_L55 J74 n (c1 + 1) S12))
noncomputable def f_Course_begin_L34 (J53 : AS → Option AS) : Nat → Int32 → AS → Option AS
  | 0, _, _ => none
  | n + 1, c1, S => if 24 ≤ c1 then (J53 S) else (chk (vp_in c1 24) (nm (si S 54 (ix c1) (vp_nar .boolean 0)) fun S13 => f_Course_begin_L34 J53 n (c1 + 1) S13))
noncomputable def f_Course_begin (S : AS) : Option AS := bV (f_Arrays_fill_i_52 0 S) fun S1 => bV (f_Arrays_fill_l_53 0 S1) fun S2 => bV (f_Arrays_fill_i_56 (-1) S2) fun S3 => bV (f_Arrays_fill_i_57 (-1) S3) fun S4 => nm (fun (S5 : AS) => nm (fun (S6 : AS) => nm (fun (S7 : AS) => some S7) fun J127 => f_Course_begin_L76 J127 FU 0 S6) fun J74 => f_Course_begin_L55 J74 FU 0 S5) fun J53 => f_Course_begin_L34 J53 FU 0 S4
set_option maxHeartbeats 4000000 in
theorem v_Course_begin_L76 {G : GX} (J127 : AS → Option AS) (kJ127 : ∀ (T : AS), V G md_Course_begin (QM G md_Course_begin iV) (fun _ => True) (some none) 127 [none, none] [] 0 0 T (J127 T)) : ∀ (n : Nat) (c1 : Int32) (S : AS), V G md_Course_begin (QM G md_Course_begin iV) (fun _ => True) (some none) 76 [some (.ref 49), some (.int c1)] [] 0 0 S (f_Course_begin_L76 J127 n c1 S) := by
  intro n
  induction n with
  | zero => intro c1 S; exact V.none
  | succ n ih =>
    intro c1 S
    rw [f_Course_begin_L76]
    refine x_iload_n d_Course_begin_76 rfl ?_
    refine x_bipush (v := 16) d_Course_begin_77 (by decide) ?_
    refine x_icmp_ge (tgt := 127) d_Course_begin_79 (by decide) (fun _ => ?_) (fun _ => ?_)
    · exact V.kw (kJ127 S) trivial
    · refine x_aload_n_ref d_Course_begin_82 rfl ?_
      refine x_getr d_Course_begin_83 fl_Course_9 ak_49 (q99 (by decide)) (shx sh_49_4) ?_
      refine x_iload_n d_Course_begin_86 rfl ?_
      refine x_iconst (v := -1) d_Course_begin_87 (by decide) ?_
      refine x_iast d_Course_begin_88 ak_50 (q99 (by decide)) ?_
      refine x_nmS (fun S8 _ => ?_)
      refine x_aload_n_ref d_Course_begin_89 rfl ?_
      refine x_getr d_Course_begin_90 fl_Course_15 ak_49 (q99 (by decide)) (shx sh_49_5) ?_
      refine x_iload_n d_Course_begin_93 rfl ?_
      refine x_iconst (v := 0) d_Course_begin_94 (by decide) ?_
      refine x_iast d_Course_begin_95 ak_51 (q99 (by decide)) ?_
      refine x_nmS (fun S9 _ => ?_)
      refine x_iload_n d_Course_begin_96 rfl ?_
      refine x_aload_n_ref d_Course_begin_97 rfl ?_
      refine x_getr d_Course_begin_98 fl_Course_44 ak_49 (q99 (by decide)) (shx sh_49_0) ?_
      refine x_geti d_Course_begin_101 fl_Course_115 ak_16 (q99 (by decide)) ?_
      refine x_nm (fun J121 hJ121 => ?_)
      have kJ121 : ∀ (S10 : AS), V G md_Course_begin (QM G md_Course_begin iV) (fun _ => True) (some none) 121 [some (.ref 49), some (.int c1)] [] 0 0 S10 (J121 S10) := by
        subst hJ121
        intro S10
        refine x_iinc (w := c1 + 1) (lc' := [some (.ref 49), some (.int (c1 + 1))]) d_Course_begin_121 (by decide) rfl rfl rfl ?_
        refine x_goto (tgt := 76) d_Course_begin_124 (by decide) ?_
        exact V.kw (ih (c1 + 1) S10) ⟨rfl, rfl, trivial⟩
      clear hJ121
      refine x_icmp_ge (tgt := 121) d_Course_begin_104 (by decide) (fun _ => ?_) (fun _ => ?_)
      · exact V.kw (kJ121 S9) ⟨rfl, rfl, trivial⟩
      · refine x_aload_n_ref d_Course_begin_107 rfl ?_
        refine x_iload_n d_Course_begin_108 rfl ?_
        refine x_aload_n_ref d_Course_begin_109 rfl ?_
        refine x_getr d_Course_begin_110 fl_Course_44 ak_49 (q99 (by decide)) (shx sh_49_0) ?_
        refine x_getr d_Course_begin_113 fl_Course_118 ak_16 (q99 (by decide)) (shx sh_16_6) ?_
        refine x_iload_n d_Course_begin_116 rfl ?_
        refine x_iald d_Course_begin_117 ak_22 (q99 (by decide)) ?_
        refine x_vV (b' := (some none)) (As := [.int c1, .int (gi S9 22 (ix c1))]) d_Course_begin_118 mv_Course_121 rfl (fun _ => ak_49) rfl (q99 (by decide)) ⟨Nat.le_of_ble_eq_true rfl, Nat.le_of_ble_eq_true rfl⟩ (Nat.le_of_ble_eq_true rfl) ⟨Nat.le_of_ble_eq_true rfl, Nat.le_of_ble_eq_true rfl⟩ (fun _ h => h) (fun h => ⟨h, c_Course_place c1 (gi S9 22 (ix c1)) _⟩) (fun S11 => ?_)
        exact V.kw (kJ121 S11) ⟨rfl, rfl, trivial⟩
set_option maxHeartbeats 4000000 in
theorem v_Course_begin_L55 {G : GX} (J74 : AS → Option AS) (kJ74 : ∀ (T : AS), V G md_Course_begin (QM G md_Course_begin iV) (fun _ => True) (some none) 74 [some (.ref 49), none] [] 0 0 T (J74 T)) : ∀ (n : Nat) (c1 : Int32) (S : AS), V G md_Course_begin (QM G md_Course_begin iV) (fun _ => True) (some none) 55 [some (.ref 49), some (.int c1)] [] 0 0 S (f_Course_begin_L55 J74 n c1 S) := by
  intro n
  induction n with
  | zero => intro c1 S; exact V.none
  | succ n ih =>
    intro c1 S
    rw [f_Course_begin_L55]
    refine x_iload_n d_Course_begin_55 rfl ?_
    refine x_bipush (v := 48) d_Course_begin_56 (by decide) ?_
    refine x_icmp_ge (tgt := 74) d_Course_begin_58 (by decide) (fun _ => ?_) (fun _ => ?_)
    · exact V.kw (kJ74 S) ⟨rfl, trivial⟩
    · refine x_aload_n_ref d_Course_begin_61 rfl ?_
      refine x_getr d_Course_begin_62 fl_Course_29 ak_49 (q99 (by decide)) (shx sh_49_9) ?_
      refine x_iload_n d_Course_begin_65 rfl ?_
      refine x_iconst (v := 0) d_Course_begin_66 (by decide) ?_
      refine x_zast d_Course_begin_67 ak_55 (q99 (by decide)) ?_
      refine x_nmS (fun S12 _ => ?_)
      refine x_iinc (w := c1 + 1) (lc' := [some (.ref 49), some (.int (c1 + 1))]) d_Course_begin_68 (by decide) rfl rfl rfl ?_
      refine x_goto (tgt := 55) d_Course_begin_71 (by decide) ?_
      exact V.kw (ih (c1 + 1) S12) ⟨rfl, rfl, trivial⟩
set_option maxHeartbeats 4000000 in
theorem v_Course_begin_L34 {G : GX} (J53 : AS → Option AS) (kJ53 : ∀ (T : AS), V G md_Course_begin (QM G md_Course_begin iV) (fun _ => True) (some none) 53 [some (.ref 49), none] [] 0 0 T (J53 T)) : ∀ (n : Nat) (c1 : Int32) (S : AS), V G md_Course_begin (QM G md_Course_begin iV) (fun _ => True) (some none) 34 [some (.ref 49), some (.int c1)] [] 0 0 S (f_Course_begin_L34 J53 n c1 S) := by
  intro n
  induction n with
  | zero => intro c1 S; exact V.none
  | succ n ih =>
    intro c1 S
    rw [f_Course_begin_L34]
    refine x_iload_n d_Course_begin_34 rfl ?_
    refine x_bipush (v := 24) d_Course_begin_35 (by decide) ?_
    refine x_icmp_ge (tgt := 53) d_Course_begin_37 (by decide) (fun _ => ?_) (fun _ => ?_)
    · exact V.kw (kJ53 S) ⟨rfl, trivial⟩
    · refine x_aload_n_ref d_Course_begin_40 rfl ?_
      refine x_getr d_Course_begin_41 fl_Course_25 ak_49 (q99 (by decide)) (shx sh_49_8) ?_
      refine x_iload_n d_Course_begin_44 rfl ?_
      refine x_iconst (v := 0) d_Course_begin_45 (by decide) ?_
      refine x_zast d_Course_begin_46 ak_54 (q99 (by decide)) ?_
      refine x_nmS (fun S13 _ => ?_)
      refine x_iinc (w := c1 + 1) (lc' := [some (.ref 49), some (.int (c1 + 1))]) d_Course_begin_47 (by decide) rfl rfl rfl ?_
      refine x_goto (tgt := 34) d_Course_begin_50 (by decide) ?_
      exact V.kw (ih (c1 + 1) S13) ⟨rfl, rfl, trivial⟩
set_option maxHeartbeats 4000000 in
theorem v_Course_begin {G : GX} (S : AS) : V G md_Course_begin (QM G md_Course_begin iV) (fun _ => True) (some none) 0 [some (.ref 49), none] [] 0 0 S (f_Course_begin S) := by
  unfold f_Course_begin
  refine x_aload_n_ref d_Course_begin_0 rfl ?_
  refine x_getr d_Course_begin_1 fl_Course_18 ak_49 (q99 (by decide)) (shx sh_49_6) ?_
  refine x_iconst (v := 0) d_Course_begin_4 (by decide) ?_
  refine x_sV (b' := (some none)) (As := [.ref 52, .int 0]) d_Course_begin_5 ms_Course_106 rfl ⟨Nat.le_of_ble_eq_true rfl, Nat.le_of_ble_eq_true rfl⟩ (Nat.le_of_ble_eq_true rfl) ⟨Nat.le_of_ble_eq_true rfl, Nat.le_of_ble_eq_true rfl⟩ (fun _ h => h) (fun h => ⟨h, c_Arrays_fill_i_52 0 _⟩) (fun S1 => ?_)
  refine x_aload_n_ref d_Course_begin_8 rfl ?_
  refine x_getr d_Course_begin_9 fl_Course_21 ak_49 (q99 (by decide)) (shx sh_49_7) ?_
  refine x_lconst0 d_Course_begin_12 ?_
  refine x_sV (b' := (some none)) (As := [.ref 53, .long 0]) d_Course_begin_13 ms_Course_112 rfl ⟨Nat.le_of_ble_eq_true rfl, Nat.le_of_ble_eq_true rfl⟩ (Nat.le_of_ble_eq_true rfl) ⟨Nat.le_of_ble_eq_true rfl, Nat.le_of_ble_eq_true rfl⟩ (fun _ h => h) (fun h => ⟨h, c_Arrays_fill_l_53 0 _⟩) (fun S2 => ?_)
  refine x_aload_n_ref d_Course_begin_16 rfl ?_
  refine x_getr d_Course_begin_17 fl_Course_32 ak_49 (q99 (by decide)) (shx sh_49_10) ?_
  refine x_iconst (v := -1) d_Course_begin_20 (by decide) ?_
  refine x_sV (b' := (some none)) (As := [.ref 56, .int (-1)]) d_Course_begin_21 ms_Course_106 rfl ⟨Nat.le_of_ble_eq_true rfl, Nat.le_of_ble_eq_true rfl⟩ (Nat.le_of_ble_eq_true rfl) ⟨Nat.le_of_ble_eq_true rfl, Nat.le_of_ble_eq_true rfl⟩ (fun _ h => h) (fun h => ⟨h, c_Arrays_fill_i_56 (-1) _⟩) (fun S3 => ?_)
  refine x_aload_n_ref d_Course_begin_24 rfl ?_
  refine x_getr d_Course_begin_25 fl_Course_35 ak_49 (q99 (by decide)) (shx sh_49_11) ?_
  refine x_iconst (v := -1) d_Course_begin_28 (by decide) ?_
  refine x_sV (b' := (some none)) (As := [.ref 57, .int (-1)]) d_Course_begin_29 ms_Course_106 rfl ⟨Nat.le_of_ble_eq_true rfl, Nat.le_of_ble_eq_true rfl⟩ (Nat.le_of_ble_eq_true rfl) ⟨Nat.le_of_ble_eq_true rfl, Nat.le_of_ble_eq_true rfl⟩ (fun _ h => h) (fun h => ⟨h, c_Arrays_fill_i_57 (-1) _⟩) (fun S4 => ?_)
  refine x_iconst (v := 0) d_Course_begin_32 (by decide) ?_
  refine x_istore_n (lc' := [some (.ref 49), some (.int 0)]) d_Course_begin_33 (by decide) rfl ?_
  refine x_nm (fun J53 hJ53 => ?_)
  have kJ53 : ∀ (S5 : AS), V G md_Course_begin (QM G md_Course_begin iV) (fun _ => True) (some none) 53 [some (.ref 49), none] [] 0 0 S5 (J53 S5) := by
    subst hJ53
    intro S5
    refine x_iconst (v := 0) d_Course_begin_53 (by decide) ?_
    refine x_istore_n (lc' := [some (.ref 49), some (.int 0)]) d_Course_begin_54 (by decide) rfl ?_
    refine x_nm (fun J74 hJ74 => ?_)
    have kJ74 : ∀ (S6 : AS), V G md_Course_begin (QM G md_Course_begin iV) (fun _ => True) (some none) 74 [some (.ref 49), none] [] 0 0 S6 (J74 S6) := by
      subst hJ74
      intro S6
      refine x_iconst (v := 0) d_Course_begin_74 (by decide) ?_
      refine x_istore_n (lc' := [some (.ref 49), some (.int 0)]) d_Course_begin_75 (by decide) rfl ?_
      refine x_nm (fun J127 hJ127 => ?_)
      have kJ127 : ∀ (S7 : AS), V G md_Course_begin (QM G md_Course_begin iV) (fun _ => True) (some none) 127 [none, none] [] 0 0 S7 (J127 S7) := by
        subst hJ127
        intro S7
        exact x_vret d_Course_begin_127 rfl (Nat.le_of_ble_eq_true rfl) (Nat.le_of_ble_eq_true rfl)
      clear hJ127
      exact V.kw (v_Course_begin_L76 J127 kJ127 FU 0 S6) ⟨rfl, rfl, trivial⟩
    clear hJ74
    exact V.kw (v_Course_begin_L55 J74 kJ74 FU 0 S5) ⟨rfl, rfl, trivial⟩
  clear hJ53
  exact V.kw (v_Course_begin_L34 J53 kJ53 FU 0 S4) ⟨rfl, rfl, trivial⟩
theorem c_Course_begin {G : GX} (S : AS) : CN G y_Course_begin b_Course_begin 2 none ({ frames := 1, cells := 0, slots := 0, locals := 24 } : Room) (some none) iV [.ref 49] S (f_Course_begin S) := cn_of_v (M := md_Course_begin) (ini := false) rfl (by decide +kernel) (fun h => nomatch h) rfl (Nat.le_of_ble_eq_true rfl) (v_Course_begin S)
