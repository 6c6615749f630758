noncomputable def f_Tape_init (S : AS) : Option AS := nm (nw S) fun S1 => nm (sr S1 1 0 (some 2)) fun S2 => some S2
set_option maxHeartbeats 4000000 in
theorem v_Tape_init {G : GX} (S : AS) (hn : S.1 = 2) : V G md_Tape_init (QM G md_Tape_init iV) (fun _ => True) none 0 [some (.ref 1)] [] 0 0 S (f_Tape_init S) := by
  unfold f_Tape_init
  refine x_aload_n_ref d_Tape_init_0 rfl ?_
  refine x_obj d_Tape_init_1 (List.mem_append_right _ (List.mem_append_left _ (List.mem_of_getElem? (i := 34) (by decide +kernel)))) w_ob2 w_ob3 (Nat.le_of_ble_eq_true rfl) (by decide) (by decide) ?_
  refine x_aload_n_ref d_Tape_init_4 rfl ?_
  refine x_sipush (v := 400) d_Tape_init_5 (by decide) ?_
  refine c_newa hn d_Tape_init_8 (List.mem_append_right _ (List.mem_append_left _ (List.mem_of_getElem? (i := 45) (by decide +kernel)))) (by decide) (by rw [hn]; exact ak_2) (by decide) (by decide) (by decide) (Nat.le_of_ble_eq_true rfl) (Nat.le_of_ble_eq_true rfl) (fun S1 hS1 nS1 => ?_)
  refine x_putr d_Tape_init_10 fl_Tape_9 rfl rfl ak_1 (fun _ => by rw [nS1]; decide) (fun _ => ⟨rfl, rfl⟩) (fun _ => rfl) (fun _ => trivial) ?_
  refine x_nmS (fun S2 hS2 => ?_)
  have nS2 : S2.1 = 3 := by rw [hS2]; exact nS1
  exact x_vret d_Tape_init_13 rfl (Nat.le_of_ble_eq_true rfl) (Nat.le_of_ble_eq_true rfl)
theorem c_Tape_init {G : GX} (S : AS) (hn : S.1 = 2) : CN G y_Tape_init b_Tape_init 1 none ({ frames := 1, cells := 1, slots := 400, locals := 20 } : Room) none iV [.ref 1] S (f_Tape_init S) := cn_of_v (M := md_Tape_init) (ini := true) rfl (by decide +kernel) (fun _ => rfl) rfl (Nat.le_of_ble_eq_true rfl) (v_Tape_init S hn)
theorem n_Tape_init (S T : AS) (h : f_Tape_init S = some T) : T.1 = S.1 + 1 := by
  unfold f_Tape_init at h
  simp only [nm] at h
  cases h
  simp only [fst_si, fst_sr, fst_nw] at *
noncomputable def f_RuleBook_init (q : Nat) (S : AS) : Option AS := nm (nw S) fun S1 => nm (sr S1 q 0 (some (q + 1))) fun S2 => nm (nw S2) fun S3 => nm (sr S3 q 1 (some (q + 2))) fun S4 => nm (nw S4) fun S5 => nm (sr S5 q 2 (some (q + 3))) fun S6 => nm (nw S6) fun S7 => nm (sr S7 q 3 (some (q + 4))) fun S8 => nm (nw S8) fun S9 => nm (sr S9 q 5 (some (q + 5))) fun S10 => nm (nw S10) fun S11 => nm (sr S11 q 6 (some (q + 6))) fun S12 => nm (nw S12) fun S13 => nm (sr S13 q 7 (some (q + 7))) fun S14 => some S14
set_option maxHeartbeats 4000000 in
theorem v_RuleBook_init {G : GX} (q : Nat) (hq : isq q) (S : AS) (hn : S.1 = q + 1) : V G md_RuleBook_init (QM G md_RuleBook_init iV) (fun _ => True) none 0 [some (.ref q)] [] 0 0 S (f_RuleBook_init q S) := by
  unfold f_RuleBook_init
  refine x_aload_n_ref d_RuleBook_init_0 rfl ?_
  refine x_obj d_RuleBook_init_1 (List.mem_append_right _ (List.mem_append_left _ (List.mem_of_getElem? (i := 57) (by decide +kernel)))) w_ob2 w_ob3 (Nat.le_of_ble_eq_true rfl) (by decide) (by decide) ?_
  refine x_aload_n_ref d_RuleBook_init_4 rfl ?_
  refine x_bipush (v := 16) d_RuleBook_init_5 (by decide) ?_
  refine c_newa hn d_RuleBook_init_7 (List.mem_append_right _ (List.mem_append_left _ (List.mem_of_getElem? (i := 45) (by decide +kernel)))) (by decide) (by rw [hn]; exact (ak_q q 1 hq (by decide))) (by decide) (by decide) (by decide) (Nat.le_of_ble_eq_true rfl) (Nat.le_of_ble_eq_true rfl) (fun S1 hS1 nS1 => ?_)
  refine x_putr d_RuleBook_init_9 fl_RuleBook_9 rfl rfl (ak_q q 0 hq (by decide)) (fun _ => by rw [nS1]; omega) (fun _ => ⟨rfl, rfl⟩) (fun _ => rfl) (fun _ => trivial) ?_
  refine x_nmS (fun S2 hS2 => ?_)
  have nS2 : S2.1 = q + 2 := by rw [hS2]; exact nS1
  refine x_aload_n_ref d_RuleBook_init_12 rfl ?_
  refine x_bipush (v := 16) d_RuleBook_init_13 (by decide) ?_
  refine c_newa nS2 d_RuleBook_init_15 (List.mem_append_right _ (List.mem_append_left _ (List.mem_of_getElem? (i := 45) (by decide +kernel)))) (by decide) (by rw [nS2]; exact (ak_q q 2 hq (by decide))) (by decide) (by decide) (by decide) (Nat.le_of_ble_eq_true rfl) (Nat.le_of_ble_eq_true rfl) (fun S3 hS3 nS3 => ?_)
  refine x_putr d_RuleBook_init_17 fl_RuleBook_15 rfl rfl (ak_q q 0 hq (by decide)) (fun _ => by rw [nS3]; omega) (fun _ => ⟨rfl, rfl⟩) (fun _ => rfl) (fun _ => trivial) ?_
  refine x_nmS (fun S4 hS4 => ?_)
  have nS4 : S4.1 = q + 3 := by rw [hS4]; exact nS3
  refine x_aload_n_ref d_RuleBook_init_20 rfl ?_
  refine x_bipush (v := 16) d_RuleBook_init_21 (by decide) ?_
  refine c_newa nS4 d_RuleBook_init_23 (List.mem_append_right _ (List.mem_append_left _ (List.mem_of_getElem? (i := 45) (by decide +kernel)))) (by decide) (by rw [nS4]; exact (ak_q q 3 hq (by decide))) (by decide) (by decide) (by decide) (Nat.le_of_ble_eq_true rfl) (Nat.le_of_ble_eq_true rfl) (fun S5 hS5 nS5 => ?_)
  refine x_putr d_RuleBook_init_25 fl_RuleBook_18 rfl rfl (ak_q q 0 hq (by decide)) (fun _ => by rw [nS5]; omega) (fun _ => ⟨rfl, rfl⟩) (fun _ => rfl) (fun _ => trivial) ?_
  refine x_nmS (fun S6 hS6 => ?_)
  have nS6 : S6.1 = q + 4 := by rw [hS6]; exact nS5
  refine x_aload_n_ref d_RuleBook_init_28 rfl ?_
  refine x_bipush (v := 16) d_RuleBook_init_29 (by decide) ?_
  refine c_newa nS6 d_RuleBook_init_31 (List.mem_append_right _ (List.mem_append_left _ (List.mem_of_getElem? (i := 45) (by decide +kernel)))) (by decide) (by rw [nS6]; exact (ak_q q 4 hq (by decide))) (by decide) (by decide) (by decide) (Nat.le_of_ble_eq_true rfl) (Nat.le_of_ble_eq_true rfl) (fun S7 hS7 nS7 => ?_)
  refine x_putr d_RuleBook_init_33 fl_RuleBook_21 rfl rfl (ak_q q 0 hq (by decide)) (fun _ => by rw [nS7]; omega) (fun _ => ⟨rfl, rfl⟩) (fun _ => rfl) (fun _ => trivial) ?_
  refine x_nmS (fun S8 hS8 => ?_)
  have nS8 : S8.1 = q + 5 := by rw [hS8]; exact nS7
  refine x_aload_n_ref d_RuleBook_init_36 rfl ?_
  refine x_bipush (v := 64) d_RuleBook_init_37 (by decide) ?_
  refine c_newa nS8 d_RuleBook_init_39 (List.mem_append_right _ (List.mem_append_left _ (List.mem_of_getElem? (i := 45) (by decide +kernel)))) (by decide) (by rw [nS8]; exact (ak_q q 5 hq (by decide))) (by decide) (by decide) (by decide) (Nat.le_of_ble_eq_true rfl) (Nat.le_of_ble_eq_true rfl) (fun S9 hS9 nS9 => ?_)
  refine x_putr d_RuleBook_init_41 fl_RuleBook_24 rfl rfl (ak_q q 0 hq (by decide)) (fun _ => by rw [nS9]; omega) (fun _ => ⟨rfl, rfl⟩) (fun _ => rfl) (fun _ => trivial) ?_
  refine x_nmS (fun S10 hS10 => ?_)
  have nS10 : S10.1 = q + 6 := by rw [hS10]; exact nS9
  refine x_aload_n_ref d_RuleBook_init_44 rfl ?_
  refine x_bipush (v := 64) d_RuleBook_init_45 (by decide) ?_
  refine c_newa nS10 d_RuleBook_init_47 (List.mem_append_right _ (List.mem_append_left _ (List.mem_of_getElem? (i := 45) (by decide +kernel)))) (by decide) (by rw [nS10]; exact (ak_q q 6 hq (by decide))) (by decide) (by decide) (by decide) (Nat.le_of_ble_eq_true rfl) (Nat.le_of_ble_eq_true rfl) (fun S11 hS11 nS11 => ?_)
  refine x_putr d_RuleBook_init_49 fl_RuleBook_27 rfl rfl (ak_q q 0 hq (by decide)) (fun _ => by rw [nS11]; omega) (fun _ => ⟨rfl, rfl⟩) (fun _ => rfl) (fun _ => trivial) ?_
  refine x_nmS (fun S12 hS12 => ?_)
  have nS12 : S12.1 = q + 7 := by rw [hS12]; exact nS11
  refine x_aload_n_ref d_RuleBook_init_52 rfl ?_
  refine x_bipush (v := 64) d_RuleBook_init_53 (by decide) ?_
  refine c_newa nS12 d_RuleBook_init_55 (List.mem_append_right _ (List.mem_append_left _ (List.mem_of_getElem? (i := 45) (by decide +kernel)))) (by decide) (by rw [nS12]; exact (ak_q q 7 hq (by decide))) (by decide) (by decide) (by decide) (Nat.le_of_ble_eq_true rfl) (Nat.le_of_ble_eq_true rfl) (fun S13 hS13 nS13 => ?_)
  refine x_putr d_RuleBook_init_57 fl_RuleBook_30 rfl rfl (ak_q q 0 hq (by decide)) (fun _ => by rw [nS13]; omega) (fun _ => ⟨rfl, rfl⟩) (fun _ => rfl) (fun _ => trivial) ?_
  refine x_nmS (fun S14 hS14 => ?_)
  have nS14 : S14.1 = q + 8 := by rw [hS14]; exact nS13
  exact x_vret d_RuleBook_init_60 rfl (Nat.le_of_ble_eq_true rfl) (Nat.le_of_ble_eq_true rfl)
theorem c_RuleBook_init {G : GX} (q : Nat) (hq : isq q) (S : AS) (hn : S.1 = q + 1) : CN G y_RuleBook_init b_RuleBook_init 1 none ({ frames := 1, cells := 7, slots := 256, locals := 20 } : Room) none iV [.ref q] S (f_RuleBook_init q S) := cn_of_v (M := md_RuleBook_init) (ini := true) rfl (by decide +kernel) (fun _ => rfl) rfl (Nat.le_of_ble_eq_true rfl) (v_RuleBook_init q hq S hn)
theorem n_RuleBook_init (q : Nat) (S T : AS) (h : f_RuleBook_init q S = some T) : T.1 = S.1 + 7 := by
  unfold f_RuleBook_init at h
  simp only [nm] at h
  cases h
  simp only [fst_si, fst_sr, fst_nw] at *
noncomputable def f_TokenRow_init (S : AS) : Option AS := nm (nw S) fun S1 => nm (sr S1 12 1 (some 13)) fun S2 => nm (nw S2) fun S3 => nm (sr S3 12 2 (some 14)) fun S4 => nm (nw S4) fun S5 => nm (sr S5 12 3 (some 15)) fun S6 => nm (sr S6 12 0 (some 1)) fun S7 => some S7
set_option maxHeartbeats 4000000 in
theorem v_TokenRow_init {G : GX} (S : AS) (hn : S.1 = 13) : V G md_TokenRow_init (QM G md_TokenRow_init iV) (fun _ => True) none 0 [some (.ref 12), some (.ref 1)] [] 0 0 S (f_TokenRow_init S) := by
  unfold f_TokenRow_init
  refine x_aload_n_ref d_TokenRow_init_0 rfl ?_
  refine x_obj d_TokenRow_init_1 (List.mem_append_right _ (List.mem_append_left _ (List.mem_of_getElem? (i := 92) (by decide +kernel)))) w_ob2 w_ob3 (Nat.le_of_ble_eq_true rfl) (by decide) (by decide) ?_
  refine x_aload_n_ref d_TokenRow_init_4 rfl ?_
  refine x_sipush (v := 401) d_TokenRow_init_5 (by decide) ?_
  refine c_newa hn d_TokenRow_init_8 (List.mem_append_right _ (List.mem_append_left _ (List.mem_of_getElem? (i := 45) (by decide +kernel)))) (by decide) (by rw [hn]; exact ak_13) (by decide) (by decide) (by decide) (Nat.le_of_ble_eq_true rfl) (Nat.le_of_ble_eq_true rfl) (fun S1 hS1 nS1 => ?_)
  refine x_putr d_TokenRow_init_10 fl_TokenRow_9 rfl rfl ak_12 (fun _ => by rw [nS1]; decide) (fun _ => ⟨rfl, rfl⟩) (fun _ => rfl) (fun _ => trivial) ?_
  refine x_nmS (fun S2 hS2 => ?_)
  have nS2 : S2.1 = 14 := by rw [hS2]; exact nS1
  refine x_aload_n_ref d_TokenRow_init_13 rfl ?_
  refine x_sipush (v := 401) d_TokenRow_init_14 (by decide) ?_
  refine c_newa nS2 d_TokenRow_init_17 (List.mem_append_right _ (List.mem_append_left _ (List.mem_of_getElem? (i := 45) (by decide +kernel)))) (by decide) (by rw [nS2]; exact ak_14) (by decide) (by decide) (by decide) (Nat.le_of_ble_eq_true rfl) (Nat.le_of_ble_eq_true rfl) (fun S3 hS3 nS3 => ?_)
  refine x_putr d_TokenRow_init_19 fl_TokenRow_15 rfl rfl ak_12 (fun _ => by rw [nS3]; decide) (fun _ => ⟨rfl, rfl⟩) (fun _ => rfl) (fun _ => trivial) ?_
  refine x_nmS (fun S4 hS4 => ?_)
  have nS4 : S4.1 = 15 := by rw [hS4]; exact nS3
  refine x_aload_n_ref d_TokenRow_init_22 rfl ?_
  refine x_sipush (v := 401) d_TokenRow_init_23 (by decide) ?_
  refine c_newa nS4 d_TokenRow_init_26 (List.mem_append_right _ (List.mem_append_left _ (List.mem_of_getElem? (i := 45) (by decide +kernel)))) (by decide) (by rw [nS4]; exact ak_15) (by decide) (by decide) (by decide) (Nat.le_of_ble_eq_true rfl) (Nat.le_of_ble_eq_true rfl) (fun S5 hS5 nS5 => ?_)
  refine x_putr d_TokenRow_init_28 fl_TokenRow_18 rfl rfl ak_12 (fun _ => by rw [nS5]; decide) (fun _ => ⟨rfl, rfl⟩) (fun _ => rfl) (fun _ => trivial) ?_
  refine x_nmS (fun S6 hS6 => ?_)
  have nS6 : S6.1 = 16 := by rw [hS6]; exact nS5
  refine x_aload_n_ref d_TokenRow_init_31 rfl ?_
  refine x_aload_n_ref d_TokenRow_init_32 rfl ?_
  refine x_putr d_TokenRow_init_33 fl_TokenRow_21 rfl rfl ak_12 (fun _ => by rw [nS6]; decide) (fun _ => ⟨rfl, rfl⟩) (fun _ => rfl) (fun _ => trivial) ?_
  refine x_nmS (fun S7 hS7 => ?_)
  have nS7 : S7.1 = 16 := by rw [hS7]; exact nS6
  exact x_vret d_TokenRow_init_36 rfl (Nat.le_of_ble_eq_true rfl) (Nat.le_of_ble_eq_true rfl)
theorem c_TokenRow_init {G : GX} (S : AS) (hn : S.1 = 13) : CN G y_TokenRow_init b_TokenRow_init 2 none ({ frames := 1, cells := 3, slots := 1203, locals := 20 } : Room) none iV [.ref 12, .ref 1] S (f_TokenRow_init S) := cn_of_v (M := md_TokenRow_init) (ini := true) rfl (by decide +kernel) (fun _ => rfl) rfl (Nat.le_of_ble_eq_true rfl) (v_TokenRow_init S hn)
theorem n_TokenRow_init (S T : AS) (h : f_TokenRow_init S = some T) : T.1 = S.1 + 3 := by
  unfold f_TokenRow_init at h
  simp only [nm] at h
  cases h
  simp only [fst_si, fst_sr, fst_nw] at *
noncomputable def f_RuleReader_init (S : AS) : Option AS := nm (nw S) fun S1 => bV (f_RuleBook_init 4 S1) fun S2 => nm (sr S2 3 1 (some 4)) fun S3 => nm (nw S3) fun S4 => bV (f_TokenRow_init S4) fun S5 => nm (sr S5 3 0 (some 12)) fun S6 => nm (si S6 3 5 (-1)) fun S7 => some S7
set_option maxHeartbeats 4000000 in
theorem v_RuleReader_init {G : GX} (S : AS) (hn : S.1 = 4) : V G md_RuleReader_init (QM G md_RuleReader_init iV) (fun _ => True) none 0 [some (.ref 3), some (.ref 1)] [] 0 0 S (f_RuleReader_init S) := by
  unfold f_RuleReader_init
  refine x_aload_n_ref d_RuleReader_init_0 rfl ?_
  refine x_obj d_RuleReader_init_1 (List.mem_append_right _ (List.mem_append_left _ (List.mem_of_getElem? (i := 51) (by decide +kernel)))) w_ob2 w_ob3 (Nat.le_of_ble_eq_true rfl) (by decide) (by decide) ?_
  refine x_aload_n_ref d_RuleReader_init_4 rfl ?_
  refine c_new hn d_RuleReader_init_5 nwc_RuleReader_9 (by rw [hn]; exact ak_4) (Nat.le_of_ble_eq_true rfl) (Nat.le_of_ble_eq_true rfl) (fun S1 hS1 nS1 => ?_)
  refine x_dup d_RuleReader_init_8 rfl ?_
  refine x_callI (As := []) d_RuleReader_init_9 mi_RuleReader_11 rfl ⟨Nat.le_of_ble_eq_true rfl, Nat.le_of_ble_eq_true rfl⟩ (Nat.le_of_ble_eq_true rfl) ⟨Nat.le_of_ble_eq_true rfl, Nat.le_of_ble_eq_true rfl⟩ (c_RuleBook_init 4 (by first | exact Or.inl rfl | exact Or.inr (Or.inl rfl)) S1 (nS1)) (fun S2 hS2 => ?_)
  have nS2 : S2.1 = 12 := by rw [n_RuleBook_init _ S1 S2 hS2, nS1]
  refine x_putr d_RuleReader_init_12 fl_RuleReader_12 rfl rfl ak_3 (fun _ => by rw [nS2]; decide) (fun _ => ⟨rfl, rfl⟩) (fun _ => rfl) (fun _ => trivial) ?_
  refine x_nmS (fun S3 hS3 => ?_)
  have nS3 : S3.1 = 12 := by rw [hS3]; exact nS2
  refine x_aload_n_ref d_RuleReader_init_15 rfl ?_
  refine c_new nS3 d_RuleReader_init_16 nwc_RuleReader_18 (by rw [nS3]; exact ak_12) (Nat.le_of_ble_eq_true rfl) (Nat.le_of_ble_eq_true rfl) (fun S4 hS4 nS4 => ?_)
  refine x_dup d_RuleReader_init_19 rfl ?_
  refine x_aload_n_ref d_RuleReader_init_20 rfl ?_
  refine x_callI (As := [.ref 1]) d_RuleReader_init_21 mi_RuleReader_20 rfl ⟨Nat.le_of_ble_eq_true rfl, Nat.le_of_ble_eq_true rfl⟩ (Nat.le_of_ble_eq_true rfl) ⟨Nat.le_of_ble_eq_true rfl, Nat.le_of_ble_eq_true rfl⟩ (c_TokenRow_init S4 (nS4)) (fun S5 hS5 => ?_)
  have nS5 : S5.1 = 16 := by rw [n_TokenRow_init S4 S5 hS5, nS4]
  refine x_putr d_RuleReader_init_24 fl_RuleReader_23 rfl rfl ak_3 (fun _ => by rw [nS5]; decide) (fun _ => ⟨rfl, rfl⟩) (fun _ => rfl) (fun _ => trivial) ?_
  refine x_nmS (fun S6 hS6 => ?_)
  have nS6 : S6.1 = 16 := by rw [hS6]; exact nS5
  refine x_aload_n_ref d_RuleReader_init_27 rfl ?_
  refine x_iconst (v := -1) d_RuleReader_init_28 (by decide) ?_
  refine x_puti d_RuleReader_init_29 fl_RuleReader_27 rfl ak_3 (fun _ => by rw [nS6]; decide) (fun h => nomatch h) (fun h => nomatch h) ?_
  refine x_nmS (fun S7 hS7 => ?_)
  have nS7 : S7.1 = 16 := by rw [hS7]; exact nS6
  exact x_vret d_RuleReader_init_32 rfl (Nat.le_of_ble_eq_true rfl) (Nat.le_of_ble_eq_true rfl)
theorem c_RuleReader_init {G : GX} (S : AS) (hn : S.1 = 4) : CN G y_RuleReader_init b_RuleReader_init 2 none ({ frames := 2, cells := 12, slots := 1473, locals := 41 } : Room) none iV [.ref 3, .ref 1] S (f_RuleReader_init S) := cn_of_v (M := md_RuleReader_init) (ini := true) rfl (by decide +kernel) (fun _ => rfl) rfl (Nat.le_of_ble_eq_true rfl) (v_RuleReader_init S hn)
theorem n_RuleReader_init (S T : AS) (h : f_RuleReader_init S = some T) : T.1 = S.1 + 12 := by
  unfold f_RuleReader_init at h
  simp only [nm] at h
  obtain ⟨U1, e1, h⟩ := bV_some h
  obtain ⟨U2, e2, h⟩ := bV_some h
  cases h
  have g1 := n_RuleBook_init _ _ _ e1
  have g2 := n_TokenRow_init _ _ e2
  simp only [fst_si, fst_sr, fst_nw] at *
  omega
noncomputable def f_Roll_init (S : AS) : Option AS := nm (nw S) fun S1 => nm (sr S1 16 0 (some 17)) fun S2 => nm (nw S2) fun S3 => nm (sr S3 16 1 (some 18)) fun S4 => nm (nw S4) fun S5 => nm (sr S5 16 2 (some 19)) fun S6 => nm (nw S6) fun S7 => nm (sr S7 16 4 (some 20)) fun S8 => nm (nw S8) fun S9 => nm (sr S9 16 5 (some 21)) fun S10 => nm (nw S10) fun S11 => nm (sr S11 16 6 (some 22)) fun S12 => some S12
set_option maxHeartbeats 4000000 in
theorem v_Roll_init {G : GX} (S : AS) (hn : S.1 = 17) : V G md_Roll_init (QM G md_Roll_init iV) (fun _ => True) none 0 [some (.ref 16)] [] 0 0 S (f_Roll_init S) := by
  unfold f_Roll_init
  refine x_aload_n_ref d_Roll_init_0 rfl ?_
  refine x_obj d_Roll_init_1 (List.mem_append_right _ (List.mem_append_left _ (List.mem_of_getElem? (i := 140) (by decide +kernel)))) w_ob2 w_ob3 (Nat.le_of_ble_eq_true rfl) (by decide) (by decide) ?_
  refine x_aload_n_ref d_Roll_init_4 rfl ?_
  refine x_bipush (v := 24) d_Roll_init_5 (by decide) ?_
  refine c_newa hn d_Roll_init_7 (List.mem_append_right _ (List.mem_append_left _ (List.mem_of_getElem? (i := 45) (by decide +kernel)))) (by decide) (by rw [hn]; exact ak_17) (by decide) (by decide) (by decide) (Nat.le_of_ble_eq_true rfl) (Nat.le_of_ble_eq_true rfl) (fun S1 hS1 nS1 => ?_)
  refine x_putr d_Roll_init_9 fl_Roll_9 rfl rfl ak_16 (fun _ => by rw [nS1]; decide) (fun _ => ⟨rfl, rfl⟩) (fun _ => rfl) (fun _ => trivial) ?_
  refine x_nmS (fun S2 hS2 => ?_)
  have nS2 : S2.1 = 18 := by rw [hS2]; exact nS1
  refine x_aload_n_ref d_Roll_init_12 rfl ?_
  refine x_bipush (v := 24) d_Roll_init_13 (by decide) ?_
  refine c_newa nS2 d_Roll_init_15 (List.mem_append_right _ (List.mem_append_left _ (List.mem_of_getElem? (i := 45) (by decide +kernel)))) (by decide) (by rw [nS2]; exact ak_18) (by decide) (by decide) (by decide) (Nat.le_of_ble_eq_true rfl) (Nat.le_of_ble_eq_true rfl) (fun S3 hS3 nS3 => ?_)
  refine x_putr d_Roll_init_17 fl_Roll_15 rfl rfl ak_16 (fun _ => by rw [nS3]; decide) (fun _ => ⟨rfl, rfl⟩) (fun _ => rfl) (fun _ => trivial) ?_
  refine x_nmS (fun S4 hS4 => ?_)
  have nS4 : S4.1 = 19 := by rw [hS4]; exact nS3
  refine x_aload_n_ref d_Roll_init_20 rfl ?_
  refine x_bipush (v := 24) d_Roll_init_21 (by decide) ?_
  refine c_newa nS4 d_Roll_init_23 (List.mem_append_right _ (List.mem_append_left _ (List.mem_of_getElem? (i := 45) (by decide +kernel)))) (by decide) (by rw [nS4]; exact ak_19) (by decide) (by decide) (by decide) (Nat.le_of_ble_eq_true rfl) (Nat.le_of_ble_eq_true rfl) (fun S5 hS5 nS5 => ?_)
  refine x_putr d_Roll_init_25 fl_Roll_18 rfl rfl ak_16 (fun _ => by rw [nS5]; decide) (fun _ => ⟨rfl, rfl⟩) (fun _ => rfl) (fun _ => trivial) ?_
  refine x_nmS (fun S6 hS6 => ?_)
  have nS6 : S6.1 = 20 := by rw [hS6]; exact nS5
  refine x_aload_n_ref d_Roll_init_28 rfl ?_
  refine x_bipush (v := 16) d_Roll_init_29 (by decide) ?_
  refine c_newa nS6 d_Roll_init_31 (List.mem_append_right _ (List.mem_append_left _ (List.mem_of_getElem? (i := 45) (by decide +kernel)))) (by decide) (by rw [nS6]; exact ak_20) (by decide) (by decide) (by decide) (Nat.le_of_ble_eq_true rfl) (Nat.le_of_ble_eq_true rfl) (fun S7 hS7 nS7 => ?_)
  refine x_putr d_Roll_init_33 fl_Roll_21 rfl rfl ak_16 (fun _ => by rw [nS7]; decide) (fun _ => ⟨rfl, rfl⟩) (fun _ => rfl) (fun _ => trivial) ?_
  refine x_nmS (fun S8 hS8 => ?_)
  have nS8 : S8.1 = 21 := by rw [hS8]; exact nS7
  refine x_aload_n_ref d_Roll_init_36 rfl ?_
  refine x_bipush (v := 16) d_Roll_init_37 (by decide) ?_
  refine c_newa nS8 d_Roll_init_39 (List.mem_append_right _ (List.mem_append_left _ (List.mem_of_getElem? (i := 45) (by decide +kernel)))) (by decide) (by rw [nS8]; exact ak_21) (by decide) (by decide) (by decide) (Nat.le_of_ble_eq_true rfl) (Nat.le_of_ble_eq_true rfl) (fun S9 hS9 nS9 => ?_)
  refine x_putr d_Roll_init_41 fl_Roll_24 rfl rfl ak_16 (fun _ => by rw [nS9]; decide) (fun _ => ⟨rfl, rfl⟩) (fun _ => rfl) (fun _ => trivial) ?_
  refine x_nmS (fun S10 hS10 => ?_)
  have nS10 : S10.1 = 22 := by rw [hS10]; exact nS9
  refine x_aload_n_ref d_Roll_init_44 rfl ?_
  refine x_bipush (v := 16) d_Roll_init_45 (by decide) ?_
  refine c_newa nS10 d_Roll_init_47 (List.mem_append_right _ (List.mem_append_left _ (List.mem_of_getElem? (i := 45) (by decide +kernel)))) (by decide) (by rw [nS10]; exact ak_22) (by decide) (by decide) (by decide) (Nat.le_of_ble_eq_true rfl) (Nat.le_of_ble_eq_true rfl) (fun S11 hS11 nS11 => ?_)
  refine x_putr d_Roll_init_49 fl_Roll_27 rfl rfl ak_16 (fun _ => by rw [nS11]; decide) (fun _ => ⟨rfl, rfl⟩) (fun _ => rfl) (fun _ => trivial) ?_
  refine x_nmS (fun S12 hS12 => ?_)
  have nS12 : S12.1 = 23 := by rw [hS12]; exact nS11
  exact x_vret d_Roll_init_52 rfl (Nat.le_of_ble_eq_true rfl) (Nat.le_of_ble_eq_true rfl)
theorem c_Roll_init {G : GX} (S : AS) (hn : S.1 = 17) : CN G y_Roll_init b_Roll_init 1 none ({ frames := 1, cells := 6, slots := 120, locals := 20 } : Room) none iV [.ref 16] S (f_Roll_init S) := cn_of_v (M := md_Roll_init) (ini := true) rfl (by decide +kernel) (fun _ => rfl) rfl (Nat.le_of_ble_eq_true rfl) (v_Roll_init S hn)
theorem n_Roll_init (S T : AS) (h : f_Roll_init S = some T) : T.1 = S.1 + 6 := by
  unfold f_Roll_init at h
  simp only [nm] at h
  cases h
  simp only [fst_si, fst_sr, fst_nw] at *
noncomputable def f_PaperBox_init (S : AS) : Option AS := nm (nw S) fun S1 => nm (sr S1 23 0 (some 24)) fun S2 => nm (nw S2) fun S3 => nm (sr S3 23 1 (some 25)) fun S4 => nm (nw S4) fun S5 => nm (sr S5 23 2 (some 26)) fun S6 => nm (nw S6) fun S7 => nm (sr S7 23 3 (some 27)) fun S8 => nm (nw S8) fun S9 => nm (sr S9 23 4 (some 28)) fun S10 => nm (nw S10) fun S11 => nm (sr S11 23 5 (some 29)) fun S12 => nm (nw S12) fun S13 => nm (sr S13 23 6 (some 30)) fun S14 => nm (nw S14) fun S15 => nm (sr S15 23 7 (some 31)) fun S16 => some S16
set_option maxHeartbeats 4000000 in
theorem v_PaperBox_init {G : GX} (S : AS) (hn : S.1 = 24) : V G md_PaperBox_init (QM G md_PaperBox_init iV) (fun _ => True) none 0 [some (.ref 23)] [] 0 0 S (f_PaperBox_init S) := by
  unfold f_PaperBox_init
  refine x_aload_n_ref d_PaperBox_init_0 rfl ?_
  refine x_obj d_PaperBox_init_1 (List.mem_append_right _ (List.mem_append_left _ (List.mem_of_getElem? (i := 186) (by decide +kernel)))) w_ob2 w_ob3 (Nat.le_of_ble_eq_true rfl) (by decide) (by decide) ?_
  refine x_aload_n_ref d_PaperBox_init_4 rfl ?_
  refine x_bipush (v := 48) d_PaperBox_init_5 (by decide) ?_
  refine c_newa hn d_PaperBox_init_7 (List.mem_append_right _ (List.mem_append_left _ (List.mem_of_getElem? (i := 45) (by decide +kernel)))) (by decide) (by rw [hn]; exact ak_24) (by decide) (by decide) (by decide) (Nat.le_of_ble_eq_true rfl) (Nat.le_of_ble_eq_true rfl) (fun S1 hS1 nS1 => ?_)
  refine x_putr d_PaperBox_init_9 fl_PaperBox_9 rfl rfl ak_23 (fun _ => by rw [nS1]; decide) (fun _ => ⟨rfl, rfl⟩) (fun _ => rfl) (fun _ => trivial) ?_
  refine x_nmS (fun S2 hS2 => ?_)
  have nS2 : S2.1 = 25 := by rw [hS2]; exact nS1
  refine x_aload_n_ref d_PaperBox_init_12 rfl ?_
  refine x_bipush (v := 48) d_PaperBox_init_13 (by decide) ?_
  refine c_newa nS2 d_PaperBox_init_15 (List.mem_append_right _ (List.mem_append_left _ (List.mem_of_getElem? (i := 45) (by decide +kernel)))) (by decide) (by rw [nS2]; exact ak_25) (by decide) (by decide) (by decide) (Nat.le_of_ble_eq_true rfl) (Nat.le_of_ble_eq_true rfl) (fun S3 hS3 nS3 => ?_)
  refine x_putr d_PaperBox_init_17 fl_PaperBox_15 rfl rfl ak_23 (fun _ => by rw [nS3]; decide) (fun _ => ⟨rfl, rfl⟩) (fun _ => rfl) (fun _ => trivial) ?_
  refine x_nmS (fun S4 hS4 => ?_)
  have nS4 : S4.1 = 26 := by rw [hS4]; exact nS3
  refine x_aload_n_ref d_PaperBox_init_20 rfl ?_
  refine x_bipush (v := 48) d_PaperBox_init_21 (by decide) ?_
  refine c_newa nS4 d_PaperBox_init_23 (List.mem_append_right _ (List.mem_append_left _ (List.mem_of_getElem? (i := 45) (by decide +kernel)))) (by decide) (by rw [nS4]; exact ak_26) (by decide) (by decide) (by decide) (Nat.le_of_ble_eq_true rfl) (Nat.le_of_ble_eq_true rfl) (fun S5 hS5 nS5 => ?_)
  refine x_putr d_PaperBox_init_25 fl_PaperBox_18 rfl rfl ak_23 (fun _ => by rw [nS5]; decide) (fun _ => ⟨rfl, rfl⟩) (fun _ => rfl) (fun _ => trivial) ?_
  refine x_nmS (fun S6 hS6 => ?_)
  have nS6 : S6.1 = 27 := by rw [hS6]; exact nS5
  refine x_aload_n_ref d_PaperBox_init_28 rfl ?_
  refine x_bipush (v := 48) d_PaperBox_init_29 (by decide) ?_
  refine c_newa nS6 d_PaperBox_init_31 (List.mem_append_right _ (List.mem_append_left _ (List.mem_of_getElem? (i := 45) (by decide +kernel)))) (by decide) (by rw [nS6]; exact ak_27) (by decide) (by decide) (by decide) (Nat.le_of_ble_eq_true rfl) (Nat.le_of_ble_eq_true rfl) (fun S7 hS7 nS7 => ?_)
  refine x_putr d_PaperBox_init_33 fl_PaperBox_21 rfl rfl ak_23 (fun _ => by rw [nS7]; decide) (fun _ => ⟨rfl, rfl⟩) (fun _ => rfl) (fun _ => trivial) ?_
  refine x_nmS (fun S8 hS8 => ?_)
  have nS8 : S8.1 = 28 := by rw [hS8]; exact nS7
  refine x_aload_n_ref d_PaperBox_init_36 rfl ?_
  refine x_bipush (v := 48) d_PaperBox_init_37 (by decide) ?_
  refine c_newa nS8 d_PaperBox_init_39 (List.mem_append_right _ (List.mem_append_left _ (List.mem_of_getElem? (i := 45) (by decide +kernel)))) (by decide) (by rw [nS8]; exact ak_28) (by decide) (by decide) (by decide) (Nat.le_of_ble_eq_true rfl) (Nat.le_of_ble_eq_true rfl) (fun S9 hS9 nS9 => ?_)
  refine x_putr d_PaperBox_init_41 fl_PaperBox_24 rfl rfl ak_23 (fun _ => by rw [nS9]; decide) (fun _ => ⟨rfl, rfl⟩) (fun _ => rfl) (fun _ => trivial) ?_
  refine x_nmS (fun S10 hS10 => ?_)
  have nS10 : S10.1 = 29 := by rw [hS10]; exact nS9
  refine x_aload_n_ref d_PaperBox_init_44 rfl ?_
  refine x_bipush (v := 48) d_PaperBox_init_45 (by decide) ?_
  refine c_newa nS10 d_PaperBox_init_47 (List.mem_append_right _ (List.mem_append_left _ (List.mem_of_getElem? (i := 45) (by decide +kernel)))) (by decide) (by rw [nS10]; exact ak_29) (by decide) (by decide) (by decide) (Nat.le_of_ble_eq_true rfl) (Nat.le_of_ble_eq_true rfl) (fun S11 hS11 nS11 => ?_)
  refine x_putr d_PaperBox_init_49 fl_PaperBox_27 rfl rfl ak_23 (fun _ => by rw [nS11]; decide) (fun _ => ⟨rfl, rfl⟩) (fun _ => rfl) (fun _ => trivial) ?_
  refine x_nmS (fun S12 hS12 => ?_)
  have nS12 : S12.1 = 30 := by rw [hS12]; exact nS11
  refine x_aload_n_ref d_PaperBox_init_52 rfl ?_
  refine x_bipush (v := 48) d_PaperBox_init_53 (by decide) ?_
  refine c_newa nS12 d_PaperBox_init_55 (List.mem_append_right _ (List.mem_append_left _ (List.mem_of_getElem? (i := 45) (by decide +kernel)))) (by decide) (by rw [nS12]; exact ak_30) (by decide) (by decide) (by decide) (Nat.le_of_ble_eq_true rfl) (Nat.le_of_ble_eq_true rfl) (fun S13 hS13 nS13 => ?_)
  refine x_putr d_PaperBox_init_57 fl_PaperBox_30 rfl rfl ak_23 (fun _ => by rw [nS13]; decide) (fun _ => ⟨rfl, rfl⟩) (fun _ => rfl) (fun _ => trivial) ?_
  refine x_nmS (fun S14 hS14 => ?_)
  have nS14 : S14.1 = 31 := by rw [hS14]; exact nS13
  refine x_aload_n_ref d_PaperBox_init_60 rfl ?_
  refine x_bipush (v := 48) d_PaperBox_init_61 (by decide) ?_
  refine c_newa nS14 d_PaperBox_init_63 (List.mem_append_right _ (List.mem_append_left _ (List.mem_of_getElem? (i := 45) (by decide +kernel)))) (by decide) (by rw [nS14]; exact ak_31) (by decide) (by decide) (by decide) (Nat.le_of_ble_eq_true rfl) (Nat.le_of_ble_eq_true rfl) (fun S15 hS15 nS15 => ?_)
  refine x_putr d_PaperBox_init_65 fl_PaperBox_33 rfl rfl ak_23 (fun _ => by rw [nS15]; decide) (fun _ => ⟨rfl, rfl⟩) (fun _ => rfl) (fun _ => trivial) ?_
  refine x_nmS (fun S16 hS16 => ?_)
  have nS16 : S16.1 = 32 := by rw [hS16]; exact nS15
  exact x_vret d_PaperBox_init_68 rfl (Nat.le_of_ble_eq_true rfl) (Nat.le_of_ble_eq_true rfl)
theorem c_PaperBox_init {G : GX} (S : AS) (hn : S.1 = 24) : CN G y_PaperBox_init b_PaperBox_init 1 none ({ frames := 1, cells := 8, slots := 384, locals := 20 } : Room) none iV [.ref 23] S (f_PaperBox_init S) := cn_of_v (M := md_PaperBox_init) (ini := true) rfl (by decide +kernel) (fun _ => rfl) rfl (Nat.le_of_ble_eq_true rfl) (v_PaperBox_init S hn)
theorem n_PaperBox_init (S T : AS) (h : f_PaperBox_init S = some T) : T.1 = S.1 + 8 := by
  unfold f_PaperBox_init at h
  simp only [nm] at h
  cases h
  simp only [fst_si, fst_sr, fst_nw] at *
noncomputable def f_Gazette_init (S : AS) : Option AS := nm (nw S) fun S1 => nm (sr S1 32 0 (some 33)) fun S2 => nm (nw S2) fun S3 => nm (sr S3 32 1 (some 34)) fun S4 => nm (nw S4) fun S5 => nm (sr S5 32 2 (some 35)) fun S6 => nm (nw S6) fun S7 => nm (sr S7 32 3 (some 36)) fun S8 => nm (nw S8) fun S9 => nm (sr S9 32 5 (some 37)) fun S10 => some S10
set_option maxHeartbeats 4000000 in
theorem v_Gazette_init {G : GX} (S : AS) (hn : S.1 = 33) : V G md_Gazette_init (QM G md_Gazette_init iV) (fun _ => True) none 0 [some (.ref 32)] [] 0 0 S (f_Gazette_init S) := by
  unfold f_Gazette_init
  refine x_aload_n_ref d_Gazette_init_0 rfl ?_
  refine x_obj d_Gazette_init_1 (List.mem_append_right _ (List.mem_append_left _ (List.mem_of_getElem? (i := 228) (by decide +kernel)))) w_ob2 w_ob3 (Nat.le_of_ble_eq_true rfl) (by decide) (by decide) ?_
  refine x_aload_n_ref d_Gazette_init_4 rfl ?_
  refine x_sipush (v := 161) d_Gazette_init_5 (by decide) ?_
  refine c_newa hn d_Gazette_init_8 (List.mem_append_right _ (List.mem_append_left _ (List.mem_of_getElem? (i := 45) (by decide +kernel)))) (by decide) (by rw [hn]; exact ak_33) (by decide) (by decide) (by decide) (Nat.le_of_ble_eq_true rfl) (Nat.le_of_ble_eq_true rfl) (fun S1 hS1 nS1 => ?_)
  refine x_putr d_Gazette_init_10 fl_Gazette_9 rfl rfl ak_32 (fun _ => by rw [nS1]; decide) (fun _ => ⟨rfl, rfl⟩) (fun _ => rfl) (fun _ => trivial) ?_
  refine x_nmS (fun S2 hS2 => ?_)
  have nS2 : S2.1 = 34 := by rw [hS2]; exact nS1
  refine x_aload_n_ref d_Gazette_init_13 rfl ?_
  refine x_sipush (v := 161) d_Gazette_init_14 (by decide) ?_
  refine c_newa nS2 d_Gazette_init_17 (List.mem_append_right _ (List.mem_append_left _ (List.mem_of_getElem? (i := 45) (by decide +kernel)))) (by decide) (by rw [nS2]; exact ak_34) (by decide) (by decide) (by decide) (Nat.le_of_ble_eq_true rfl) (Nat.le_of_ble_eq_true rfl) (fun S3 hS3 nS3 => ?_)
  refine x_putr d_Gazette_init_19 fl_Gazette_15 rfl rfl ak_32 (fun _ => by rw [nS3]; decide) (fun _ => ⟨rfl, rfl⟩) (fun _ => rfl) (fun _ => trivial) ?_
  refine x_nmS (fun S4 hS4 => ?_)
  have nS4 : S4.1 = 35 := by rw [hS4]; exact nS3
  refine x_aload_n_ref d_Gazette_init_22 rfl ?_
  refine x_sipush (v := 161) d_Gazette_init_23 (by decide) ?_
  refine c_newa nS4 d_Gazette_init_26 (List.mem_append_right _ (List.mem_append_left _ (List.mem_of_getElem? (i := 45) (by decide +kernel)))) (by decide) (by rw [nS4]; exact ak_35) (by decide) (by decide) (by decide) (Nat.le_of_ble_eq_true rfl) (Nat.le_of_ble_eq_true rfl) (fun S5 hS5 nS5 => ?_)
  refine x_putr d_Gazette_init_28 fl_Gazette_18 rfl rfl ak_32 (fun _ => by rw [nS5]; decide) (fun _ => ⟨rfl, rfl⟩) (fun _ => rfl) (fun _ => trivial) ?_
  refine x_nmS (fun S6 hS6 => ?_)
  have nS6 : S6.1 = 36 := by rw [hS6]; exact nS5
  refine x_aload_n_ref d_Gazette_init_31 rfl ?_
  refine x_sipush (v := 161) d_Gazette_init_32 (by decide) ?_
  refine c_newa nS6 d_Gazette_init_35 (List.mem_append_right _ (List.mem_append_left _ (List.mem_of_getElem? (i := 45) (by decide +kernel)))) (by decide) (by rw [nS6]; exact ak_36) (by decide) (by decide) (by decide) (Nat.le_of_ble_eq_true rfl) (Nat.le_of_ble_eq_true rfl) (fun S7 hS7 nS7 => ?_)
  refine x_putr d_Gazette_init_37 fl_Gazette_21 rfl rfl ak_32 (fun _ => by rw [nS7]; decide) (fun _ => ⟨rfl, rfl⟩) (fun _ => rfl) (fun _ => trivial) ?_
  refine x_nmS (fun S8 hS8 => ?_)
  have nS8 : S8.1 = 37 := by rw [hS8]; exact nS7
  refine x_aload_n_ref d_Gazette_init_40 rfl ?_
  refine x_sipush (v := 160) d_Gazette_init_41 (by decide) ?_
  refine c_newa nS8 d_Gazette_init_44 (List.mem_append_right _ (List.mem_append_left _ (List.mem_of_getElem? (i := 45) (by decide +kernel)))) (by decide) (by rw [nS8]; exact ak_37) (by decide) (by decide) (by decide) (Nat.le_of_ble_eq_true rfl) (Nat.le_of_ble_eq_true rfl) (fun S9 hS9 nS9 => ?_)
  refine x_putr d_Gazette_init_46 fl_Gazette_24 rfl rfl ak_32 (fun _ => by rw [nS9]; decide) (fun _ => ⟨rfl, rfl⟩) (fun _ => rfl) (fun _ => trivial) ?_
  refine x_nmS (fun S10 hS10 => ?_)
  have nS10 : S10.1 = 38 := by rw [hS10]; exact nS9
  exact x_vret d_Gazette_init_49 rfl (Nat.le_of_ble_eq_true rfl) (Nat.le_of_ble_eq_true rfl)
theorem c_Gazette_init {G : GX} (S : AS) (hn : S.1 = 33) : CN G y_Gazette_init b_Gazette_init 1 none ({ frames := 1, cells := 5, slots := 804, locals := 20 } : Room) none iV [.ref 32] S (f_Gazette_init S) := cn_of_v (M := md_Gazette_init) (ini := true) rfl (by decide +kernel) (fun _ => rfl) rfl (Nat.le_of_ble_eq_true rfl) (v_Gazette_init S hn)
theorem n_Gazette_init (S T : AS) (h : f_Gazette_init S = some T) : T.1 = S.1 + 5 := by
  unfold f_Gazette_init at h
  simp only [nm] at h
  cases h
  simp only [fst_si, fst_sr, fst_nw] at *
noncomputable def f_Reigns_init (S : AS) : Option AS := nm (nw S) fun S1 => nm (sr S1 38 0 (some 39)) fun S2 => nm (nw S2) fun S3 => nm (sr S3 38 1 (some 40)) fun S4 => nm (nw S4) fun S5 => bV (f_RuleBook_init 41 S5) fun S6 => nm (sr S6 38 2 (some 41)) fun S7 => some S7
set_option maxHeartbeats 4000000 in
theorem v_Reigns_init {G : GX} (S : AS) (hn : S.1 = 39) : V G md_Reigns_init (QM G md_Reigns_init iV) (fun _ => True) none 0 [some (.ref 38)] [] 0 0 S (f_Reigns_init S) := by
  unfold f_Reigns_init
  refine x_aload_n_ref d_Reigns_init_0 rfl ?_
  refine x_obj d_Reigns_init_1 (List.mem_append_right _ (List.mem_append_right _ (List.mem_append_left _ (List.mem_of_getElem? (i := 23) (by decide +kernel))))) w_ob2 w_ob3 (Nat.le_of_ble_eq_true rfl) (by decide) (by decide) ?_
  refine x_aload_n_ref d_Reigns_init_4 rfl ?_
  refine x_bipush (v := 6) d_Reigns_init_5 (by decide) ?_
  refine c_newa hn d_Reigns_init_7 (List.mem_append_right _ (List.mem_append_left _ (List.mem_of_getElem? (i := 45) (by decide +kernel)))) (by decide) (by rw [hn]; exact ak_39) (by decide) (by decide) (by decide) (Nat.le_of_ble_eq_true rfl) (Nat.le_of_ble_eq_true rfl) (fun S1 hS1 nS1 => ?_)
  refine x_putr d_Reigns_init_9 fl_Reigns_9 rfl rfl ak_38 (fun _ => by rw [nS1]; decide) (fun _ => ⟨rfl, rfl⟩) (fun _ => rfl) (fun _ => trivial) ?_
  refine x_nmS (fun S2 hS2 => ?_)
  have nS2 : S2.1 = 40 := by rw [hS2]; exact nS1
  refine x_aload_n_ref d_Reigns_init_12 rfl ?_
  refine x_bipush (v := 6) d_Reigns_init_13 (by decide) ?_
  refine c_newq nS2 d_Reigns_init_15 (List.mem_append_right _ (List.mem_append_right _ (List.mem_append_left _ (List.mem_of_getElem? (i := 24) (by decide +kernel))))) (List.mem_append_right _ (List.mem_append_right _ (List.mem_append_left _ (List.mem_of_getElem? (i := 25) (by decide +kernel))))) (by rw [nS2]; exact ak_40) (by decide) (by decide) (by decide) (Nat.le_of_ble_eq_true rfl) (Nat.le_of_ble_eq_true rfl) (fun S3 hS3 nS3 => ?_)
  refine x_putr d_Reigns_init_18 fl_Reigns_17 rfl rfl ak_38 (fun _ => by rw [nS3]; decide) (fun _ => ⟨rfl, rfl⟩) (fun _ => rfl) (fun _ => trivial) ?_
  refine x_nmS (fun S4 hS4 => ?_)
  have nS4 : S4.1 = 41 := by rw [hS4]; exact nS3
  refine x_aload_n_ref d_Reigns_init_21 rfl ?_
  refine c_new nS4 d_Reigns_init_22 nwc_Reigns_15 (by rw [nS4]; exact ak_41) (Nat.le_of_ble_eq_true rfl) (Nat.le_of_ble_eq_true rfl) (fun S5 hS5 nS5 => ?_)
  refine x_dup d_Reigns_init_25 rfl ?_
  refine x_callI (As := []) d_Reigns_init_26 mi_Reigns_21 rfl ⟨Nat.le_of_ble_eq_true rfl, Nat.le_of_ble_eq_true rfl⟩ (Nat.le_of_ble_eq_true rfl) ⟨Nat.le_of_ble_eq_true rfl, Nat.le_of_ble_eq_true rfl⟩ (c_RuleBook_init 41 (by first | exact Or.inl rfl | exact Or.inr (Or.inl rfl)) S5 (nS5)) (fun S6 hS6 => ?_)
  have nS6 : S6.1 = 49 := by rw [n_RuleBook_init _ S5 S6 hS6, nS5]
  refine x_putr d_Reigns_init_29 fl_Reigns_22 rfl rfl ak_38 (fun _ => by rw [nS6]; decide) (fun _ => ⟨rfl, rfl⟩) (fun _ => rfl) (fun _ => trivial) ?_
  refine x_nmS (fun S7 hS7 => ?_)
  have nS7 : S7.1 = 49 := by rw [hS7]; exact nS6
  exact x_vret d_Reigns_init_32 rfl (Nat.le_of_ble_eq_true rfl) (Nat.le_of_ble_eq_true rfl)
theorem c_Reigns_init {G : GX} (S : AS) (hn : S.1 = 39) : CN G y_Reigns_init b_Reigns_init 1 none ({ frames := 2, cells := 10, slots := 277, locals := 40 } : Room) none iV [.ref 38] S (f_Reigns_init S) := cn_of_v (M := md_Reigns_init) (ini := true) rfl (by decide +kernel) (fun _ => rfl) rfl (Nat.le_of_ble_eq_true rfl) (v_Reigns_init S hn)
theorem n_Reigns_init (S T : AS) (h : f_Reigns_init S = some T) : T.1 = S.1 + 10 := by
  unfold f_Reigns_init at h
  simp only [nm] at h
  obtain ⟨U1, e1, h⟩ := bV_some h
  cases h
  have g1 := n_RuleBook_init _ _ _ e1
  simp only [fst_si, fst_sr, fst_nw] at *
  omega
noncomputable def f_Course_init (S : AS) : Option AS := nm (nw S) fun S1 => nm (sr S1 49 4 (some 50)) fun S2 => nm (nw S2) fun S3 => nm (sr S3 49 5 (some 51)) fun S4 => nm (nw S4) fun S5 => nm (sr S5 49 6 (some 52)) fun S6 => nm (nw S6) fun S7 => nm (sr S7 49 7 (some 53)) fun S8 => nm (nw S8) fun S9 => nm (sr S9 49 8 (some 54)) fun S10 => nm (nw S10) fun S11 => nm (sr S11 49 9 (some 55)) fun S12 => nm (nw S12) fun S13 => nm (sr S13 49 10 (some 56)) fun S14 => nm (nw S14) fun S15 => nm (sr S15 49 11 (some 57)) fun S16 => nm (nw S16) fun S17 => nm (sr S17 49 12 (some 58)) fun S18 => nm (nw S18) fun S19 => nm (sr S19 49 13 (some 59)) fun S20 => nm (sr S20 49 0 (some 16)) fun S21 => nm (sr S21 49 1 (some 23)) fun S22 => nm (sr S22 49 2 (some 32)) fun S23 => nm (sr S23 49 3 (some 38)) fun S24 => chk (gr S24 38 2 = some 41) <| nm (sr S24 49 15 (some 41)) fun S26 => nm (si S26 49 16 (-1)) fun S27 => some S27
set_option maxHeartbeats 4000000 in
theorem v_Course_init {G : GX} (S : AS) (hn : S.1 = 50) : V G md_Course_init (QM G md_Course_init iV) (fun _ => True) none 0 [some (.ref 49), some (.ref 16), some (.ref 23), some (.ref 32), some (.ref 38)] [] 0 0 S (f_Course_init S) := by
  unfold f_Course_init
  refine x_aload_n_ref d_Course_init_0 rfl ?_
  refine x_obj d_Course_init_1 (List.mem_append_right _ (List.mem_append_right _ (List.mem_append_left _ (List.mem_of_getElem? (i := 47) (by decide +kernel))))) w_ob2 w_ob3 (Nat.le_of_ble_eq_true rfl) (by decide) (by decide) ?_
  refine x_aload_n_ref d_Course_init_4 rfl ?_
  refine x_bipush (v := 16) d_Course_init_5 (by decide) ?_
  refine c_newa hn d_Course_init_7 (List.mem_append_right _ (List.mem_append_left _ (List.mem_of_getElem? (i := 45) (by decide +kernel)))) (by decide) (by rw [hn]; exact ak_50) (by decide) (by decide) (by decide) (Nat.le_of_ble_eq_true rfl) (Nat.le_of_ble_eq_true rfl) (fun S1 hS1 nS1 => ?_)
  refine x_putr d_Course_init_9 fl_Course_9 rfl rfl ak_49 (fun _ => by rw [nS1]; decide) (fun _ => ⟨rfl, rfl⟩) (fun _ => rfl) (fun _ => trivial) ?_
  refine x_nmS (fun S2 hS2 => ?_)
  have nS2 : S2.1 = 51 := by rw [hS2]; exact nS1
  refine x_aload_n_ref d_Course_init_12 rfl ?_
  refine x_bipush (v := 16) d_Course_init_13 (by decide) ?_
  refine c_newa nS2 d_Course_init_15 (List.mem_append_right _ (List.mem_append_left _ (List.mem_of_getElem? (i := 45) (by decide +kernel)))) (by decide) (by rw [nS2]; exact ak_51) (by decide) (by decide) (by decide) (Nat.le_of_ble_eq_true rfl) (Nat.le_of_ble_eq_true rfl) (fun S3 hS3 nS3 => ?_)
  refine x_putr d_Course_init_17 fl_Course_15 rfl rfl ak_49 (fun _ => by rw [nS3]; decide) (fun _ => ⟨rfl, rfl⟩) (fun _ => rfl) (fun _ => trivial) ?_
  refine x_nmS (fun S4 hS4 => ?_)
  have nS4 : S4.1 = 52 := by rw [hS4]; exact nS3
  refine x_aload_n_ref d_Course_init_20 rfl ?_
  refine x_bipush (v := 24) d_Course_init_21 (by decide) ?_
  refine c_newa nS4 d_Course_init_23 (List.mem_append_right _ (List.mem_append_left _ (List.mem_of_getElem? (i := 45) (by decide +kernel)))) (by decide) (by rw [nS4]; exact ak_52) (by decide) (by decide) (by decide) (Nat.le_of_ble_eq_true rfl) (Nat.le_of_ble_eq_true rfl) (fun S5 hS5 nS5 => ?_)
  refine x_putr d_Course_init_25 fl_Course_18 rfl rfl ak_49 (fun _ => by rw [nS5]; decide) (fun _ => ⟨rfl, rfl⟩) (fun _ => rfl) (fun _ => trivial) ?_
  refine x_nmS (fun S6 hS6 => ?_)
  have nS6 : S6.1 = 53 := by rw [hS6]; exact nS5
  refine x_aload_n_ref d_Course_init_28 rfl ?_
  refine x_bipush (v := 24) d_Course_init_29 (by decide) ?_
  refine c_newa nS6 d_Course_init_31 (List.mem_append_right _ (List.mem_append_right _ (List.mem_append_left _ (List.mem_of_getElem? (i := 111) (by decide +kernel))))) (by decide) (by rw [nS6]; exact ak_53) (by decide) (by decide) (by decide) (Nat.le_of_ble_eq_true rfl) (Nat.le_of_ble_eq_true rfl) (fun S7 hS7 nS7 => ?_)
  refine x_putr d_Course_init_33 fl_Course_21 rfl rfl ak_49 (fun _ => by rw [nS7]; decide) (fun _ => ⟨rfl, rfl⟩) (fun _ => rfl) (fun _ => trivial) ?_
  refine x_nmS (fun S8 hS8 => ?_)
  have nS8 : S8.1 = 54 := by rw [hS8]; exact nS7
  refine x_aload_n_ref d_Course_init_36 rfl ?_
  refine x_bipush (v := 24) d_Course_init_37 (by decide) ?_
  refine c_newa nS8 d_Course_init_39 (List.mem_append_right _ (List.mem_append_right _ (List.mem_append_left _ (List.mem_of_getElem? (i := 112) (by decide +kernel))))) (by decide) (by rw [nS8]; exact ak_54) (by decide) (by decide) (by decide) (Nat.le_of_ble_eq_true rfl) (Nat.le_of_ble_eq_true rfl) (fun S9 hS9 nS9 => ?_)
  refine x_putr d_Course_init_41 fl_Course_25 rfl rfl ak_49 (fun _ => by rw [nS9]; decide) (fun _ => ⟨rfl, rfl⟩) (fun _ => rfl) (fun _ => trivial) ?_
  refine x_nmS (fun S10 hS10 => ?_)
  have nS10 : S10.1 = 55 := by rw [hS10]; exact nS9
  refine x_aload_n_ref d_Course_init_44 rfl ?_
  refine x_bipush (v := 48) d_Course_init_45 (by decide) ?_
  refine c_newa nS10 d_Course_init_47 (List.mem_append_right _ (List.mem_append_right _ (List.mem_append_left _ (List.mem_of_getElem? (i := 112) (by decide +kernel))))) (by decide) (by rw [nS10]; exact ak_55) (by decide) (by decide) (by decide) (Nat.le_of_ble_eq_true rfl) (Nat.le_of_ble_eq_true rfl) (fun S11 hS11 nS11 => ?_)
  refine x_putr d_Course_init_49 fl_Course_29 rfl rfl ak_49 (fun _ => by rw [nS11]; decide) (fun _ => ⟨rfl, rfl⟩) (fun _ => rfl) (fun _ => trivial) ?_
  refine x_nmS (fun S12 hS12 => ?_)
  have nS12 : S12.1 = 56 := by rw [hS12]; exact nS11
  refine x_aload_n_ref d_Course_init_52 rfl ?_
  refine x_bipush (v := 48) d_Course_init_53 (by decide) ?_
  refine c_newa nS12 d_Course_init_55 (List.mem_append_right _ (List.mem_append_left _ (List.mem_of_getElem? (i := 45) (by decide +kernel)))) (by decide) (by rw [nS12]; exact ak_56) (by decide) (by decide) (by decide) (Nat.le_of_ble_eq_true rfl) (Nat.le_of_ble_eq_true rfl) (fun S13 hS13 nS13 => ?_)
  refine x_putr d_Course_init_57 fl_Course_32 rfl rfl ak_49 (fun _ => by rw [nS13]; decide) (fun _ => ⟨rfl, rfl⟩) (fun _ => rfl) (fun _ => trivial) ?_
  refine x_nmS (fun S14 hS14 => ?_)
  have nS14 : S14.1 = 57 := by rw [hS14]; exact nS13
  refine x_aload_n_ref d_Course_init_60 rfl ?_
  refine x_bipush (v := 48) d_Course_init_61 (by decide) ?_
  refine c_newa nS14 d_Course_init_63 (List.mem_append_right _ (List.mem_append_left _ (List.mem_of_getElem? (i := 45) (by decide +kernel)))) (by decide) (by rw [nS14]; exact ak_57) (by decide) (by decide) (by decide) (Nat.le_of_ble_eq_true rfl) (Nat.le_of_ble_eq_true rfl) (fun S15 hS15 nS15 => ?_)
  refine x_putr d_Course_init_65 fl_Course_35 rfl rfl ak_49 (fun _ => by rw [nS15]; decide) (fun _ => ⟨rfl, rfl⟩) (fun _ => rfl) (fun _ => trivial) ?_
  refine x_nmS (fun S16 hS16 => ?_)
  have nS16 : S16.1 = 58 := by rw [hS16]; exact nS15
  refine x_aload_n_ref d_Course_init_68 rfl ?_
  refine x_bipush (v := 9) d_Course_init_69 (by decide) ?_
  refine c_newa nS16 d_Course_init_71 (List.mem_append_right _ (List.mem_append_left _ (List.mem_of_getElem? (i := 45) (by decide +kernel)))) (by decide) (by rw [nS16]; exact ak_58) (by decide) (by decide) (by decide) (Nat.le_of_ble_eq_true rfl) (Nat.le_of_ble_eq_true rfl) (fun S17 hS17 nS17 => ?_)
  refine x_putr d_Course_init_73 fl_Course_38 rfl rfl ak_49 (fun _ => by rw [nS17]; decide) (fun _ => ⟨rfl, rfl⟩) (fun _ => rfl) (fun _ => trivial) ?_
  refine x_nmS (fun S18 hS18 => ?_)
  have nS18 : S18.1 = 59 := by rw [hS18]; exact nS17
  refine x_aload_n_ref d_Course_init_76 rfl ?_
  refine x_bipush (v := 9) d_Course_init_77 (by decide) ?_
  refine c_newa nS18 d_Course_init_79 (List.mem_append_right _ (List.mem_append_left _ (List.mem_of_getElem? (i := 45) (by decide +kernel)))) (by decide) (by rw [nS18]; exact ak_59) (by decide) (by decide) (by decide) (Nat.le_of_ble_eq_true rfl) (Nat.le_of_ble_eq_true rfl) (fun S19 hS19 nS19 => ?_)
  refine x_putr d_Course_init_81 fl_Course_41 rfl rfl ak_49 (fun _ => by rw [nS19]; decide) (fun _ => ⟨rfl, rfl⟩) (fun _ => rfl) (fun _ => trivial) ?_
  refine x_nmS (fun S20 hS20 => ?_)
  have nS20 : S20.1 = 60 := by rw [hS20]; exact nS19
  refine x_aload_n_ref d_Course_init_84 rfl ?_
  refine x_aload_n_ref d_Course_init_85 rfl ?_
  refine x_putr d_Course_init_86 fl_Course_44 rfl rfl ak_49 (fun _ => by rw [nS20]; decide) (fun _ => ⟨rfl, rfl⟩) (fun _ => rfl) (fun _ => trivial) ?_
  refine x_nmS (fun S21 hS21 => ?_)
  have nS21 : S21.1 = 60 := by rw [hS21]; exact nS20
  refine x_aload_n_ref d_Course_init_89 rfl ?_
  refine x_aload_n_ref d_Course_init_90 rfl ?_
  refine x_putr d_Course_init_91 fl_Course_48 rfl rfl ak_49 (fun _ => by rw [nS21]; decide) (fun _ => ⟨rfl, rfl⟩) (fun _ => rfl) (fun _ => trivial) ?_
  refine x_nmS (fun S22 hS22 => ?_)
  have nS22 : S22.1 = 60 := by rw [hS22]; exact nS21
  refine x_aload_n_ref d_Course_init_94 rfl ?_
  refine x_aload_n_ref d_Course_init_95 rfl ?_
  refine x_putr d_Course_init_96 fl_Course_52 rfl rfl ak_49 (fun _ => by rw [nS22]; decide) (fun _ => ⟨rfl, rfl⟩) (fun _ => rfl) (fun _ => trivial) ?_
  refine x_nmS (fun S23 hS23 => ?_)
  have nS23 : S23.1 = 60 := by rw [hS23]; exact nS22
  refine x_aload_n_ref d_Course_init_99 rfl ?_
  refine x_aload_ref d_Course_init_100 rfl ?_
  refine x_putr d_Course_init_102 fl_Course_56 rfl rfl ak_49 (fun _ => by rw [nS23]; decide) (fun _ => ⟨rfl, rfl⟩) (fun _ => rfl) (fun _ => trivial) ?_
  refine x_nmS (fun S24 hS24 => ?_)
  have nS24 : S24.1 = 60 := by rw [hS24]; exact nS23
  refine x_aload_n_ref d_Course_init_105 rfl ?_
  refine x_aload_ref d_Course_init_106 rfl ?_
  refine x_chk (fun hc25 => ?_)
  refine x_getr d_Course_init_108 fl_Course_60 ak_38 (fun _ => by rw [nS24]; decide) (fun _ => hc25) ?_
  refine x_putr d_Course_init_111 fl_Course_66 rfl rfl ak_49 (fun _ => by rw [nS24]; decide) (fun h => nomatch h) (fun h => nomatch h) (fun _ => trivial) ?_
  refine x_nmS (fun S26 hS26 => ?_)
  have nS26 : S26.1 = 60 := by rw [hS26]; exact nS24
  refine x_aload_n_ref d_Course_init_114 rfl ?_
  refine x_iconst (v := -1) d_Course_init_115 (by decide) ?_
  refine x_puti d_Course_init_116 fl_Course_69 rfl ak_49 (fun _ => by rw [nS26]; decide) (fun h => nomatch h) (fun h => nomatch h) ?_
  refine x_nmS (fun S27 hS27 => ?_)
  have nS27 : S27.1 = 60 := by rw [hS27]; exact nS26
  exact x_vret d_Course_init_119 rfl (Nat.le_of_ble_eq_true rfl) (Nat.le_of_ble_eq_true rfl)
theorem c_Course_init {G : GX} (S : AS) (hn : S.1 = 50) : CN G y_Course_init b_Course_init 5 none ({ frames := 1, cells := 10, slots := 266, locals := 20 } : Room) none iV [.ref 49, .ref 16, .ref 23, .ref 32, .ref 38] S (f_Course_init S) := cn_of_v (M := md_Course_init) (ini := true) rfl (by decide +kernel) (fun _ => rfl) rfl (Nat.le_of_ble_eq_true rfl) (v_Course_init S hn)
theorem n_Course_init (S T : AS) (h : f_Course_init S = some T) : T.1 = S.1 + 10 := by
  unfold f_Course_init at h
  simp only [nm] at h
  obtain ⟨-, h⟩ := chk_some h
  cases h
  simp only [fst_si, fst_sr, fst_nw] at *
noncomputable def f_Ends_init (S : AS) : Option AS := nm (nw S) fun S1 => nm (sr S1 60 1 (some 61)) fun S2 => nm (nw S2) fun S3 => nm (sr S3 60 2 (some 62)) fun S4 => nm (sr S4 60 0 (some 16)) fun S5 => chk (gr S5 60 2 = some 62) <| bV (ff_62 (-1) S5) fun S7 => some S7
set_option maxHeartbeats 4000000 in
theorem v_Ends_init {G : GX} (S : AS) (hn : S.1 = 61) : V G md_Ends_init (QM G md_Ends_init iV) (fun _ => True) none 0 [some (.ref 60), some (.ref 16)] [] 0 0 S (f_Ends_init S) := by
  unfold f_Ends_init
  refine x_aload_n_ref d_Ends_init_0 rfl ?_
  refine x_obj d_Ends_init_1 (List.mem_append_right _ (List.mem_append_right _ (List.mem_append_left _ (List.mem_of_getElem? (i := 118) (by decide +kernel))))) w_ob2 w_ob3 (Nat.le_of_ble_eq_true rfl) (by decide) (by decide) ?_
  refine x_aload_n_ref d_Ends_init_4 rfl ?_
  refine x_sipush (v := 2576) d_Ends_init_5 (by decide) ?_
  refine c_newa hn d_Ends_init_8 (List.mem_append_right _ (List.mem_append_left _ (List.mem_of_getElem? (i := 45) (by decide +kernel)))) (by decide) (by rw [hn]; exact ak_61) (by decide) (by decide) (by decide) (Nat.le_of_ble_eq_true rfl) (Nat.le_of_ble_eq_true rfl) (fun S1 hS1 nS1 => ?_)
  refine x_putr d_Ends_init_10 fl_Ends_9 rfl rfl ak_60 (fun _ => by rw [nS1]; decide) (fun _ => ⟨rfl, rfl⟩) (fun _ => rfl) (fun _ => trivial) ?_
  refine x_nmS (fun S2 hS2 => ?_)
  have nS2 : S2.1 = 62 := by rw [hS2]; exact nS1
  refine x_aload_n_ref d_Ends_init_13 rfl ?_
  refine x_sipush (v := 161) d_Ends_init_14 (by decide) ?_
  refine c_newa nS2 d_Ends_init_17 (List.mem_append_right _ (List.mem_append_left _ (List.mem_of_getElem? (i := 45) (by decide +kernel)))) (by decide) (by rw [nS2]; exact ak_62) (by decide) (by decide) (by decide) (Nat.le_of_ble_eq_true rfl) (Nat.le_of_ble_eq_true rfl) (fun S3 hS3 nS3 => ?_)
  refine x_putr d_Ends_init_19 fl_Ends_15 rfl rfl ak_60 (fun _ => by rw [nS3]; decide) (fun _ => ⟨rfl, rfl⟩) (fun _ => rfl) (fun _ => trivial) ?_
  refine x_nmS (fun S4 hS4 => ?_)
  have nS4 : S4.1 = 63 := by rw [hS4]; exact nS3
  refine x_aload_n_ref d_Ends_init_22 rfl ?_
  refine x_aload_n_ref d_Ends_init_23 rfl ?_
  refine x_putr d_Ends_init_24 fl_Ends_18 rfl rfl ak_60 (fun _ => by rw [nS4]; decide) (fun _ => ⟨rfl, rfl⟩) (fun _ => rfl) (fun _ => trivial) ?_
  refine x_nmS (fun S5 hS5 => ?_)
  have nS5 : S5.1 = 63 := by rw [hS5]; exact nS4
  refine x_aload_n_ref d_Ends_init_27 rfl ?_
  refine x_chk (fun hc6 => ?_)
  refine x_getr d_Ends_init_28 fl_Ends_15 ak_60 (fun _ => by rw [nS5]; decide) (fun _ => hc6) ?_
  refine x_iconst (v := -1) d_Ends_init_31 (by decide) ?_
  refine x_sVh (b' := none) (As := [.ref 62, .int (-1)]) d_Ends_init_32 ms_Ends_22 rfl ⟨Nat.le_of_ble_eq_true rfl, Nat.le_of_ble_eq_true rfl⟩ (Nat.le_of_ble_eq_true rfl) ⟨Nat.le_of_ble_eq_true rfl, Nat.le_of_ble_eq_true rfl⟩ (fun _ h => h) (fun h => ⟨h, cf_62 (-1) S5 (by rw [nS5]; decide)⟩) (fun S7 hS7 => ?_)
  have nS7 : S7.1 = 63 := by rw [nf_62 _ _ _ hS7, nS5]
  exact x_vret d_Ends_init_35 rfl (Nat.le_of_ble_eq_true rfl) (Nat.le_of_ble_eq_true rfl)
theorem c_Ends_init {G : GX} (S : AS) (hn : S.1 = 61) : CN G y_Ends_init b_Ends_init 2 none ({ frames := 1, cells := 2, slots := 2737, locals := 23 } : Room) none iV [.ref 60, .ref 16] S (f_Ends_init S) := cn_of_v (M := md_Ends_init) (ini := true) rfl (by decide +kernel) (fun _ => rfl) rfl (Nat.le_of_ble_eq_true rfl) (v_Ends_init S hn)
theorem n_Ends_init (S T : AS) (h : f_Ends_init S = some T) : T.1 = S.1 + 2 := by
  unfold f_Ends_init at h
  simp only [nm] at h
  obtain ⟨-, h⟩ := chk_some h
  obtain ⟨U1, e1, h⟩ := bV_some h
  cases h
  have g1 := nf_62 _ _ _ e1
  simp only [fst_si, fst_sr, fst_nw] at *
  omega
noncomputable def f_Exchange_init (S : AS) : Option AS := nm (nw S) fun S1 => nm (sr S1 63 0 (some 64)) fun S2 => nm (nw S2) fun S3 => nm (sr S3 63 1 (some 65)) fun S4 => nm (nw S4) fun S5 => nm (sr S5 63 2 (some 66)) fun S6 => nm (nw S6) fun S7 => nm (sr S7 63 3 (some 67)) fun S8 => nm (nw S8) fun S9 => nm (sr S9 63 4 (some 68)) fun S10 => chk (gr S10 63 4 = some 68) <| bV (ff_68 (-1) S10) fun S12 => some S12
set_option maxHeartbeats 4000000 in
theorem v_Exchange_init {G : GX} (S : AS) (hn : S.1 = 64) : V G md_Exchange_init (QM G md_Exchange_init iV) (fun _ => True) none 0 [some (.ref 63)] [] 0 0 S (f_Exchange_init S) := by
  unfold f_Exchange_init
  refine x_aload_n_ref d_Exchange_init_0 rfl ?_
  refine x_obj d_Exchange_init_1 (List.mem_append_right _ (List.mem_append_right _ (List.mem_append_left _ (List.mem_of_getElem? (i := 137) (by decide +kernel))))) w_ob2 w_ob3 (Nat.le_of_ble_eq_true rfl) (by decide) (by decide) ?_
  refine x_aload_n_ref d_Exchange_init_4 rfl ?_
  refine x_bipush (v := 72) d_Exchange_init_5 (by decide) ?_
  refine c_newa hn d_Exchange_init_7 (List.mem_append_right _ (List.mem_append_left _ (List.mem_of_getElem? (i := 45) (by decide +kernel)))) (by decide) (by rw [hn]; exact ak_64) (by decide) (by decide) (by decide) (Nat.le_of_ble_eq_true rfl) (Nat.le_of_ble_eq_true rfl) (fun S1 hS1 nS1 => ?_)
  refine x_putr d_Exchange_init_9 fl_Exchange_9 rfl rfl ak_63 (fun _ => by rw [nS1]; decide) (fun _ => ⟨rfl, rfl⟩) (fun _ => rfl) (fun _ => trivial) ?_
  refine x_nmS (fun S2 hS2 => ?_)
  have nS2 : S2.1 = 65 := by rw [hS2]; exact nS1
  refine x_aload_n_ref d_Exchange_init_12 rfl ?_
  refine x_bipush (v := 24) d_Exchange_init_13 (by decide) ?_
  refine c_newa nS2 d_Exchange_init_15 (List.mem_append_right _ (List.mem_append_left _ (List.mem_of_getElem? (i := 45) (by decide +kernel)))) (by decide) (by rw [nS2]; exact ak_65) (by decide) (by decide) (by decide) (Nat.le_of_ble_eq_true rfl) (Nat.le_of_ble_eq_true rfl) (fun S3 hS3 nS3 => ?_)
  refine x_putr d_Exchange_init_17 fl_Exchange_15 rfl rfl ak_63 (fun _ => by rw [nS3]; decide) (fun _ => ⟨rfl, rfl⟩) (fun _ => rfl) (fun _ => trivial) ?_
  refine x_nmS (fun S4 hS4 => ?_)
  have nS4 : S4.1 = 66 := by rw [hS4]; exact nS3
  refine x_aload_n_ref d_Exchange_init_20 rfl ?_
  refine x_bipush (v := 24) d_Exchange_init_21 (by decide) ?_
  refine c_newa nS4 d_Exchange_init_23 (List.mem_append_right _ (List.mem_append_left _ (List.mem_of_getElem? (i := 45) (by decide +kernel)))) (by decide) (by rw [nS4]; exact ak_66) (by decide) (by decide) (by decide) (Nat.le_of_ble_eq_true rfl) (Nat.le_of_ble_eq_true rfl) (fun S5 hS5 nS5 => ?_)
  refine x_putr d_Exchange_init_25 fl_Exchange_18 rfl rfl ak_63 (fun _ => by rw [nS5]; decide) (fun _ => ⟨rfl, rfl⟩) (fun _ => rfl) (fun _ => trivial) ?_
  refine x_nmS (fun S6 hS6 => ?_)
  have nS6 : S6.1 = 67 := by rw [hS6]; exact nS5
  refine x_aload_n_ref d_Exchange_init_28 rfl ?_
  refine x_bipush (v := 24) d_Exchange_init_29 (by decide) ?_
  refine c_newa nS6 d_Exchange_init_31 (List.mem_append_right _ (List.mem_append_left _ (List.mem_of_getElem? (i := 45) (by decide +kernel)))) (by decide) (by rw [nS6]; exact ak_67) (by decide) (by decide) (by decide) (Nat.le_of_ble_eq_true rfl) (Nat.le_of_ble_eq_true rfl) (fun S7 hS7 nS7 => ?_)
  refine x_putr d_Exchange_init_33 fl_Exchange_21 rfl rfl ak_63 (fun _ => by rw [nS7]; decide) (fun _ => ⟨rfl, rfl⟩) (fun _ => rfl) (fun _ => trivial) ?_
  refine x_nmS (fun S8 hS8 => ?_)
  have nS8 : S8.1 = 68 := by rw [hS8]; exact nS7
  refine x_aload_n_ref d_Exchange_init_36 rfl ?_
  refine x_bipush (v := 24) d_Exchange_init_37 (by decide) ?_
  refine c_newa nS8 d_Exchange_init_39 (List.mem_append_right _ (List.mem_append_left _ (List.mem_of_getElem? (i := 45) (by decide +kernel)))) (by decide) (by rw [nS8]; exact ak_68) (by decide) (by decide) (by decide) (Nat.le_of_ble_eq_true rfl) (Nat.le_of_ble_eq_true rfl) (fun S9 hS9 nS9 => ?_)
  refine x_putr d_Exchange_init_41 fl_Exchange_24 rfl rfl ak_63 (fun _ => by rw [nS9]; decide) (fun _ => ⟨rfl, rfl⟩) (fun _ => rfl) (fun _ => trivial) ?_
  refine x_nmS (fun S10 hS10 => ?_)
  have nS10 : S10.1 = 69 := by rw [hS10]; exact nS9
  refine x_aload_n_ref d_Exchange_init_44 rfl ?_
  refine x_chk (fun hc11 => ?_)
  refine x_getr d_Exchange_init_45 fl_Exchange_24 ak_63 (fun _ => by rw [nS10]; decide) (fun _ => hc11) ?_
  refine x_iconst (v := -1) d_Exchange_init_48 (by decide) ?_
  refine x_sVh (b' := none) (As := [.ref 68, .int (-1)]) d_Exchange_init_49 ms_Exchange_27 rfl ⟨Nat.le_of_ble_eq_true rfl, Nat.le_of_ble_eq_true rfl⟩ (Nat.le_of_ble_eq_true rfl) ⟨Nat.le_of_ble_eq_true rfl, Nat.le_of_ble_eq_true rfl⟩ (fun _ h => h) (fun h => ⟨h, cf_68 (-1) S10 (by rw [nS10]; decide)⟩) (fun S12 hS12 => ?_)
  have nS12 : S12.1 = 69 := by rw [nf_68 _ _ _ hS12, nS10]
  exact x_vret d_Exchange_init_52 rfl (Nat.le_of_ble_eq_true rfl) (Nat.le_of_ble_eq_true rfl)
theorem c_Exchange_init {G : GX} (S : AS) (hn : S.1 = 64) : CN G y_Exchange_init b_Exchange_init 1 none ({ frames := 1, cells := 5, slots := 168, locals := 23 } : Room) none iV [.ref 63] S (f_Exchange_init S) := cn_of_v (M := md_Exchange_init) (ini := true) rfl (by decide +kernel) (fun _ => rfl) rfl (Nat.le_of_ble_eq_true rfl) (v_Exchange_init S hn)
theorem n_Exchange_init (S T : AS) (h : f_Exchange_init S = some T) : T.1 = S.1 + 5 := by
  unfold f_Exchange_init at h
  simp only [nm] at h
  obtain ⟨-, h⟩ := chk_some h
  obtain ⟨U1, e1, h⟩ := bV_some h
  cases h
  have g1 := nf_68 _ _ _ e1
  simp only [fst_si, fst_sr, fst_nw] at *
  omega
noncomputable def f_Chan_init (S : AS) : Option AS := nm (nw S) fun S1 => bV (f_Tape_init S1) fun S2 => nm (sr S2 0 0 (some 1)) fun S3 => nm (nw S3) fun S4 => chk (gr S4 0 0 = some 1) <| bV (f_RuleReader_init S4) fun S6 => nm (sr S6 0 1 (some 3)) fun S7 => nm (nw S7) fun S8 => bV (f_Roll_init S8) fun S9 => nm (sr S9 0 2 (some 16)) fun S10 => nm (nw S10) fun S11 => bV (f_PaperBox_init S11) fun S12 => nm (sr S12 0 3 (some 23)) fun S13 => nm (nw S13) fun S14 => bV (f_Gazette_init S14) fun S15 => nm (sr S15 0 4 (some 32)) fun S16 => nm (nw S16) fun S17 => bV (f_Reigns_init S17) fun S18 => nm (sr S18 0 5 (some 38)) fun S19 => nm (nw S19) fun S20 => chk (gr S20 0 2 = some 16) <| chk (gr S20 0 3 = some 23) <| chk (gr S20 0 4 = some 32) <| chk (gr S20 0 5 = some 38) <| bV (f_Course_init S20) fun S25 => nm (sr S25 0 6 (some 49)) fun S26 => nm (nw S26) fun S27 => chk (gr S27 0 2 = some 16) <| bV (f_Ends_init S27) fun S29 => nm (sr S29 0 7 (some 60)) fun S30 => nm (nw S30) fun S31 => bV (f_Exchange_init S31) fun S32 => nm (sr S32 0 8 (some 63)) fun S33 => nm (nw S33) fun S34 => nm (sr S34 0 9 (some 69)) fun S35 => nm (si S35 0 11 (-1)) fun S36 => some S36
set_option maxHeartbeats 4000000 in
theorem v_Chan_init {G : GX} (S : AS) (hn : S.1 = 1) : V G md_Chan_init (QM G md_Chan_init iV) (fun _ => True) none 0 [some (.ref 0)] [] 0 0 S (f_Chan_init S) := by
  unfold f_Chan_init
  refine x_aload_n_ref d_Chan_init_0 rfl ?_
  refine x_obj d_Chan_init_1 (List.mem_append_right _ (List.mem_append_left _ (List.mem_of_getElem? (i := 26) (by decide +kernel)))) w_ob2 w_ob3 (Nat.le_of_ble_eq_true rfl) (by decide) (by decide) ?_
  refine x_aload_n_ref d_Chan_init_4 rfl ?_
  refine c_new hn d_Chan_init_5 nwc_Chan_7 (by rw [hn]; exact ak_1) (Nat.le_of_ble_eq_true rfl) (Nat.le_of_ble_eq_true rfl) (fun S1 hS1 nS1 => ?_)
  refine x_dup d_Chan_init_8 rfl ?_
  refine x_callI (As := []) d_Chan_init_9 mi_Chan_9 rfl ⟨Nat.le_of_ble_eq_true rfl, Nat.le_of_ble_eq_true rfl⟩ (Nat.le_of_ble_eq_true rfl) ⟨Nat.le_of_ble_eq_true rfl, Nat.le_of_ble_eq_true rfl⟩ (c_Tape_init S1 (nS1)) (fun S2 hS2 => ?_)
  have nS2 : S2.1 = 3 := by rw [n_Tape_init S1 S2 hS2, nS1]
  refine x_putr d_Chan_init_12 fl_Chan_10 rfl rfl ak_0 (fun _ => by rw [nS2]; decide) (fun _ => ⟨rfl, rfl⟩) (fun _ => rfl) (fun _ => trivial) ?_
  refine x_nmS (fun S3 hS3 => ?_)
  have nS3 : S3.1 = 3 := by rw [hS3]; exact nS2
  refine x_aload_n_ref d_Chan_init_15 rfl ?_
  refine c_new nS3 d_Chan_init_16 nwc_Chan_16 (by rw [nS3]; exact ak_3) (Nat.le_of_ble_eq_true rfl) (Nat.le_of_ble_eq_true rfl) (fun S4 hS4 nS4 => ?_)
  refine x_dup d_Chan_init_19 rfl ?_
  refine x_aload_n_ref d_Chan_init_20 rfl ?_
  refine x_chk (fun hc5 => ?_)
  refine x_getr d_Chan_init_21 fl_Chan_10 ak_0 (fun _ => by rw [nS4]; decide) (fun _ => hc5) ?_
  refine x_callI (As := [.ref 1]) d_Chan_init_24 mi_Chan_18 rfl ⟨Nat.le_of_ble_eq_true rfl, Nat.le_of_ble_eq_true rfl⟩ (Nat.le_of_ble_eq_true rfl) ⟨Nat.le_of_ble_eq_true rfl, Nat.le_of_ble_eq_true rfl⟩ (c_RuleReader_init S4 (nS4)) (fun S6 hS6 => ?_)
  have nS6 : S6.1 = 16 := by rw [n_RuleReader_init S4 S6 hS6, nS4]
  refine x_putr d_Chan_init_27 fl_Chan_21 rfl rfl ak_0 (fun _ => by rw [nS6]; decide) (fun _ => ⟨rfl, rfl⟩) (fun _ => rfl) (fun _ => trivial) ?_
  refine x_nmS (fun S7 hS7 => ?_)
  have nS7 : S7.1 = 16 := by rw [hS7]; exact nS6
  refine x_aload_n_ref d_Chan_init_30 rfl ?_
  refine c_new nS7 d_Chan_init_31 nwc_Chan_25 (by rw [nS7]; exact ak_16) (Nat.le_of_ble_eq_true rfl) (Nat.le_of_ble_eq_true rfl) (fun S8 hS8 nS8 => ?_)
  refine x_dup d_Chan_init_34 rfl ?_
  refine x_callI (As := []) d_Chan_init_35 mi_Chan_27 rfl ⟨Nat.le_of_ble_eq_true rfl, Nat.le_of_ble_eq_true rfl⟩ (Nat.le_of_ble_eq_true rfl) ⟨Nat.le_of_ble_eq_true rfl, Nat.le_of_ble_eq_true rfl⟩ (c_Roll_init S8 (nS8)) (fun S9 hS9 => ?_)
  have nS9 : S9.1 = 23 := by rw [n_Roll_init S8 S9 hS9, nS8]
  refine x_putr d_Chan_init_38 fl_Chan_28 rfl rfl ak_0 (fun _ => by rw [nS9]; decide) (fun _ => ⟨rfl, rfl⟩) (fun _ => rfl) (fun _ => trivial) ?_
  refine x_nmS (fun S10 hS10 => ?_)
  have nS10 : S10.1 = 23 := by rw [hS10]; exact nS9
  refine x_aload_n_ref d_Chan_init_41 rfl ?_
  refine c_new nS10 d_Chan_init_42 nwc_Chan_32 (by rw [nS10]; exact ak_23) (Nat.le_of_ble_eq_true rfl) (Nat.le_of_ble_eq_true rfl) (fun S11 hS11 nS11 => ?_)
  refine x_dup d_Chan_init_45 rfl ?_
  refine x_callI (As := []) d_Chan_init_46 mi_Chan_34 rfl ⟨Nat.le_of_ble_eq_true rfl, Nat.le_of_ble_eq_true rfl⟩ (Nat.le_of_ble_eq_true rfl) ⟨Nat.le_of_ble_eq_true rfl, Nat.le_of_ble_eq_true rfl⟩ (c_PaperBox_init S11 (nS11)) (fun S12 hS12 => ?_)
  have nS12 : S12.1 = 32 := by rw [n_PaperBox_init S11 S12 hS12, nS11]
  refine x_putr d_Chan_init_49 fl_Chan_35 rfl rfl ak_0 (fun _ => by rw [nS12]; decide) (fun _ => ⟨rfl, rfl⟩) (fun _ => rfl) (fun _ => trivial) ?_
  refine x_nmS (fun S13 hS13 => ?_)
  have nS13 : S13.1 = 32 := by rw [hS13]; exact nS12
  refine x_aload_n_ref d_Chan_init_52 rfl ?_
  refine c_new nS13 d_Chan_init_53 nwc_Chan_39 (by rw [nS13]; exact ak_32) (Nat.le_of_ble_eq_true rfl) (Nat.le_of_ble_eq_true rfl) (fun S14 hS14 nS14 => ?_)
  refine x_dup d_Chan_init_56 rfl ?_
  refine x_callI (As := []) d_Chan_init_57 mi_Chan_41 rfl ⟨Nat.le_of_ble_eq_true rfl, Nat.le_of_ble_eq_true rfl⟩ (Nat.le_of_ble_eq_true rfl) ⟨Nat.le_of_ble_eq_true rfl, Nat.le_of_ble_eq_true rfl⟩ (c_Gazette_init S14 (nS14)) (fun S15 hS15 => ?_)
  have nS15 : S15.1 = 38 := by rw [n_Gazette_init S14 S15 hS15, nS14]
  refine x_putr d_Chan_init_60 fl_Chan_42 rfl rfl ak_0 (fun _ => by rw [nS15]; decide) (fun _ => ⟨rfl, rfl⟩) (fun _ => rfl) (fun _ => trivial) ?_
  refine x_nmS (fun S16 hS16 => ?_)
  have nS16 : S16.1 = 38 := by rw [hS16]; exact nS15
  refine x_aload_n_ref d_Chan_init_63 rfl ?_
  refine c_new nS16 d_Chan_init_64 nwc_Chan_46 (by rw [nS16]; exact ak_38) (Nat.le_of_ble_eq_true rfl) (Nat.le_of_ble_eq_true rfl) (fun S17 hS17 nS17 => ?_)
  refine x_dup d_Chan_init_67 rfl ?_
  refine x_callI (As := []) d_Chan_init_68 mi_Chan_48 rfl ⟨Nat.le_of_ble_eq_true rfl, Nat.le_of_ble_eq_true rfl⟩ (Nat.le_of_ble_eq_true rfl) ⟨Nat.le_of_ble_eq_true rfl, Nat.le_of_ble_eq_true rfl⟩ (c_Reigns_init S17 (nS17)) (fun S18 hS18 => ?_)
  have nS18 : S18.1 = 49 := by rw [n_Reigns_init S17 S18 hS18, nS17]
  refine x_putr d_Chan_init_71 fl_Chan_49 rfl rfl ak_0 (fun _ => by rw [nS18]; decide) (fun _ => ⟨rfl, rfl⟩) (fun _ => rfl) (fun _ => trivial) ?_
  refine x_nmS (fun S19 hS19 => ?_)
  have nS19 : S19.1 = 49 := by rw [hS19]; exact nS18
  refine x_aload_n_ref d_Chan_init_74 rfl ?_
  refine c_new nS19 d_Chan_init_75 nwc_Chan_53 (by rw [nS19]; exact ak_49) (Nat.le_of_ble_eq_true rfl) (Nat.le_of_ble_eq_true rfl) (fun S20 hS20 nS20 => ?_)
  refine x_dup d_Chan_init_78 rfl ?_
  refine x_aload_n_ref d_Chan_init_79 rfl ?_
  refine x_chk (fun hc21 => ?_)
  refine x_getr d_Chan_init_80 fl_Chan_28 ak_0 (fun _ => by rw [nS20]; decide) (fun _ => hc21) ?_
  refine x_aload_n_ref d_Chan_init_83 rfl ?_
  refine x_chk (fun hc22 => ?_)
  refine x_getr d_Chan_init_84 fl_Chan_35 ak_0 (fun _ => by rw [nS20]; decide) (fun _ => hc22) ?_
  refine x_aload_n_ref d_Chan_init_87 rfl ?_
  refine x_chk (fun hc23 => ?_)
  refine x_getr d_Chan_init_88 fl_Chan_42 ak_0 (fun _ => by rw [nS20]; decide) (fun _ => hc23) ?_
  refine x_aload_n_ref d_Chan_init_91 rfl ?_
  refine x_chk (fun hc24 => ?_)
  refine x_getr d_Chan_init_92 fl_Chan_49 ak_0 (fun _ => by rw [nS20]; decide) (fun _ => hc24) ?_
  refine x_callI (As := [.ref 16, .ref 23, .ref 32, .ref 38]) d_Chan_init_95 mi_Chan_55 rfl ⟨Nat.le_of_ble_eq_true rfl, Nat.le_of_ble_eq_true rfl⟩ (Nat.le_of_ble_eq_true rfl) ⟨Nat.le_of_ble_eq_true rfl, Nat.le_of_ble_eq_true rfl⟩ (c_Course_init S20 (nS20)) (fun S25 hS25 => ?_)
  have nS25 : S25.1 = 60 := by rw [n_Course_init S20 S25 hS25, nS20]
  refine x_putr d_Chan_init_98 fl_Chan_58 rfl rfl ak_0 (fun _ => by rw [nS25]; decide) (fun _ => ⟨rfl, rfl⟩) (fun _ => rfl) (fun _ => trivial) ?_
  refine x_nmS (fun S26 hS26 => ?_)
  have nS26 : S26.1 = 60 := by rw [hS26]; exact nS25
  refine x_aload_n_ref d_Chan_init_101 rfl ?_
  refine c_new nS26 d_Chan_init_102 nwc_Chan_62 (by rw [nS26]; exact ak_60) (Nat.le_of_ble_eq_true rfl) (Nat.le_of_ble_eq_true rfl) (fun S27 hS27 nS27 => ?_)
  refine x_dup d_Chan_init_105 rfl ?_
  refine x_aload_n_ref d_Chan_init_106 rfl ?_
  refine x_chk (fun hc28 => ?_)
  refine x_getr d_Chan_init_107 fl_Chan_28 ak_0 (fun _ => by rw [nS27]; decide) (fun _ => hc28) ?_
  refine x_callI (As := [.ref 16]) d_Chan_init_110 mi_Chan_64 rfl ⟨Nat.le_of_ble_eq_true rfl, Nat.le_of_ble_eq_true rfl⟩ (Nat.le_of_ble_eq_true rfl) ⟨Nat.le_of_ble_eq_true rfl, Nat.le_of_ble_eq_true rfl⟩ (c_Ends_init S27 (nS27)) (fun S29 hS29 => ?_)
  have nS29 : S29.1 = 63 := by rw [n_Ends_init S27 S29 hS29, nS27]
  refine x_putr d_Chan_init_113 fl_Chan_67 rfl rfl ak_0 (fun _ => by rw [nS29]; decide) (fun _ => ⟨rfl, rfl⟩) (fun _ => rfl) (fun _ => trivial) ?_
  refine x_nmS (fun S30 hS30 => ?_)
  have nS30 : S30.1 = 63 := by rw [hS30]; exact nS29
  refine x_aload_n_ref d_Chan_init_116 rfl ?_
  refine c_new nS30 d_Chan_init_117 nwc_Chan_71 (by rw [nS30]; exact ak_63) (Nat.le_of_ble_eq_true rfl) (Nat.le_of_ble_eq_true rfl) (fun S31 hS31 nS31 => ?_)
  refine x_dup d_Chan_init_120 rfl ?_
  refine x_callI (As := []) d_Chan_init_121 mi_Chan_73 rfl ⟨Nat.le_of_ble_eq_true rfl, Nat.le_of_ble_eq_true rfl⟩ (Nat.le_of_ble_eq_true rfl) ⟨Nat.le_of_ble_eq_true rfl, Nat.le_of_ble_eq_true rfl⟩ (c_Exchange_init S31 (nS31)) (fun S32 hS32 => ?_)
  have nS32 : S32.1 = 69 := by rw [n_Exchange_init S31 S32 hS32, nS31]
  refine x_putr d_Chan_init_124 fl_Chan_74 rfl rfl ak_0 (fun _ => by rw [nS32]; decide) (fun _ => ⟨rfl, rfl⟩) (fun _ => rfl) (fun _ => trivial) ?_
  refine x_nmS (fun S33 hS33 => ?_)
  have nS33 : S33.1 = 69 := by rw [hS33]; exact nS32
  refine x_aload_n_ref d_Chan_init_127 rfl ?_
  refine x_bipush (v := 48) d_Chan_init_128 (by decide) ?_
  refine c_newa nS33 d_Chan_init_130 (List.mem_append_right _ (List.mem_append_left _ (List.mem_of_getElem? (i := 45) (by decide +kernel)))) (by decide) (by rw [nS33]; exact ak_69) (by decide) (by decide) (by decide) (Nat.le_of_ble_eq_true rfl) (Nat.le_of_ble_eq_true rfl) (fun S34 hS34 nS34 => ?_)
  refine x_putr d_Chan_init_132 fl_Chan_78 rfl rfl ak_0 (fun _ => by rw [nS34]; decide) (fun _ => ⟨rfl, rfl⟩) (fun _ => rfl) (fun _ => trivial) ?_
  refine x_nmS (fun S35 hS35 => ?_)
  have nS35 : S35.1 = 70 := by rw [hS35]; exact nS34
  refine x_aload_n_ref d_Chan_init_135 rfl ?_
  refine x_iconst (v := -1) d_Chan_init_136 (by decide) ?_
  refine x_puti d_Chan_init_137 fl_Chan_82 rfl ak_0 (fun _ => by rw [nS35]; decide) (fun h => nomatch h) (fun h => nomatch h) ?_
  refine x_nmS (fun S36 hS36 => ?_)
  have nS36 : S36.1 = 70 := by rw [hS36]; exact nS35
  exact x_vret d_Chan_init_140 rfl (Nat.le_of_ble_eq_true rfl) (Nat.le_of_ble_eq_true rfl)
theorem c_Chan_init {G : GX} (S : AS) (hn : S.1 = 1) : CN G y_Chan_init b_Chan_init 1 none ({ frames := 3, cells := 69, slots := 6741, locals := 62 } : Room) none iV [.ref 0] S (f_Chan_init S) := cn_of_v (M := md_Chan_init) (ini := true) rfl (by decide +kernel) (fun _ => rfl) rfl (Nat.le_of_ble_eq_true rfl) (v_Chan_init S hn)
theorem n_Chan_init (S T : AS) (h : f_Chan_init S = some T) : T.1 = S.1 + 69 := by
  unfold f_Chan_init at h
  simp only [nm] at h
  obtain ⟨U1, e1, h⟩ := bV_some h
  obtain ⟨-, h⟩ := chk_some h
  obtain ⟨U2, e2, h⟩ := bV_some h
  obtain ⟨U3, e3, h⟩ := bV_some h
  obtain ⟨U4, e4, h⟩ := bV_some h
  obtain ⟨U5, e5, h⟩ := bV_some h
  obtain ⟨U6, e6, h⟩ := bV_some h
  obtain ⟨-, h⟩ := chk_some h
  obtain ⟨-, h⟩ := chk_some h
  obtain ⟨-, h⟩ := chk_some h
  obtain ⟨-, h⟩ := chk_some h
  obtain ⟨U7, e7, h⟩ := bV_some h
  obtain ⟨-, h⟩ := chk_some h
  obtain ⟨U8, e8, h⟩ := bV_some h
  obtain ⟨U9, e9, h⟩ := bV_some h
  cases h
  have g1 := n_Tape_init _ _ e1
  have g2 := n_RuleReader_init _ _ e2
  have g3 := n_Roll_init _ _ e3
  have g4 := n_PaperBox_init _ _ e4
  have g5 := n_Gazette_init _ _ e5
  have g6 := n_Reigns_init _ _ e6
  have g7 := n_Course_init _ _ e7
  have g8 := n_Ends_init _ _ e8
  have g9 := n_Exchange_init _ _ e9
  simp only [fst_si, fst_sr, fst_nw] at *
  omega
noncomputable def f_Md_init (S : AS) : Option AS := nm (nw S) fun S1 => nm (sr S1 70 0 (some 71)) fun S2 => nm (si S2 70 1 0) fun S3 => nm (si S3 70 2 0) fun S4 => nm (nw S4) fun S5 => nm (sr S5 70 3 (some 72)) fun S6 => nm (si S6 70 4 0) fun S7 => nm (nw S7) fun S8 => nm (sr S8 70 5 (some 73)) fun S9 => nm (si S9 70 6 0) fun S10 => nm (nw S10) fun S11 => nm (sr S11 70 7 (some 74)) fun S12 => nm (nw S12) fun S13 => nm (sr S13 70 8 (some 75)) fun S14 => nm (nw S14) fun S15 => nm (sr S15 70 9 (some 76)) fun S16 => nm (nw S16) fun S17 => nm (sr S17 70 10 (some 77)) fun S18 => nm (si S18 70 11 0) fun S19 => nm (nw S19) fun S20 => nm (sr S20 70 12 (some 78)) fun S21 => nm (nw S21) fun S22 => nm (sr S22 70 13 (some 79)) fun S23 => nm (si S23 70 14 (-1)) fun S24 => nm (si S24 70 15 0) fun S25 => nm (nw S25) fun S26 => nm (sr S26 70 16 (some 80)) fun S27 => nm (nw S27) fun S28 => nm (sr S28 70 17 (some 81)) fun S29 => nm (nw S29) fun S30 => nm (sr S30 70 18 (some 82)) fun S31 => nm (nw S31) fun S32 => nm (sr S32 70 19 (some 83)) fun S33 => nm (nw S33) fun S34 => nm (sr S34 70 20 (some 84)) fun S35 => nm (si S35 70 21 0) fun S36 => nm (si S36 70 22 0) fun S37 => nm (si S37 70 23 0) fun S38 => nm (si S38 70 24 0) fun S39 => nm (si S39 70 25 (-1)) fun S40 => nm (nw S40) fun S41 => nm (sr S41 70 26 (some 85)) fun S42 => nm (nw S42) fun S43 => nm (sr S43 70 27 (some 86)) fun S44 => nm (nw S44) fun S45 => nm (sr S45 70 28 (some 87)) fun S46 => nm (nw S46) fun S47 => nm (sr S47 70 29 (some 88)) fun S48 => nm (nw S48) fun S49 => nm (sr S49 70 30 (some 89)) fun S50 => nm (nw S50) fun S51 => nm (sr S51 70 31 (some 90)) fun S52 => nm (nw S52) fun S53 => nm (sr S53 70 32 (some 91)) fun S54 => nm (nw S54) fun S55 => nm (sr S55 70 33 (some 92)) fun S56 => nm (nw S56) fun S57 => nm (sr S57 70 34 (some 93)) fun S58 => nm (si S58 70 35 0) fun S59 => nm (nw S59) fun S60 => nm (sr S60 70 36 (some 94)) fun S61 => nm (nw S61) fun S62 => nm (sr S62 70 37 (some 95)) fun S63 => nm (nw S63) fun S64 => nm (sr S64 70 38 (some 96)) fun S65 => nm (nw S65) fun S66 => nm (sr S66 70 39 (some 97)) fun S67 => nm (nw S67) fun S68 => nm (sr S68 70 40 (some 98)) fun S69 => nm (si S69 70 41 0) fun S70 => nm (si S70 70 42 0) fun S71 => some S71
set_option maxHeartbeats 4000000 in
theorem v_Md_init {G : GX} (S : AS) (hn : S.1 = 71) : V G md_Md_init (QM G md_Md_init iV) (fun _ => True) none 0 [some (.ref 70)] [] 0 0 S (f_Md_init S) := by
  unfold f_Md_init
  refine x_aload_n_ref d_Md_init_0 rfl ?_
  refine x_obj d_Md_init_1 (List.mem_append_right _ (List.mem_append_right _ (List.mem_append_right _ (List.mem_append_right _ (List.mem_append_left _ (List.mem_of_getElem? (i := 197) (by decide +kernel))))))) w_ob2 w_ob3 (Nat.le_of_ble_eq_true rfl) (by decide) (by decide) ?_
  refine x_aload_n_ref d_Md_init_4 rfl ?_
  refine x_sipush (v := 400) d_Md_init_5 (by decide) ?_
  refine c_newa hn d_Md_init_8 (List.mem_append_right _ (List.mem_append_left _ (List.mem_of_getElem? (i := 45) (by decide +kernel)))) (by decide) (by rw [hn]; exact ak_71) (by decide) (by decide) (by decide) (Nat.le_of_ble_eq_true rfl) (Nat.le_of_ble_eq_true rfl) (fun S1 hS1 nS1 => ?_)
  refine x_putr d_Md_init_10 fl_Md_7 rfl rfl ak_70 (fun _ => by rw [nS1]; decide) (fun _ => ⟨rfl, rfl⟩) (fun _ => rfl) (fun _ => trivial) ?_
  refine x_nmS (fun S2 hS2 => ?_)
  have nS2 : S2.1 = 72 := by rw [hS2]; exact nS1
  refine x_aload_n_ref d_Md_init_13 rfl ?_
  refine x_iconst (v := 0) d_Md_init_14 (by decide) ?_
  refine x_puti d_Md_init_15 fl_Md_13 rfl ak_70 (fun _ => by rw [nS2]; decide) (fun h => nomatch h) (fun h => nomatch h) ?_
  refine x_nmS (fun S3 hS3 => ?_)
  have nS3 : S3.1 = 72 := by rw [hS3]; exact nS2
  refine x_aload_n_ref d_Md_init_18 rfl ?_
  refine x_iconst (v := 0) d_Md_init_19 (by decide) ?_
  refine x_puti d_Md_init_20 fl_Md_17 rfl ak_70 (fun _ => by rw [nS3]; decide) (fun h => nomatch h) (fun h => nomatch h) ?_
  refine x_nmS (fun S4 hS4 => ?_)
  have nS4 : S4.1 = 72 := by rw [hS4]; exact nS3
  refine x_aload_n_ref d_Md_init_23 rfl ?_
  refine x_bipush (v := 72) d_Md_init_24 (by decide) ?_
  refine c_newa nS4 d_Md_init_26 (List.mem_append_right _ (List.mem_append_left _ (List.mem_of_getElem? (i := 45) (by decide +kernel)))) (by decide) (by rw [nS4]; exact ak_72) (by decide) (by decide) (by decide) (Nat.le_of_ble_eq_true rfl) (Nat.le_of_ble_eq_true rfl) (fun S5 hS5 nS5 => ?_)
  refine x_putr d_Md_init_28 fl_Md_20 rfl rfl ak_70 (fun _ => by rw [nS5]; decide) (fun _ => ⟨rfl, rfl⟩) (fun _ => rfl) (fun _ => trivial) ?_
  refine x_nmS (fun S6 hS6 => ?_)
  have nS6 : S6.1 = 73 := by rw [hS6]; exact nS5
  refine x_aload_n_ref d_Md_init_31 rfl ?_
  refine x_iconst (v := 0) d_Md_init_32 (by decide) ?_
  refine x_puti d_Md_init_33 fl_Md_23 rfl ak_70 (fun _ => by rw [nS6]; decide) (fun h => nomatch h) (fun h => nomatch h) ?_
  refine x_nmS (fun S7 hS7 => ?_)
  have nS7 : S7.1 = 73 := by rw [hS7]; exact nS6
  refine x_aload_n_ref d_Md_init_36 rfl ?_
  refine x_bipush (v := 48) d_Md_init_37 (by decide) ?_
  refine c_newa nS7 d_Md_init_39 (List.mem_append_right _ (List.mem_append_left _ (List.mem_of_getElem? (i := 45) (by decide +kernel)))) (by decide) (by rw [nS7]; exact ak_73) (by decide) (by decide) (by decide) (Nat.le_of_ble_eq_true rfl) (Nat.le_of_ble_eq_true rfl) (fun S8 hS8 nS8 => ?_)
  refine x_putr d_Md_init_41 fl_Md_26 rfl rfl ak_70 (fun _ => by rw [nS8]; decide) (fun _ => ⟨rfl, rfl⟩) (fun _ => rfl) (fun _ => trivial) ?_
  refine x_nmS (fun S9 hS9 => ?_)
  have nS9 : S9.1 = 74 := by rw [hS9]; exact nS8
  refine x_aload_n_ref d_Md_init_44 rfl ?_
  refine x_iconst (v := 0) d_Md_init_45 (by decide) ?_
  refine x_puti d_Md_init_46 fl_Md_29 rfl ak_70 (fun _ => by rw [nS9]; decide) (fun h => nomatch h) (fun h => nomatch h) ?_
  refine x_nmS (fun S10 hS10 => ?_)
  have nS10 : S10.1 = 74 := by rw [hS10]; exact nS9
  refine x_aload_n_ref d_Md_init_49 rfl ?_
  refine x_sipush (v := 161) d_Md_init_50 (by decide) ?_
  refine c_newa nS10 d_Md_init_53 (List.mem_append_right _ (List.mem_append_left _ (List.mem_of_getElem? (i := 45) (by decide +kernel)))) (by decide) (by rw [nS10]; exact ak_74) (by decide) (by decide) (by decide) (Nat.le_of_ble_eq_true rfl) (Nat.le_of_ble_eq_true rfl) (fun S11 hS11 nS11 => ?_)
  refine x_putr d_Md_init_55 fl_Md_32 rfl rfl ak_70 (fun _ => by rw [nS11]; decide) (fun _ => ⟨rfl, rfl⟩) (fun _ => rfl) (fun _ => trivial) ?_
  refine x_nmS (fun S12 hS12 => ?_)
  have nS12 : S12.1 = 75 := by rw [hS12]; exact nS11
  refine x_aload_n_ref d_Md_init_58 rfl ?_
  refine x_sipush (v := 161) d_Md_init_59 (by decide) ?_
  refine c_newa nS12 d_Md_init_62 (List.mem_append_right _ (List.mem_append_left _ (List.mem_of_getElem? (i := 45) (by decide +kernel)))) (by decide) (by rw [nS12]; exact ak_75) (by decide) (by decide) (by decide) (Nat.le_of_ble_eq_true rfl) (Nat.le_of_ble_eq_true rfl) (fun S13 hS13 nS13 => ?_)
  refine x_putr d_Md_init_64 fl_Md_35 rfl rfl ak_70 (fun _ => by rw [nS13]; decide) (fun _ => ⟨rfl, rfl⟩) (fun _ => rfl) (fun _ => trivial) ?_
  refine x_nmS (fun S14 hS14 => ?_)
  have nS14 : S14.1 = 76 := by rw [hS14]; exact nS13
  refine x_aload_n_ref d_Md_init_67 rfl ?_
  refine x_sipush (v := 161) d_Md_init_68 (by decide) ?_
  refine c_newa nS14 d_Md_init_71 (List.mem_append_right _ (List.mem_append_left _ (List.mem_of_getElem? (i := 45) (by decide +kernel)))) (by decide) (by rw [nS14]; exact ak_76) (by decide) (by decide) (by decide) (Nat.le_of_ble_eq_true rfl) (Nat.le_of_ble_eq_true rfl) (fun S15 hS15 nS15 => ?_)
  refine x_putr d_Md_init_73 fl_Md_38 rfl rfl ak_70 (fun _ => by rw [nS15]; decide) (fun _ => ⟨rfl, rfl⟩) (fun _ => rfl) (fun _ => trivial) ?_
  refine x_nmS (fun S16 hS16 => ?_)
  have nS16 : S16.1 = 77 := by rw [hS16]; exact nS15
  refine x_aload_n_ref d_Md_init_76 rfl ?_
  refine x_sipush (v := 161) d_Md_init_77 (by decide) ?_
  refine c_newa nS16 d_Md_init_80 (List.mem_append_right _ (List.mem_append_left _ (List.mem_of_getElem? (i := 45) (by decide +kernel)))) (by decide) (by rw [nS16]; exact ak_77) (by decide) (by decide) (by decide) (Nat.le_of_ble_eq_true rfl) (Nat.le_of_ble_eq_true rfl) (fun S17 hS17 nS17 => ?_)
  refine x_putr d_Md_init_82 fl_Md_41 rfl rfl ak_70 (fun _ => by rw [nS17]; decide) (fun _ => ⟨rfl, rfl⟩) (fun _ => rfl) (fun _ => trivial) ?_
  refine x_nmS (fun S18 hS18 => ?_)
  have nS18 : S18.1 = 78 := by rw [hS18]; exact nS17
  refine x_aload_n_ref d_Md_init_85 rfl ?_
  refine x_iconst (v := 0) d_Md_init_86 (by decide) ?_
  refine x_puti d_Md_init_87 fl_Md_44 rfl ak_70 (fun _ => by rw [nS18]; decide) (fun h => nomatch h) (fun h => nomatch h) ?_
  refine x_nmS (fun S19 hS19 => ?_)
  have nS19 : S19.1 = 78 := by rw [hS19]; exact nS18
  refine x_aload_n_ref d_Md_init_90 rfl ?_
  refine x_sipush (v := 336) d_Md_init_91 (by decide) ?_
  refine c_newa nS19 d_Md_init_94 (List.mem_append_right _ (List.mem_append_left _ (List.mem_of_getElem? (i := 45) (by decide +kernel)))) (by decide) (by rw [nS19]; exact ak_78) (by decide) (by decide) (by decide) (Nat.le_of_ble_eq_true rfl) (Nat.le_of_ble_eq_true rfl) (fun S20 hS20 nS20 => ?_)
  refine x_putr d_Md_init_96 fl_Md_47 rfl rfl ak_70 (fun _ => by rw [nS20]; decide) (fun _ => ⟨rfl, rfl⟩) (fun _ => rfl) (fun _ => trivial) ?_
  refine x_nmS (fun S21 hS21 => ?_)
  have nS21 : S21.1 = 79 := by rw [hS21]; exact nS20
  refine x_aload_n_ref d_Md_init_99 rfl ?_
  refine x_bipush (v := 48) d_Md_init_100 (by decide) ?_
  refine c_newa nS21 d_Md_init_102 (List.mem_append_right _ (List.mem_append_left _ (List.mem_of_getElem? (i := 45) (by decide +kernel)))) (by decide) (by rw [nS21]; exact ak_79) (by decide) (by decide) (by decide) (Nat.le_of_ble_eq_true rfl) (Nat.le_of_ble_eq_true rfl) (fun S22 hS22 nS22 => ?_)
  refine x_putr d_Md_init_104 fl_Md_50 rfl rfl ak_70 (fun _ => by rw [nS22]; decide) (fun _ => ⟨rfl, rfl⟩) (fun _ => rfl) (fun _ => trivial) ?_
  refine x_nmS (fun S23 hS23 => ?_)
  have nS23 : S23.1 = 80 := by rw [hS23]; exact nS22
  refine x_aload_n_ref d_Md_init_107 rfl ?_
  refine x_iconst (v := -1) d_Md_init_108 (by decide) ?_
  refine x_puti d_Md_init_109 fl_Md_53 rfl ak_70 (fun _ => by rw [nS23]; decide) (fun h => nomatch h) (fun h => nomatch h) ?_
  refine x_nmS (fun S24 hS24 => ?_)
  have nS24 : S24.1 = 80 := by rw [hS24]; exact nS23
  refine x_aload_n_ref d_Md_init_112 rfl ?_
  refine x_iconst (v := 0) d_Md_init_113 (by decide) ?_
  refine x_puti d_Md_init_114 fl_Md_56 rfl ak_70 (fun _ => by rw [nS24]; decide) (fun h => nomatch h) (fun h => nomatch h) ?_
  refine x_nmS (fun S25 hS25 => ?_)
  have nS25 : S25.1 = 80 := by rw [hS25]; exact nS24
  refine x_aload_n_ref d_Md_init_117 rfl ?_
  refine x_bipush (v := 6) d_Md_init_118 (by decide) ?_
  refine c_newa nS25 d_Md_init_120 (List.mem_append_right _ (List.mem_append_left _ (List.mem_of_getElem? (i := 45) (by decide +kernel)))) (by decide) (by rw [nS25]; exact ak_80) (by decide) (by decide) (by decide) (Nat.le_of_ble_eq_true rfl) (Nat.le_of_ble_eq_true rfl) (fun S26 hS26 nS26 => ?_)
  refine x_putr d_Md_init_122 fl_Md_59 rfl rfl ak_70 (fun _ => by rw [nS26]; decide) (fun _ => ⟨rfl, rfl⟩) (fun _ => rfl) (fun _ => trivial) ?_
  refine x_nmS (fun S27 hS27 => ?_)
  have nS27 : S27.1 = 81 := by rw [hS27]; exact nS26
  refine x_aload_n_ref d_Md_init_125 rfl ?_
  refine x_bipush (v := 6) d_Md_init_126 (by decide) ?_
  refine c_newa nS27 d_Md_init_128 (List.mem_append_right _ (List.mem_append_left _ (List.mem_of_getElem? (i := 45) (by decide +kernel)))) (by decide) (by rw [nS27]; exact ak_81) (by decide) (by decide) (by decide) (Nat.le_of_ble_eq_true rfl) (Nat.le_of_ble_eq_true rfl) (fun S28 hS28 nS28 => ?_)
  refine x_putr d_Md_init_130 fl_Md_62 rfl rfl ak_70 (fun _ => by rw [nS28]; decide) (fun _ => ⟨rfl, rfl⟩) (fun _ => rfl) (fun _ => trivial) ?_
  refine x_nmS (fun S29 hS29 => ?_)
  have nS29 : S29.1 = 82 := by rw [hS29]; exact nS28
  refine x_aload_n_ref d_Md_init_133 rfl ?_
  refine x_bipush (v := 6) d_Md_init_134 (by decide) ?_
  refine c_newa nS29 d_Md_init_136 (List.mem_append_right _ (List.mem_append_left _ (List.mem_of_getElem? (i := 45) (by decide +kernel)))) (by decide) (by rw [nS29]; exact ak_82) (by decide) (by decide) (by decide) (Nat.le_of_ble_eq_true rfl) (Nat.le_of_ble_eq_true rfl) (fun S30 hS30 nS30 => ?_)
  refine x_putr d_Md_init_138 fl_Md_65 rfl rfl ak_70 (fun _ => by rw [nS30]; decide) (fun _ => ⟨rfl, rfl⟩) (fun _ => rfl) (fun _ => trivial) ?_
  refine x_nmS (fun S31 hS31 => ?_)
  have nS31 : S31.1 = 83 := by rw [hS31]; exact nS30
  refine x_aload_n_ref d_Md_init_141 rfl ?_
  refine x_sipush (v := 3600) d_Md_init_142 (by decide) ?_
  refine c_newa nS31 d_Md_init_145 (List.mem_append_right _ (List.mem_append_left _ (List.mem_of_getElem? (i := 45) (by decide +kernel)))) (by decide) (by rw [nS31]; exact ak_83) (by decide) (by decide) (by decide) (Nat.le_of_ble_eq_true rfl) (Nat.le_of_ble_eq_true rfl) (fun S32 hS32 nS32 => ?_)
  refine x_putr d_Md_init_147 fl_Md_68 rfl rfl ak_70 (fun _ => by rw [nS32]; decide) (fun _ => ⟨rfl, rfl⟩) (fun _ => rfl) (fun _ => trivial) ?_
  refine x_nmS (fun S33 hS33 => ?_)
  have nS33 : S33.1 = 84 := by rw [hS33]; exact nS32
  refine x_aload_n_ref d_Md_init_150 rfl ?_
  refine x_sipush (v := 600) d_Md_init_151 (by decide) ?_
  refine c_newa nS33 d_Md_init_154 (List.mem_append_right _ (List.mem_append_left _ (List.mem_of_getElem? (i := 45) (by decide +kernel)))) (by decide) (by rw [nS33]; exact ak_84) (by decide) (by decide) (by decide) (Nat.le_of_ble_eq_true rfl) (Nat.le_of_ble_eq_true rfl) (fun S34 hS34 nS34 => ?_)
  refine x_putr d_Md_init_156 fl_Md_71 rfl rfl ak_70 (fun _ => by rw [nS34]; decide) (fun _ => ⟨rfl, rfl⟩) (fun _ => rfl) (fun _ => trivial) ?_
  refine x_nmS (fun S35 hS35 => ?_)
  have nS35 : S35.1 = 85 := by rw [hS35]; exact nS34
  refine x_aload_n_ref d_Md_init_159 rfl ?_
  refine x_iconst (v := 0) d_Md_init_160 (by decide) ?_
  refine x_puti d_Md_init_161 fl_Md_74 rfl ak_70 (fun _ => by rw [nS35]; decide) (fun h => nomatch h) (fun h => nomatch h) ?_
  refine x_nmS (fun S36 hS36 => ?_)
  have nS36 : S36.1 = 85 := by rw [hS36]; exact nS35
  refine x_aload_n_ref d_Md_init_164 rfl ?_
  refine x_iconst (v := 0) d_Md_init_165 (by decide) ?_
  refine x_puti d_Md_init_166 fl_Md_77 rfl ak_70 (fun _ => by rw [nS36]; decide) (fun h => nomatch h) (fun h => nomatch h) ?_
  refine x_nmS (fun S37 hS37 => ?_)
  have nS37 : S37.1 = 85 := by rw [hS37]; exact nS36
  refine x_aload_n_ref d_Md_init_169 rfl ?_
  refine x_iconst (v := 0) d_Md_init_170 (by decide) ?_
  refine x_puti d_Md_init_171 fl_Md_80 rfl ak_70 (fun _ => by rw [nS37]; decide) (fun h => nomatch h) (fun h => nomatch h) ?_
  refine x_nmS (fun S38 hS38 => ?_)
  have nS38 : S38.1 = 85 := by rw [hS38]; exact nS37
  refine x_aload_n_ref d_Md_init_174 rfl ?_
  refine x_iconst (v := 0) d_Md_init_175 (by decide) ?_
  refine x_puti d_Md_init_176 fl_Md_83 rfl ak_70 (fun _ => by rw [nS38]; decide) (fun h => nomatch h) (fun h => nomatch h) ?_
  refine x_nmS (fun S39 hS39 => ?_)
  have nS39 : S39.1 = 85 := by rw [hS39]; exact nS38
  refine x_aload_n_ref d_Md_init_179 rfl ?_
  refine x_iconst (v := -1) d_Md_init_180 (by decide) ?_
  refine x_puti d_Md_init_181 fl_Md_86 rfl ak_70 (fun _ => by rw [nS39]; decide) (fun h => nomatch h) (fun h => nomatch h) ?_
  refine x_nmS (fun S40 hS40 => ?_)
  have nS40 : S40.1 = 85 := by rw [hS40]; exact nS39
  refine x_aload_n_ref d_Md_init_184 rfl ?_
  refine x_bipush (v := 16) d_Md_init_185 (by decide) ?_
  refine c_newa nS40 d_Md_init_187 (List.mem_append_right _ (List.mem_append_left _ (List.mem_of_getElem? (i := 45) (by decide +kernel)))) (by decide) (by rw [nS40]; exact ak_85) (by decide) (by decide) (by decide) (Nat.le_of_ble_eq_true rfl) (Nat.le_of_ble_eq_true rfl) (fun S41 hS41 nS41 => ?_)
  refine x_putr d_Md_init_189 fl_Md_89 rfl rfl ak_70 (fun _ => by rw [nS41]; decide) (fun _ => ⟨rfl, rfl⟩) (fun _ => rfl) (fun _ => trivial) ?_
  refine x_nmS (fun S42 hS42 => ?_)
  have nS42 : S42.1 = 86 := by rw [hS42]; exact nS41
  refine x_aload_n_ref d_Md_init_192 rfl ?_
  refine x_bipush (v := 16) d_Md_init_193 (by decide) ?_
  refine c_newa nS42 d_Md_init_195 (List.mem_append_right _ (List.mem_append_left _ (List.mem_of_getElem? (i := 45) (by decide +kernel)))) (by decide) (by rw [nS42]; exact ak_86) (by decide) (by decide) (by decide) (Nat.le_of_ble_eq_true rfl) (Nat.le_of_ble_eq_true rfl) (fun S43 hS43 nS43 => ?_)
  refine x_putr d_Md_init_197 fl_Md_92 rfl rfl ak_70 (fun _ => by rw [nS43]; decide) (fun _ => ⟨rfl, rfl⟩) (fun _ => rfl) (fun _ => trivial) ?_
  refine x_nmS (fun S44 hS44 => ?_)
  have nS44 : S44.1 = 87 := by rw [hS44]; exact nS43
  refine x_aload_n_ref d_Md_init_200 rfl ?_
  refine x_bipush (v := 24) d_Md_init_201 (by decide) ?_
  refine c_newa nS44 d_Md_init_203 (List.mem_append_right _ (List.mem_append_right _ (List.mem_append_left _ (List.mem_of_getElem? (i := 112) (by decide +kernel))))) (by decide) (by rw [nS44]; exact ak_87) (by decide) (by decide) (by decide) (Nat.le_of_ble_eq_true rfl) (Nat.le_of_ble_eq_true rfl) (fun S45 hS45 nS45 => ?_)
  refine x_putr d_Md_init_205 fl_Md_95 rfl rfl ak_70 (fun _ => by rw [nS45]; decide) (fun _ => ⟨rfl, rfl⟩) (fun _ => rfl) (fun _ => trivial) ?_
  refine x_nmS (fun S46 hS46 => ?_)
  have nS46 : S46.1 = 88 := by rw [hS46]; exact nS45
  refine x_aload_n_ref d_Md_init_208 rfl ?_
  refine x_bipush (v := 48) d_Md_init_209 (by decide) ?_
  refine c_newa nS46 d_Md_init_211 (List.mem_append_right _ (List.mem_append_right _ (List.mem_append_left _ (List.mem_of_getElem? (i := 112) (by decide +kernel))))) (by decide) (by rw [nS46]; exact ak_88) (by decide) (by decide) (by decide) (Nat.le_of_ble_eq_true rfl) (Nat.le_of_ble_eq_true rfl) (fun S47 hS47 nS47 => ?_)
  refine x_putr d_Md_init_213 fl_Md_99 rfl rfl ak_70 (fun _ => by rw [nS47]; decide) (fun _ => ⟨rfl, rfl⟩) (fun _ => rfl) (fun _ => trivial) ?_
  refine x_nmS (fun S48 hS48 => ?_)
  have nS48 : S48.1 = 89 := by rw [hS48]; exact nS47
  refine x_aload_n_ref d_Md_init_216 rfl ?_
  refine x_bipush (v := 48) d_Md_init_217 (by decide) ?_
  refine c_newa nS48 d_Md_init_219 (List.mem_append_right _ (List.mem_append_left _ (List.mem_of_getElem? (i := 45) (by decide +kernel)))) (by decide) (by rw [nS48]; exact ak_89) (by decide) (by decide) (by decide) (Nat.le_of_ble_eq_true rfl) (Nat.le_of_ble_eq_true rfl) (fun S49 hS49 nS49 => ?_)
  refine x_putr d_Md_init_221 fl_Md_102 rfl rfl ak_70 (fun _ => by rw [nS49]; decide) (fun _ => ⟨rfl, rfl⟩) (fun _ => rfl) (fun _ => trivial) ?_
  refine x_nmS (fun S50 hS50 => ?_)
  have nS50 : S50.1 = 90 := by rw [hS50]; exact nS49
  refine x_aload_n_ref d_Md_init_224 rfl ?_
  refine x_bipush (v := 48) d_Md_init_225 (by decide) ?_
  refine c_newa nS50 d_Md_init_227 (List.mem_append_right _ (List.mem_append_left _ (List.mem_of_getElem? (i := 45) (by decide +kernel)))) (by decide) (by rw [nS50]; exact ak_90) (by decide) (by decide) (by decide) (Nat.le_of_ble_eq_true rfl) (Nat.le_of_ble_eq_true rfl) (fun S51 hS51 nS51 => ?_)
  refine x_putr d_Md_init_229 fl_Md_105 rfl rfl ak_70 (fun _ => by rw [nS51]; decide) (fun _ => ⟨rfl, rfl⟩) (fun _ => rfl) (fun _ => trivial) ?_
  refine x_nmS (fun S52 hS52 => ?_)
  have nS52 : S52.1 = 91 := by rw [hS52]; exact nS51
  refine x_aload_n_ref d_Md_init_232 rfl ?_
  refine x_bipush (v := 24) d_Md_init_233 (by decide) ?_
  refine c_newa nS52 d_Md_init_235 (List.mem_append_right _ (List.mem_append_right _ (List.mem_append_left _ (List.mem_of_getElem? (i := 111) (by decide +kernel))))) (by decide) (by rw [nS52]; exact ak_91) (by decide) (by decide) (by decide) (Nat.le_of_ble_eq_true rfl) (Nat.le_of_ble_eq_true rfl) (fun S53 hS53 nS53 => ?_)
  refine x_putr d_Md_init_237 fl_Md_108 rfl rfl ak_70 (fun _ => by rw [nS53]; decide) (fun _ => ⟨rfl, rfl⟩) (fun _ => rfl) (fun _ => trivial) ?_
  refine x_nmS (fun S54 hS54 => ?_)
  have nS54 : S54.1 = 92 := by rw [hS54]; exact nS53
  refine x_aload_n_ref d_Md_init_240 rfl ?_
  refine x_sipush (v := 161) d_Md_init_241 (by decide) ?_
  refine c_newa nS54 d_Md_init_244 (List.mem_append_right _ (List.mem_append_right _ (List.mem_append_left _ (List.mem_of_getElem? (i := 112) (by decide +kernel))))) (by decide) (by rw [nS54]; exact ak_92) (by decide) (by decide) (by decide) (Nat.le_of_ble_eq_true rfl) (Nat.le_of_ble_eq_true rfl) (fun S55 hS55 nS55 => ?_)
  refine x_putr d_Md_init_246 fl_Md_112 rfl rfl ak_70 (fun _ => by rw [nS55]; decide) (fun _ => ⟨rfl, rfl⟩) (fun _ => rfl) (fun _ => trivial) ?_
  refine x_nmS (fun S56 hS56 => ?_)
  have nS56 : S56.1 = 93 := by rw [hS56]; exact nS55
  refine x_aload_n_ref d_Md_init_249 rfl ?_
  refine x_bipush (v := 48) d_Md_init_250 (by decide) ?_
  refine c_newa nS56 d_Md_init_252 (List.mem_append_right _ (List.mem_append_left _ (List.mem_of_getElem? (i := 45) (by decide +kernel)))) (by decide) (by rw [nS56]; exact ak_93) (by decide) (by decide) (by decide) (Nat.le_of_ble_eq_true rfl) (Nat.le_of_ble_eq_true rfl) (fun S57 hS57 nS57 => ?_)
  refine x_putr d_Md_init_254 fl_Md_115 rfl rfl ak_70 (fun _ => by rw [nS57]; decide) (fun _ => ⟨rfl, rfl⟩) (fun _ => rfl) (fun _ => trivial) ?_
  refine x_nmS (fun S58 hS58 => ?_)
  have nS58 : S58.1 = 94 := by rw [hS58]; exact nS57
  refine x_aload_n_ref d_Md_init_257 rfl ?_
  refine x_iconst (v := 0) d_Md_init_258 (by decide) ?_
  refine x_puti d_Md_init_259 fl_Md_118 rfl ak_70 (fun _ => by rw [nS58]; decide) (fun h => nomatch h) (fun h => nomatch h) ?_
  refine x_nmS (fun S59 hS59 => ?_)
  have nS59 : S59.1 = 94 := by rw [hS59]; exact nS58
  refine x_aload_n_ref d_Md_init_262 rfl ?_
  refine x_bipush (v := 72) d_Md_init_263 (by decide) ?_
  refine c_newa nS59 d_Md_init_265 (List.mem_append_right _ (List.mem_append_left _ (List.mem_of_getElem? (i := 45) (by decide +kernel)))) (by decide) (by rw [nS59]; exact ak_94) (by decide) (by decide) (by decide) (Nat.le_of_ble_eq_true rfl) (Nat.le_of_ble_eq_true rfl) (fun S60 hS60 nS60 => ?_)
  refine x_putr d_Md_init_267 fl_Md_121 rfl rfl ak_70 (fun _ => by rw [nS60]; decide) (fun _ => ⟨rfl, rfl⟩) (fun _ => rfl) (fun _ => trivial) ?_
  refine x_nmS (fun S61 hS61 => ?_)
  have nS61 : S61.1 = 95 := by rw [hS61]; exact nS60
  refine x_aload_n_ref d_Md_init_270 rfl ?_
  refine x_bipush (v := 24) d_Md_init_271 (by decide) ?_
  refine c_newa nS61 d_Md_init_273 (List.mem_append_right _ (List.mem_append_left _ (List.mem_of_getElem? (i := 45) (by decide +kernel)))) (by decide) (by rw [nS61]; exact ak_95) (by decide) (by decide) (by decide) (Nat.le_of_ble_eq_true rfl) (Nat.le_of_ble_eq_true rfl) (fun S62 hS62 nS62 => ?_)
  refine x_putr d_Md_init_275 fl_Md_124 rfl rfl ak_70 (fun _ => by rw [nS62]; decide) (fun _ => ⟨rfl, rfl⟩) (fun _ => rfl) (fun _ => trivial) ?_
  refine x_nmS (fun S63 hS63 => ?_)
  have nS63 : S63.1 = 96 := by rw [hS63]; exact nS62
  refine x_aload_n_ref d_Md_init_278 rfl ?_
  refine x_bipush (v := 24) d_Md_init_279 (by decide) ?_
  refine c_newa nS63 d_Md_init_281 (List.mem_append_right _ (List.mem_append_left _ (List.mem_of_getElem? (i := 45) (by decide +kernel)))) (by decide) (by rw [nS63]; exact ak_96) (by decide) (by decide) (by decide) (Nat.le_of_ble_eq_true rfl) (Nat.le_of_ble_eq_true rfl) (fun S64 hS64 nS64 => ?_)
  refine x_putr d_Md_init_283 fl_Md_127 rfl rfl ak_70 (fun _ => by rw [nS64]; decide) (fun _ => ⟨rfl, rfl⟩) (fun _ => rfl) (fun _ => trivial) ?_
  refine x_nmS (fun S65 hS65 => ?_)
  have nS65 : S65.1 = 97 := by rw [hS65]; exact nS64
  refine x_aload_n_ref d_Md_init_286 rfl ?_
  refine x_bipush (v := 24) d_Md_init_287 (by decide) ?_
  refine c_newa nS65 d_Md_init_289 (List.mem_append_right _ (List.mem_append_right _ (List.mem_append_left _ (List.mem_of_getElem? (i := 112) (by decide +kernel))))) (by decide) (by rw [nS65]; exact ak_97) (by decide) (by decide) (by decide) (Nat.le_of_ble_eq_true rfl) (Nat.le_of_ble_eq_true rfl) (fun S66 hS66 nS66 => ?_)
  refine x_putr d_Md_init_291 fl_Md_130 rfl rfl ak_70 (fun _ => by rw [nS66]; decide) (fun _ => ⟨rfl, rfl⟩) (fun _ => rfl) (fun _ => trivial) ?_
  refine x_nmS (fun S67 hS67 => ?_)
  have nS67 : S67.1 = 98 := by rw [hS67]; exact nS66
  refine x_aload_n_ref d_Md_init_294 rfl ?_
  refine x_bipush (v := 24) d_Md_init_295 (by decide) ?_
  refine c_newa nS67 d_Md_init_297 (List.mem_append_right _ (List.mem_append_left _ (List.mem_of_getElem? (i := 45) (by decide +kernel)))) (by decide) (by rw [nS67]; exact ak_98) (by decide) (by decide) (by decide) (Nat.le_of_ble_eq_true rfl) (Nat.le_of_ble_eq_true rfl) (fun S68 hS68 nS68 => ?_)
  refine x_putr d_Md_init_299 fl_Md_133 rfl rfl ak_70 (fun _ => by rw [nS68]; decide) (fun _ => ⟨rfl, rfl⟩) (fun _ => rfl) (fun _ => trivial) ?_
  refine x_nmS (fun S69 hS69 => ?_)
  have nS69 : S69.1 = 99 := by rw [hS69]; exact nS68
  refine x_aload_n_ref d_Md_init_302 rfl ?_
  refine x_iconst (v := 0) d_Md_init_303 (by decide) ?_
  refine x_putz d_Md_init_304 fl_Md_136 (by decide) rfl ak_70 (fun _ => by rw [nS69]; decide) (fun h => nomatch h) (fun h => nomatch h) ?_
  refine x_nmS (fun S70 hS70 => ?_)
  have nS70 : S70.1 = 99 := by rw [hS70]; exact nS69
  refine x_aload_n_ref d_Md_init_307 rfl ?_
  refine x_iconst (v := 0) d_Md_init_308 (by decide) ?_
  refine x_puti d_Md_init_309 fl_Md_140 rfl ak_70 (fun _ => by rw [nS70]; decide) (fun h => nomatch h) (fun h => nomatch h) ?_
  refine x_nmS (fun S71 hS71 => ?_)
  have nS71 : S71.1 = 99 := by rw [hS71]; exact nS70
  exact x_vret d_Md_init_312 rfl (Nat.le_of_ble_eq_true rfl) (Nat.le_of_ble_eq_true rfl)
theorem c_Md_init {G : GX} (S : AS) (hn : S.1 = 71) : CN G y_Md_init b_Md_init 1 none ({ frames := 1, cells := 28, slots := 6367, locals := 20 } : Room) none iV [.ref 70] S (f_Md_init S) := cn_of_v (M := md_Md_init) (ini := true) rfl (by decide +kernel) (fun _ => rfl) rfl (Nat.le_of_ble_eq_true rfl) (v_Md_init S hn)
theorem n_Md_init (S T : AS) (h : f_Md_init S = some T) : T.1 = S.1 + 28 := by
  unfold f_Md_init at h
  simp only [nm] at h
  cases h
  simp only [fst_si, fst_sr, fst_nw] at *
