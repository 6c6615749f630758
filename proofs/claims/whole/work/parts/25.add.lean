theorem nm_eq {α β : Type} (a : α) (f : α → β) : nm a f = f a := rfl
section ADD
variable {α : Type} {G : GX} {M : MD} {b : Option (Option Nat)} {S : AS} {QQ : QT α} {E : State → Prop} {pc : Nat} {lc : List (Option Value)} {st : List Value} {k z : Nat} {X : Option α}
theorem v_of_vw {r : α} (h : VW G M QQ E pc lc st k z S r) : V G M QQ E none pc lc st k z S (some r) := fun _ r' hr => by cases hr; exact ⟨trivial, h⟩
theorem x_aast {a n v : Nat} {i : Int32} (hd : decode M.2.1 pc = .ok (.aastore, 1)) (hK : aK a = .inl (3, n)) (hKv : Sp b S → aK v = .inr 3) (hq : Sp b S → a < S.1) (hqv : Sp b S → v < S.1) (hsp : vp_in i n → Sp b S → Sp b (sr S a (ix i) (some v))) (h : V G M QQ E b (pc + 1) lc st k z (sr S a (ix i) (some v)) X) : V G M QQ E b pc lc (.ref v :: .int i :: .ref a :: st) k z S (chk (vp_in i n) X) :=
  x_chk fun hin => h.liftS (hsp hin) fun h0 r hV p e s m args below meth c H locs ls C hR hS hL => by
    have hKK := C.2.2.2.2.2.2.2.1.2.1
    have hlt : i.toNatClampNeg < n := Nat.not_le.mp fun q => hin (Or.inr q)
    have hi0 : ¬ i < 0 := fun q => hin (Or.inl q)
    obtain ⟨r', hr', cellV, g1, g2, g3, -⟩ := hR.arr (hqv h0) (fc_obj (hKv h0))
    have hcls := (hKK.1 3 (R_RuleBook, F_RuleBook, 9) rfl).2
    obtain ⟨kA, comp, k1, k2, k3, -⟩ := (hKK.2 3 _ rfl).2
    have hcomp : comp = (gD G).1 3 := Option.some.inj (k3.symm.trans hcls.1)
    subst hcomp
    obtain ⟨kC, hkC, -⟩ := hcls.2
    refine W.aast (g := F0 m pc ls (Value.ref (gB G + v) :: Value.int i :: Value.ref (gB G + a) :: st.map (cv G))) (rest := st.map (cv G)) C.1 C.2.1 (hR.arr (hq h0) (fc_ref hK)) (fun q h => by cases h) (fun h => by cases h) k1 k2 rfl hkC ⟨hi0, by show _ < (arrV _ _ _).slots.size; rw [arrV_size]; exact hlt⟩ g1 (fun q h => by rw [g3] at h; cases h) (by rw [g2]; exact hkC) (by rw [g2]; exact va_assign hcls) rfl rfl hd fun H1 e1 e2 e3 => ?_
    refine hV p e s m args below meth c H1 _ ls C (hR.put (S' := sr S a (ix i) (some v)) rfl e2 e3 ?_ (fun j hj => fcell_sr hj)) (hS.put e2 e3 (Nat.le_add_right _ _)) hL
    rw [fc_ref hK]
    show H1[_]? = some (vp_cell _ _)
    rw [e1, vp_cell_q, vp_cell_q, arrV_store]
    congr 2
    funext q
    by_cases hqq : q = i.toNatClampNeg
    · subst hqq
      simp [updV, gr_sr, rfB, va_rf]
    · simp [updV, gr_sr, hqq]
end ADD
theorem sp_books {S : AS} {i q : Nat} (h : isBk S q) (hs : Sp (some none) S) : Sp (some none) (sr S 40 i (some q)) := by
  obtain ⟨h1, h2, h3, h4, h5⟩ := hs
  have hne : ∀ (a k : Nat), ¬ a = 40 → gr (sr S 40 i (some q)) a k = gr S a k := fun a k hh => by rw [gr_sr, if_neg (fun e => hh e.1)]
  refine ⟨h1, fun t ht => ?_, fun q' hq' => ?_, fun q' hq' => ?_, fun i' q' hq' => ?_⟩
  · rw [hne t.1 t.2.1 (by
      have : ∀ t ∈ shl, ¬ t.1 = 40 := by decide
      exact this t ht)]
    exact h2 t ht
  · have hb := h3 q' hq'
    have hq4 : q' ≠ 40 := by rcases hq' with h | h | ⟨j, h, -⟩ <;> omega
    unfold bkw at hb ⊢
    simp only [gr_sr, hq4, false_and, if_false]
    exact hb
  · rw [hne 49 15 (by decide)] at hq'
    exact h4 q' hq'
  · rw [gr_sr] at hq'
    split at hq'
    · cases hq'; exact h
    · exact h5 i' q' hq'
/-- a new RuleBook: what is told of it and of the rest -/
theorem rb_new {S T : AS} (h : f_RuleBook_init S.1 (nw S) = some T) : T.1 = S.1 + 8 ∧ (∀ a k, a < S.1 → gr T a k = gr S a k ∧ gi T a k = gi S a k ∧ gl T a k = gl S a k) ∧ gr T S.1 0 = some (S.1 + 1) ∧ gr T S.1 1 = some (S.1 + 2) ∧ gr T S.1 2 = some (S.1 + 3) ∧ gr T S.1 3 = some (S.1 + 4) ∧ gr T S.1 5 = some (S.1 + 5) ∧ gr T S.1 6 = some (S.1 + 6) ∧ gr T S.1 7 = some (S.1 + 7) := by
  unfold f_RuleBook_init at h
  simp only [nm] at h
  cases h
  refine ⟨rfl, fun a k ha => ⟨?_, ?_, ?_⟩, ?_, ?_, ?_, ?_, ?_, ?_, ?_⟩
  · have h0 : ¬ a = S.1 := by omega
    simp only [gr_sr, gr_nw, fst_nw, fst_sr, h0, false_and, if_false]
    rw [if_neg (show ¬ a = S.1 + 1 + 1 + 1 + 1 + 1 + 1 + 1 by omega), if_neg (show ¬ a = S.1 + 1 + 1 + 1 + 1 + 1 + 1 by omega), if_neg (show ¬ a = S.1 + 1 + 1 + 1 + 1 + 1 by omega), if_neg (show ¬ a = S.1 + 1 + 1 + 1 + 1 by omega), if_neg (show ¬ a = S.1 + 1 + 1 + 1 by omega), if_neg (show ¬ a = S.1 + 1 + 1 by omega), if_neg (show ¬ a = S.1 + 1 by omega)]
  · have h0 : ¬ a = S.1 := by omega
    simp only [gi_sr, gi_nw, fst_nw, fst_sr, h0, if_false]
    rw [if_neg (show ¬ a = S.1 + 1 + 1 + 1 + 1 + 1 + 1 + 1 by omega), if_neg (show ¬ a = S.1 + 1 + 1 + 1 + 1 + 1 + 1 by omega), if_neg (show ¬ a = S.1 + 1 + 1 + 1 + 1 + 1 by omega), if_neg (show ¬ a = S.1 + 1 + 1 + 1 + 1 by omega), if_neg (show ¬ a = S.1 + 1 + 1 + 1 by omega), if_neg (show ¬ a = S.1 + 1 + 1 by omega), if_neg (show ¬ a = S.1 + 1 by omega)]
  · have h0 : ¬ a = S.1 := by omega
    simp only [gl_sr, gl_nw, fst_nw, fst_sr, h0, if_false]
    rw [if_neg (show ¬ a = S.1 + 1 + 1 + 1 + 1 + 1 + 1 + 1 by omega), if_neg (show ¬ a = S.1 + 1 + 1 + 1 + 1 + 1 + 1 by omega), if_neg (show ¬ a = S.1 + 1 + 1 + 1 + 1 + 1 by omega), if_neg (show ¬ a = S.1 + 1 + 1 + 1 + 1 by omega), if_neg (show ¬ a = S.1 + 1 + 1 + 1 by omega), if_neg (show ¬ a = S.1 + 1 + 1 by omega), if_neg (show ¬ a = S.1 + 1 by omega)]
  all_goals
    simp only [gr_sr, gr_nw, fst_nw, fst_sr]
    simp [Nat.add_assoc]
theorem sh_new {S T : AS} (hs : Sh S) (h : f_RuleBook_init S.1 (nw S) = some T) : Sh T ∧ isBk T S.1 := by
  obtain ⟨⟨j, hj⟩, h2, h3, h4, h5⟩ := hs
  obtain ⟨t1, t2, t4⟩ := rb_new h
  have hold : ∀ q, (q = 4 ∨ q = 41 ∨ ∃ j, q = 99 + 8 * j ∧ q < S.1) → (q = 4 ∨ q = 41 ∨ ∃ j, q = 99 + 8 * j ∧ q < T.1) := by
    rintro q (e | e | ⟨i, e, e2⟩)
    · exact Or.inl e
    · exact Or.inr (Or.inl e)
    · exact Or.inr (Or.inr ⟨i, e, by omega⟩)
  refine ⟨⟨⟨j + 1, by omega⟩, fun t ht => ?_, fun q hq => ?_, fun q hq => ?_, fun i q hq => ?_⟩, Or.inr (Or.inr ⟨j, by omega, by omega⟩)⟩
  · have hl : ∀ t ∈ shl, t.1 < 99 := by decide
    rw [(t2 t.1 t.2.1 (by have := hl t ht; omega)).1]
    exact h2 t ht
  · by_cases e : q = S.1
    · subst e
      exact ⟨Or.inr (Or.inr ⟨j, by omega⟩), by omega, t4⟩
    · have hlt : q < S.1 ∧ (q = 4 ∨ q = 41 ∨ ∃ j, q = 99 + 8 * j ∧ q < S.1) := by
        rcases hq with e1 | e1 | ⟨i, e1, e2⟩
        · exact ⟨by omega, Or.inl e1⟩
        · exact ⟨by omega, Or.inr (Or.inl e1)⟩
        · have : q < S.1 := by omega
          exact ⟨this, Or.inr (Or.inr ⟨i, e1, this⟩)⟩
      have hb := h3 q hlt.2
      unfold bkw at hb ⊢
      rw [(t2 q 0 hlt.1).1, (t2 q 1 hlt.1).1, (t2 q 2 hlt.1).1, (t2 q 3 hlt.1).1, (t2 q 5 hlt.1).1, (t2 q 6 hlt.1).1, (t2 q 7 hlt.1).1]
      exact ⟨hb.1, by omega, hb.2.2⟩
  · rw [(t2 49 15 (by omega)).1] at hq
    exact hold q (h4 q hq)
  · rw [(t2 40 i (by omega)).1] at hq
    exact hold q (h5 i q hq)
noncomputable def f_Reigns_add_4 (p1 : Int32) (S : AS) : Option AS := if (gi S 38 3) < 6 then (nm (nw S) fun S1 => bV (f_RuleBook_init S.1 S1) fun S2 => bV (f_RuleBook_copyFrom_4 S.1 S2) fun S3 => chk (vp_in (gi S3 38 3) 6) (nm (si S3 39 (ix (gi S3 38 3)) p1) fun S4 => chk (isBk S4 S.1) (chk (vp_in (gi S4 38 3) 6) (nm (sr S4 40 (ix (gi S4 38 3)) (some S.1)) fun S5 => nm (si S5 38 3 ((gi S5 38 3) + 1)) fun S6 => some S6)))) else (some S)
set_option maxHeartbeats 4000000 in
theorem v_Reigns_add_4 {G : GX} (p1 : Int32) (S : AS) : V G md_Reigns_add (QM G md_Reigns_add iV) (fun _ => True) (some none) 0 [some (.ref 38), some (.int p1), some (.ref 4), none] [] 0 0 S (f_Reigns_add_4 p1 S) := by
  unfold f_Reigns_add_4
  refine x_aload_n_ref d_Reigns_add_0 rfl ?_
  refine x_geti d_Reigns_add_1 fl_Reigns_26 ak_38 (q99 (by decide)) ?_
  refine x_bipush (v := 6) d_Reigns_add_4 (by decide) ?_
  refine x_icmp_lt (tgt := 10) d_Reigns_add_6 (by decide) (fun _ => ?_) (fun _ => ?_)
  · intro h0 r hr
    rw [nm_eq] at hr
    obtain ⟨S2, e2, hr⟩ := bV_some hr
    have hsh := sh_new h0 e2
    obtain ⟨j, hj⟩ := h0.1
    have hqq : isq S.1 := Or.inr (Or.inr ⟨j, hj⟩)
    have hV : V G md_Reigns_add (QM G md_Reigns_add iV) (fun _ => True) (some none) 17 [some (.ref 38), some (.int p1), some (.ref 4), none] [.ref S.1] 8 265 S2 (bV (f_RuleBook_copyFrom_4 S.1 S2) fun S3 => chk (vp_in (gi S3 38 3) 6) (nm (si S3 39 (ix (gi S3 38 3)) p1) fun S4 => chk (isBk S4 S.1) (chk (vp_in (gi S4 38 3) 6) (nm (sr S4 40 (ix (gi S4 38 3)) (some S.1)) fun S5 => nm (si S5 38 3 ((gi S5 38 3) + 1)) fun S6 => some S6)))) := by
      refine x_astore_n (lc' := [some (.ref 38), some (.int p1), some (.ref 4), some (.ref S.1)]) d_Reigns_add_17 (by decide) rfl ?_
      refine x_aload_n_ref d_Reigns_add_18 rfl ?_
      refine x_aload_n_ref d_Reigns_add_19 rfl ?_
      refine x_vV (b' := some (some S.1)) (As := [.ref 4]) d_Reigns_add_20 mv_Reigns_30 rfl (fun _ => ak_q S.1 0 hqq (by decide)) rfl (fun _ => by have := rb_new e2; omega) ⟨Nat.le_of_ble_eq_true rfl, Nat.le_of_ble_eq_true rfl⟩ (Nat.le_of_ble_eq_true rfl) ⟨Nat.le_of_ble_eq_true rfl, Nat.le_of_ble_eq_true rfl⟩ (fun _ h => h.1) (fun h => ⟨sp_bk hsh.2 h, c_RuleBook_copyFrom_4 S.1 hqq _⟩) (fun S3 => ?_)
      refine x_aload_n_ref d_Reigns_add_23 rfl ?_
      refine x_getr d_Reigns_add_24 fl_Reigns_9 ak_38 (q99 (by decide)) (shx sh_38_0) ?_
      refine x_aload_n_ref d_Reigns_add_27 rfl ?_
      refine x_geti d_Reigns_add_28 fl_Reigns_26 ak_38 (q99 (by decide)) ?_
      refine x_iload_n d_Reigns_add_31 rfl ?_
      refine x_iast d_Reigns_add_32 ak_39 (q99 (by decide)) ?_
      refine x_nmS (fun S4 _ => ?_)
      refine x_chk (fun hbk => ?_)
      refine x_aload_n_ref d_Reigns_add_33 rfl ?_
      refine x_getr d_Reigns_add_34 fl_Reigns_17 ak_38 (q99 (by decide)) (shx sh_38_1) ?_
      refine x_aload_n_ref d_Reigns_add_37 rfl ?_
      refine x_geti d_Reigns_add_38 fl_Reigns_26 ak_38 (q99 (by decide)) ?_
      refine x_aload_n_ref d_Reigns_add_41 rfl ?_
      refine x_aast d_Reigns_add_42 ak_40 (fun _ => ak_q S.1 0 hqq (by decide)) (q99 (by decide)) (fun h => bq_lt (q := S.1) (i := 0) (by decide) (sp_bk hbk h)) (fun _ h => sp_books hbk h) ?_
      refine x_nmS (fun S5 _ => ?_)
      refine x_aload_n_ref d_Reigns_add_43 rfl ?_
      refine x_dup d_Reigns_add_44 rfl ?_
      refine x_geti d_Reigns_add_45 fl_Reigns_26 ak_38 (q99 (by decide)) ?_
      refine x_iconst (v := 1) d_Reigns_add_48 (by decide) ?_
      refine x_iadd d_Reigns_add_49 ?_
      refine x_puti d_Reigns_add_50 fl_Reigns_26 rfl ak_38 (q99 (by decide)) (fun h => nomatch h) (fun h => nomatch h) ?_
      refine x_nmS (fun S6 _ => ?_)
      exact x_vret d_Reigns_add_53 rfl (Nat.le_of_ble_eq_true rfl) (Nat.le_of_ble_eq_true rfl)
    have h17 := hV hsh.1 r hr
    refine ⟨h17.1, ?_⟩
    have h10 : V G md_Reigns_add (QM G md_Reigns_add iV) (fun _ => True) none 10 [some (.ref 38), some (.int p1), some (.ref 4), none] [] 0 0 S (bV (f_RuleBook_init S.1 (nw S)) fun T => chk (T = S2) (some r)) := by
      refine x_new d_Reigns_add_10 nwc_Reigns_15 (ak_q S.1 0 hqq (by decide)) (Nat.le_of_ble_eq_true rfl) (Nat.le_of_ble_eq_true rfl) ?_
      refine x_dup d_Reigns_add_13 rfl ?_
      refine x_callI (As := []) d_Reigns_add_14 mi_Reigns_21 rfl ⟨Nat.le_of_ble_eq_true rfl, Nat.le_of_ble_eq_true rfl⟩ (Nat.le_of_ble_eq_true rfl) ⟨Nat.le_of_ble_eq_true rfl, Nat.le_of_ble_eq_true rfl⟩ (c_RuleBook_init S.1 hqq (nw S) rfl) (fun T hT => ?_)
      refine x_chk (fun eT => ?_)
      subst eT
      exact v_of_vw h17.2
    rw [e2] at h10
    have e3 : (bV (some S2) fun T => chk (T = S2) (some r)) = some r := chk_pos rfl
    rw [e3] at h10
    exact (h10 trivial r rfl).2
  · exact x_vret d_Reigns_add_9 rfl (Nat.le_of_ble_eq_true rfl) (Nat.le_of_ble_eq_true rfl)
theorem c_Reigns_add_4 {G : GX} (p1 : Int32) (S : AS) : CN G y_Reigns_add b_Reigns_add 4 none ({ frames := 2, cells := 8, slots := 265, locals := 81 } : Room) (some none) iV [.ref 38, .int p1, .ref 4] S (f_Reigns_add_4 p1 S) := cn_of_v (M := md_Reigns_add) (ini := false) rfl (by decide +kernel) (fun h => nomatch h) rfl (Nat.le_of_ble_eq_true rfl) (v_Reigns_add_4 p1 S)
