def S00 : AS := (0, fun _ _ => 0, fun _ _ => 0, fun _ _ => none)
/-- what is left: the two systems are made, and the law's loop comes to its end, as pure programs -/
def PureOK (L : Nat) (xs : Nat → Int32) : Prop := ∃ S1 S2 S3, f_Chan_init (nw S00) = some S1 ∧ f_Md_init (nw S1) = some S2 ∧ Sh S2 ∧ f_law_L L xs 600 0 S2 = some S3
theorem wmove0 {w : Cond} (h2 : goodWord w = true ∨ wnest w = true) {s : State} {A : Array Value} (h3 : w.before A s = true) : va_Nw w s := by
  rcases h2 with h2 | h2
  · exact word_at (State.WarmedH.refl s) (good_of_word h2) h3
  · unfold wnest at h2
    split at h2
    · exact va_Nw.of rfl h3
    · exact va_Nw.of rfl h3
    · exact va_AO.of h3
    · cases h2
theorem arr_known {s : State} {A : Array Value} {ty : FieldType} (h : (Cond.arrayClass ty).before A s = true) (hp : ∀ C, ty ≠ .object C) : ∃ c, ArrOfT s c ty ∧ va_RA s c ty := by
  obtain ⟨c, k, comp, h1, h2, h3⟩ := Cond.arrayClass_spec h
  refine ⟨c, fun N z => ⟨(fun k h => by cases h), k, h2, comp, h3⟩, ?_⟩
  cases ty <;> first | exact h1 | (exact absurd rfl (hp _))
theorem arr_knownO {s : State} {A : Array Value} {C : String} (h : (Cond.arrayOver (.object C)).before A s = true) : ∃ c, ArrOfT s c (.object C) ∧ va_RA s c (.object C) := by
  obtain ⟨comp, c, k, h1, h2, h3, h4, h5⟩ := Cond.arrayOver_spec h
  exact ⟨c, fun N z => ⟨(fun k h => by cases h), k, h3, comp, h4⟩, k, comp, h3, h4, h1, h5⟩
set_option maxHeartbeats 8000000 in
set_option maxRecDepth 100000 in
theorem known_start {p : Program} {s : State} {m : MethodId} {meth : Method} {c : Code} (l : Launch) {b L : Nat} {xs : Nat → Int32} (C0 : lw_At p s m meth c b L xs) : ∃ G : GX, G.1 = l ∧ gB G = s.heap.size ∧ gx G 0 = b ∧ EC G s s.heap := by
  obtain ⟨hx, hb, hr, hml, hown, hts, hX, hbl, hlocks, hgv⟩ := id C0
  have hs := flat_of_before _ hgv
  have hA : ∀ a : Nat, a < s.heap.size → ¬ (fun q : Nat => s.heap.size ≤ q) a := fun a h => Nat.not_le.mpr h
  obtain ⟨c0, iS0, hKn0⟩ := u_known (C := R_Chan) (T := F_Chan) (N := 12) (n := 12) hts i_Chan (hts (.instantiable R_Chan 12) (List.mem_append_right _ (List.mem_append_left _ (List.mem_of_getElem? (i := 22) (by decide +kernel)))))
  obtain ⟨c1, iS1, hKn1⟩ := u_known (C := R_Tape) (T := F_Tape) (N := 2) (n := 2) hts i_Tape (hts (.instantiable R_Tape 2) (List.mem_append_right _ (List.mem_append_left _ (List.mem_of_getElem? (i := 30) (by decide +kernel)))))
  obtain ⟨c2, iS2, hKn2⟩ := u_known (C := R_RuleReader) (T := F_RuleReader) (N := 6) (n := 6) hts i_RuleReader (hts (.instantiable R_RuleReader 6) (List.mem_append_right _ (List.mem_append_left _ (List.mem_of_getElem? (i := 47) (by decide +kernel)))))
  obtain ⟨c3, iS3, hKn3⟩ := u_known (C := R_RuleBook) (T := F_RuleBook) (N := 9) (n := 9) hts i_RuleBook (hts (.instantiable R_RuleBook 9) (List.mem_append_right _ (List.mem_append_left _ (List.mem_of_getElem? (i := 53) (by decide +kernel)))))
  obtain ⟨c4, iS4, hKn4⟩ := u_known (C := R_TokenRow) (T := F_TokenRow) (N := 5) (n := 5) hts i_TokenRow (hts (.instantiable R_TokenRow 5) (List.mem_append_right _ (List.mem_append_left _ (List.mem_of_getElem? (i := 88) (by decide +kernel)))))
  obtain ⟨c5, iS5, hKn5⟩ := u_known (C := R_Roll) (T := F_Roll) (N := 9) (n := 9) hts i_Roll (hts (.instantiable R_Roll 9) (List.mem_append_right _ (List.mem_append_left _ (List.mem_of_getElem? (i := 136) (by decide +kernel)))))
  obtain ⟨c6, iS6, hKn6⟩ := u_known (C := R_PaperBox) (T := F_PaperBox) (N := 9) (n := 9) hts i_PaperBox (hts (.instantiable R_PaperBox 9) (List.mem_append_right _ (List.mem_append_left _ (List.mem_of_getElem? (i := 182) (by decide +kernel)))))
  obtain ⟨c7, iS7, hKn7⟩ := u_known (C := R_Gazette) (T := F_Gazette) (N := 7) (n := 7) hts i_Gazette (hts (.instantiable R_Gazette 7) (List.mem_append_right _ (List.mem_append_left _ (List.mem_of_getElem? (i := 224) (by decide +kernel)))))
  obtain ⟨c8, iS8, hKn8⟩ := u_known (C := R_Reigns) (T := F_Reigns) (N := 4) (n := 4) hts i_Reigns (hts (.instantiable R_Reigns 4) (List.mem_append_right _ (List.mem_append_right _ (List.mem_append_left _ (List.mem_of_getElem? (i := 19) (by decide +kernel))))))
  obtain ⟨c9, iS9, hKn9⟩ := u_known (C := R_Course) (T := F_Course) (N := 19) (n := 19) hts i_Course (hts (.instantiable R_Course 19) (List.mem_append_right _ (List.mem_append_right _ (List.mem_append_left _ (List.mem_of_getElem? (i := 43) (by decide +kernel))))))
  obtain ⟨c10, iS10, hKn10⟩ := u_known (C := R_Ends) (T := F_Ends) (N := 3) (n := 3) hts i_Ends (hts (.instantiable R_Ends 3) (List.mem_append_right _ (List.mem_append_right _ (List.mem_append_left _ (List.mem_of_getElem? (i := 114) (by decide +kernel))))))
  obtain ⟨c11, iS11, hKn11⟩ := u_known (C := R_Exchange) (T := F_Exchange) (N := 5) (n := 5) hts i_Exchange (hts (.instantiable R_Exchange 5) (List.mem_append_right _ (List.mem_append_right _ (List.mem_append_left _ (List.mem_of_getElem? (i := 133) (by decide +kernel))))))
  obtain ⟨c12, iS12, hKn12⟩ := u_known (C := R_Md) (T := F_Md) (N := 43) (n := 43) hts i_Md (hts (.instantiable R_Md 43) (List.mem_append_right _ (List.mem_append_right _ (List.mem_append_right _ (List.mem_append_right _ (List.mem_append_left _ (List.mem_of_getElem? (i := 193) (by decide +kernel))))))))
  obtain ⟨cI, hI⟩ := arr_known (hts (.arrayClass .int) (List.mem_append_right _ (List.mem_append_left _ (List.mem_of_getElem? (i := 45) (by decide +kernel))))) (fun _ h => by cases h)
  obtain ⟨cJ, hJ⟩ := arr_known (hts (.arrayClass .long) (List.mem_append_right _ (List.mem_append_right _ (List.mem_append_left _ (List.mem_of_getElem? (i := 111) (by decide +kernel)))))) (fun _ h => by cases h)
  obtain ⟨cZ, hZ⟩ := arr_known (hts (.arrayClass .boolean) (List.mem_append_right _ (List.mem_append_right _ (List.mem_append_left _ (List.mem_of_getElem? (i := 112) (by decide +kernel)))))) (fun _ h => by cases h)
  obtain ⟨cO, hO⟩ := arr_knownO (hts (.arrayOver (.object "PaperChancery$RuleBook")) (List.mem_append_right _ (List.mem_append_right _ (List.mem_append_left _ (List.mem_of_getElem? (i := 25) (by decide +kernel))))))
  have hcs : va_Z "java/lang/String" "COMPACT_STRINGS" "Z" (.int 1) (fun q : Nat => s.heap.size ≤ q) s s.heap := va_Zof (hts (.laysStatic "java/lang/String" "COMPACT_STRINGS" "Z") (List.mem_append_right _ (List.mem_append_right _ (List.mem_append_right _ (List.mem_append_left _ (List.mem_of_getElem? (i := 54) (by decide +kernel))))))) (hts (.initialized "java/lang/String") (List.mem_append_right _ (List.mem_append_left _ (List.mem_of_getElem? (i := 15) (by decide +kernel))))) (va_eqi (hs (.eq (.static "java/lang/String" "COMPACT_STRINGS" "Z") (.int 1)) (by decide +kernel))) hA
  have hsq : va_Zq "jdk/internal/util/Preconditions" "SIOOBE_FORMATTER" "Ljava/util/function/BiFunction;" (fun q : Nat => s.heap.size ≤ q) s s.heap := va_Zqof (hts (.laysStatic "jdk/internal/util/Preconditions" "SIOOBE_FORMATTER" "Ljava/util/function/BiFunction;") (List.mem_append_right _ (List.mem_append_right _ (List.mem_append_right _ (List.mem_append_left _ (List.mem_of_getElem? (i := 62) (by decide +kernel))))))) (hts (.initialized "jdk/internal/util/Preconditions") (List.mem_append_right _ (List.mem_append_left _ (List.mem_of_getElem? (i := 17) (by decide +kernel))))) (hs (.isRef (.static "jdk/internal/util/Preconditions" "SIOOBE_FORMATTER" "Ljava/util/function/BiFunction;")) (by decide +kernel)) hA
  obtain ⟨adK, adV, hvS, hvK⟩ := vk_Sof (args := #[Value.ref b]) (s := s) (N := 1) (tm := fun _ => .string "PaperChancery$TokenRow" 71) (len := [112]) (byt := [bW]) (A := fun q : Nat => s.heap.size ≤ q) (fun i hi => by rw [show i = 0 by omega]; decide) (fun i hi => hs _ (by decide +kernel)) (fun i hi => hs _ (by decide +kernel)) (fun i hi => hs _ (by decide +kernel)) (fun i hi => by rw [show i = 0 by omega]; exact hs _ (by decide +kernel))
    (fun i hi j hj => by
      rw [show i = 0 by omega] at hj ⊢
      have hall : ∀ j, j < 112 → (Cond.eq (.elem (.field (.string "PaperChancery$TokenRow" 71) "java/lang/String" "value" "[B") (.int (Int32.ofNat j))) (.int (bW.getD j 0))) ∈ flatC (Jvm.Cond.and given_1 narrow_1) := by decide +kernel
      exact hs _ (hall j hj)) (fun i j hi hj hne => absurd (show i = j by omega) hne) hA
  have hvR : vk_R "PaperChancery$TokenRow" 71 sW (adK 0) s := vk_R.of (hts (.stringRef "PaperChancery$TokenRow" 71 sW) (List.mem_append_right _ (List.mem_append_right _ (List.mem_append_right _ (List.mem_append_left _ (List.mem_of_getElem? (i := 44) (by decide +kernel))))))) (hvK 0 (by decide))
  have hfor : ∃ f3 : Nat, va_Z "jdk/internal/util/Preconditions" "SIOOBE_FORMATTER" "Ljava/util/function/BiFunction;" .null (fun q : Nat => s.heap.size ≤ q) s s.heap ∨ va_Z "jdk/internal/util/Preconditions" "SIOOBE_FORMATTER" "Ljava/util/function/BiFunction;" (.ref f3) (fun q : Nat => s.heap.size ≤ q) s s.heap := by
    rcases hsq with h | ⟨t, h⟩
    · exact ⟨0, Or.inl h⟩
    · exact ⟨t, Or.inr h⟩
  obtain ⟨f3, hf3⟩ := hfor
  refine ⟨(l, s.heap.size, fun j => match j with | 0 => b | 1 => adK 0 | 2 => adV 0 | _ => f3, (fun k => [c0, c1, c2, c3, c4, c5, c6, c7, c8, c9, c10, c11, c12].getD k 0, fun k => [iS0, iS1, iS2, iS3, iS4, iS5, iS6, iS7, iS8, iS9, iS10, iS11, iS12].getD k (fun _ => 0)), cI, cJ, cZ, cO), rfl, rfl, rfl, ?_⟩
  refine ⟨fun w hw hk => wmove0 (wtbl_cls hw hk) (hts w hw), ⟨?_, ?_⟩, hvR, ⟨fun i hi => ?_, fun i j hi hj _ => by omega⟩, hcs, hf3⟩
  · intro k q hq
    match k, hq with
    | 0, hq => cases hq; exact hKn0
    | 1, hq => cases hq; exact hKn1
    | 2, hq => cases hq; exact hKn2
    | 3, hq => cases hq; exact hKn3
    | 4, hq => cases hq; exact hKn4
    | 5, hq => cases hq; exact hKn5
    | 6, hq => cases hq; exact hKn6
    | 7, hq => cases hq; exact hKn7
    | 8, hq => cases hq; exact hKn8
    | 9, hq => cases hq; exact hKn9
    | 10, hq => cases hq; exact hKn10
    | 11, hq => cases hq; exact hKn11
    | 12, hq => cases hq; exact hKn12
    | k + 13, hq => simp [classes] at hq
  · intro k q hq
    match k, hq with
    | 0, hq => cases hq; exact hI
    | 1, hq => cases hq; exact hJ
    | 2, hq => cases hq; exact hZ
    | 3, hq => cases hq; exact hO
    | k + 4, hq => simp [tys] at hq
  · have e : i = 0 := by omega
    subst e
    exact hvS.1 0 (by decide)
set_option maxHeartbeats 8000000 in
set_option maxRecDepth 100000 in
/-- THE LAW, from its entry, over the pure programs -/
theorem whole_start_open {p : Program} {e : Env} {s : State} {m : MethodId} {below : List Frame} {meth : Method} {c : Code} (l : Launch) {b L : Nat} {xs : Nat → Int32} (hpure : PureOK L xs) (C0 : lw_At p s m meth c b L xs) : W p l e room_1 s m #[Value.ref b] below meth c s.heap [] 0 0 (lw_Z below #[Value.ref b] s) (entryFrame m ([Value.ref b] : List Value).toArray 4) := by
  obtain ⟨G, g1, g2, g3, hEC⟩ := known_start l C0
  obtain ⟨hx, hb, hr, hml, hown, hts, hX, hbl, hlocks, hgv⟩ := id C0
  obtain ⟨S1, S2, S3, p1, p2, p3, p4⟩ := hpure
  have hV : V G md_law (QL G b) (EL G L xs) none 0 [some (.retAddr 0), none, none, none] [] 0 0 S00 (nm (nw S00) fun T1 => bV (f_Chan_init T1) fun T2 => chk (T2 = S1) (nm (nw T2) fun T3 => bV (f_Md_init T3) fun T4 => chk (T4 = S2) (some S3))) := by
    refine c_new (n := 0) rfl d_Law_law_0 nwc_Law_7 ak_0 (Nat.le_of_ble_eq_true rfl) (Nat.le_of_ble_eq_true rfl) (fun T1 e1 m1 => ?_)
    refine x_dup d_Law_law_3 rfl ?_
    refine x_callI (As := []) d_Law_law_4 mi_Law_9 rfl ⟨Nat.le_of_ble_eq_true rfl, Nat.le_of_ble_eq_true rfl⟩ (Nat.le_of_ble_eq_true rfl) ⟨Nat.le_of_ble_eq_true rfl, Nat.le_of_ble_eq_true rfl⟩ (c_Chan_init T1 m1) (fun T2 e2 => ?_)
    refine x_chk (fun e2' => ?_)
    have m2 : T2.1 = 70 := by rw [n_Chan_init T1 T2 e2, m1]
    refine x_astore_n (lc' := [some (.retAddr 0), some (.ref 0), none, none]) d_Law_law_7 (by decide) rfl ?_
    refine c_new m2 d_Law_law_8 nwc_Law_10 (by rw [m2]; exact ak_70) (Nat.le_of_ble_eq_true rfl) (Nat.le_of_ble_eq_true rfl) (fun T3 e3 m3 => ?_)
    refine x_dup d_Law_law_11 rfl ?_
    refine x_callI (As := []) d_Law_law_12 mi_Law_12 rfl ⟨Nat.le_of_ble_eq_true rfl, Nat.le_of_ble_eq_true rfl⟩ (Nat.le_of_ble_eq_true rfl) ⟨Nat.le_of_ble_eq_true rfl, Nat.le_of_ble_eq_true rfl⟩ (c_Md_init T3 m3) (fun T4 e4 => ?_)
    refine x_chk (fun e4' => ?_)
    refine x_astore_n (lc' := [some (.retAddr 0), some (.ref 0), some (.ref 70), none]) d_Law_law_15 (by decide) rfl ?_
    refine x_iconst (v := 0) d_Law_law_16 (by decide) ?_
    refine x_istore_n (lc' := [some (.retAddr 0), some (.ref 0), some (.ref 70), some (.int 0)]) d_Law_law_17 (by decide) rfl ?_
    rw [e4']
    exact v_of_vw ((v_law_L (b := b) 600 0 S2 99 13163 (by decide) (by decide)) p3 S3 p4).2
  have e9 : (nm (nw S00) fun T1 => bV (f_Chan_init T1) fun T2 => chk (T2 = S1) (nm (nw T2) fun T3 => bV (f_Md_init T3) fun T4 => chk (T4 = S2) (some S3))) = some S3 := by
    simp only [nm]
    rw [p1]
    show chk (S1 = S1) _ = _
    rw [chk_pos rfl, p2]
    show chk (S2 = S2) _ = _
    rw [chk_pos rfl]
  rw [e9] at hV
  have hW := (hV trivial S3 rfl).2
  rw [lg_entry_eq]
  have hl := lv_entry ([.ref b]) (n := 4) (Nat.le_of_ble_eq_true rfl)
  generalize (lg_sl ([.ref b]) ++ List.replicate (4 - (lg_sl ([.ref b])).length) Slot.unset).toArray = ls at hl ⊢
  have hLR : LR G ls 4 [some (.retAddr 0), none, none, none] := by
    refine ⟨hl.1, rfl, hl.2.1, fun i v hi => ?_⟩
    match i, hi with
    | 0, hi =>
      have : v = .retAddr 0 := by simpa using hi.symm
      subst this
      have h2 := hl.2.2 (0, .ref b) List.mem_cons_self
      show ls[0]? = some (.val (.ref (gx G 0)))
      rw [g3]
      exact h2
    | 1, hi => simp at hi
    | 2, hi => simp at hi
    | 3, hi => simp at hi
    | i + 4, hi => simp at hi
  have hC : CT G md_law (EL G L xs) p s m meth c := ⟨hx, hb, hml, hr, hlocks, (fun h => nomatch h), hown, hEC, ⟨by rw [g3]; exact hX, by rw [g3]; exact hbl, g2⟩, by rw [g2]; exact Nat.le_refl _⟩
  have hR0 : RelH G S00 s.heap := ⟨by rw [g2]; rfl, fun i hi => absurd hi (Nat.not_lt_zero i)⟩
  have hW2 := hW p e s m #[Value.ref b] below meth c s.heap [] ls hC hR0 va_S.rf hLR
  rw [g1] at hW2
  intro T hT X
  obtain ⟨t, a1, b1⟩ := hW2 T hT X
  exact ⟨t, a1, b1 rfl⟩
