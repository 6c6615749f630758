/-! a reign is added -/
theorem cpy_16 {f g : Nat → Int32} {j : Nat} (h : j < 16) : va_cpy f g (ix 0) (ix 0) (ix 16) j = f j := by
  have i0 : ix 0 = 0 := by decide
  have i16 : ix 16 = 16 := by decide
  rw [i0, i16, pk_cpy_in (by omega) (by omega)]
  congr 1; omega
theorem cpy_64 {f g : Nat → Int32} {j : Nat} (h : j < 64) : va_cpy f g (ix 0) (ix 0) (ix 64) j = f j := by
  have i0 : ix 0 = 0 := by decide
  have i16 : ix 64 = 64 := by decide
  rw [i0, i16, pk_cpy_in (by omega) (by omega)]
  congr 1; omega
theorem acp16 : acp 0 0 16 16 16 := by unfold acp; decide
theorem acp64 : acp 0 0 64 64 64 := by unfold acp; decide
theorem copy_spec {T : AS} {q : Nat} (hq : 99 ≤ q) : ∃ T', f_RuleBook_copyFrom_4 q T = some T' ∧ fr (fun c _ => q ≤ c ∧ c ≤ q + 7) T T' ∧ gi T' q 4 = gi T 4 4 ∧ (∀ j i, 1 ≤ j → j ≤ 4 → i < 16 → gi T' (q + j) i = gi T (4 + j) i) ∧ (∀ j i, 5 ≤ j → j ≤ 7 → i < 64 → gi T' (q + j) i = gi T (4 + j) i) := by
  unfold f_RuleBook_copyFrom_4
  simp only [nm_k, chk_pos acp16, chk_pos acp64]
  refine ⟨_, rfl, ?_, ?_, ?_, ?_⟩
  · refine fr.si (fr.si (fr.sa (fr.sa (fr.sa (fr.sa (fr.sa (fr.sa (fr.sa (fr_rf _ T) ?_) ?_) ?_) ?_) ?_) ?_) ?_) ?_) ?_ <;> intros <;> omega
  · rw [gi_si, if_neg (by omega), gi_si, if_pos ⟨rfl, rfl⟩]
    simp only [gi_sa, show ¬ 4 = q + 1 by omega, show ¬ 4 = q + 2 by omega, show ¬ 4 = q + 3 by omega, show ¬ 4 = q + 4 by omega, show ¬ 4 = q + 5 by omega, show ¬ 4 = q + 6 by omega, show ¬ 4 = q + 7 by omega, if_false]
  · intro j i j1 j2 hi
    have hj : j = 1 ∨ j = 2 ∨ j = 3 ∨ j = 4 := by omega
    rw [gi_si, if_neg (by omega), gi_si, if_neg (by omega)]
    rcases hj with rfl | rfl | rfl | rfl
    · simp only [gi_sa, show ¬ q + 1 = q + 7 by omega, show ¬ q + 1 = q + 6 by omega, show ¬ q + 1 = q + 5 by omega, show ¬ q + 1 = q + 4 by omega, show ¬ q + 1 = q + 3 by omega, show ¬ q + 1 = q + 2 by omega, if_false, if_true]
      exact cpy_16 hi
    · simp only [gi_sa, show ¬ q + 2 = q + 7 by omega, show ¬ q + 2 = q + 6 by omega, show ¬ q + 2 = q + 5 by omega, show ¬ q + 2 = q + 4 by omega, show ¬ q + 2 = q + 3 by omega, if_false, if_true]
      rw [cpy_16 hi, gi_sa, if_neg (by omega)]
    · simp only [gi_sa, show ¬ q + 3 = q + 7 by omega, show ¬ q + 3 = q + 6 by omega, show ¬ q + 3 = q + 5 by omega, show ¬ q + 3 = q + 4 by omega, if_false, if_true]
      rw [cpy_16 hi, gi_sa, if_neg (by omega), gi_sa, if_neg (by omega)]
    · simp only [gi_sa, show ¬ q + 4 = q + 7 by omega, show ¬ q + 4 = q + 6 by omega, show ¬ q + 4 = q + 5 by omega, if_false, if_true]
      rw [cpy_16 hi, gi_sa, if_neg (by omega), gi_sa, if_neg (by omega), gi_sa, if_neg (by omega)]
  · intro j i j1 j2 hi
    have hj : j = 5 ∨ j = 6 ∨ j = 7 := by omega
    rw [gi_si, if_neg (by omega), gi_si, if_neg (by omega)]
    rcases hj with rfl | rfl | rfl
    · simp only [gi_sa, show ¬ q + 5 = q + 7 by omega, show ¬ q + 5 = q + 6 by omega, if_false, if_true]
      rw [cpy_64 hi, gi_sa, if_neg (by omega), gi_sa, if_neg (by omega), gi_sa, if_neg (by omega), gi_sa, if_neg (by omega)]
    · simp only [gi_sa, show ¬ q + 6 = q + 7 by omega, if_false, if_true]
      rw [cpy_64 hi, gi_sa, if_neg (by omega), gi_sa, if_neg (by omega), gi_sa, if_neg (by omega), gi_sa, if_neg (by omega), gi_sa, if_neg (by omega)]
    · simp only [gi_sa, if_true]
      rw [cpy_64 hi, gi_sa, if_neg (by omega), gi_sa, if_neg (by omega), gi_sa, if_neg (by omega), gi_sa, if_neg (by omega), gi_sa, if_neg (by omega), gi_sa, if_neg (by omega)]
theorem radd_spec {S : AS} {R : Nat} (hs : Sh S) (h38 : gi S 38 3 = nI R) (hR : R < 6) (hq : S.1 = 99 + 8 * R) (p1 : Int32) : ∃ T, f_Reigns_add_4 p1 S = some T ∧ Sh T ∧ T.1 = 99 + 8 * R + 8 ∧ (∀ c k, c < 99 + 8 * R → ¬ (c = 38 ∧ k = 3) → ¬ (c = 39 ∧ k = R) → gi T c k = gi S c k) ∧ (∀ c k, c < 99 + 8 * R → gl T c k = gl S c k) ∧ (∀ c k, c < 99 + 8 * R → ¬ (c = 40 ∧ k = R) → gr T c k = gr S c k) ∧ gi T 38 3 = nI (R + 1) ∧ gi T 39 R = p1 ∧ gr T 40 R = some (99 + 8 * R) ∧ gi T (99 + 8 * R) 4 = gi S 4 4 ∧ (∀ j i, 1 ≤ j → j ≤ 4 → i < 16 → gi T (99 + 8 * R + j) i = gi S (4 + j) i) ∧ (∀ j i, 5 ≤ j → j ≤ 7 → i < 64 → gi T (99 + 8 * R + j) i = gi S (4 + j) i) := by
  obtain ⟨T0, hT0⟩ : ∃ T0, f_RuleBook_init S.1 (nw S) = some T0 := by
    unfold f_RuleBook_init
    simp only [nm_k]
    exact ⟨_, rfl⟩
  obtain ⟨t1, t2, -⟩ := rb_new hT0
  obtain ⟨s1, s2⟩ := sh_new hs hT0
  obtain ⟨T1, c1, c2, c3, c4, c5⟩ := copy_spec (T := T0) (q := S.1) (by omega)
  have s3 := c2.sh s1
  have o1 : ∀ c k, c < S.1 → gi T1 c k = gi S c k := fun c k hc => by rw [c2.2.1 c k (by omega)]; exact (t2 c k hc).2.1
  have e38 : gi T1 38 3 = nI R := by rw [o1 38 3 (by omega)]; exact h38
  have e38' : gi (si T1 39 R p1) 38 3 = nI R := by rw [gi_si, if_neg (by omega)]; exact e38
  have hb2 : isBk (si T1 39 R p1) S.1 := by
    rcases s2 with h | h | ⟨j, h, h'⟩
    · exact Or.inl h
    · exact Or.inr (Or.inl h)
    · exact Or.inr (Or.inr ⟨j, h, by show S.1 < T1.1; rw [c2.1]; exact h'⟩)
  have s4 : Sh (si T1 39 R p1) := Sh.congr (S := T1) rfl rfl s3
  have s5 : Sh (sr (si T1 39 R p1) 40 R (some S.1)) := sp_books hb2 s4
  have e38'' : gi (sr (si T1 39 R p1) 40 R (some S.1)) 38 3 = nI R := e38'
  refine ⟨si (sr (si T1 39 R p1) 40 R (some S.1)) 38 3 (nI (R + 1)), ?_, Sh.congr (S := sr (si T1 39 R p1) 40 R (some S.1)) rfl rfl s5, ?_, fun c k hc h1 h2 => ?_, fun c k hc => ?_, fun c k hc h1 => ?_, ?_, ?_, ?_, ?_, fun j i j1 j2 hi => ?_, fun j i j1 j2 hi => ?_⟩
  · unfold f_Reigns_add_4
    rw [h38, if_pos (show nI R < 6 from nI_lt (b := 6) hR (by decide))]
    simp only [nm_k]
    rw [hT0, bV_eq, c1, bV_eq, e38, chk_pos (in_nI hR (by decide)), ix_nI (by omega), chk_pos hb2, e38', chk_pos (in_nI hR (by decide)), ix_nI (by omega), e38'', nI_1]
  · show T1.1 = _
    rw [c2.1, t1, hq]
  · rw [gi_si, if_neg h1, gi_sr, gi_si, if_neg h2]; exact o1 c k (by omega)
  · rw [gl_si, gl_sr, gl_si, c2.2.2.1 c k (by omega)]; exact (t2 c k (by omega)).2.2
  · rw [gr_si, gr_sr, if_neg h1, gr_si, c2.2.2.2]; exact (t2 c k (by omega)).1
  · rw [gi_si, if_pos ⟨rfl, rfl⟩]
  · rw [gi_si, if_neg (by omega), gi_sr, gi_si, if_pos ⟨rfl, rfl⟩]
  · rw [gr_si, gr_sr, if_pos ⟨rfl, rfl⟩, hq]
  · rw [gi_si, if_neg (by omega), gi_sr, gi_si, if_neg (by omega), ← hq, c3]; exact (t2 4 4 (by omega)).2.1
  · rw [gi_si, if_neg (by omega), gi_sr, gi_si, if_neg (by omega), ← hq, c4 j i j1 j2 hi]; exact (t2 (4 + j) i (by omega)).2.1
  · rw [gi_si, if_neg (by omega), gi_sr, gi_si, if_neg (by omega), ← hq, c5 j i j1 j2 hi]; exact (t2 (4 + j) i (by omega)).2.1
/-! the books of earlier reigns, where only later rows change -/
theorem mof_lc {D D' : DT} {r n : Nat} (h : ∀ k, 600 * r ≤ k → k < 600 * r + 600 → D' 83 k = D 83 k) (hn : mof D r n ≤ 600 * r + 600) : ∀ i, i ≤ n → mof D' r i = mof D r i := by
  intro i
  induction i with
  | zero => intro _; rfl
  | succ i ih =>
    intro hi
    have e := ih (by omega)
    have h1 := mof_ge D r i
    have h2 := mof_le D r (show i + 1 ≤ n from hi)
    rw [mof] at h2
    rw [mof, mof, e, h _ (by omega) (by omega)]
theorem RBK.lc {D D' : DT} {r : Nat} (h : RBK D r) (e : ∀ c, 80 ≤ c → c ≤ 82 → D' c r = D c r) (h83 : ∀ k, 600 * r ≤ k → k < 600 * r + 600 → D' 83 k = D 83 k) : RBK D' r := by
  obtain ⟨n, n1, n2, n3, n4, n5, n6⟩ := h
  have em := mof_lc h83 n4
  refine ⟨n, n1, by rw [e 81 (by omega) (by omega)]; exact n2, by rw [e 80 (by omega) (by omega)]; exact n3, by rw [em n (Nat.le_refl _)]; exact n4, by rw [em n (Nat.le_refl _), e 82 (by omega) (by omega)]; exact n5, fun i hi => ?_⟩
  obtain ⟨c, q, c1, c2, q1, q2, q3, q4, ct⟩ := n6 i hi
  have h1 := mof_ge D r i
  have h2 := mof_le D r (show i + 1 ≤ n from hi)
  rw [mof, c2, ix_nI (by omega)] at h2
  rw [em i (by omega), h83 (mof D r i) (by omega) (by omega), h83 (mof D r i + 1) (by omega) (by omega), h83 (mof D r i + 2) (by omega) (by omega)]
  refine ⟨c, q, c1, c2, q1, q2, q3, q4, fun j hj => ?_⟩
  rw [h83 (mof D r i + 3 * (j + 1)) (by omega) (by omega), h83 (mof D r i + 3 * (j + 1) + 1) (by omega) (by omega)]
  exact ct j hj
theorem BK.lc {S S' : AS} {D D' : DT} {r q : Nat} (h : BK S D r q) (hR : RBK D r) (hS : ∀ j k, j ≤ 7 → gi S' (q + j) k = gi S (q + j) k) (e : D' 81 r = D 81 r) (h83 : ∀ k, 600 * r ≤ k → k < 600 * r + 600 → D' 83 k = D 83 k) : BK S' D' r q := by
  obtain ⟨n, n1, n2, n3, n4, n5, n6⟩ := hR
  have em := mof_lc h83 n4
  have e0 : gi S' q 4 = gi S q 4 := hS 0 4 (by omega)
  refine ⟨by rw [e0, e]; exact h.1, fun i hi => ?_⟩
  rw [e] at hi
  have hin : i < n := by rw [n2, ix_nI (by omega)] at hi; exact hi
  obtain ⟨c, q', c1, c2, -⟩ := n6 i hin
  have h1 := mof_ge D r i
  have h2 := mof_le D r (show i + 1 ≤ n from hin)
  rw [mof, c2, ix_nI (by omega)] at h2
  obtain ⟨b1, b2, a, b3, b4, b5, b6⟩ := h.2 i hi
  rw [em i (by omega), h83 (mof D r i) (by omega) (by omega), h83 (mof D r i + 1) (by omega) (by omega), h83 (mof D r i + 2) (by omega) (by omega), hS 1 i (by omega), hS 2 i (by omega), hS 3 i (by omega), hS 4 i (by omega)]
  refine ⟨b1, b2, a, b3, b4, b5, fun j hj => ?_⟩
  have hj' : j < c := by rw [c2, ix_nI (by omega)] at hj; exact hj
  rw [h83 (mof D r i + 3 * (j + 1)) (by omega) (by omega), h83 (mof D r i + 3 * (j + 1) + 1) (by omega) (by omega), h83 (mof D r i + 3 * (j + 1) + 2) (by omega) (by omega), hS 5 _ (by omega), hS 6 _ (by omega), hS 7 _ (by omega)]
  exact b6 j hj
/-! the new one -/
theorem mof_new {D : DT} {R n m : Nat} {o : Nat → Nat} {g : Nat → Int32} (o0 : o 0 = 0) (hs : ∀ i, i < n → ∃ l, o (i + 1) = o i + 3 + 3 * l ∧ o i + 3 + 3 * l ≤ m ∧ l < 1000 ∧ g (o i + 2) = nI l) (h83 : ∀ x, x < m → D 83 (600 * R + x) = g x) : ∀ i, i ≤ n → mof D R i = 600 * R + o i := by
  intro i
  induction i with
  | zero => intro _; rw [mof, o0]; rfl
  | succ i ih =>
    intro hi
    obtain ⟨l, l1, l2, l3, l4⟩ := hs i (by omega)
    rw [mof, ih (by omega), show 600 * R + o i + 2 = 600 * R + (o i + 2) by omega, h83 _ (by omega), l4, ix_nI (by omega), l1]
    omega
theorem book_new {S U Z : AS} {R n m c : Nat} (hn : n ≤ 16) (hm : m ≤ 600) (hc : c ≤ 64) (hD : DRF S U n m c) (h83 : ∀ x, x < m → gi Z 83 (600 * R + x) = gi U 84 x) (h80 : bnd (gi Z 80 R) 9999999) (h81 : gi Z 81 R = nI n) (h82 : gi Z 82 R = nI m) (hq : gi Z (99 + 8 * R) 4 = nI n) (hb : ∀ j i, 1 ≤ j → j ≤ 4 → i < 16 → gi Z (99 + 8 * R + j) i = gi S (4 + j) i) (hb2 : ∀ j i, 5 ≤ j → j ≤ 7 → i < 64 → gi Z (99 + 8 * R + j) i = gi S (4 + j) i) : RBK (gi Z) R ∧ BK Z (gi Z) R (99 + 8 * R) := by
  obtain ⟨o, o1, o2, o3⟩ := hD
  have em := mof_new (D := gi Z) (R := R) (n := n) (m := m) (o := o) (g := fun x => gi U 84 x) o1 (fun i hi => by
    obtain ⟨q, l, a, a1, a2, a3, a4, -⟩ := o3 i hi
    exact ⟨l, a1, a2, by omega, a4⟩) h83
  have z : ∀ (i q l a x : Nat), i < n → o i + 3 + 3 * l ≤ m → x < 3 + 3 * l → gi Z 83 (mof (gi Z) R i + x) = gi U 84 (o i + x) := fun i q l a x hi hl hx => by
    rw [em i (by omega), show 600 * R + o i + x = 600 * R + (o i + x) by omega, h83 _ (by omega)]
  refine ⟨⟨n, hn, h81, h80, by rw [em n (Nat.le_refl _), o2]; omega, by rw [em n (Nat.le_refl _), o2, h82, show 600 * R + m - 600 * R = m by omega], fun i hi => ?_⟩, by rw [hq, h81], fun i hi => ?_⟩
  · obtain ⟨q, l, a, a1, a2, a3, a4, r1, r2, r3, r4, r5, r6, r7, r8, r9⟩ := o3 i hi
    have z0 : gi Z 83 (mof (gi Z) R i) = gi U 84 (o i) := z i q l a 0 hi a2 (by omega)
    have z1 : gi Z 83 (mof (gi Z) R i + 1) = gi U 84 (o i + 1) := z i q l a 1 hi a2 (by omega)
    have z2 : gi Z 83 (mof (gi Z) R i + 2) = gi U 84 (o i + 2) := z i q l a 2 hi a2 (by omega)
    rw [z0, z1, z2]
    refine ⟨l, q, by omega, a4, r2, r1, r3, r4, fun j hj => ?_⟩
    obtain ⟨s, s1, s2, s3, s4, -⟩ := r9 j hj
    have y0 := z i q l a (3 * (j + 1)) hi a2 (by omega)
    have y1 : gi Z 83 (mof (gi Z) R i + 3 * (j + 1) + 1) = gi U 84 (o i + 3 * (j + 1) + 1) := z i q l a (3 * (j + 1) + 1) hi a2 (by omega)
    rw [y0, y1]
    exact ⟨s, s1, s2, s3, s4⟩
  · have hin : i < n := by rw [h81, ix_nI (by omega)] at hi; exact hi
    obtain ⟨q, l, a, a1, a2, a3, a4, r1, r2, r3, r4, r5, r6, r7, r8, r9⟩ := o3 i hin
    have z0 : gi Z 83 (mof (gi Z) R i) = gi U 84 (o i) := z i q l a 0 hin a2 (by omega)
    have z1 : gi Z 83 (mof (gi Z) R i + 1) = gi U 84 (o i + 1) := z i q l a 1 hin a2 (by omega)
    have z2 : gi Z 83 (mof (gi Z) R i + 2) = gi U 84 (o i + 2) := z i q l a 2 hin a2 (by omega)
    rw [z0, z1, z2, a4, ix_nI (by omega), hb 1 i (by omega) (by omega) (by omega), hb 2 i (by omega) (by omega) (by omega), hb 3 i (by omega) (by omega) (by omega), hb 4 i (by omega) (by omega) (by omega)]
    refine ⟨by rw [r5, r1]; exact (nI_add q 7).symm, fun n1 n4 => r6 (fun e => n1 (by rw [r1, e]; rfl)) (fun e => n4 (by rw [r1, e]; rfl)), a, by omega, r7, r8, fun j hj => ?_⟩
    obtain ⟨s, s1, s2, s3, s4, s5, s6, s7⟩ := r9 j hj
    have y0 := z i q l a (3 * (j + 1)) hin a2 (by omega)
    have y1 : gi Z 83 (mof (gi Z) R i + 3 * (j + 1) + 1) = gi U 84 (o i + 3 * (j + 1) + 1) := z i q l a (3 * (j + 1) + 1) hin a2 (by omega)
    have y2 : gi Z 83 (mof (gi Z) R i + 3 * (j + 1) + 2) = gi U 84 (o i + 3 * (j + 1) + 2) := z i q l a (3 * (j + 1) + 2) hin a2 (by omega)
    rw [y0, y1, y2, hb2 5 _ (by omega) (by omega) (by omega), hb2 6 _ (by omega) (by omega) (by omega), hb2 7 _ (by omega) (by omega) (by omega)]
    exact ⟨by rw [s3]; exact s5, s6, s7⟩
theorem cp_loop {R m : Nat} {z1 z2 : Int32} (hR : R < 6) (hm : m ≤ 600) : ∀ (f i : Nat) (V : AS), i ≤ m → m - i < f → gi V 70 21 = nI m → gi V 70 15 = nI R → ∃ V', (∀ J : AS → Option (Int32 × AS), f_Md_reign_L115 J z1 z2 f (nI i) V = J V') ∧ fr (fun c k => c = 83 ∧ 600 * R + i ≤ k ∧ k < 600 * R + m) V V' ∧ ∀ x, i ≤ x → x < m → gi V' 83 (600 * R + x) = gi V 84 x := by
  intro f
  induction f with
  | zero => intro i V _ h; omega
  | succ f ih =>
    intro i V hi hf h21 h15
    rcases Nat.lt_or_ge i m with q | q
    · have e6 : (600 : Int32) * nI R + nI i = nI (600 * R + i) := by rw [m600, nI_add]
      obtain ⟨V', a, b, c⟩ := ih (i + 1) (si V 83 (600 * R + i) (gi V 84 i)) (by omega) (by omega) (by rw [gi_si, if_neg (by omega)]; exact h21) (by rw [gi_si, if_neg (by omega)]; exact h15)
      refine ⟨V', fun J => ?_, fr.tr (P := fun c k => c = 83 ∧ 600 * R + i ≤ k ∧ k < 600 * R + m) ((fr_rf _ V).si ⟨rfl, by omega, by omega⟩) (b.mono (fun c k h => ⟨h.1, by omega, h.2.2⟩)), fun x x1 x2 => ?_⟩
      · rw [f_Md_reign_L115, h21, if_neg (nI_ge q (by omega)), chk_pos (in_nI (by omega) (by decide)), h15, e6, chk_pos (in_nI (by omega) (by decide)), ix_nI (by omega), ix_nI (by omega), nI_1]
        simp only [nm_k]
        exact a J
      · by_cases e : x = i
        · rw [e, b.2.1 83 (600 * R + i) (by omega), gi_si, if_pos ⟨rfl, rfl⟩]
        · rw [c x (by omega) x2, gi_si, if_neg (by omega)]
    · refine ⟨V, fun J => ?_, fr_rf _ _, fun x x1 x2 => by omega⟩
      rw [f_Md_reign_L115, h21, if_pos (nI_le q (by omega))]
