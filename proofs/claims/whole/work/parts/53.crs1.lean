/-! the course as a function: data D (masked), state X (cells 85 to 91) -/
noncomputable def pif {α : Type} (p : Prop) (a b : α) : α := @ite α p (Classical.propDecidable p) a b
theorem pif_pos {α : Type} {p : Prop} (h : p) (a b : α) : pif p a b = a := by unfold pif; exact if_pos h
theorem pif_neg {α : Type} {p : Prop} (h : ¬ p) (a b : α) : pif p a b = b := by unfold pif; exact if_neg h
/-! what the data keep to -/
def XOK (D : DT) (W kn : Nat → Prop) (X : AS) : Prop := (∀ p, p < mQ D → gi X 85 p = -1 ∨ ∃ w, W w ∧ gi X 85 p = nI w) ∧ (∀ k, gi X 88 k = 0 ∨ (gi X 88 k = 1 ∧ kn k)) ∧ ∀ w, gi X 87 w = 0 ∨ gi X 87 w = 1
def RM (S : AS) (D : DT) (P K : Nat) (X : AS) : Prop := (∀ p, p < mQ D → gi S 85 p = gi X 85 p ∧ gi S 86 p = gi X 86 p) ∧ (∀ w, w < P → gi S 87 w = gi X 87 w ∧ gl S 91 w = gl X 91 w) ∧ ∀ k, k < K → gi S 88 k = gi X 88 k ∧ gi S 89 k = gi X 89 k ∧ gi S 90 k = gi X 90 k
theorem m3 (p : Nat) : (3 : Int32) * nI p = nI (3 * p) := by rw [show (3 : Int32) = nI 3 from rfl, pk_mul]
theorem m31 (p : Nat) : (3 : Int32) * nI p + 1 = nI (3 * p + 1) := by rw [m3]; exact nI_add (3 * p) 1
theorem m32 (p : Nat) : (3 : Int32) * nI p + 2 = nI (3 * p + 2) := by rw [m3]; exact nI_add (3 * p) 2
theorem m7 (p : Nat) : (7 : Int32) * nI p = nI (7 * p) := by rw [show (7 : Int32) = nI 7 from rfl, pk_mul]
theorem m71 (p : Nat) : (7 : Int32) * nI p + 1 = nI (7 * p + 1) := by rw [m7]; exact nI_add (7 * p) 1
theorem m72 (p : Nat) : (7 : Int32) * nI p + 2 = nI (7 * p + 2) := by rw [m7]; exact nI_add (7 * p) 2
theorem m73 (p : Nat) : (7 : Int32) * nI p + 3 = nI (7 * p + 3) := by rw [m7]; exact nI_add (7 * p) 3
theorem m74 (p : Nat) : (7 : Int32) * nI p + 4 = nI (7 * p + 4) := by rw [m7]; exact nI_add (7 * p) 4
theorem m75 (p : Nat) : (7 : Int32) * nI p + 5 = nI (7 * p + 5) := by rw [m7]; exact nI_add (7 * p) 5
theorem m600 (p : Nat) : (600 : Int32) * nI p = nI (600 * p) := by rw [show (600 : Int32) = nI 600 from rfl, pk_mul]
theorem na2 (o : Nat) : nI o + 2 = nI (o + 2) := nI_add o 2
theorem nm1 : ¬ (0 : Int32) = -1 := by decide
theorem ne10 : ¬ (1 : Int32) = 0 := by decide
theorem nI_is_m1 {n : Nat} (h : n < 2147483648) : (nI n = -1) = False := propext ⟨fun e => nI_ne_m1 h e, False.elim⟩
/-! the reference's readers -/
theorem md_held {S : AS} {D : DT} {P K : Nat} {X : AS} (hQ : mQ D ≤ 16) (h4 : gi S 70 4 = nI (mQ D)) (hr : ∀ p, p < mQ D → gi S 85 p = gi X 85 p) (x : Int32) : f_Md_held x S = some (nI (mcnt X x (mQ D)), S) := by
  have key : ∀ (J : Int32 → AS → Option (Int32 × AS)) (n i : Nat), i ≤ mQ D → mQ D - i < n → f_Md_held_L4 J x n (nI (mcnt X x i)) (nI i) S = J (nI (mcnt X x (mQ D))) S := by
    intro J n
    induction n with
    | zero => intro i _ h; omega
    | succ n ih =>
      intro i hi hn
      rw [f_Md_held_L4, h4]
      rcases Nat.lt_or_ge i (mQ D) with q | q
      · rw [if_neg (nI_ge q (by omega)), chk_pos (in_nI (by omega) (by decide)), ix_nI (by omega), hr i q]
        simp only [nm_eq]
        have e := ih (i + 1) (by omega) (by omega)
        rw [mcnt] at e
        by_cases hh : gi X 85 i = x
        · rw [if_pos hh, nI_1, nI_1]; rw [if_pos hh] at e; exact e
        · rw [if_neg hh, nI_1]; rw [if_neg hh] at e
          rw [show nI (mcnt X x i) + 0 = nI (mcnt X x i + 0) from nI_add _ 0]
          exact e
      · rw [if_pos (nI_le q (by omega)), show i = mQ D by omega]
  unfold f_Md_held
  simp only [nm_eq]
  have k0 := key (fun (a1 : Int32) (S2 : AS) => some (a1, S2)) FU 0 (by omega) (by rw [FU_succ]; omega)
  rw [show mcnt X x 0 = 0 from rfl, nI_0] at k0
  exact k0
theorem md_sub {S : AS} {D : DT} {W kn : Nat → Prop} {P K : Nat} {X : AS} (hd : DOK D W kn) (hs : MSt S D W kn P K) (hr : RM S D P K X) {s p w : Nat} {b : Int32} (h6 : s ≤ 6) (hp : p < mQ D) (hw : W w) (hb : b = -1 ∨ ∃ k, kn k ∧ b = nI k) (t : Int32) : f_Md_subjectOf (nI s) (nI p) (nI w) b t S = some (msub D X (nI s) p w b t, S) := by
  obtain ⟨d1, d2, d3, d4, d5, d6, d7, d8⟩ := id hd
  obtain ⟨s1, s2, s3, s4, s5, s6, s7, s8, s9, s10⟩ := id hs
  obtain ⟨w1, w2⟩ := s9 w hw
  unfold f_Md_subjectOf msub
  rw [m31, m3, m31, m3, chk_pos (in_nI (by omega) (by decide)), chk_pos (in_nI (by omega) (by decide)), chk_pos (in_nI (by omega) (by decide)), chk_pos (in_nI (by omega) (by decide)), ix_nI (by omega), ix_nI (by omega), ix_nI (by omega), ix_nI (by omega), s7, s7, w2 1 (by omega), show 3 * w = 3 * w + 0 from rfl, w2 0 (by omega), md_held (D := D) (P := P) (K := K) (X := X) d1 (by rw [s5]; exact d2) (fun p hp => (hr.1 p hp).1), bI_eq]
  simp only [nm_eq]
  by_cases h0 : nI s = 0
  · rw [if_pos h0, if_pos h0]
  rw [if_neg h0, if_neg h0]
  by_cases h1 : nI s = 1
  · rw [if_pos h1, if_pos h1]
  rw [if_neg h1, if_neg h1]
  by_cases h2 : nI s = 2
  · rw [if_pos h2, if_pos h2]
  rw [if_neg h2, if_neg h2]
  by_cases h3 : nI s = 3
  · rw [if_pos h3, if_pos h3]
  rw [if_neg h3, if_neg h3]
  by_cases h4 : nI s = 4
  · rw [if_pos h4, if_pos h4]
  rw [if_neg h4, if_neg h4]
  rcases hb with hb | ⟨k, hk, hb⟩
  · rw [if_pos hb, if_pos hb, if_pos hb, if_pos hb]
    by_cases h5 : nI s = 5
    · rw [if_pos h5, if_pos h5]
    · rw [if_neg h5, if_neg h5]
  · obtain ⟨k1, k2⟩ := s10 k hk
    have hn : ¬ b = -1 := by rw [hb]; exact nI_ne_m1 (by omega)
    rw [if_neg hn, if_neg hn, if_neg hn, if_neg hn, hb, m71, chk_pos (in_nI (by omega) (by decide)), ix_nI (by omega), ix_nI (by omega), k2 1 (by omega), chk_pos (in_nI (by omega) (by decide)), chk_pos (in_nI (by omega) (by decide))]
    by_cases h5 : nI s = 5
    · rw [if_pos h5, if_pos h5]
    · rw [if_neg h5, if_neg h5]
      by_cases h6 : D 78 (7 * k + 1) ≤ t
      · rw [if_pos h6, if_pos h6]
      · rw [if_neg h6, if_neg h6]
theorem mof_le (D : DT) (r : Nat) {i j : Nat} (h : i ≤ j) : mof D r i ≤ mof D r j := by
  induction h with
  | refl => exact Nat.le_refl _
  | step _ ih => rw [mof]; omega
theorem mof_ge (D : DT) (r i : Nat) : 600 * r ≤ mof D r i := mof_le D r (Nat.zero_le i)
theorem mhol_zero {D : DT} {X : AS} {o p w : Nat} {b t : Int32} {i j : Nat} (h : i ≤ j) (h0 : mhol D X o p w b t i = 0) : mhol D X o p w b t j = 0 := by
  induction h with
  | refl => exact h0
  | step _ ih => rw [mhol, if_pos ih]
theorem mtst_01 (D : DT) (X : AS) (o p w : Nat) (b t : Int32) : mtst D X o p w b t = 0 ∨ mtst D X o p w b t = 1 := by
  unfold mtst
  split <;> (try split) <;> (try split) <;> simp
theorem mhol_01 (D : DT) (X : AS) (o p w : Nat) (b t : Int32) (c : Nat) : mhol D X o p w b t c = 0 ∨ mhol D X o p w b t c = 1 := by
  induction c with
  | zero => exact Or.inr rfl
  | succ c ih =>
    rw [mhol]
    by_cases h : mhol D X o p w b t c = 0
    · rw [if_pos h]; exact Or.inl rfl
    · rw [if_neg h]; exact mtst_01 D X _ p w b t
theorem md_holds {S : AS} {D : DT} {W kn : Nat → Prop} {P K : Nat} {X : AS} (hd : DOK D W kn) (hs : MSt S D W kn P K) (hr : RM S D P K X) {r n i p w : Nat} {b : Int32} (hr6 : r < mR D) (hn : D 81 r = nI n) (hn16 : n ≤ 16) (hi : i < n) (hp : p < mQ D) (hw : W w) (hb : b = -1 ∨ ∃ k, kn k ∧ b = nI k) (t : Int32) : f_Md_holds (nI (mof D r i)) (nI p) (nI w) b t S = some (mhl D X r i p w b t, S) := by
  obtain ⟨d1, d2, d3, d4, d5, d6, d7, d8⟩ := id hd
  obtain ⟨s1, s2, s3, s4, s5, s6, s7, s8, s9, s10⟩ := id hs
  obtain ⟨n', n1, n2, n3, n4, n5, n6⟩ := d8 r hr6
  have en : n' = n := nI_inj (by omega) (by omega) (n2.symm.trans hn)
  subst en
  obtain ⟨c, q, c1, c2, q1, q2, q3, q4, ct⟩ := n6 i hi
  have hof : mof D r (i + 1) ≤ mof D r n' := mof_le D r hi
  have hof2 : mof D r (i + 1) = mof D r i + 3 + 3 * c := by rw [mof, c2, ix_nI (by omega)]
  have e2 : gi S 83 (mof D r i + 2) = nI c := by rw [s8 83 _ (by decide) (by decide), c2]
  unfold mhl
  rw [c2, ix_nI (by omega)]
  have key : ∀ (J : Int32 → AS → Option (Int32 × AS)) (n j : Nat), j ≤ c → c - j < n → f_Md_holds_L6 J (nI (mof D r i)) (nI p) (nI w) b t n (mhol D X (mof D r i) p w b t j) (nI (j + 1)) S = J (mhol D X (mof D r i) p w b t c) S := by
    intro J n
    induction n with
    | zero => intro i _ h; omega
    | succ n ih =>
      intro j hj hnn
      rw [f_Md_holds_L6, na2, chk_pos (in_nI (by omega) (by decide)), ix_nI (by omega), e2]
      rcases Nat.lt_or_ge j c with q | q
      · rw [if_neg (nI_nlt (by omega) (by omega))]
        by_cases hz : mhol D X (mof D r i) p w b t j = 0
        · rw [if_pos hz, hz, mhol_zero (Nat.le_of_lt q) hz]
        · obtain ⟨s, t1, t2, t3, t4⟩ := ct j q
          have a0 : nI (mof D r i) + 3 * nI (j + 1) = nI (mof D r i + 3 * (j + 1)) := by rw [m3, nI_add]
          have a1 : nI (mof D r i) + 3 * nI (j + 1) + 1 = nI (mof D r i + 3 * (j + 1) + 1) := by rw [a0, nI_1]
          have a2 : nI (mof D r i) + 3 * nI (j + 1) + 2 = nI (mof D r i + 3 * (j + 1) + 2) := by rw [a0, na2]
          rw [if_neg hz, a1, a2, a0, chk_pos (in_nI (by omega) (by decide)), ix_nI (by omega), s8 83 _ (by decide) (by decide), t3, md_sub hd hs hr t1 hp hw hb t, bI_eq, chk_pos (in_nI (by omega) (by decide)), ix_nI (by omega), s8 83 _ (by decide) (by decide)]
          simp only [nm_eq]
          rw [chk_pos (in_nI (by omega) (by decide)), ix_nI (by omega), s8 83 _ (by decide) (by decide), nI_1]
          have e := ih (j + 1) (by omega) (by omega)
          rw [mhol, if_neg hz] at e
          unfold mtst at e
          rw [t3] at e
          by_cases h60 : D 83 (mof D r i + 3 * (j + 1) + 1) = 60
          · rw [if_pos h60] at e ⊢
            by_cases hh : D 83 (mof D r i + 3 * (j + 1) + 2) ≤ msub D X (nI s) p w b t
            · rw [if_pos hh] at e ⊢; exact e
            · rw [if_neg hh] at e ⊢; exact e
          · rw [if_neg h60] at e ⊢
            by_cases h62 : D 83 (mof D r i + 3 * (j + 1) + 1) = 62
            · rw [if_pos h62] at e ⊢
              by_cases hh : msub D X (nI s) p w b t ≤ D 83 (mof D r i + 3 * (j + 1) + 2)
              · rw [if_pos hh] at e ⊢; exact e
              · rw [if_neg hh] at e ⊢; exact e
            · rw [if_neg h62] at e ⊢
              by_cases hh : msub D X (nI s) p w b t = D 83 (mof D r i + 3 * (j + 1) + 2)
              · rw [if_pos hh] at e ⊢; exact e
              · rw [if_neg hh] at e ⊢; exact e
      · rw [if_pos (nI_lt (by omega) (by omega)), show j = c by omega]
  unfold f_Md_holds
  simp only [nm_eq]
  have k0 := key (fun (a1 : Int32) (S2 : AS) => chk (isb a1) (some (a1, S2))) FU 0 (by omega) (by rw [FU_succ]; omega)
  rw [show mhol D X (mof D r i) p w b t 0 = 1 from rfl, show nI (0 + 1) = 1 from rfl] at k0
  rw [k0, chk_pos]
  rcases mhol_01 D X (mof D r i) p w b t c with h | h
  · rw [h]; exact isb_0
  · rw [h]; exact isb_1
