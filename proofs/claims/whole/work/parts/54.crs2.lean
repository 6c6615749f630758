theorem mfor_ok (D : DT) (t : Int32) (n : Nat) : mfor D t n = -1 ∨ ∃ r, r < n ∧ mfor D t n = nI r ∧ D 80 r ≤ t := by
  induction n with
  | zero => exact Or.inl rfl
  | succ n ih =>
    rw [mfor]
    by_cases h : D 80 n ≤ t ∧ (mfor D t n = -1 ∨ D 80 (ix (mfor D t n)) ≤ D 80 n)
    · rw [if_pos h]; exact Or.inr ⟨n, by omega, rfl, h.1⟩
    · rw [if_neg h]
      rcases ih with q | ⟨r, q1, q2⟩
      · exact Or.inl q
      · exact Or.inr ⟨r, by omega, q2⟩
theorem md_force {S : AS} {D : DT} (d6 : mR D ≤ 6) (d7 : D 70 15 = nI (mR D)) (s6 : gi S 70 15 = D 70 15) (s8 : ∀ k, gi S 80 k = D 80 k) (t : Int32) : f_Md_force t S = some (mF D t, S) := by
  have key : ∀ (J : Int32 → AS → Option (Int32 × AS)) (n i : Nat), i ≤ mR D → mR D - i < n → f_Md_force_L4 J t n (mfor D t i) (nI i) S = J (mfor D t (mR D)) S := by
    intro J n
    induction n with
    | zero => intro i _ h; omega
    | succ n ih =>
      intro i hi hn
      rw [f_Md_force_L4, s6, d7]
      rcases Nat.lt_or_ge i (mR D) with q | q
      · have e := ih (i + 1) (by omega) (by omega)
        rw [mfor] at e
        rw [if_neg (nI_ge q (by omega)), chk_pos (in_nI (by omega) (by decide)), ix_nI (by omega), s8]
        simp only [nm_eq]
        rw [chk_pos (in_nI (by omega) (by decide)), nI_1]
        by_cases h1 : t < D 80 i
        · rw [if_pos h1]
          rw [if_neg (fun z => absurd h1 (Int32.not_lt.mpr z.1))] at e
          exact e
        · have h1' : D 80 i ≤ t := Int32.not_lt.mp h1
          rw [if_neg h1]
          rcases mfor_ok D t i with h2 | ⟨r, r1, r2, -⟩
          · rw [if_pos ⟨h1', Or.inl h2⟩] at e
            rw [if_pos h2]; exact e
          · have hne : ¬ mfor D t i = -1 := by rw [r2]; exact nI_ne_m1 (by omega)
            rw [if_neg hne]
            rw [r2, ix_nI (by omega)] at e
            rw [r2, chk_pos (in_nI (by omega) (by decide)), ix_nI (by omega), s8]
            by_cases h3 : D 80 i < D 80 r
            · rw [if_neg (fun z => z.2.elim (nI_ne_m1 (by omega)) (fun z => absurd h3 (Int32.not_lt.mpr z)))] at e
              rw [if_pos h3]; exact e
            · rw [if_pos ⟨h1', Or.inr (Int32.not_lt.mp h3)⟩] at e
              rw [if_neg h3]; exact e
      · rw [if_pos (nI_le q (by omega)), show i = mR D by omega]
  unfold f_Md_force mF
  simp only [nm_eq]
  have k0 := key (fun (a1 : Int32) (S2 : AS) => some (a1, S2)) FU 0 (by omega) (by rw [FU_succ]; omega)
  rw [show mfor D t 0 = -1 from rfl, nI_0] at k0
  exact k0
theorem mbar_01 (D : DT) (X : AS) (r p w : Nat) (b t : Int32) : ∀ m i, mbar D X r p w b t m i = 0 ∨ mbar D X r p w b t m i = 1 := by
  intro m
  induction m with
  | zero => intro i; exact Or.inl rfl
  | succ m ih =>
    intro i
    rw [mbar]
    split
    · split
      · exact ih _
      · exact Or.inr rfl
    · exact ih _
theorem mB_01 (D : DT) (X : AS) (p w : Nat) (b t : Int32) : mB D X p w b t = 0 ∨ mB D X p w b t = 1 := by
  unfold mB
  split
  · exact Or.inl rfl
  · exact mbar_01 D X _ p w b t _ _
theorem md_bar {S : AS} {D : DT} {W kn : Nat → Prop} {P K : Nat} {X : AS} (hd : DOK D W kn) (hs : MSt S D W kn P K) (hr : RM S D P K X) {p w : Nat} {b : Int32} (hp : p < mQ D) (hw : W w) (hb : b = -1 ∨ ∃ k, kn k ∧ b = nI k) (t : Int32) : f_Md_isBarred (nI p) (nI w) b t S = some (mB D X p w b t, S) := by
  obtain ⟨d1, d2, d3, d4, d5, d6, d7, d8⟩ := id hd
  obtain ⟨s1, s2, s3, s4, s5, s6, s7, s8, s9, s10⟩ := id hs
  unfold f_Md_isBarred mB
  rw [md_force d6 d7 s6 (fun k => s8 80 k (by decide) (by decide)), bI_eq]
  rcases mfor_ok D t (mR D) with h | ⟨r, h1, h2, -⟩
  · have h : mF D t = -1 := h
    rw [h, if_neg (by decide), if_pos rfl]
  · have h2 : mF D t = nI r := h2
    rw [h2, if_pos (nI_pos' (by omega)), if_neg (nI_ne_m1 (by omega)), ix_nI (by omega)]
    obtain ⟨n, n1, n2, n3, n4, n5, n6⟩ := d8 r h1
    rw [n2, ix_nI (by omega)]
    simp only [nm_eq]
    have hge := mof_ge D r n
    have key : ∀ (J : AS → Option (Int32 × AS)) (hJ : J S = some (0, S)) (f i : Nat), i ≤ n → n - i < f → f_Md_isBarred_L23 J (nI p) (nI w) b t (nI r) f (nI (mof D r i)) S = some (mbar D X r p w b t (n - i) i, S) := by
      intro J hJ f
      induction f with
      | zero => intro i _ h; omega
      | succ f ih =>
        intro i hi hn
        rw [f_Md_isBarred_L23, chk_pos (in_nI (by omega) (by decide)), ix_nI (by omega), s8 82 _ (by decide) (by decide), n5, m600, nI_add, show 600 * r + (mof D r n - 600 * r) = mof D r n by omega]
        rcases Nat.lt_or_ge i n with q | q
        · obtain ⟨c, kd, c1, c2, q1, q2, q3, q4, ct⟩ := n6 i q
          have hof : mof D r (i + 1) ≤ mof D r n := mof_le D r q
          have hof2 : mof D r (i + 1) = mof D r i + 3 + 3 * c := by rw [mof, c2, ix_nI (by omega)]
          have e := ih (i + 1) (by omega) (by omega)
          rw [if_neg (nI_ge (by omega) (by omega)), chk_pos (in_nI (by omega) (by decide)), ix_nI (by omega), s8 83 _ (by decide) (by decide)]
          simp only [nm_eq]
          rw [show n - i = (n - (i + 1)) + 1 by omega, mbar]
          have hnx : nI (mof D r i) + (3 + 3 * nI c) = nI (mof D r (i + 1)) := by
            rw [m3, show (3 : Int32) = nI 3 from rfl, nI_add, nI_add, hof2]
            congr 1
            omega
          have eJ : (chk (vp_in (nI (mof D r i) + 2) 3600) (f_Md_isBarred_L23 J (nI p) (nI w) b t (nI r) f (nI (mof D r i) + (3 + 3 * gi S 83 (ix (nI (mof D r i) + 2)))) S)) = some (mbar D X r p w b t (n - (i + 1)) (i + 1), S) := by
            rw [na2, chk_pos (in_nI (by omega) (by decide)), ix_nI (by omega), s8 83 _ (by decide) (by decide), c2, hnx]
            exact e
          by_cases h4 : D 83 (mof D r i) = 4
          · rw [if_pos h4, if_pos h4, md_holds hd hs hr h1 n2 n1 q hp hw hb t, bI_eq]
            by_cases hz : mhl D X r i p w b t = 0
            · rw [if_pos hz, if_pos hz]; exact eJ
            · rw [if_neg hz, if_neg hz]
          · rw [if_neg h4, if_neg h4]; exact eJ
        · have : i = n := by omega
          subst this
          rw [if_pos (nI_le (Nat.le_refl _) (by omega)), hJ, Nat.sub_self, mbar]
    rw [m600]
    exact key (fun (S4 : AS) => some (0, S4)) rfl FU 0 (by omega) (by rw [FU_succ]; omega)
theorem md_dif {S : AS} {D : DT} {W kn : Nat → Prop} {P K : Nat} {X : AS} (hd : DOK D W kn) (hs : MSt S D W kn P K) (hr : RM S D P K X) {r n i p a b : Nat} (hr6 : r < mR D) (hn : D 81 r = nI n) (hn16 : n ≤ 16) (hi : i < n) (h4 : ¬ D 83 (mof D r i) = 4) (hp : p < mQ D) (ha : kn a) (hb : kn b) (t : Int32) : f_Md_differ (nI (mof D r i)) (nI p) (nI a) (nI b) t S = some (mdif D X (mof D r i) p a b t, S) := by
  obtain ⟨d1, d2, d3, d4, d5, d6, d7, d8⟩ := id hd
  obtain ⟨s1, s2, s3, s4, s5, s6, s7, s8, s9, s10⟩ := id hs
  obtain ⟨n', n1, n2, n3, n4, n5, n6⟩ := d8 r hr6
  have en : n' = n := nI_inj (by omega) (by omega) (n2.symm.trans hn)
  subst en
  obtain ⟨c, q, c1, c2, q1, q2, q3, q4, ct⟩ := n6 i hi
  have hof : mof D r (i + 1) ≤ mof D r n' := mof_le D r hi
  have hof2 : mof D r (i + 1) = mof D r i + 3 + 3 * c := by rw [mof, c2, ix_nI (by omega)]
  obtain ⟨a1, a2⟩ := s10 a ha
  obtain ⟨b1, b2⟩ := s10 b hb
  obtain ⟨-, ⟨wa, wa1, wa2⟩, -⟩ := d5 a ha
  obtain ⟨-, ⟨wb, wb1, wb2⟩, -⟩ := d5 b hb
  obtain ⟨x1, x2⟩ := s9 wa wa1
  obtain ⟨y1, y2⟩ := s9 wb wb1
  have ea : gi S 78 (7 * a) = nI wa := by rw [← wa2]; exact a2 0 (by omega)
  have eb : gi S 78 (7 * b) = nI wb := by rw [← wb2]; exact b2 0 (by omega)
  unfold f_Md_differ mdif
  simp only [nm_eq]
  rw [nI_1, chk_pos (in_nI (by omega) (by decide)), m7, m7, chk_pos (in_nI (by omega) (by decide)), chk_pos (in_nI (by omega) (by decide)), chk_pos (in_nI (by omega) (by decide)), ix_nI (by omega), ix_nI (by omega), ix_nI (by omega), ix_nI (by omega), s8 83 _ (by decide) (by decide), s8 83 _ (by decide) (by decide), ea, eb, wa2, wb2, ix_nI (by omega), ix_nI (by omega), q2, na2, na2, chk_pos (in_nI (by omega) (by decide)), chk_pos (in_nI (by omega) (by decide)), ix_nI (by omega), ix_nI (by omega), a2 2 (by omega), b2 2 (by omega)]
  by_cases k0 : nI q = 0
  · rw [if_pos k0, if_pos k0]
  rw [if_neg k0, if_neg k0]
  by_cases k1 : nI q = 1
  · rw [if_pos k1, if_pos k1, m32, m32, m3, chk_pos (in_nI (show 3 * wa + 2 < 72 by omega) (by decide)), chk_pos (in_nI (show 3 * p < 48 by omega) (by decide))]
    simp only [chk_pos (in_nI (show 3 * wb + 2 < 72 by omega) (by decide)), chk_pos (in_nI (show 3 * p < 48 by omega) (by decide))]
    rw [ix_nI (show 3 * wa + 2 < 2147483648 by omega), ix_nI (show 3 * wb + 2 < 2147483648 by omega), ix_nI (show 3 * p < 2147483648 by omega), x2 2 (by omega), y2 2 (by omega), s7]
    by_cases z1 : D 72 (3 * wa + 2) = D 73 (3 * p)
    · rw [if_pos z1, if_pos z1]
      by_cases z2 : D 72 (3 * wb + 2) = D 73 (3 * p)
      · rw [if_pos z2, if_pos z2]
      · rw [if_neg z2, if_neg z2]
    · rw [if_neg z1, if_neg z1]
      by_cases z2 : D 72 (3 * wb + 2) = D 73 (3 * p)
      · rw [if_pos z2, if_pos z2]
      · rw [if_neg z2, if_neg z2]
  rw [if_neg k1, if_neg k1]
  have hq23 : q = 2 ∨ q = 3 := by
    rcases Nat.lt_or_ge q 4 with z | z
    · rcases Nat.lt_or_ge q 2 with z2 | z2
      · rcases Nat.lt_or_ge q 1 with z3 | z3
        · exact absurd (by rw [show q = 0 by omega]; rfl) k0
        · exact absurd (by rw [show q = 1 by omega]; rfl) k1
      · omega
    · exact absurd (by rw [q2, show q = 4 by omega]; rfl) h4
  obtain ⟨s, s61, s62⟩ := q4 hq23
  rw [s62, md_sub hd hs hr s61 hp wa1 (Or.inr ⟨a, ha, rfl⟩) t, md_sub hd hs hr s61 hp wb1 (Or.inr ⟨b, hb, rfl⟩) t]
  simp only [bI_eq]
  rw [md_sub hd hs hr s61 hp wa1 (Or.inr ⟨a, ha, rfl⟩) t, md_sub hd hs hr s61 hp wb1 (Or.inr ⟨b, hb, rfl⟩) t]
  simp only [bI_eq]
  by_cases k2 : nI q = 2
  · rw [if_pos k2, if_pos k2]
  · rw [if_neg k2, if_neg k2]
theorem md_dec {S : AS} {D : DT} {W kn : Nat → Prop} {P K : Nat} {X : AS} (hd : DOK D W kn) (hs : MSt S D W kn P K) (hr : RM S D P K X) {p a b : Nat} (hp : p < mQ D) (ha : kn a) (hb : kn b) (t : Int32) : f_Md_decides (nI p) (nI a) (nI b) t S = some (mDec D X p a b t, S) := by
  obtain ⟨d1, d2, d3, d4, d5, d6, d7, d8⟩ := id hd
  obtain ⟨s1, s2, s3, s4, s5, s6, s7, s8, s9, s10⟩ := id hs
  obtain ⟨a1, a2⟩ := s10 a ha
  obtain ⟨b1, b2⟩ := s10 b hb
  obtain ⟨-, ⟨wa, wa1, wa2⟩, -⟩ := d5 a ha
  have ea : gi S 78 (7 * a) = nI wa := by rw [← wa2]; exact a2 0 (by omega)
  unfold f_Md_decides mDec
  rw [md_force d6 d7 s6 (fun k => s8 80 k (by decide) (by decide)), bI_eq]
  simp only [nm_eq]
  have hnum : (if nI b ≤ nI a then (some ((-101 : Int32), S)) else (some (100, S))) = some ((if b ≤ a then -101 else 100), S) := by
    by_cases z : b ≤ a
    · rw [if_pos z, if_pos (nI_le z (by omega))]
    · rw [if_neg z, if_neg (nI_ge (by omega) (by omega))]
  rcases mfor_ok D t (mR D) with h | ⟨r, h1, h2, -⟩
  · have h : mF D t = -1 := h
    rw [h, if_pos (by decide), if_pos rfl]
    exact hnum
  · have h2 : mF D t = nI r := h2
    rw [h2, if_neg (nI_pos (by omega)), if_neg (nI_ne_m1 (by omega)), ix_nI (by omega)]
    obtain ⟨n, n1, n2, n3, n4, n5, n6⟩ := d8 r h1
    rw [n2, ix_nI (by omega), m600]
    have key : ∀ (J : AS → Option (Int32 × AS)) (hJ : J S = some ((if b ≤ a then -101 else 100), S)) (f i : Nat), i ≤ n → n - i < f → f_Md_decides_L24 J (fun (a5 : Int32) (a6 : Int32) (S7 : AS) => if a6 ≤ 0 then (some ((-a5) - 1, S7)) else (some (a5, S7))) (nI p) (nI a) (nI b) t (nI r) f (nI (mof D r i)) (nI i) S = some (mdec D X r p a b t (n - i) i, S) := by
      intro J hJ f
      induction f with
      | zero => intro i _ h; omega
      | succ f ih =>
        intro i hi hn
        rw [f_Md_decides_L24, chk_pos (in_nI (by omega) (by decide)), ix_nI (by omega), s8 81 _ (by decide) (by decide), n2]
        rcases Nat.lt_or_ge i n with q | q
        · obtain ⟨c, kd, c1, c2, q1, q2, q3, q4, ct⟩ := n6 i q
          have hof : mof D r (i + 1) ≤ mof D r n := mof_le D r q
          have hof2 : mof D r (i + 1) = mof D r i + 3 + 3 * c := by rw [mof, c2, ix_nI (by omega)]
          have e := ih (i + 1) (by omega) (by omega)
          rw [if_neg (nI_ge (by omega) (by omega)), chk_pos (in_nI (by omega) (by decide)), ix_nI (by omega), s8 83 _ (by decide) (by decide), m7]
          simp only [nm_eq]
          rw [chk_pos (in_nI (show 7 * a < 336 by omega) (by decide)), ix_nI (show 7 * a < 2147483648 by omega), ea]
          rw [show n - i = (n - (i + 1)) + 1 by omega, mdec]
          have hnx : nI (mof D r i) + (3 + 3 * nI c) = nI (mof D r (i + 1)) := by
            rw [m3, show (3 : Int32) = nI 3 from rfl, nI_add, nI_add, hof2]
            congr 1
            omega
          have eJ : (chk (vp_in (nI (mof D r i) + 2) 3600) (f_Md_decides_L24 J (fun (a5 : Int32) (a6 : Int32) (S7 : AS) => if a6 ≤ 0 then (some ((-a5) - 1, S7)) else (some (a5, S7))) (nI p) (nI a) (nI b) t (nI r) f (nI (mof D r i) + (3 + 3 * gi S 83 (ix (nI (mof D r i) + 2)))) (nI i + 1) S)) = some (mdec D X r p a b t (n - (i + 1)) (i + 1), S) := by
            rw [na2, chk_pos (in_nI (by omega) (by decide)), ix_nI (by omega), s8 83 _ (by decide) (by decide), c2, hnx, nI_1]
            exact e
          by_cases h4 : D 83 (mof D r i) = 4
          · rw [if_pos h4, if_pos h4]; exact eJ
          · rw [if_neg h4, if_neg h4, md_holds hd hs hr h1 n2 n1 q hp wa1 (Or.inr ⟨a, ha, rfl⟩) t, bI_eq, wa2, ix_nI (by have := (s9 wa wa1).1; omega)]
            by_cases hz : mhl D X r i p wa (nI a) t = 0
            · rw [if_pos hz, if_pos hz]; exact eJ
            · rw [if_neg hz, if_neg hz, md_dif hd hs hr h1 n2 n1 q h4 hp ha hb t, bI_eq]
              by_cases hv : mdif D X (mof D r i) p a b t = 0
              · rw [if_pos hv, if_pos hv]; exact eJ
              · rw [if_neg hv, if_neg hv]
                by_cases hv2 : mdif D X (mof D r i) p a b t ≤ 0
                · rw [if_pos hv2, if_pos hv2]
                · rw [if_neg hv2, if_neg hv2]
        · have : i = n := by omega
          subst this
          rw [if_pos (nI_le (Nat.le_refl _) (by omega)), hJ, Nat.sub_self, mdec]
    exact key (fun (S3 : AS) => if nI b ≤ nI a then (some ((-101), S3)) else (some (100, S3))) hnum FU 0 (by omega) (by rw [FU_succ]; omega)
theorem md_rch {S : AS} {D : DT} {W kn : Nat → Prop} {P K : Nat} (hd : DOK D W kn) (hs : MSt S D W kn P K) {p k : Nat} (hp : p < mQ D) (hk : kn k) : f_Md_reaches (nI k) (nI p) S = some (mrch D k p, S) := by
  obtain ⟨d1, d2, d3, d4, d5, d6, d7, d8⟩ := id hd
  obtain ⟨s1, s2, s3, s4, s5, s6, s7, s8, s9, s10⟩ := id hs
  obtain ⟨a1, a2⟩ := s10 k hk
  unfold f_Md_reaches mrch
  simp only [nm_eq]
  rw [m73, m31, m3, m74, m75, chk_pos (in_nI (by omega) (by decide)), chk_pos (in_nI (by omega) (by decide)), chk_pos (in_nI (by omega) (by decide)), chk_pos (in_nI (by omega) (by decide)), chk_pos (in_nI (by omega) (by decide)), chk_pos (in_nI (by omega) (by decide)), ix_nI (by omega), ix_nI (by omega), ix_nI (by omega), ix_nI (by omega), ix_nI (by omega), a2 3 (by omega), a2 4 (by omega), a2 5 (by omega), s7, s7]
  split
  · split
    · rfl
    · split
      · rfl
      · rfl
  · rfl
theorem md_may {S : AS} {D : DT} {W kn : Nat → Prop} {P K : Nat} {X : AS} (hd : DOK D W kn) (hs : MSt S D W kn P K) (hx : XOK D W kn X) (hr : RM S D P K X) {p k : Nat} (hp : p < mQ D) (hk : k < K) (t : Int32) : f_Md_mayHave (nI k) (nI p) t S = some (mmay D X k p t, S) := by
  obtain ⟨d1, d2, d3, d4, d5, d6, d7, d8⟩ := id hd
  obtain ⟨s1, s2, s3, s4, s5, s6, s7, s8, s9, s10⟩ := id hs
  unfold f_Md_mayHave mmay
  simp only [nm_eq]
  rw [chk_pos (in_nI (by omega) (by decide)), ix_nI (by omega), (hr.2.2 k hk).1]
  rcases hx.2.1 k with h | ⟨h, hkn⟩
  · rw [if_pos h, if_pos h]
  · obtain ⟨a1, a2⟩ := s10 k hkn
    obtain ⟨-, ⟨wa, wa1, wa2⟩, -⟩ := d5 k hkn
    have ea : gi S 78 (7 * k) = nI wa := by rw [← wa2]; exact a2 0 (by omega)
    have hne : ¬ gi X 88 k = 0 := by rw [h]; decide
    rw [if_neg hne, if_neg hne, md_rch hd hs hp hkn, bI_eq]
    by_cases hz : mrch D k p = 0
    · rw [if_pos hz, if_pos hz]
    · rw [if_neg hz, if_neg hz, m7, chk_pos (in_nI (by omega) (by decide)), ix_nI (by omega), ea, md_bar hd hs hr hp wa1 (Or.inr ⟨k, hkn, rfl⟩) t, bI_eq, wa2, ix_nI (by have := (s9 wa wa1).1; omega)]
      by_cases hb : mB D X p wa (nI k) t = 0
      · rw [if_pos hb, if_pos hb]
      · rw [if_neg hb, if_neg hb]
