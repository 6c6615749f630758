/-! the class's duel -/
def mdl (D : DT) (X : AS) (r p a b : Nat) (t z : Int32) : Nat → Nat → Int32
  | 0, _ => z
  | m + 1, i => if D 83 (mof D r i) = 4 then mdl D X r p a b t z m (i + 1) else if mhl D X r i p (ix (D 78 (7 * a))) (nI a) t = 0 then mdl D X r p a b t z m (i + 1) else if mdif D X (mof D r i) p a b t = 0 then mdl D X r p a b t z m (i + 1) else if mdif D X (mof D r i) p a b t ≤ 0 then (-(nI i)) - 1 else nI i
theorem mdec_mdl (D : DT) (X : AS) (r p a b : Nat) (t : Int32) : ∀ m i, mdec D X r p a b t m i = mdl D X r p a b t (if b ≤ a then -101 else 100) m i := by
  intro m
  induction m with
  | zero => intro i; rfl
  | succ m ih => intro i; rw [mdec, mdl, ih]
theorem rl_ne {i : Nat} (h : i < 50) : ¬ nI i = 100 ∧ ¬ (-(nI i)) - 1 = 100 := by
  refine ⟨fun e => ?_, fun e => ?_⟩
  · have := nI_inj (a := i) (b := 100) (by omega) (by omega) e
    omega
  · have h1 : (-(nI i)) - 1 = -nI (i + 1) := by
      rw [← nI_1]
      apply Int32.toBitVec_inj.mp
      simp only [Int32.toBitVec_sub, Int32.toBitVec_neg, Int32.toBitVec_add]
      generalize (nI i).toBitVec = x
      have : (1 : Int32).toBitVec = 1#32 := rfl
      rw [this]
      bv_omega
    rw [h1] at e
    have h2 := sb_negT (w := i + 1) (by omega)
    rw [e] at h2
    have h3 : (100 : Int32).toInt = 100 := rfl
    rw [h3] at h2
    omega
theorem mdl_z (D : DT) (X : AS) (r p a b : Nat) (t : Int32) : ∀ m i, i + m ≤ 50 → (∀ z, mdl D X r p a b t z m i = z) ∨ ∃ v, ¬ v = 100 ∧ ∀ z, mdl D X r p a b t z m i = v := by
  intro m
  induction m with
  | zero => intro i _; exact Or.inl (fun z => rfl)
  | succ m ih =>
    intro i hi
    have go := ih (i + 1) (by omega)
    simp only [mdl]
    by_cases h1 : D 83 (mof D r i) = 4
    · simp only [if_pos h1]; exact go
    simp only [if_neg h1]
    by_cases h2 : mhl D X r i p (ix (D 78 (7 * a))) (nI a) t = 0
    · simp only [if_pos h2]; exact go
    simp only [if_neg h2]
    by_cases h3 : mdif D X (mof D r i) p a b t = 0
    · simp only [if_pos h3]; exact go
    simp only [if_neg h3]
    by_cases h4 : mdif D X (mof D r i) p a b t ≤ 0
    · simp only [if_pos h4]; exact Or.inr ⟨_, (rl_ne (by omega)).2, fun z => rfl⟩
    · simp only [if_neg h4]; exact Or.inr ⟨_, (rl_ne (by omega)).1, fun z => rfl⟩
theorem sub_bnd {x y : Int32} (hx : bnd x 9999999) (hy : bnd y 9999999) : (x - y = 0 ↔ x = y) ∧ (x - y ≤ 0 ↔ x ≤ y) ∧ (x = y ↔ -y = -x) ∧ (x ≤ y ↔ -y ≤ -x) := by
  obtain ⟨a, ha, rfl⟩ := hx
  obtain ⟨b, hb, rfl⟩ := hy
  have h1 := pk_sub_toInt (a := a) (b := b) (by omega) (by omega)
  have h0 : (0 : Int32).toInt = 0 := rfl
  have n1 := sb_negT (w := a) (by omega)
  have n2 := sb_negT (w := b) (by omega)
  have t1 := nI_toInt (n := a) (by omega)
  have t2 := nI_toInt (n := b) (by omega)
  refine ⟨?_, ?_, ?_, ?_⟩
  · rw [← Int32.toInt_inj, ← Int32.toInt_inj, h1, h0, t1, t2]; omega
  · rw [Int32.le_iff_toInt_le, Int32.le_iff_toInt_le, h1, h0, t1, t2]; omega
  · rw [← Int32.toInt_inj, ← Int32.toInt_inj, n1, n2, t1, t2]; omega
  · rw [Int32.le_iff_toInt_le, Int32.le_iff_toInt_le, n1, n2, t1, t2]; omega
theorem and1_bnd (x : Int32) : bnd (x &&& 1) 9999999 := by
  obtain ⟨n, h1, h2⟩ := pk_andE x (m := 1) 1 (by decide)
  exact ⟨n, by omega, h2⟩
theorem mdif_mst {D : DT} {W kn : Nat → Prop} {X : AS} (hd : DOK D W kn) {t : Int32} (ht : bnd t 9999999) {r n i p a b : Nat} (hr6 : r < mR D) (hn : D 81 r = nI n) (hn16 : n ≤ 16) (hi : i < n) (h4 : ¬ D 83 (mof D r i) = 4) (hp : p < mQ D) (ha : kn a) (hb : kn b) : (mdif D X (mof D r i) p a b t = 0 ↔ mst D X (mof D r i) p (ix (D 78 (7 * a))) (nI a) t = mst D X (mof D r i) p (ix (D 78 (7 * b))) (nI b) t) ∧ (mdif D X (mof D r i) p a b t ≤ 0 ↔ mst D X (mof D r i) p (ix (D 78 (7 * a))) (nI a) t ≤ mst D X (mof D r i) p (ix (D 78 (7 * b))) (nI b) t) := by
  obtain ⟨d1, d2, d3, d4, d5, d6, d7, d8⟩ := id hd
  obtain ⟨n', n1, n2, n3, n4, n5, n6⟩ := d8 r hr6
  have en : n' = n := nI_inj (by omega) (by omega) (n2.symm.trans hn)
  subst en
  obtain ⟨c, q, c1, c2, q1, q2, q3, q4, ct⟩ := n6 i hi
  obtain ⟨a48, ⟨wa, wa1, wa2⟩, -⟩ := d5 a ha
  obtain ⟨b48, ⟨wb, wb1, wb2⟩, -⟩ := d5 b hb
  have w24 := (d4 wa wa1).1
  have v24 := (d4 wb wb1).1
  unfold mdif mst
  rw [wa2, wb2, ix_nI (n := wa) (by omega), ix_nI (n := wb) (by omega), if_neg (nI_ne_m1 (a := a) (by omega)), if_neg (nI_ne_m1 (a := b) (by omega)), ix_nI (n := a) (by omega), ix_nI (n := b) (by omega)]
  have bb : ∀ c : Prop, ∀ _ : Decidable c, bnd (if c then (1 : Int32) else 0) 9999999 := fun c _ => by
    by_cases h : c
    · rw [if_pos h]; exact ⟨1, by omega, rfl⟩
    · rw [if_neg h]; exact ⟨0, by omega, rfl⟩
  by_cases k0 : D 83 (mof D r i) = 0
  · rw [if_pos k0, if_pos k0, if_pos k0]
    have h := sub_bnd (and1_bnd (D 78 (7 * a + 2) >>> (D 83 (mof D r i + 1) &&& 31))) (and1_bnd (D 78 (7 * b + 2) >>> (D 83 (mof D r i + 1) &&& 31)))
    exact ⟨h.1, h.2.1⟩
  rw [if_neg k0, if_neg k0, if_neg k0]
  by_cases k1 : D 83 (mof D r i) = 1
  · rw [if_pos k1, if_pos k1, if_pos k1]
    have h := sub_bnd (bb (D 72 (3 * wa + 2) = D 73 (3 * p)) inferInstance) (bb (D 72 (3 * wb + 2) = D 73 (3 * p)) inferInstance)
    exact ⟨h.1, h.2.1⟩
  rw [if_neg k1, if_neg k1, if_neg k1]
  have hq23 : q = 2 ∨ q = 3 := by
    rcases Nat.lt_or_ge q 4 with z | z
    · rcases Nat.lt_or_ge q 2 with z2 | z2
      · rcases Nat.lt_or_ge q 1 with z3 | z3
        · exact absurd (by rw [q2, show q = 0 by omega]; rfl) k0
        · exact absurd (by rw [q2, show q = 1 by omega]; rfl) k1
      · omega
    · exact absurd (by rw [q2, show q = 4 by omega]; rfl) h4
  obtain ⟨s, s61, s62⟩ := q4 hq23
  rw [s62]
  have m1 := msub_bnd (X := X) (s := s) hd hp wa1 (Or.inr ⟨a, ha, rfl⟩) ht
  have m2 := msub_bnd (X := X) (s := s) hd hp wb1 (Or.inr ⟨b, hb, rfl⟩) ht
  by_cases k2 : D 83 (mof D r i) = 2
  · rw [if_pos k2, if_pos k2, if_pos k2]
    have h := sub_bnd m1 m2
    exact ⟨h.1, h.2.1⟩
  · rw [if_neg k2, if_neg k2, if_neg k2]
    have h := sub_bnd m2 m1
    exact ⟨h.1.trans h.2.2.1, h.2.1.trans h.2.2.2⟩
theorem cl_rduel {S : AS} {D : DT} {W kn : Nat → Prop} {X : AS} {p a b : Nat} {t : Int32} (hd : DOK D W kn) (ht : bnd t 9999999) (hp : p < mQ D) (ha : kn a) (hb : kn b) (hf : FA S 58 D X p (ix (D 78 (7 * a))) (nI a) t) (hg : FA S 59 D X p (ix (D 78 (7 * b))) (nI b) t) {r n q : Nat} (hr6 : r < mR D) (hn : D 81 r = nI n) (hn16 : n ≤ 16) (hB : BK S D r q) : f_RuleBook_duel_58_59 q S = some (mdl D X r p a b t 100 n 0, S) := by
  obtain ⟨n', n1, n2, n3, n4, n5, n6⟩ := hd.2.2.2.2.2.2.2 r hr6
  have en : n' = n := nI_inj (by omega) (by omega) (n2.symm.trans hn)
  subst en
  have key : ∀ (J : AS → Option (Int32 × AS)) (hJ : J S = some (100, S)) (f i : Nat), i ≤ n' → n' - i < f → f_RuleBook_duel_58_59_L2 q J (fun (a2 : Int32) (a3 : Int32) (a4 : Int32) (S5 : AS) => if a3 ≤ a4 then (some ((-a2) - 1, S5)) else (some (a2, S5))) f (nI i) S = some (mdl D X r p a b t 100 (n' - i) i, S) := by
    intro J hJ f
    induction f with
    | zero => intro j _ h; omega
    | succ f ih =>
      intro i hi hf2
      rw [f_RuleBook_duel_58_59_L2, hB.1, hn]
      rcases Nat.lt_or_ge i n' with g | g
      · obtain ⟨b1, -⟩ := hB.2 i (by rw [n2, ix_nI (by omega)]; exact g)
        obtain ⟨c, k, c1, c2, q1, q2, -⟩ := n6 i g
        rw [if_neg (nI_ge g (by omega)), chk_pos (in_nI (by omega) (by decide)), ix_nI (by omega), b1]
        simp only [nm_eq]
        rw [nI_1, show n' - i = (n' - (i + 1)) + 1 by omega, mdl]
        by_cases h4 : D 83 (mof D r i) = 4
        · rw [if_pos h4, h4, if_pos (by decide)]
          exact ih (i + 1) (by omega) (by omega)
        · have h11 : ¬ D 83 (mof D r i) + 7 = 11 := by
            intro z
            apply h4
            rw [q2] at z ⊢
            have z2 : nI (k + 7) = nI 11 := by rw [← nI_add k 7]; exact z
            rw [show k = 4 by have := nI_inj (by omega) (by omega) z2; omega]; rfl
          obtain ⟨m1, m2⟩ := mdif_mst (X := X) hd ht hr6 hn hn16 g h4 hp ha hb
          rw [if_neg h4, if_neg h11, cl_holds hd hf hr6 hn hn16 g hB, bI_eq, cl_stand_58 hd hf hr6 hn hn16 g h4 hB, bI_eq, cl_stand_59 hd hg hr6 hn hn16 g h4 hB, bI_eq, ih (i + 1) (by omega) (by omega)]
          by_cases hz : mhl D X r i p (ix (D 78 (7 * a))) (nI a) t = 0
          · rw [if_pos hz, if_pos hz]
          rw [if_neg hz, if_neg hz]
          by_cases hv : mdif D X (mof D r i) p a b t = 0
          · rw [if_pos hv, if_pos (m1.mp hv)]
          rw [if_neg hv, if_neg (fun z => hv (m1.mpr z))]
          by_cases hw : mdif D X (mof D r i) p a b t ≤ 0
          · rw [if_pos hw, if_pos (m2.mp hw)]
          · rw [if_neg hw, if_neg (fun z => hw (m2.mpr z))]
      · rw [if_pos (nI_le g (by omega)), hJ]
        have e : i = n' := by omega
        subst e
        rw [Nat.sub_self, mdl]
  unfold f_RuleBook_duel_58_59
  simp only [nm_k]
  exact key _ rfl FU 0 (by omega) (by rw [FU_succ]; omega)
theorem FA.mv {S T : AS} {D : DT} {X : AS} {p w : Nat} {b t : Int32} (h : FA S 58 D X p w b t) (hf : fr (fun c _ => c = 59) S T) : FA T 58 D X p w b t := by
  have e : ∀ k, gi T 58 k = gi S 58 k := fun k => hf.2.1 58 k (by omega)
  unfold FA at h ⊢
  simp only [e]; exact h
theorem cl_duel {S : AS} {D : DT} {W kn : Nat → Prop} {P K : Nat} {X : AS} {t : Int32} (hd : DOK D W kn) (hs : CSt S D W kn P K) (hr : RC S D X) (hT : TR S D t) {p a b : Nat} (hp : p < mQ D) (ha : kn a) (hb : kn b) (hab : ¬ a = b) : ∃ S', f_Course_duel (nI a) (nI b) (nI p) S = some (mDec D X p a b t, S') ∧ fr pCF S S' := by
  obtain ⟨d1, d2, d3, d4, d5, d6, d7, d8⟩ := id hd
  obtain ⟨a48, ⟨wa, wa1, wa2⟩, -⟩ := d5 a ha
  obtain ⟨b48, ⟨wb, wb1, wb2⟩, -⟩ := d5 b hb
  have w24 := (d4 wa wa1).1
  have v24 := (d4 wb wb1).1
  obtain ⟨t1, t2, q, t3, t4⟩ := id hT
  obtain ⟨s1, s2, s3, s4, s5, s6, s7, s8, s9, s10⟩ := id hs
  have f1 := cl_facts_58 hd hs hr t1 hp wa1 (Or.inr ⟨a, ha, rfl⟩)
  have g1 : fr pCF S (ldf S 58 (fac D X p wa (nI a) t)) := ldf_fr _ (fun k => Or.inl rfl)
  have hF1 := ldf_FA S 58 D X p wa (nI a) t
  generalize ldf S 58 (fac D X p wa (nI a) t) = S1 at f1 g1 hF1
  have f2 := cl_facts_59 hd (hs.mv (pCF_0 g1)) (hr.mv g1 d1) (hT.mv (pCF_0 g1)).1 hp wb1 (Or.inr ⟨b, hb, rfl⟩)
  have g2 : fr pCF S1 (ldf S1 59 (fac D X p wb (nI b) t)) := ldf_fr _ (fun k => Or.inr rfl)
  have hF2 := ldf_FA S1 59 D X p wb (nI b) t
  have hF1' : FA (ldf S1 59 (fac D X p wb (nI b) t)) 58 D X p wa (nI a) t := hF1.mv (ldf_fr _ (fun k => rfl))
  generalize ldf S1 59 (fac D X p wb (nI b) t) = S2 at f2 g2 hF2 hF1'
  have g12 := g1.tr g2
  have e1 : gi S 24 a = nI wa := by rw [(s7 a ha).2.1]; exact wa2
  have e2 : gi S1 24 b = nI wb := by rw [g1.2.1 24 b (by unfold pCF; omega), (s7 b hb).2.1]; exact wb2
  have e3 : gr S2 49 15 = some q := by rw [g12.2.2.2]; exact t3
  unfold f_Course_duel
  rw [chk_pos (in_nI a48 (by decide)), ix_nI (by omega), e1, f1, bV_eq, chk_pos (in_nI b48 (by decide)), ix_nI (by omega), e2, f2, bV_eq, e3, obd_some]
  simp only [nm_eq]
  have fin : ∀ v z : Int32, f_RuleBook_duel_58_59 q S2 = some (v, S2) → (v = 100 → z = if b ≤ a then -101 else 100) → (¬ v = 100 → z = v) → (bI (f_RuleBook_duel_58_59 q S2) fun r5 S4 => if r5 = 100 then (if nI a ≤ nI b then some (r5, S4) else some (-101, S4)) else some (r5, S4)) = some (z, S2) := by
    intro v z h1 h2 h3
    rw [h1, bI_eq]
    by_cases hv : v = 100
    · rw [if_pos hv, h2 hv, hv]
      by_cases hz : b ≤ a
      · rw [if_pos hz, if_neg (nI_ge (by omega) (by omega))]
      · rw [if_neg hz, if_pos (nI_le (by omega) (by omega))]
    · rw [if_neg hv, h3 hv]
  refine ⟨S2, ?_, g12⟩
  have t5 := t4.mv (pCF_0 g12)
  rcases t5.2 with ⟨h1, h2⟩ | ⟨r, h1, h2, h3⟩
  · refine fin 100 _ ?_ (fun _ => ?_) (fun h => absurd rfl h)
    · unfold f_RuleBook_duel_58_59
      simp only [nm_k]
      rw [FU_succ, f_RuleBook_duel_58_59_L2, h2, if_pos (by decide)]
    · unfold mDec; rw [if_pos h1]
  · obtain ⟨n', n1, n2, -⟩ := d8 r h1
    have hrd := cl_rduel hd t2 hp ha hb (by rw [wa2, ix_nI (by omega)]; exact hF1') (by rw [wb2, ix_nI (by omega)]; exact hF2) h1 n2 n1 h3
    have hm : mDec D X p a b t = mdl D X r p a b t (if b ≤ a then -101 else 100) n' 0 := by
      unfold mDec
      rw [h2, if_neg (nI_ne_m1 (by omega)), ix_nI (by omega), n2, ix_nI (by omega), mdec_mdl]
    rcases mdl_z D X r p a b t n' 0 (by omega) with h | ⟨v, v1, v2⟩
    · rw [h] at hrd
      exact fin 100 _ hrd (fun _ => by rw [hm, h]) (fun z => absurd rfl z)
    · rw [v2] at hrd
      exact fin v _ hrd (fun z => absurd z v1) (fun _ => by rw [hm, v2])
theorem cl_may {S : AS} {D : DT} {W kn : Nat → Prop} {P K : Nat} {X : AS} {t : Int32} (hd : DOK D W kn) (hs : CSt S D W kn P K) (hx : XOK D W kn X) (hr : RC S D X) (hT : TR S D t) {p k : Nat} (hp : p < mQ D) (hk : k < K) : ∃ S', f_Course_mayClaim (nI k) (nI p) S = some (mmay D X k p t, S') ∧ fr pCF S S' := by
  obtain ⟨d1, d2, d3, d4, d5, d6, d7, d8⟩ := id hd
  obtain ⟨s1, s2, s3, s4, s5, s6, s7, s8, s9, s10⟩ := id hs
  unfold f_Course_mayClaim mmay
  rw [chk_pos (in_nI (by omega) (by decide)), ix_nI (by omega), (hr.2.2 k (by omega)).1]
  rcases hx.2.1 k with h | ⟨h, hkn⟩
  · rw [if_pos h, if_pos h]; exact ⟨S, rfl, fr_rf _ _⟩
  · have hne : ¬ gi X 88 k = 0 := by rw [h]; decide
    obtain ⟨p1, p2, p3⟩ := s5 p hp
    obtain ⟨k0, k1, k2, k3, k4, k5, k6⟩ := s7 k hkn
    obtain ⟨-, ⟨wa, wa1, wa2⟩, -⟩ := d5 k hkn
    have w24 := (d4 wa wa1).1
    obtain ⟨t1, t2, q, t3, t4⟩ := id hT
    have hin : vp_in (nI k) 48 := in_nI (by omega) (by decide)
    have e1 : gi S 24 k = nI wa := by rw [k1]; exact wa2
    rw [if_neg hne, if_neg hne, chk_pos (in_nI (by omega) (by decide)), chk_pos (in_nI (by omega) (by decide)), ix_nI (by omega), p1, p2]
    have hre : f_PaperBox_reaches (nI k) (D 73 (3 * p)) (D 73 (3 * p + 1)) S = some (mrch D k p, S) := by
      unfold f_PaperBox_reaches mrch
      simp only [nm_eq, chk_pos hin]
      rw [ix_nI (by omega), k4, k5, k6]
      split
      · split
        · rfl
        · split
          · rfl
          · rfl
      · rfl
    rw [hre, bI_eq]
    by_cases hz : mrch D k p = 0
    · rw [if_pos hz, if_pos hz]; exact ⟨S, rfl, fr_rf _ _⟩
    rw [if_neg hz, if_neg hz, chk_pos hin, e1, wa2, ix_nI (n := wa) (by omega)]
    have f1 := cl_facts_58 hd hs hr t1 hp wa1 (Or.inr ⟨k, hkn, rfl⟩)
    have g1 : fr pCF S (ldf S 58 (fac D X p wa (nI k) t)) := ldf_fr _ (fun k => Or.inl rfl)
    have hF1 := ldf_FA S 58 D X p wa (nI k) t
    generalize ldf S 58 (fac D X p wa (nI k) t) = S1 at f1 g1 hF1
    have e3 : gr S1 49 15 = some q := by rw [g1.2.2.2]; exact t3
    rw [f1, bV_eq, e3, obd_some, cl_bars hd hF1 (t4.mv (pCF_0 g1)), bI_eq]
    refine ⟨S1, ?_, g1⟩
    by_cases hb : mB D X p wa (nI k) t = 0
    · rw [if_pos hb, if_pos hb]
    · rw [if_neg hb, if_neg hb]
