theorem ts_loop {b : Nat → Nat} {t N : Nat} (hN : NT b t N) {n c0 m0 q last : Nat} {x1 : Int32} (hx : (x1 = 1 ∧ last = 6) ∨ (x1 = 0 ∧ last = 1)) (hn : n < 16) (hq : ¬ q = 4 → last = 1) (hm0 : m0 ≤ 3 * (n + c0)) : ∀ (f j k a : Nat) (S U : AS), N - k < f → CR S b t N k → MR U b t a → a ≤ t → scn isBl b t a = tkp b t k → gi U 70 24 = 0 → gi S 4 4 = nI (n + 1) → gi S 4 8 = nI (c0 + j) → gi U 70 21 = nI (m0 + 3 + 3 * j) → RUL S U n m0 q j c0 → 7 * (c0 + j) ≤ tkp b t k →
    (∃ S' U' e x l, (∀ (J : AS → Option (Int32 × AS)) (u : Nat), f < u → f_RuleReader_readTests_L2 J (nI last) u (nI j) S = some (0, S')) ∧ (∀ (J : Int32 → AS → Option (Int32 × AS)) (u : Nat), f + 1 < u → f_Md_tests_L4 J x1 u (nI j) 1 U = J (nI l) U') ∧ BAD S U S' U' b t e x) ∨
    (∃ S' U' U2 l k', (∀ (J : AS → Option (Int32 × AS)) (u : Nat), f < u → f_RuleReader_readTests_L2 J (nI last) u (nI j) S = some (1, S')) ∧ CR S' b t N k' ∧ fr pCr S S' ∧ cd b t (tkp b t k') = 15 ∧ (∀ (J : Int32 → AS → Option (Int32 × AS)) (u : Nat), f + 1 < u → f_Md_tests_L4 J x1 u (nI j) 1 U = J (nI l) U') ∧ BAD S U U2 U' b t 1 (tkp b t k')) ∨
    (∃ S' U' a' l k', (∀ (J : AS → Option (Int32 × AS)) (u : Nat), f < u → f_RuleReader_readTests_L2 J (nI last) u (nI j) S = some (1, S')) ∧ CR S' b t N k' ∧ fr pCo S S' ∧ (∀ (J : Int32 → AS → Option (Int32 × AS)) (u : Nat), f + 1 < u → f_Md_tests_L4 J x1 u (nI j) 1 U = J (nI l) U') ∧ fr pMo U U' ∧ MR U' b t a' ∧ a' ≤ t ∧ scn isBl b t a' = tkp b t k' ∧ gi U' 70 24 = 0 ∧ gi S' 4 4 = nI (n + 1) ∧ gi S' 4 8 = nI (c0 + l) ∧ gi U' 70 21 = nI (m0 + 3 + 3 * l) ∧ RUL S' U' n m0 q l c0 ∧ FRM S U S' U' n (c0 + j) (m0 + 3 + 3 * j) ∧ 7 * (c0 + l) ≤ tkp b t k' + 1 ∧ k < k') := by
  intro f
  induction f with
  | zero => intro j k a S U h; omega
  | succ f ih =>
    intro j k a S U hf hC hU hat hak h24 h4 h8 h21 hR h7
    have ht := tkp_le b t k
    have h400 := hN.1
    have h64 : ¬ (64 : Int32) ≤ nI j := nI_ge (b := 64) (by omega) (by decide)
    rcases ts_one hN hx hC hU hat hak h24 h4 hn h8 (by omega) h21 (by omega) hR hq with ⟨S', U', e, x, a1, a2, a3⟩ | ⟨S', U', U2, a1, a2, a3, a4, a5, a6⟩ | ⟨S', U', a', a1, a2, a3, a4, a5, a6, a7, a8, a9, a10, a11, a12, a13, a14, a15⟩
    · left
      refine ⟨S', U', e, x, j, fun J u hu => ?_, fun J u hu => ?_, a3⟩
      · obtain ⟨u', rfl⟩ : ∃ u', u = u' + 1 := ⟨u - 1, by omega⟩
        rw [f_RuleReader_readTests_L2, if_neg h64, a1, bI_eq, if_pos rfl]
      · obtain ⟨u', rfl⟩ : ∃ u', u = u' + 2 := ⟨u - 2, by omega⟩
        exact a2 J u'
    · right; left
      have n13 : ¬ gi S' 3 3 = 13 := by
        rw [a2.2.2.2, a4]; decide
      refine ⟨S', U', U2, j, k + 3, fun J u hu => ?_, a2, a3, a4, fun J u hu => ?_, a6⟩
      · obtain ⟨u', rfl⟩ : ∃ u', u = u' + 1 := ⟨u - 1, by omega⟩
        rw [f_RuleReader_readTests_L2, if_neg h64, a1, bI_eq, if_neg ne10, if_neg n13]
      · obtain ⟨u', rfl⟩ : ∃ u', u = u' + 2 := ⟨u - 2, by omega⟩
        exact a5 J u'
    · have hps := ps_spec a6 (w := 13) (by decide) px_13 (L := 3) rfl
      rw [a8] at hps
      have c19 := cd_le (b := b) (t := t) (p := tkp b t (k + 3))
      by_cases h13 : cd b t (tkp b t (k + 3)) = 13
      · have hk3 := cd_end hN a2.2.1 (by omega)
        have hp3 := hN.2.2.2 (k + 3) hk3
        obtain ⟨b1, b2⟩ := adv_spec a2 hk3
        have hen := en_word (b := b) (t := t) (p := tkp b t (k + 3)) (w := 13) (by decide) ((cd_word (by decide)).mp h13)
        have hen2 := (en_gt (b := b) hp3).2
        have e4 : scn isBl b t (en b t (tkp b t (k + 3))) = tkp b t (k + 4) := (tkp_s hp3).symm
        have a41 := (scn_spec isBl b t (en b t (tkp b t (k + 3)))).1
        have w13 : wlen 13 = 3 := rfl
        rw [e4] at a41
        rw [if_pos h13, if_pos h13] at hps
        have m1 : ∀ c i, ¬ (c = 70 ∧ i = 22) → gi (si U' 70 22 (nI (en b t (tkp b t (k + 3))))) c i = gi U' c i := fun c i h => by rw [gi_si, if_neg h]
        have g1 : ∀ c i, ¬ (c = 3 ∧ (i = 2 ∨ i = 3)) → gi (adv S' b t (k + 3 + 1)) c i = gi S' c i := fun c i h => adv_gi _ _ _ _ _ _ h
        have clsN : ∀ (J : AS → Option (Int32 × AS)) (u : Nat), f_RuleReader_readTests_L2 J (nI last) (u + 1) (nI j) S = f_RuleReader_readTests_L2 J (nI last) u (nI (j + 1)) (adv S' b t (k + 3 + 1)) := fun J u => by
          rw [f_RuleReader_readTests_L2, if_neg h64, a1, bI_eq, if_neg ne10, if_pos (by rw [a2.2.2.2, h13]; rfl), b1, bV_eq, nI_1]
        have refN : ∀ (J : Int32 → AS → Option (Int32 × AS)) (u : Nat), f_Md_tests_L4 J x1 (u + 1) (nI j) 1 U = f_Md_tests_L4 J x1 u (nI (j + 1)) 1 (si U' 70 22 (nI (en b t (tkp b t (k + 3))))) := fun J u => by
          rw [a4, hps, bI_eq]
        have frC : fr pCo S (adv S' b t (k + 3 + 1)) := adv_fr b t _ a3 (by unfold pCo; omega) (by unfold pCo; omega)
        have frU : fr pMo U (si U' 70 22 (nI (en b t (tkp b t (k + 3))))) := a5.si (by unfold pMo; omega)
        have hFR : FRM S U (adv S' b t (k + 3 + 1)) (si U' 70 22 (nI (en b t (tkp b t (k + 3))))) n (c0 + j) (m0 + 3 + 3 * j) := ⟨fun d i d1 d2 d3 => by rw [g1 d i (by omega)]; exact a14.1 d i d1 d2 d3, fun d i d1 d2 d3 => by rw [g1 d i (by omega)]; exact a14.2.1 d i d1 d2 d3, fun y hy => by rw [m1 84 y (by omega)]; exact a14.2.2 y hy⟩
        rcases ih (j + 1) (k + 4) (en b t (tkp b t (k + 3))) (adv S' b t (k + 3 + 1)) (si U' 70 22 (nI (en b t (tkp b t (k + 3))))) (by omega) b2 (a6.at (by omega)) hen2 e4 (by rw [m1 70 24 (by omega)]; exact a9) (by rw [g1 4 4 (by omega)]; exact a10) (by rw [g1 4 8 (by omega)]; exact a11) (by rw [m1 70 21 (by omega)]; exact a12) (a13.mv (fun d d1 d2 => g1 d n (by omega)) (fun d i d1 d2 _ => g1 d i (by omega)) (fun y _ _ => m1 84 y (by omega))) (by omega) with ⟨S2, V2, e, x, l, d1, d2, d3⟩ | ⟨S2, V2, W2, l, k', d1, d2, d3, d4, d5, d6⟩ | ⟨S2, V2, a2', l, k', d1, d2, d3, d4, d5, d6, d7, d8, d9, d10, d11, d12, d13, d14, d15, d16⟩
        · left
          obtain ⟨y1, y2, y3, y4, y5, y6⟩ := d3
          refine ⟨S2, V2, e, x, l, fun J u hu => ?_, fun J u hu => ?_, (pCo_r frC).tr y1, y2, (pMo_r frU).tr y3, y4, y5, y6⟩
          · obtain ⟨u', rfl⟩ : ∃ u', u = u' + 1 := ⟨u - 1, by omega⟩
            rw [clsN]; exact d1 J u' (by omega)
          · obtain ⟨u', rfl⟩ : ∃ u', u = u' + 1 := ⟨u - 1, by omega⟩
            rw [refN]; exact d2 J u' (by omega)
        · right; left
          obtain ⟨y1, y2, y3, y4, y5, y6⟩ := d6
          refine ⟨S2, V2, W2, l, k', fun J u hu => ?_, d2, (pCo_r frC).tr d3, d4, fun J u hu => ?_, (pCo_r frC).tr y1, y2, (pMo_r frU).tr y3, y4, y5, y6⟩
          · obtain ⟨u', rfl⟩ : ∃ u', u = u' + 1 := ⟨u - 1, by omega⟩
            rw [clsN]; exact d1 J u' (by omega)
          · obtain ⟨u', rfl⟩ : ∃ u', u = u' + 1 := ⟨u - 1, by omega⟩
            rw [refN]; exact d5 J u' (by omega)
        · right; right
          refine ⟨S2, V2, a2', l, k', fun J u hu => ?_, d2, frC.tr d3, fun J u hu => ?_, frU.tr d5, d6, d7, d8, d9, d10, d11, d12, d13, hFR.tr d14 (by omega) (by omega), d15, by omega⟩
          · obtain ⟨u', rfl⟩ : ∃ u', u = u' + 1 := ⟨u - 1, by omega⟩
            rw [clsN]; exact d1 J u' (by omega)
          · obtain ⟨u', rfl⟩ : ∃ u', u = u' + 1 := ⟨u - 1, by omega⟩
            rw [refN]; exact d4 J u' (by omega)
      · right; right
        rw [if_neg h13, if_neg h13] at hps
        have m1 : ∀ c i, ¬ (c = 70 ∧ i = 22) → gi (si U' 70 22 (nI (tkp b t (k + 3)))) c i = gi U' c i := fun c i h => by rw [gi_si, if_neg h]
        have hpt3 := tkp_le b t (k + 3)
        refine ⟨S', si U' 70 22 (nI (tkp b t (k + 3))), tkp b t (k + 3), j + 1, k + 3, fun J u hu => ?_, a2, a3, fun J u hu => ?_, a5.si (by unfold pMo; omega), a6.at (by omega), hpt3, tkp_idem b t (k + 3), by rw [m1 70 24 (by omega)]; exact a9, a10, a11, by rw [m1 70 21 (by omega)]; exact a12, a13.mv (fun _ _ _ => rfl) (fun _ _ _ _ _ => rfl) (fun y _ _ => m1 84 y (by omega)), ⟨a14.1, a14.2.1, fun y hy => by rw [m1 84 y (by omega)]; exact a14.2.2 y hy⟩, by omega, by omega⟩
        · obtain ⟨u', rfl⟩ : ∃ u', u = u' + 1 := ⟨u - 1, by omega⟩
          rw [f_RuleReader_readTests_L2, if_neg h64, a1, bI_eq, if_neg ne10, if_neg (by rw [a2.2.2.2]; exact fun y => h13 (nI_inj (b := 13) (by omega) (by decide) y))]
        · obtain ⟨u', rfl⟩ : ∃ u', u = u' + 2 := ⟨u - 2, by omega⟩
          rw [a4, hps, bI_eq, t_done]
/-- the tests of a rule, in both -/
theorem ts_all {b : Nat → Nat} {t N : Nat} (hN : NT b t N) {S U : AS} {k a n c0 m0 q last : Nat} {x1 : Int32} (hx : (x1 = 1 ∧ last = 6) ∨ (x1 = 0 ∧ last = 1)) (hn : n < 16) (hq : ¬ q = 4 → last = 1) (hm0 : m0 ≤ 3 * (n + c0)) (hC : CR S b t N k) (hU : MR U b t a) (hat : a ≤ t) (hak : scn isBl b t a = tkp b t k) (h24 : gi U 70 24 = 0) (h4 : gi S 4 4 = nI (n + 1)) (h8 : gi S 4 8 = nI c0) (h21 : gi U 70 21 = nI (m0 + 3)) (hR : RUL S U n m0 q 0 c0) (h7 : 7 * c0 ≤ tkp b t k) :
    (∃ S' U' e x l, f_RuleReader_readTests (nI last) S = some (0, S') ∧ f_Md_tests x1 U = some (nI l, U') ∧ BAD S U S' U' b t e x) ∨
    (∃ S' U' U2 l k', f_RuleReader_readTests (nI last) S = some (1, S') ∧ CR S' b t N k' ∧ fr pCr S S' ∧ cd b t (tkp b t k') = 15 ∧ f_Md_tests x1 U = some (nI l, U') ∧ BAD S U U2 U' b t 1 (tkp b t k')) ∨
    (∃ S' U' a' l k', f_RuleReader_readTests (nI last) S = some (1, S') ∧ CR S' b t N k' ∧ fr pCo S S' ∧ f_Md_tests x1 U = some (nI l, U') ∧ fr pMo U U' ∧ MR U' b t a' ∧ a' ≤ t ∧ scn isBl b t a' = tkp b t k' ∧ gi U' 70 24 = 0 ∧ gi S' 4 4 = nI (n + 1) ∧ gi S' 4 8 = nI (c0 + l) ∧ gi U' 70 21 = nI (m0 + 3 + 3 * l) ∧ RUL S' U' n m0 q l c0 ∧ FRM S U S' U' n c0 (m0 + 3) ∧ 7 * (c0 + l) ≤ tkp b t k' + 1 ∧ k < k') := by
  obtain ⟨hN0, hN1, hN2, hN3⟩ := id hN
  have hcl : ∀ r S', (∀ (J : AS → Option (Int32 × AS)) (u : Nat), N - k + 1 < u → f_RuleReader_readTests_L2 J (nI last) u (nI 0) S = some (r, S')) → f_RuleReader_readTests (nI last) S = some (r, S') := fun r S' h => by
    unfold f_RuleReader_readTests
    simp only [nm_k]
    rw [nI_0] at h
    exact h _ FU (by rw [FU_succ]; omega)
  have hre : ∀ l U', (∀ (J : Int32 → AS → Option (Int32 × AS)) (u : Nat), N - k + 1 + 1 < u → f_Md_tests_L4 J x1 u (nI 0) 1 U = J (nI l) U') → f_Md_tests x1 U = some (nI l, U') := fun l U' h => by
    unfold f_Md_tests
    simp only [nm_k]
    rw [nI_0] at h
    exact h _ FU (by rw [FU_succ]; omega)
  rcases ts_loop hN hx hn hq hm0 (N - k + 1) 0 k a S U (by omega) hC hU hat hak h24 h4 h8 h21 hR h7 with ⟨S', U', e, x, l, d1, d2, d3⟩ | ⟨S', U', W2, l, k', d1, d2, d3, d4, d5, d6⟩ | ⟨S', U', a', l, k', d1, d2, d3, d4, d5, d6⟩
  · exact Or.inl ⟨S', U', e, x, l, hcl _ _ d1, hre _ _ d2, d3⟩
  · exact Or.inr (Or.inl ⟨S', U', W2, l, k', hcl _ _ d1, d2, d3, d4, hre _ _ d5, d6⟩)
  · exact Or.inr (Or.inr ⟨S', U', a', l, k', hcl _ _ d1, d2, d3, hre _ _ d4, d5, d6⟩)
