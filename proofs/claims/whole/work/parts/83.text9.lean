/-! all rules of a text -/
def DRF (S U : AS) (n m c : Nat) : Prop := ∃ o : Nat → Nat, o 0 = 0 ∧ o n = m ∧ ∀ i, i < n → ∃ q l a, o (i + 1) = o i + 3 + 3 * l ∧ o i + 3 + 3 * l ≤ m ∧ a + l ≤ c ∧ gi U 84 (o i + 2) = nI l ∧ RUL S U i (o i) q l a
theorem DRF.add {S U S' U' : AS} {n m c q l : Nat} (h : DRF S U n m c) (hF : FRM S U S' U' n c m) (hl : gi U' 84 (m + 2) = nI l) (hR : RUL S' U' n m q l c) : DRF S' U' (n + 1) (m + 3 + 3 * l) (c + l) := by
  obtain ⟨o, o1, o2, o3⟩ := h
  refine ⟨fun i => if i ≤ n then o i else m + 3 + 3 * l, by simp only [Nat.zero_le, if_true]; exact o1, by simp only [show ¬ n + 1 ≤ n by omega, if_false], fun i hi => ?_⟩
  by_cases e : i = n
  · subst e
    refine ⟨q, l, c, ?_, ?_, by omega, ?_, ?_⟩
    · simp only [show ¬ i + 1 ≤ i by omega, Nat.le_refl, if_true, if_false, o2]
    · simp only [Nat.le_refl, if_true, o2]
    · simp only [Nat.le_refl, if_true, o2]; exact hl
    · simp only [Nat.le_refl, if_true, o2]; exact hR
  · obtain ⟨q', l', a', a1, a2, a3, a4, a5⟩ := o3 i (by omega)
    refine ⟨q', l', a', ?_, ?_, by omega, ?_, ?_⟩
    · simp only [show i + 1 ≤ n by omega, show i ≤ n by omega, if_true]; exact a1
    · simp only [show i ≤ n by omega, if_true]; omega
    · simp only [show i ≤ n by omega, if_true]; rw [hF.2.2 _ (by omega)]; exact a4
    · simp only [show i ≤ n by omega, if_true]
      exact a5.mv (fun d d1 d2 => hF.1 d i d1 d2 e) (fun d k d1 d2 d3 => hF.2.1 d k d1 d2 (by omega)) (fun x hx _ => hF.2.2 x (by omega))
theorem DRF.mv {S U S' U' : AS} {n m c : Nat} (h : DRF S U n m c) (hS : ∀ d i, 5 ≤ d → d ≤ 11 → gi S' d i = gi S d i) (hU : ∀ x, gi U' 84 x = gi U 84 x) : DRF S' U' n m c := by
  obtain ⟨o, o1, o2, o3⟩ := h
  refine ⟨o, o1, o2, fun i hi => ?_⟩
  obtain ⟨q', l', a', a1, a2, a3, a4, a5⟩ := o3 i hi
  exact ⟨q', l', a', a1, a2, a3, by rw [hU]; exact a4, a5.mv (fun d d1 d2 => hS d i (by omega) (by omega)) (fun d k d1 d2 _ => hS d k (by omega) (by omega)) (fun x _ _ => hU x)⟩
theorem rs_loop {b : Nat → Nat} {t N : Nat} (hN : NT b t N) {x1 : Int32} : ∀ (f n k a : Nat) (S U : AS) (m c : Nat), N - k < f → CR S b t N k → MR U b t a → a ≤ t → scn isBl b t a = tkp b t k → gi U 70 24 = 0 → n ≤ 16 → DRF S U n m c → gi S 4 4 = nI n → gi S 4 8 = nI c → gi U 70 21 = nI m → m ≤ 3 * (n + c) → 7 * c ≤ tkp b t k →
    (∃ S' U' l, (∀ (J : Int32 → AS → Option (Int32 × AS)) (u : Nat), f + 2 < u → f_RuleReader_read_L46 J u 1 (nI n) S = J 0 S') ∧ (∀ (J : Int32 → AS → Option (Int32 × AS)) (u : Nat), f + 2 < u → f_Md_reign_L35 J x1 u (nI n) U = J (nI l) U') ∧ BAD2 S U S' U' b t) ∨
    (∃ S' U' n' m' c', (∀ (J : Int32 → AS → Option (Int32 × AS)) (u : Nat), f + 2 < u → f_RuleReader_read_L46 J u 1 (nI n) S = J 1 S') ∧ (∀ (J : Int32 → AS → Option (Int32 × AS)) (u : Nat), f + 2 < u → f_Md_reign_L35 J x1 u (nI n) U = J (nI n') U') ∧ fr pCo S S' ∧ fr pMo U U' ∧ n' ≤ 16 ∧ gi S' 4 4 = nI n' ∧ gi S' 4 8 = nI c' ∧ gi U' 70 21 = nI m' ∧ DRF S' U' n' m' c' ∧ m' ≤ 3 * (n' + c') ∧ 7 * c' ≤ 400) := by
  have h400 := hN.1
  have hNt := hN.2.1
  -- behind a fault both loops end
  have endC : ∀ (J : Int32 → AS → Option (Int32 × AS)) (u : Nat) (x : Int32) (T : AS), f_RuleReader_read_L46 J (u + 1) 0 x T = J 0 T := fun J u x T => by
    rw [f_RuleReader_read_L46]
    by_cases z : 16 < x
    · rw [if_pos z]
    · rw [if_neg z, if_pos rfl]
  have endM : ∀ (n : Nat) (V : AS) (a2 : Nat) (f : Int32) (x : Nat), MR V b t a2 → FM V f x → (f = 1 ∨ f = 2) → ∃ V', (∀ (J : Int32 → AS → Option (Int32 × AS)) (u : Nat), f_Md_reign_L35 J x1 (u + 1) (nI n) V = J (nI n) V') ∧ fr pMr V V' ∧ FM V' f x ∧ ∃ a3, MR V' b t a3 := fun n V a2 f x hM hF hf => by
    have hs := scn_le1000 (b := b) hM.2.1 hM.2.2.2.2 isBl
    have g24 : gi (si V 70 22 (nI (scn isBl b t a2))) 70 24 = f := by rw [gi_si, if_neg (by omega)]; exact hF.1
    refine ⟨si V 70 22 (nI (scn isBl b t a2)), fun J u => ?_, (fr_rf _ V).si (by unfold pMr; omega), ⟨g24, by rw [gi_si, if_neg (by omega)]; exact hF.2⟩, _, hM.at hs⟩
    rw [f_Md_reign_L35, here_spec hM, bI_eq, g24]
    by_cases z : (if scn isBl b t a2 < t then nI (b (scn isBl b t a2)) else -1) = -1
    · rw [if_pos z]
    · rw [if_neg z, if_neg (by rcases hf with e | e <;> rw [e] <;> decide)]
  intro f
  induction f with
  | zero => intro n k a S U m c h; omega
  | succ f ih =>
    intro n k a S U m c hf hC hU hat hak h24 hn hD h4 h8 h21 hm h7
    have hpt := tkp_le b t k
    have hh := here_spec hU
    rw [hak] at hh
    have c19 := cd_le (b := b) (t := t) (p := tkp b t k)
    have n16 : ¬ (16 : Int32) < nI n := nI_nlt (a := 16) hn (by decide)
    have u1 : ∀ d i, ¬ (d = 70 ∧ i = 22) → gi (si U 70 22 (nI (tkp b t k))) d i = gi U d i := fun d i h => by rw [gi_si, if_neg h]
    have hU0 : MR (si U 70 22 (nI (tkp b t k))) b t (tkp b t k) := hU.at (by omega)
    have g24 : gi (si U 70 22 (nI (tkp b t k))) 70 24 = 0 := by rw [u1 70 24 (by omega)]; exact h24
    rcases Nat.lt_or_ge k N with hk | hk
    · have hp := hN.2.2.2 k hk
      have ncd : ¬ cd b t (tkp b t k) = 19 := fun z => (cd_19.mp z) hp
      have hb := (hU.2.2.1 (tkp b t k)).2
      have cls : ∀ (J : Int32 → AS → Option (Int32 × AS)) (u : Nat), f_RuleReader_read_L46 J (u + 1) 1 (nI n) S = bI (f_RuleReader_readRule S) fun r10 S9 => f_RuleReader_read_L46 J u r10 (nI (n + 1)) S9 := fun J u => by
        rw [f_RuleReader_read_L46, if_neg n16, if_neg ne10, hC.2.2.2, if_neg (show ¬ nI (cd b t (tkp b t k)) = 19 from fun z => ncd (nI_inj (b := 19) (by omega) (by decide) z)), nI_1]
      by_cases hn16 : n = 16
      · -- no room for a rule more
        left
        obtain ⟨S', x1', x2, x3⟩ := fail_spec hC 1
        have hV : MR (si (si (si U 70 22 (nI (tkp b t k))) 70 24 1) 70 25 (nI (tkp b t k))) b t (tkp b t k) := hU0.mv (fun d i hc => by rw [gi_si, if_neg (by omega), gi_si, if_neg (by omega)])
        have hF : FM (si (si (si U 70 22 (nI (tkp b t k))) 70 24 1) 70 25 (nI (tkp b t k))) 1 (tkp b t k) := ⟨by rw [gi_si, if_neg (by omega), gi_si, if_pos ⟨rfl, rfl⟩], by rw [gi_si, if_pos ⟨rfl, rfl⟩]⟩
        obtain ⟨V', e1, e2, e3, a3, e4⟩ := endM (n + 1) _ _ 1 _ hV hF (Or.inl rfl)
        refine ⟨S', V', n + 1, fun J u hu => ?_, fun J u hu => ?_, 1, tkp b t k, x2, x3, (((fr_rf _ U).si (by unfold pMr; omega)).si (by unfold pMr; omega)).si (by unfold pMr; omega) |>.tr e2, e3, Or.inl rfl, a3, e4⟩
        · obtain ⟨u', rfl⟩ : ∃ u', u = u' + 2 := ⟨u - 2, by omega⟩
          rw [cls]
          unfold f_RuleReader_readRule f_RuleBook_isFull
          simp only [nm_k]
          rw [h4, hn16, if_neg (by decide), bI_eq, if_neg ne10, x1', bI_eq, isb_c0, bI_eq, endC]
        · obtain ⟨u', rfl⟩ : ∃ u', u = u' + 2 := ⟨u - 2, by omega⟩
          have g22 : gi (si U 70 22 (nI (tkp b t k))) 70 22 = nI (tkp b t k) := by rw [gi_si, if_pos ⟨rfl, rfl⟩]
          rw [f_Md_reign_L35, hh, bI_eq, if_pos hp, if_neg (show ¬ nI (b (tkp b t k)) = -1 from nI_ne_m1 (by omega)), g24, if_pos rfl]
          simp only [nm_k]
          rw [if_pos (show nI n = 16 by rw [hn16]; rfl), g22, blame_spec, g24, if_pos (by decide), bV_eq, hF.1, if_neg ne10, nI_1]
          exact e1 J u'
      · have hU0' := hU0
        rcases rl_one hN (show n < 16 by omega) hm hC hk hU0 hpt (tkp_idem b t k) g24 h4 h8 (by rw [u1 70 21 (by omega)]; exact h21) h7 with ⟨S', U', r1, r2, e, x, y1, y2, y3, y4, y5, a', y6⟩ | ⟨S', U', a', q, l, k', r1, r2, r3, r4, r5, r6, r7, r8, r9, r10, r11, r12, r13, r14, r15, r16, r17⟩
        · left
          obtain ⟨V', e1, e2, e3, a3, e4⟩ := endM (n + 1) _ _ e x y6 y4 y5
          refine ⟨S', V', n + 1, fun J u hu => ?_, fun J u hu => ?_, e, x, y1, y2, (((fr_rf _ U).si (by unfold pMr; omega)).tr y3).tr e2, e3, y5, a3, e4⟩
          · obtain ⟨u', rfl⟩ : ∃ u', u = u' + 2 := ⟨u - 2, by omega⟩
            rw [cls, r1, bI_eq, endC]
          · obtain ⟨u', rfl⟩ : ∃ u', u = u' + 2 := ⟨u - 2, by omega⟩
            rw [f_Md_reign_L35, hh, bI_eq, if_pos hp, if_neg (show ¬ nI (b (tkp b t k)) = -1 from nI_ne_m1 (by omega)), g24, if_pos rfl]
            simp only [nm_k]
            rw [if_neg (show ¬ nI n = 16 from fun z => hn16 (nI_inj (b := 16) (by omega) (by decide) z)), g24, if_pos rfl, r2, bV_eq, nI_1]
            exact e1 J u'
        · have hFR : FRM S U S' U' n c m := ⟨r16.1, r16.2.1, fun y hy => by rw [r16.2.2 y hy]; exact u1 84 y (by omega)⟩
          have clsN : ∀ (J : Int32 → AS → Option (Int32 × AS)) (u : Nat), f_RuleReader_read_L46 J (u + 1) 1 (nI n) S = f_RuleReader_read_L46 J u 1 (nI (n + 1)) S' := fun J u => by rw [cls, r1, bI_eq]
          have refN : ∀ (J : Int32 → AS → Option (Int32 × AS)) (u : Nat), f_Md_reign_L35 J x1 (u + 1) (nI n) U = f_Md_reign_L35 J x1 u (nI (n + 1)) U' := fun J u => by
            rw [f_Md_reign_L35, hh, bI_eq, if_pos hp, if_neg (show ¬ nI (b (tkp b t k)) = -1 from nI_ne_m1 (by omega)), g24, if_pos rfl]
            simp only [nm_k]
            rw [if_neg (show ¬ nI n = 16 from fun z => hn16 (nI_inj (b := 16) (by omega) (by decide) z)), g24, if_pos rfl, r2, bV_eq, nI_1]
          have fU' : fr pMo U U' := ((fr_rf _ U).si (by unfold pMo; omega)).tr r6
          rcases ih (n + 1) k' a' S' U' (m + 3 + 3 * l) (c + l) (by omega) r3 r7 r8 r9 r10 (by omega) (hD.add hFR r14 r15) r11 r12 r13 (by omega) r17 with ⟨S2, V2, l2, d1, d2, e, x, y1, y2, y3, y4, y5⟩ | ⟨S2, V2, n2, m2, c2, d1, d2, d3, d4, d5⟩
          · left
            refine ⟨S2, V2, l2, fun J u hu => ?_, fun J u hu => ?_, e, x, (pCo_r r5).tr y1, y2, (pMo_r fU').tr y3, y4, y5⟩
            · obtain ⟨u', rfl⟩ : ∃ u', u = u' + 1 := ⟨u - 1, by omega⟩
              rw [clsN]; exact d1 J u' (by omega)
            · obtain ⟨u', rfl⟩ : ∃ u', u = u' + 1 := ⟨u - 1, by omega⟩
              rw [refN]; exact d2 J u' (by omega)
          · right
            refine ⟨S2, V2, n2, m2, c2, fun J u hu => ?_, fun J u hu => ?_, r5.tr d3, fU'.tr d4, d5⟩
            · obtain ⟨u', rfl⟩ : ∃ u', u = u' + 1 := ⟨u - 1, by omega⟩
              rw [clsN]; exact d1 J u' (by omega)
            · obtain ⟨u', rfl⟩ : ∃ u', u = u' + 1 := ⟨u - 1, by omega⟩
              rw [refN]; exact d2 J u' (by omega)
    · have e : k = N := by have := hC.2.1; omega
      subst e
      have ht : tkp b t k = t := hN.2.2.1
      right
      refine ⟨S, si U 70 22 (nI (tkp b t k)), n, m, c, fun J u hu => ?_, fun J u hu => ?_, fr_rf _ _, (fr_rf _ U).si (by unfold pMo; omega), hn, h4, h8, by rw [u1 70 21 (by omega)]; exact h21, hD.mv (fun _ _ _ _ => rfl) (fun x => u1 84 x (by omega)), hm, by omega⟩
      · obtain ⟨u', rfl⟩ : ∃ u', u = u' + 1 := ⟨u - 1, by omega⟩
        rw [f_RuleReader_read_L46, if_neg n16, if_neg ne10, hC.2.2.2, if_pos (show nI (cd b t (tkp b t k)) = 19 by rw [cd_19.mpr (by omega)]; rfl)]
      · obtain ⟨u', rfl⟩ : ∃ u', u = u' + 1 := ⟨u - 1, by omega⟩
        rw [if_neg (show ¬ tkp b t k < t by omega)] at hh
        rw [f_Md_reign_L35, hh, bI_eq, if_pos rfl]
/-- the class reads its text, the reference its own: they come out alike -/
theorem rd_both {S U : AS} {b : Nat → Nat} {t : Nat} {x1 : Int32} (hT : TX S b t) (hU : MR U b t 0) (h24 : gi U 70 24 = 0) (h21 : gi U 70 21 = 0) :
    (∃ S' U' l f x, f_RuleReader_read S = some (0, S') ∧ (∀ J : Int32 → AS → Option (Int32 × AS), f_Md_reign_L35 J x1 FU 0 U = J (nI l) U') ∧ fr (fun c k => pCr c k ∨ pTR c k) S S' ∧ FC S' f x ∧ fr pMr U U' ∧ FM U' f x ∧ (f = 1 ∨ f = 2)) ∨
    (∃ S' U' n m c, f_RuleReader_read S = some (1, S') ∧ (∀ J : Int32 → AS → Option (Int32 × AS), f_Md_reign_L35 J x1 FU 0 U = J (nI n) U') ∧ fr (fun c k => pCr c k ∨ pTR c k) S S' ∧ gi S' 3 4 = 0 ∧ gi S' 3 5 = -1 ∧ fr pMo U U' ∧ n ≤ 16 ∧ gi S' 4 4 = nI n ∧ gi U' 70 21 = nI m ∧ DRF S' U' n m c ∧ m ≤ 3 * (n + c) ∧ 7 * c ≤ 400) := by
  obtain ⟨N, hN1, hN2, hN3⟩ := tkp_N b t
  have h400 := hT.2.1
  have hN : NT b t N := ⟨h400, hN1, hN2, hN3⟩
  have f0 : fr (fun c k => pCr c k ∨ pTR c k) S (si (si (si (si S 3 4 0) 3 5 (-1)) 4 4 0) 4 8 0) := ((((fr_rf _ S).si (Or.inl (by unfold pCr; omega))).si (Or.inl (by unfold pCr; omega))).si (Or.inl (by unfold pCr; omega))).si (Or.inl (by unfold pCr; omega))
  obtain ⟨T, a1, a2, a3⟩ := scan_spec (S := si (si (si (si S 3 4 0) 3 5 (-1)) 4 4 0) 4 8 0) (hT.mv (fun c k hc => by rw [gi_si, if_neg (by omega), gi_si, if_neg (by omega), gi_si, if_neg (by omega), gi_si, if_neg (by omega)])) hN1 hN2 hN3
  have e0 : gi (si T 3 2 0) 13 (ix 0) = nI (cd b t (tkp b t 0)) := by rw [gi_si, if_neg (by omega)]; exact (a3.2.2.1 0 (by omega)).1
  have cls : ∀ r S', (∀ (J : Int32 → AS → Option (Int32 × AS)) (u : Nat), N + 1 + 2 < u → f_RuleReader_read_L46 J u 1 (nI 0) (adv T b t 0) = J r S') → (r = 0 ∨ r = 1) → f_RuleReader_read S = some (r, S') := fun r S' h hr => by
    unfold f_RuleReader_read f_RuleBook_clear
    simp only [nm_k]
    rw [bV_eq, a1, bV_eq, chk_pos (show vp_in 0 401 from in_nI (n := 0) (by decide) (by decide)), e0]
    have h1 := h (fun a7 S8 => chk (isb a7) (some (a7, S8))) FU (by rw [FU_succ]; omega)
    rw [nI_0] at h1
    have e : si (si T 3 2 0) 3 3 (nI (cd b t (tkp b t 0))) = adv T b t 0 := rfl
    rw [e, h1]
    rcases hr with hr | hr
    · rw [hr, chk_pos isb_0]
    · rw [hr, chk_pos isb_1]
  have ag : ∀ d i, ¬ (d = 3 ∧ (i = 2 ∨ i = 3)) → gi (adv T b t 0) d i = gi T d i := fun d i h => adv_gi _ _ _ _ _ _ h
  have t4 : ∀ c k, ¬ pTR c k → gi T c k = gi (si (si (si (si S 3 4 0) 3 5 (-1)) 4 4 0) 4 8 0) c k := a2.2.1
  have hC : CR (adv T b t 0) b t N 0 := ⟨a3.mv (fun c i x y => ag c i (by omega)), Nat.zero_le _, by unfold adv; rw [gi_si, if_neg (by omega), gi_si, if_pos ⟨rfl, rfl⟩], by unfold adv; rw [gi_si, if_pos ⟨rfl, rfl⟩]⟩
  have fA : fr (fun c k => pCr c k ∨ pTR c k) S (adv T b t 0) := adv_fr b t 0 (f0.tr (a2.mono (fun c k h => Or.inr h))) (Or.inl (by unfold pCr; omega)) (Or.inl (by unfold pCr; omega))
  have g44 : gi (adv T b t 0) 4 4 = nI 0 := by rw [ag 4 4 (by omega), t4 4 4 (by unfold pTR; omega), gi_si, if_neg (by omega), gi_si, if_pos ⟨rfl, rfl⟩]; rfl
  have g48 : gi (adv T b t 0) 4 8 = nI 0 := by rw [ag 4 8 (by omega), t4 4 8 (by unfold pTR; omega), gi_si, if_pos ⟨rfl, rfl⟩]; rfl
  have g34 : gi (adv T b t 0) 3 4 = 0 := by rw [ag 3 4 (by omega), t4 3 4 (by unfold pTR; omega), gi_si, if_neg (by omega), gi_si, if_neg (by omega), gi_si, if_neg (by omega), gi_si, if_pos ⟨rfl, rfl⟩]
  have g35 : gi (adv T b t 0) 3 5 = -1 := by rw [ag 3 5 (by omega), t4 3 5 (by unfold pTR; omega), gi_si, if_neg (by omega), gi_si, if_neg (by omega), gi_si, if_pos ⟨rfl, rfl⟩]
  rcases rs_loop hN (x1 := x1) (N + 1) 0 0 0 (adv T b t 0) U 0 0 (by omega) hC hU (Nat.zero_le _) rfl h24 (by omega) ⟨fun _ => 0, rfl, rfl, fun i hi => absurd hi (Nat.not_lt_zero i)⟩ g44 g48 h21 (by omega) (by omega) with ⟨S', U', l, d1, d2, e, x, y1, y2, y3, y4, y5, -⟩ | ⟨S', U', n, m, c, d1, d2, d3, d4, d5, d6, d7, d8, d9, d10, d11⟩
  · left
    refine ⟨S', U', l, e, x, cls 0 S' d1 (Or.inl rfl), fun J => ?_, fA.tr (y1.mono (fun c k h => Or.inl h)), y2, y3, y4, y5⟩
    have := d2 J FU (by rw [FU_succ]; omega)
    rw [nI_0] at this
    exact this
  · right
    refine ⟨S', U', n, m, c, cls 1 S' d1 (Or.inr rfl), fun J => ?_, fA.tr (d3.mono (fun c k h => Or.inl (by unfold pCo at h; unfold pCr; omega))), by rw [d3.2.1 3 4 (by unfold pCo; omega)]; exact g34, by rw [d3.2.1 3 5 (by unfold pCo; omega)]; exact g35, d4, d5, d6, d8, d9, d10, d11⟩
    have := d2 J FU (by rw [FU_succ]; omega)
    rw [nI_0] at this
    exact this
