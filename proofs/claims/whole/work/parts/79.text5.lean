def pCo (c k : Nat) : Prop := (c = 3 ∧ (k = 2 ∨ k = 3)) ∨ (c = 4 ∧ (k = 4 ∨ k = 8)) ∨ (5 ≤ c ∧ c ≤ 11)
def pMo (c k : Nat) : Prop := (c = 70 ∧ 21 ≤ k ∧ k ≤ 23) ∨ c = 84
theorem pCo_r {S T : AS} (h : fr pCo S T) : fr pCr S T := h.mono (fun c k h => by unfold pCo at h; unfold pCr; omega)
theorem pMo_r {S T : AS} (h : fr pMo S T) : fr pMr S T := h.mono (fun c k h => by unfold pMo at h; unfold pMr; omega)
theorem tkp_s {b : Nat → Nat} {t k : Nat} (h : tkp b t k < t) : tkp b t (k + 1) = scn isBl b t (en b t (tkp b t k)) := by rw [tkp, if_pos h]
theorem t85_fault {f : Int32} (hf : f = 1 ∨ f = 2) (J : Int32 → AS → Option (Int32 × AS)) (x1 c2 c3 : Int32) (n : Nat) (r7 r10 : Int32) (S : AS) (h24 : gi S 70 24 = f) : T85 J x1 c2 c3 (n + 1) r7 r10 S = J c2 S := by
  have hn0 : ¬ f = 0 := by rcases hf with e | e <;> rw [e] <;> decide
  have hn1 : ¬ f ≤ 0 := by rcases hf with e | e <;> rw [e] <;> decide
  unfold T85 T110
  rw [h24, if_neg hn0, if_neg hn1, t_stop _ _ _ _ _ _ (by rw [h24]; exact hn0)]
def FRM (S U S' U' : AS) (n c m : Nat) : Prop := (∀ d i, 5 ≤ d → d ≤ 8 → ¬ i = n → gi S' d i = gi S d i) ∧ (∀ d i, 9 ≤ d → d ≤ 11 → i < c → gi S' d i = gi S d i) ∧ ∀ x, x < m → gi U' 84 x = gi U 84 x
theorem FRM.tr {S U S' U' S2 U2 : AS} {n c m c' m' : Nat} (h : FRM S U S' U' n c m) (h2 : FRM S' U' S2 U2 n c' m') (hc : c ≤ c') (hm : m ≤ m') : FRM S U S2 U2 n c m := ⟨fun d i a b e => (h2.1 d i a b e).trans (h.1 d i a b e), fun d i a b e => (h2.2.1 d i a b (by omega)).trans (h.2.1 d i a b e), fun x hx => (h2.2.2 x (by omega)).trans (h.2.2 x hx)⟩
/-- how a part of the text comes out -/
def BAD (S U S' U' : AS) (b : Nat → Nat) (t : Nat) (f : Int32) (x : Nat) : Prop := fr pCr S S' ∧ FC S' f x ∧ fr pMr U U' ∧ FM U' f x ∧ (f = 1 ∨ f = 2) ∧ ∃ a', MR U' b t a' ∧ a' ≤ 406
theorem wlen_4 : ∀ w, w < 7 → 4 ≤ wlen w := by decide
theorem en_mark {b : Nat → Nat} {t p : Nat} (h : p < t ∧ (b p = 60 ∨ b p = 61 ∨ b p = 62)) : en b t p = p + 1 := by
  unfold en
  rw [if_neg (fun y => by have := (isL_iff _).mp y; omega), if_neg (fun y => by have := (isDg_iff _).mp y; omega)]
theorem vl_mark {b : Nat → Nat} {t p : Nat} (h : p < t ∧ (b p = 60 ∨ b p = 61 ∨ b p = 62)) : vl b t p = nI (b p) - 61 := by
  unfold vl
  rw [if_neg (fun y => by have := (isL_iff _).mp y; omega), if_neg (fun y => by have := (isDg_iff _).mp y; omega)]
  rcases h.2 with e | e | e <;> rw [e] <;> decide
theorem en_dig {b : Nat → Nat} {t p : Nat} (h : p < t ∧ isDg (b p) = true) : en b t p = nde b t 7 p ∧ vl b t p = ndv b t 7 p 0 ∧ p + 1 ≤ nde b t 7 p := by
  have h2 := (isDg_iff _).mp h.2
  have nl : ¬ isL (b p) = true := fun y => by have := (isL_iff _).mp y; omega
  refine ⟨by unfold en; rw [if_neg nl, if_pos h.2], by unfold vl; rw [if_neg nl, if_pos h.2], ?_⟩
  rw [nde, if_pos h.1, if_pos h.2]
  have := (nde_spec (b := b) (t := t) 6 (p + 1)).1
  omega
theorem ts_one {b : Nat → Nat} {t N : Nat} (hN : NT b t N) {S U : AS} {k a n c0 m0 q j last : Nat} {x1 : Int32} (hx : (x1 = 1 ∧ last = 6) ∨ (x1 = 0 ∧ last = 1)) (hC : CR S b t N k) (hU : MR U b t a) (hat : a ≤ t) (hak : scn isBl b t a = tkp b t k) (h24 : gi U 70 24 = 0) (h4 : gi S 4 4 = nI (n + 1)) (hn : n < 16) (h8 : gi S 4 8 = nI (c0 + j)) (hcj : c0 + j < 64) (h21 : gi U 70 21 = nI (m0 + 3 + 3 * j)) (hm : m0 + 3 + 3 * j + 3 ≤ 600) (hR : RUL S U n m0 q j c0) (hq : ¬ q = 4 → last = 1) :
    (∃ S' U' f x, f_RuleReader_readTest (nI last) S = some (0, S') ∧ (∀ (J : Int32 → AS → Option (Int32 × AS)) (n' : Nat), f_Md_tests_L4 J x1 (n' + 2) (nI j) 1 U = J (nI j) U') ∧ BAD S U S' U' b t f x) ∨
    (∃ S' U' U2, f_RuleReader_readTest (nI last) S = some (1, S') ∧ CR S' b t N (k + 3) ∧ fr pCr S S' ∧ cd b t (tkp b t (k + 3)) = 15 ∧ (∀ (J : Int32 → AS → Option (Int32 × AS)) (n' : Nat), f_Md_tests_L4 J x1 (n' + 2) (nI j) 1 U = J (nI j) U') ∧ BAD S U U2 U' b t 1 (tkp b t (k + 3))) ∨
    (∃ S' U' a', f_RuleReader_readTest (nI last) S = some (1, S') ∧ CR S' b t N (k + 3) ∧ fr pCo S S' ∧ (∀ (J : Int32 → AS → Option (Int32 × AS)) (n' : Nat), f_Md_tests_L4 J x1 (n' + 1) (nI j) 1 U = bI (f_Md_passes 6385252 3 U') fun r17 S16 => f_Md_tests_L4 J x1 n' (nI (j + 1)) r17 S16) ∧ fr pMo U U' ∧ MR U' b t a' ∧ a' ≤ t ∧ scn isBl b t a' = tkp b t (k + 3) ∧ gi U' 70 24 = 0 ∧ gi S' 4 4 = nI (n + 1) ∧ gi S' 4 8 = nI (c0 + (j + 1)) ∧ gi U' 70 21 = nI (m0 + 3 + 3 * (j + 1)) ∧ RUL S' U' n m0 q (j + 1) c0 ∧ FRM S U S' U' n (c0 + j) (m0 + 3 + 3 * j) ∧ tkp b t k + 6 ≤ tkp b t (k + 3)) := by
  obtain ⟨hN0, hN1, hN2, hN3⟩ := id hN
  have c19 := cd_le (b := b) (t := t) (p := tkp b t k)
  have hpt := tkp_le b t k
  have hid := tkp_idem b t k
  have hU0 : MR (si U 70 22 (nI (tkp b t k))) b t (tkp b t k) := hU.at (by omega)
  have g24 : gi (si U 70 22 (nI (tkp b t k))) 70 24 = 0 := by rw [gi_si, if_neg (by omega)]; exact h24
  have g22 : gi (si U 70 22 (nI (tkp b t k))) 70 22 = nI (tkp b t k) := by rw [gi_si, if_pos ⟨rfl, rfl⟩]
  have start : ∀ (J : Int32 → AS → Option (Int32 × AS)) (n' : Nat), f_Md_tests_L4 J x1 (n' + 1) (nI j) 1 U = bI (f_Md_subject (si U 70 22 (nI (tkp b t k)))) fun r7 S6 => if x1 = 0 then (if r7 ≤ 1 then T49 J x1 (nI j) 1 n' r7 S6 else bV (f_Md_blame 2 (nI (tkp b t k)) S6) fun S21 => T49 J x1 (nI j) 1 n' r7 S21) else T49 J x1 (nI j) 1 n' r7 S6 := fun J n' => by
    rw [t_unf J x1 (nI j) 1 n' U ne10 h24, here_spec hU, bI_eq, hak, g22]
  have hsub := subj_spec hU0
  rw [hid, si_si] at hsub
  have f0 : fr pMr U (si U 70 22 (nI (tkp b t k))) := (fr_rf _ U).si (by unfold pMr; omega)
  by_cases hc6 : cd b t (tkp b t k) ≤ 6
  rotate_left
  · -- no subject
    left
    obtain ⟨S', s1, s2, s3⟩ := fail_spec hC 1
    rw [if_neg hc6, si_si, blame_spec, g24, if_pos (by decide), bV_eq] at hsub
    have hV : MR (si (si (si U 70 22 (nI (tkp b t k))) 70 24 1) 70 25 (nI (tkp b t k))) b t (tkp b t k) := hU0.mv (fun c i hc => by rw [gi_si, if_neg (by omega), gi_si, if_neg (by omega)])
    have hF : FM (si (si (si U 70 22 (nI (tkp b t k))) 70 24 1) 70 25 (nI (tkp b t k))) 1 (tkp b t k) := ⟨by rw [gi_si, if_neg (by omega), gi_si, if_pos ⟨rfl, rfl⟩], by rw [gi_si, if_pos ⟨rfl, rfl⟩]⟩
    have fV : fr pMr U (si (si (si U 70 22 (nI (tkp b t k))) 70 24 1) 70 25 (nI (tkp b t k))) := (f0.si (by unfold pMr; omega)).si (by unfold pMr; omega)
    obtain ⟨U', u1, u2, u3, u4⟩ := t_fault (Or.inl rfl) x1 (nI j) 1 0 _ hV (by omega) hF
    refine ⟨S', U', 1, tkp b t k, ?_, fun J n' => ?_, s2, s3, fV.tr u2, u3, Or.inl rfl, u4⟩
    · unfold f_RuleReader_readTest
      simp only [nm_k]
      rw [hC.2.2.2, if_neg (nI_ge (by omega) (by omega)), if_neg (show ¬ nI (cd b t (tkp b t k)) ≤ 6 from nI_ge (a := 6) (by omega) (by omega)), s1, bI_eq, chk_pos isb_0]
    · rw [start, hsub, bI_eq, if_pos (show (0 : Int32) ≤ 1 by decide), u1]
      exact ite_self _
  rw [if_pos hc6] at hsub
  have hkN := cd_end hN hC.2.1 (by omega)
  have hp := hN3 k hkN
  have hmt := (cd_word (b := b) (t := t) (p := tkp b t k) (w := cd b t (tkp b t k)) (by omega)).mp rfl
  have hen := (en_word (by omega) hmt).2
  have hw4 := wlen_4 (cd b t (tkp b t k)) (by omega)
  have hen2 := (en_gt (b := b) hp).2
  have hU6 : MR (si U 70 22 (nI (en b t (tkp b t k)))) b t (en b t (tkp b t k)) := hU.at (by omega)
  have g624 : gi (si U 70 22 (nI (en b t (tkp b t k)))) 70 24 = 0 := by rw [gi_si, if_neg (by omega)]; exact h24
  have f6 : fr pMr U (si U 70 22 (nI (en b t (tkp b t k)))) := (fr_rf _ U).si (by unfold pMr; omega)
  by_cases hcl : cd b t (tkp b t k) ≤ last
  rotate_left
  · -- a subject that may not stand here
    left
    have hx0 : x1 = 0 ∧ last = 1 := by
      rcases hx with h | h
      · omega
      · exact h
    obtain ⟨S', s1, s2, s3⟩ := fail_spec hC 2
    have hV : MR (si (si (si U 70 22 (nI (en b t (tkp b t k)))) 70 24 2) 70 25 (nI (tkp b t k))) b t (en b t (tkp b t k)) := hU6.mv (fun c i hc => by rw [gi_si, if_neg (by omega), gi_si, if_neg (by omega)])
    have hF : FM (si (si (si U 70 22 (nI (en b t (tkp b t k)))) 70 24 2) 70 25 (nI (tkp b t k))) 2 (tkp b t k) := ⟨by rw [gi_si, if_neg (by omega), gi_si, if_pos ⟨rfl, rfl⟩], by rw [gi_si, if_pos ⟨rfl, rfl⟩]⟩
    have fV : fr pMr U (si (si (si U 70 22 (nI (en b t (tkp b t k)))) 70 24 2) 70 25 (nI (tkp b t k))) := (f6.si (by unfold pMr; omega)).si (by unfold pMr; omega)
    obtain ⟨U', u1, u2, u3, u4⟩ := t_fault (Or.inr rfl) x1 (nI j) 1 (nI (cd b t (tkp b t k))) _ hV (by omega) hF
    refine ⟨S', U', 2, tkp b t k, ?_, fun J n' => ?_, s2, s3, fV.tr u2, u3, Or.inr rfl, u4⟩
    · unfold f_RuleReader_readTest
      simp only [nm_k]
      rw [hC.2.2.2, if_neg (nI_ge (by omega) (by omega)), if_pos (show nI (cd b t (tkp b t k)) ≤ 6 from nI_le (b := 6) (by omega) (by decide)), s1, bI_eq, chk_pos isb_0]
    · rw [start, hsub, bI_eq, if_pos hx0.1, if_neg (show ¬ nI (cd b t (tkp b t k)) ≤ 1 from nI_ge (a := 1) (by omega) (by omega)), blame_spec, g624, if_pos (by decide), bV_eq, u1]
  -- the subject is well
  have start2 : ∀ (J : Int32 → AS → Option (Int32 × AS)) (n' : Nat), f_Md_tests_L4 J x1 (n' + 1) (nI j) 1 U = T49 J x1 (nI j) 1 n' (nI (cd b t (tkp b t k))) (si U 70 22 (nI (en b t (tkp b t k)))) := fun J n' => by
    rw [start, hsub, bI_eq]
    rcases hx with h | h
    · rw [if_neg (by rw [h.1]; decide)]
    · rw [if_pos h.1, if_pos (show nI (cd b t (tkp b t k)) ≤ 1 from nI_le (b := 1) (by omega) (by decide))]
  have e1 : scn isBl b t (en b t (tkp b t k)) = tkp b t (k + 1) := (tkp_s hp).symm
  have hpt1 := tkp_le b t (k + 1)
  have hh1 := here_spec hU6
  rw [e1, si_si] at hh1
  have hU7 : MR (si U 70 22 (nI (tkp b t (k + 1)))) b t (tkp b t (k + 1)) := hU.at (by omega)
  have g724 : gi (si U 70 22 (nI (tkp b t (k + 1)))) 70 24 = 0 := by rw [gi_si, if_neg (by omega)]; exact h24
  have g722 : gi (si U 70 22 (nI (tkp b t (k + 1)))) 70 22 = nI (tkp b t (k + 1)) := by rw [gi_si, if_pos ⟨rfl, rfl⟩]
  obtain ⟨s1, hC1⟩ := adv_spec hC hkN
  have hps := pass_spec (w := 16) hC1 hN (by decide)
  have g32 : gi (adv S b t (k + 1)) 3 2 = nI (k + 1) := hC1.2.2.1
  have hin1 : vp_in (nI (k + 1)) 401 := in_nI (by omega) (by decide)
  have hk400 : k + 1 ≤ 401 := by omega
  have clsA : f_RuleReader_readTest (nI last) S = bI (f_RuleReader_pass 16 (adv S b t (k + 1))) fun r5 S4 => if r5 = 0 then some (0, S4) else chk (vp_in (gi S4 3 2) 401) (nm (gi S4 15 (ix (gi S4 3 2))) fun v6 => bI (f_RuleReader_pass 15 S4) fun r8 S7 => if r8 = 0 then some (0, S7) else bV (f_RuleBook_addTest 4 (nI (cd b t (tkp b t k))) (gi (adv S b t (k + 1)) 15 (k + 1)) v6 S7) fun S9 => some (1, S9)) := by
    unfold f_RuleReader_readTest
    simp only [nm_k]
    rw [hC.2.2.2, if_pos (nI_le hcl (by omega)), s1, bV_eq, g32, chk_pos hin1, ix_nI (by omega)]
  have fA1 : fr pCo S (adv S b t (k + 1)) := adv_fr b t (k + 1) (fr_rf _ S) (by unfold pCo; omega) (by unfold pCo; omega)
  by_cases h16 : cd b t (tkp b t (k + 1)) = 16
  rotate_left
  · -- no sign
    left
    obtain ⟨S', w1, w2, w3⟩ := hps.2 h16
    have fV : fr pMr U (si (si (si (si U 70 22 (nI (tkp b t (k + 1)))) 70 24 1) 70 25 (nI (tkp b t (k + 1)))) 70 22 (nI (tkp b t (k + 1) + 1))) := ((((fr_rf _ U).si (by unfold pMr; omega)).si (by unfold pMr; omega)).si (by unfold pMr; omega)).si (by unfold pMr; omega)
    have hV0 : MR (si (si (si U 70 22 (nI (tkp b t (k + 1)))) 70 24 1) 70 25 (nI (tkp b t (k + 1)))) b t (tkp b t (k + 1)) := hU7.mv (fun c i hc => by rw [gi_si, if_neg (by omega), gi_si, if_neg (by omega)])
    have hV := hV0.at (show tkp b t (k + 1) + 1 ≤ 1000 by omega)
    have hF : FM (si (si (si (si U 70 22 (nI (tkp b t (k + 1)))) 70 24 1) 70 25 (nI (tkp b t (k + 1)))) 70 22 (nI (tkp b t (k + 1) + 1))) 1 (tkp b t (k + 1)) := ⟨by rw [gi_si, if_neg (by omega), gi_si, if_neg (by omega), gi_si, if_pos ⟨rfl, rfl⟩], by rw [gi_si, if_neg (by omega), gi_si, if_pos ⟨rfl, rfl⟩]⟩
    refine ⟨S', _, 1, tkp b t (k + 1), by rw [clsA, show (16 : Int32) = nI 16 from rfl, w1, bI_eq, if_pos rfl], fun J n' => ?_, (pCo_r fA1).tr w2, w3, fV, hF, Or.inl rfl, _, hV, by omega⟩
    rw [start2 J (n' + 1)]
    unfold T49
    rw [hh1, bI_eq, if_neg (fun y => h16 (cd_16.mpr (by
      by_cases z : tkp b t (k + 1) < t
      · rw [if_pos z] at y
        have hb := (hU.2.2.1 (tkp b t (k + 1))).2
        refine ⟨z, ?_⟩
        rcases y with y | y | y
        · exact Or.inl (nI_inj (b := 60) (by omega) (by decide) y)
        · exact Or.inr (Or.inr (nI_inj (b := 62) (by omega) (by decide) y))
        · exact Or.inr (Or.inl (nI_inj (b := 61) (by omega) (by decide) y))
      · rw [if_neg z] at y
        exact absurd y (by decide)))), g722, blame_spec, g724, if_pos (by decide), bV_eq, hV0.2.2.2.1, nI_1, t85_fault (Or.inl rfl) J x1 (nI j) 1 n' _ _ _ hF.1]
  -- the sign is well
  obtain ⟨hk1, w1, hC2⟩ := hps.1 h16
  have h16' := cd_16.mp h16
  have hb1 := (hU.2.2.1 (tkp b t (k + 1))).2
  have hen1 := en_mark h16'
  have e2 : scn isBl b t (tkp b t (k + 1) + 1) = tkp b t (k + 2) := by rw [← hen1]; exact (tkp_s h16'.1).symm
  have hpt2 := tkp_le b t (k + 2)
  have hU8 : MR (si U 70 22 (nI (tkp b t (k + 1) + 1))) b t (tkp b t (k + 1) + 1) := hU.at (by omega)
  have g824 : gi (si U 70 22 (nI (tkp b t (k + 1) + 1))) 70 24 = 0 := by rw [gi_si, if_neg (by omega)]; exact h24
  obtain ⟨dg1, dg2, dg3⟩ := dg_spec hU8 g824
  rw [e2] at dg1 dg2 dg3
  have start3 : ∀ (J : Int32 → AS → Option (Int32 × AS)) (n' : Nat), f_Md_tests_L4 J x1 (n' + 1) (nI j) 1 U = bI (f_Md_digits (si U 70 22 (nI (tkp b t (k + 1) + 1)))) fun r19 S18 => T110 J x1 (nI j) 1 n' (nI (cd b t (tkp b t k))) (nI (b (tkp b t (k + 1)))) r19 S18 := fun J n' => by
    rw [start2 J n']
    unfold T49
    rw [hh1, bI_eq, if_pos h16'.1, if_pos (by
      rcases h16'.2 with z | z | z
      · left; rw [z]; rfl
      · right; right; rw [z]; rfl
      · right; left; rw [z]; rfl), g722, nI_1, si_si]
    unfold T85
    rw [g824, if_pos rfl]
  have clsB : f_RuleReader_readTest (nI last) S = bI (f_RuleReader_pass 15 (adv (adv S b t (k + 1)) b t (k + 2))) fun r8 S7 => if r8 = 0 then some (0, S7) else bV (f_RuleBook_addTest 4 (nI (cd b t (tkp b t k))) (vl b t (tkp b t (k + 1))) (gi (adv (adv S b t (k + 1)) b t (k + 2)) 15 (k + 2)) S7) fun S9 => some (1, S9) := by
    have g33 : gi (adv (adv S b t (k + 1)) b t (k + 1 + 1)) 3 2 = nI (k + 2) := hC2.2.2.1
    rw [clsA, show (16 : Int32) = nI 16 from rfl, w1, bI_eq, if_neg ne10, g33, chk_pos (in_nI (by omega) (by decide)), ix_nI (by omega), hC1.1.2.2.2 (k + 1) hk1]
    simp only [nm_k]
  have hps2 := pass_spec (w := 15) hC2 hN (by decide)
  have fA2 : fr pCo S (adv (adv S b t (k + 1)) b t (k + 2)) := adv_fr b t (k + 2) fA1 (by unfold pCo; omega) (by unfold pCo; omega)
  by_cases h15 : cd b t (tkp b t (k + 2)) = 15
  rotate_left
  · -- no number
    left
    obtain ⟨S', v1, v2, v3⟩ := hps2.2 h15
    have hV : MR (si (si (si (si U 70 22 (nI (tkp b t (k + 1) + 1))) 70 22 (nI (tkp b t (k + 2)))) 70 24 1) 70 25 (nI (tkp b t (k + 2)))) b t (tkp b t (k + 2)) := ((hU8.at (show tkp b t (k + 2) ≤ 1000 by omega)).mv (fun c i hc => by rw [gi_si, if_neg (by omega), gi_si, if_neg (by omega)]))
    have hF : FM (si (si (si (si U 70 22 (nI (tkp b t (k + 1) + 1))) 70 22 (nI (tkp b t (k + 2)))) 70 24 1) 70 25 (nI (tkp b t (k + 2)))) 1 (tkp b t (k + 2)) := ⟨by rw [gi_si, if_neg (by omega), gi_si, if_pos ⟨rfl, rfl⟩], by rw [gi_si, if_pos ⟨rfl, rfl⟩]⟩
    refine ⟨S', _, 1, tkp b t (k + 2), by rw [clsB, show (15 : Int32) = nI 15 from rfl, v1, bI_eq, if_pos rfl], fun J n' => ?_, (pCo_r fA2).tr v2, v3, ((((fr_rf _ U).si (by unfold pMr; omega)).si (by unfold pMr; omega)).si (by unfold pMr; omega)).si (by unfold pMr; omega), hF, Or.inl rfl, _, hV, by omega⟩
    rw [start3 J (n' + 1), dg1 h15, bI_eq]
    unfold T110
    rw [hF.1, if_neg (by decide), t_stop _ _ _ _ _ _ (by rw [hF.1]; decide)]
  -- the number is well
  obtain ⟨hk2, v1, hC3⟩ := hps2.1 h15
  have h15' := cd_15.mp h15
  obtain ⟨ed1, ed2, ed3⟩ := en_dig h15'
  have e3 : scn isBl b t (nde b t 7 (tkp b t (k + 2))) = tkp b t (k + 3) := by rw [← ed1]; exact (tkp_s h15'.1).symm
  have hpt3 := tkp_le b t (k + 3)
  have fA3 : fr pCo S (adv (adv (adv S b t (k + 1)) b t (k + 2)) b t (k + 3)) := adv_fr b t (k + 3) fA2 (by unfold pCo; omega) (by unfold pCo; omega)
  have ag : ∀ c i, ¬ (c = 3 ∧ (i = 2 ∨ i = 3)) → gi (adv (adv (adv S b t (k + 1)) b t (k + 2)) b t (k + 3)) c i = gi S c i := fun c i h => by rw [adv_gi _ _ _ _ _ _ h, adv_gi _ _ _ _ _ _ h, adv_gi _ _ _ _ _ _ h]
  have clsC : f_RuleReader_readTest (nI last) S = some (1, si (si (si (si (si (adv (adv (adv S b t (k + 1)) b t (k + 2)) b t (k + 3)) 9 (c0 + j) (nI (cd b t (tkp b t k)))) 10 (c0 + j) (vl b t (tkp b t (k + 1)))) 11 (c0 + j) (vl b t (tkp b t (k + 2)))) 4 8 (nI (c0 + j + 1))) 8 n (nI (c0 + j + 1))) := by
    have v1' : f_RuleReader_pass 15 (adv (adv S b t (k + 1)) b t (k + 2)) = some (1, adv (adv (adv S b t (k + 1)) b t (k + 2)) b t (k + 3)) := v1
    rw [clsB, v1', bI_eq, if_neg ne10, show gi (adv (adv S b t (k + 1)) b t (k + 2)) 15 (k + 2) = vl b t (tkp b t (k + 2)) from hC2.1.2.2.2 (k + 2) hk2, addT_spec hn hcj (by rw [ag 4 4 (by omega)]; exact h4) (by rw [ag 4 8 (by omega)]; exact h8), bV_eq]
  have hC3' : CR (adv (adv (adv S b t (k + 1)) b t (k + 2)) b t (k + 3)) b t N (k + 3) := hC3
  generalize hSA : adv (adv (adv S b t (k + 1)) b t (k + 2)) b t (k + 3) = SA at ag clsC hC3' fA3
  have fS' : fr pCo S (si (si (si (si (si SA 9 (c0 + j) (nI (cd b t (tkp b t k)))) 10 (c0 + j) (vl b t (tkp b t (k + 1)))) 11 (c0 + j) (vl b t (tkp b t (k + 2)))) 4 8 (nI (c0 + j + 1))) 8 n (nI (c0 + j + 1))) := ((((fA3.si (by unfold pCo; omega)).si (by unfold pCo; omega)).si (by unfold pCo; omega)).si (by unfold pCo; omega)).si (by unfold pCo; omega)
  have hCS : CR (si (si (si (si (si SA 9 (c0 + j) (nI (cd b t (tkp b t k)))) 10 (c0 + j) (vl b t (tkp b t (k + 1)))) 11 (c0 + j) (vl b t (tkp b t (k + 2)))) 4 8 (nI (c0 + j + 1))) 8 n (nI (c0 + j + 1))) b t N (k + 3) := hC3'.mv (fun c i hc => by rw [gi_si, if_neg (by omega), gi_si, if_neg (by omega), gi_si, if_neg (by omega), gi_si, if_neg (by omega), gi_si, if_neg (by omega)])
  by_cases ho : ovf b t 7 (tkp b t (k + 2))
  · -- an eighth digit
    right; left
    obtain ⟨v', V', x1', x2, x3, x4⟩ := dg3 h15 ho
    have hnb : ¬ isBl (b (nde b t 7 (tkp b t (k + 2)))) = true := fun y => by
      have d := (isDg_iff _).mp ho.2.2
      have := (isBl_iff _).mp y
      omega
    have e3' : tkp b t (k + 3) = nde b t 7 (tkp b t (k + 2)) := by rw [← e3, scn_stop hnb]
    obtain ⟨S2, z1, z2, z3⟩ := fail_spec hCS 1
    have hnd := (nde_spec (b := b) (t := t) 7 (tkp b t (k + 2))).2.2.1 (by omega)
    refine ⟨_, V', S2, clsC, hCS, pCo_r fS', by rw [e3']; exact cd_15.mpr ho.2, fun J n' => ?_, (pCo_r fS').tr z2, z3, ((fr_rf _ U).si (by unfold pMr; omega)).tr x2, by rw [e3']; exact x4, Or.inl rfl, _, x3, by omega⟩
    rw [start3 J (n' + 1), x1', bI_eq]
    unfold T110
    rw [x4.1, if_neg (by decide), t_stop _ _ _ _ _ _ (by rw [x4.1]; decide)]
  · -- all is well
    right; right
    have hnd := (nde_spec (b := b) (t := t) 7 (tkp b t (k + 2))).2.2.1 (by omega)
    have hd := dg2 h15 ho
    rw [si_si] at hd
    have h21' : gi (si U 70 22 (nI (nde b t 7 (tkp b t (k + 2))))) 70 21 = nI (m0 + 3 + 3 * j) := by rw [gi_si, if_neg (by omega)]; exact h21
    have h24' : gi (si U 70 22 (nI (nde b t 7 (tkp b t (k + 2))))) 70 24 = 0 := by rw [gi_si, if_neg (by omega)]; exact h24
    have hUe : MR (si U 70 22 (nI (nde b t 7 (tkp b t (k + 2))))) b t (nde b t 7 (tkp b t (k + 2))) := hU.at (by omega)
    have u84 : ∀ x, gi (si U 70 22 (nI (nde b t 7 (tkp b t (k + 2))))) 84 x = gi U 84 x := fun x => by rw [gi_si, if_neg (by omega)]
    have fUe : fr pMo U (si U 70 22 (nI (nde b t 7 (tkp b t (k + 2))))) := (fr_rf _ U).si (by unfold pMo; omega)
    generalize si U 70 22 (nI (nde b t 7 (tkp b t (k + 2)))) = UE at hd h21' h24' hUe u84 fUe
    have w84 : ∀ x, gi (si (si (si (si UE 84 (m0 + 3 + 3 * j) (nI (cd b t (tkp b t k)))) 84 (m0 + 3 + 3 * j + 1) (nI (b (tkp b t (k + 1))))) 84 (m0 + 3 + 3 * j + 2) (ndv b t 7 (tkp b t (k + 2)) 0)) 70 21 (nI (m0 + 3 + 3 * j + 3))) 84 x = if x = m0 + 3 + 3 * j + 2 then ndv b t 7 (tkp b t (k + 2)) 0 else if x = m0 + 3 + 3 * j + 1 then nI (b (tkp b t (k + 1))) else if x = m0 + 3 + 3 * j then nI (cd b t (tkp b t k)) else gi U 84 x := fun x => by
      rw [gi_si, if_neg (by omega), gi_si]
      by_cases y2 : x = m0 + 3 + 3 * j + 2
      · rw [if_pos ⟨rfl, y2⟩, if_pos y2]
      · rw [if_neg (fun z => y2 z.2), if_neg y2, gi_si]
        by_cases y1 : x = m0 + 3 + 3 * j + 1
        · rw [if_pos ⟨rfl, y1⟩, if_pos y1]
        · rw [if_neg (fun z => y1 z.2), if_neg y1, gi_si]
          by_cases y0 : x = m0 + 3 + 3 * j
          · rw [if_pos ⟨rfl, y0⟩, if_pos y0]
          · rw [if_neg (fun z => y0 z.2), if_neg y0, u84]
    have sA : ∀ d i, 9 ≤ d → d ≤ 11 → gi (si (si (si (si (si SA 9 (c0 + j) (nI (cd b t (tkp b t k)))) 10 (c0 + j) (vl b t (tkp b t (k + 1)))) 11 (c0 + j) (vl b t (tkp b t (k + 2)))) 4 8 (nI (c0 + j + 1))) 8 n (nI (c0 + j + 1))) d i = if i = c0 + j then (if d = 9 then nI (cd b t (tkp b t k)) else if d = 10 then vl b t (tkp b t (k + 1)) else vl b t (tkp b t (k + 2))) else gi S d i := fun d i d1 d2 => by
      rw [gi_si, if_neg (by omega), gi_si, if_neg (by omega)]
      by_cases y : i = c0 + j
      · subst y
        rw [if_pos rfl, gi_si]
        by_cases z11 : d = 11
        · rw [if_pos ⟨z11, rfl⟩, if_neg (by omega), if_neg (by omega)]
        · rw [if_neg (by omega), gi_si]
          by_cases z10 : d = 10
          · rw [if_pos ⟨z10, rfl⟩, if_neg (by omega), if_pos z10]
          · rw [if_neg (by omega), gi_si, if_pos ⟨by omega, rfl⟩, if_pos (by omega)]
      · rw [if_neg y, gi_si, if_neg (fun z => y z.2), gi_si, if_neg (fun z => y z.2), gi_si, if_neg (fun z => y z.2), ag d i (by omega)]
    have sB : ∀ d i, 5 ≤ d → d ≤ 8 → gi (si (si (si (si (si SA 9 (c0 + j) (nI (cd b t (tkp b t k)))) 10 (c0 + j) (vl b t (tkp b t (k + 1)))) 11 (c0 + j) (vl b t (tkp b t (k + 2)))) 4 8 (nI (c0 + j + 1))) 8 n (nI (c0 + j + 1))) d i = if d = 8 ∧ i = n then nI (c0 + j + 1) else gi S d i := fun d i d1 d2 => by
      rw [gi_si]
      by_cases y : d = 8 ∧ i = n
      · rw [if_pos y, if_pos y]
      · rw [if_neg y, if_neg y, gi_si, if_neg (by omega), gi_si, if_neg (by omega), gi_si, if_neg (by omega), gi_si, if_neg (by omega), ag d i (by omega)]
    have s44 : gi (si (si (si (si (si SA 9 (c0 + j) (nI (cd b t (tkp b t k)))) 10 (c0 + j) (vl b t (tkp b t (k + 1)))) 11 (c0 + j) (vl b t (tkp b t (k + 2)))) 4 8 (nI (c0 + j + 1))) 8 n (nI (c0 + j + 1))) 4 4 = nI (n + 1) := by
      rw [gi_si, if_neg (by omega), gi_si, if_neg (by omega), gi_si, if_neg (by omega), gi_si, if_neg (by omega), gi_si, if_neg (by omega), ag 4 4 (by omega)]; exact h4
    have s48 : gi (si (si (si (si (si SA 9 (c0 + j) (nI (cd b t (tkp b t k)))) 10 (c0 + j) (vl b t (tkp b t (k + 1)))) 11 (c0 + j) (vl b t (tkp b t (k + 2)))) 4 8 (nI (c0 + j + 1))) 8 n (nI (c0 + j + 1))) 4 8 = nI (c0 + (j + 1)) := by
      rw [gi_si, if_neg (by omega), gi_si, if_pos ⟨rfl, rfl⟩]; rfl
    generalize si (si (si (si (si SA 9 (c0 + j) (nI (cd b t (tkp b t k)))) 10 (c0 + j) (vl b t (tkp b t (k + 1)))) 11 (c0 + j) (vl b t (tkp b t (k + 2)))) 4 8 (nI (c0 + j + 1))) 8 n (nI (c0 + j + 1)) = SZ at clsC fS' hCS sA sB s44 s48
    have hUf : MR (si (si (si (si UE 84 (m0 + 3 + 3 * j) (nI (cd b t (tkp b t k)))) 84 (m0 + 3 + 3 * j + 1) (nI (b (tkp b t (k + 1))))) 84 (m0 + 3 + 3 * j + 2) (ndv b t 7 (tkp b t (k + 2)) 0)) 70 21 (nI (m0 + 3 + 3 * j + 3))) b t (nde b t 7 (tkp b t (k + 2))) := hUe.mv (fun c i hc => by rw [gi_si, if_neg (by omega), gi_si, if_neg (by omega), gi_si, if_neg (by omega), gi_si, if_neg (by omega)])
    have fUf : fr pMo U (si (si (si (si UE 84 (m0 + 3 + 3 * j) (nI (cd b t (tkp b t k)))) 84 (m0 + 3 + 3 * j + 1) (nI (b (tkp b t (k + 1))))) 84 (m0 + 3 + 3 * j + 2) (ndv b t 7 (tkp b t (k + 2)) 0)) 70 21 (nI (m0 + 3 + 3 * j + 3))) := (((fUe.si (by unfold pMo; omega)).si (by unfold pMo; omega)).si (by unfold pMo; omega)).si (by unfold pMo; omega)
    have hadd := madd_spec (U := UE) hm h21' (nI (cd b t (tkp b t k))) (nI (b (tkp b t (k + 1)))) (ndv b t 7 (tkp b t (k + 2)) 0)
    have z24 : gi (si (si (si (si UE 84 (m0 + 3 + 3 * j) (nI (cd b t (tkp b t k)))) 84 (m0 + 3 + 3 * j + 1) (nI (b (tkp b t (k + 1))))) 84 (m0 + 3 + 3 * j + 2) (ndv b t 7 (tkp b t (k + 2)) 0)) 70 21 (nI (m0 + 3 + 3 * j + 3))) 70 24 = 0 := by
      rw [gi_si, if_neg (by omega), gi_si, if_neg (by omega), gi_si, if_neg (by omega), gi_si, if_neg (by omega)]; exact h24'
    have z21 : gi (si (si (si (si UE 84 (m0 + 3 + 3 * j) (nI (cd b t (tkp b t k)))) 84 (m0 + 3 + 3 * j + 1) (nI (b (tkp b t (k + 1))))) 84 (m0 + 3 + 3 * j + 2) (ndv b t 7 (tkp b t (k + 2)) 0)) 70 21 (nI (m0 + 3 + 3 * j + 3))) 70 21 = nI (m0 + 3 + 3 * (j + 1)) := by
      rw [gi_si, if_pos ⟨rfl, rfl⟩, show m0 + 3 + 3 * j + 3 = m0 + 3 + 3 * (j + 1) by omega]
    generalize si (si (si (si UE 84 (m0 + 3 + 3 * j) (nI (cd b t (tkp b t k)))) 84 (m0 + 3 + 3 * j + 1) (nI (b (tkp b t (k + 1))))) 84 (m0 + 3 + 3 * j + 2) (ndv b t 7 (tkp b t (k + 2)) 0)) 70 21 (nI (m0 + 3 + 3 * j + 3)) = UZ at w84 hUf fUf hadd z24 z21
    refine ⟨SZ, UZ, nde b t 7 (tkp b t (k + 2)), clsC, hCS, fS', fun J n' => ?_, fUf, hUf, hnd, e3, z24, s44, s48, z21, ?_, ⟨fun d i d1 d2 d3 => by rw [sB d i d1 d2, if_neg (fun z => d3 z.2)], fun d i d1 d2 d3 => by rw [sA d i d1 d2, if_neg (by omega)], fun x hx => by rw [w84 x, if_neg (by omega), if_neg (by omega), if_neg (by omega)]⟩, ?_⟩
    · rw [start3 J n', hd, bI_eq]
      unfold T110
      rw [h24', if_pos (by decide), hadd, bV_eq, nI_1]
    · obtain ⟨r1, r2, r3, r4, r5, r6, r7, r8, r9⟩ := hR
      have w84' : ∀ x, x < m0 + 3 + 3 * j → gi UZ 84 x = gi U 84 x := fun x hx => by rw [w84 x, if_neg (by omega), if_neg (by omega), if_neg (by omega)]
      refine ⟨by rw [w84' _ (by omega)]; exact r1, r2, by rw [w84' _ (by omega)]; exact r3, by rw [w84' _ (by omega)]; exact r4, by rw [sB 5 n (by omega) (by omega), if_neg (by omega)]; exact r5, by rw [sB 6 n (by omega) (by omega), if_neg (by omega), w84' _ (by omega)]; exact r6, by rw [sB 7 n (by omega) (by omega), if_neg (by omega)]; exact r7, by rw [sB 8 n (by omega) (by omega), if_pos ⟨rfl, rfl⟩]; rfl, fun i hi => ?_⟩
      by_cases y : i = j
      · subst y
        rw [show m0 + 3 * (i + 1) = m0 + 3 + 3 * i by omega, w84, w84, w84, if_neg (by omega), if_neg (by omega), if_pos rfl, if_neg (by omega), if_pos rfl, if_pos rfl, sA 9 _ (by omega) (by omega), sA 10 _ (by omega) (by omega), sA 11 _ (by omega) (by omega), if_pos rfl, if_pos rfl, if_pos rfl, if_pos rfl, if_neg (by omega), if_pos rfl, if_neg (by omega), if_neg (by omega)]
        refine ⟨cd b t (tkp b t k), hc6, fun z => by have := hq z; omega, rfl, ?_, rfl, vl_mark h16', ed2⟩
        rcases h16'.2 with z | z | z
        · left; rw [z]; rfl
        · right; left; rw [z]; rfl
        · right; right; rw [z]; rfl
      · obtain ⟨s, s1, s2, s3, s4, s5, s6, s7⟩ := r9 i (by omega)
        rw [w84' (m0 + 3 * (i + 1)) (by omega), w84' (m0 + 3 * (i + 1) + 1) (by omega), w84' (m0 + 3 * (i + 1) + 2) (by omega), sA 9 _ (by omega) (by omega), sA 10 _ (by omega) (by omega), sA 11 _ (by omega) (by omega), if_neg (by omega), if_neg (by omega), if_neg (by omega)]
        exact ⟨s, s1, s2, s3, s4, s5, s6, s7⟩
    · have a1 := (scn_spec isBl b t (en b t (tkp b t k))).1
      have a2 := (scn_spec isBl b t (tkp b t (k + 1) + 1)).1
      have a3 := (scn_spec isBl b t (nde b t 7 (tkp b t (k + 2)))).1
      rw [e1] at a1
      rw [e2] at a2
      rw [e3] at a3
      omega
