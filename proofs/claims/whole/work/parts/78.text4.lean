/-! both read on: the class by tokens, the reference by bytes -/
def NT (b : Nat → Nat) (t N : Nat) : Prop := t ≤ 400 ∧ N ≤ t ∧ tkp b t N = t ∧ ∀ k, k < N → tkp b t k < t
def CR (S : AS) (b : Nat → Nat) (t N k : Nat) : Prop := TOK S b t N ∧ k ≤ N ∧ gi S 3 2 = nI k ∧ gi S 3 3 = nI (cd b t (tkp b t k))
def pCr (c k : Nat) : Prop := (c = 3 ∧ 2 ≤ k ∧ k ≤ 5) ∨ (c = 4 ∧ (k = 4 ∨ k = 8)) ∨ (5 ≤ c ∧ c ≤ 11)
theorem TOK.mv {S T : AS} {b : Nat → Nat} {t N : Nat} (h : TOK S b t N) (e : ∀ c k, 12 ≤ c → c ≤ 15 → gi T c k = gi S c k) : TOK T b t N := by
  obtain ⟨a, c, d, f⟩ := h
  exact ⟨a, by rw [e 12 4 (by omega) (by omega)]; exact c, fun k hk => by rw [e 13 k (by omega) (by omega), e 14 k (by omega) (by omega)]; exact d k hk, fun k hk => by rw [e 15 k (by omega) (by omega)]; exact f k hk⟩
theorem CR.mv {S T : AS} {b : Nat → Nat} {t N k : Nat} (h : CR S b t N k) (e : ∀ c i, (12 ≤ c ∧ c ≤ 15) ∨ (c = 3 ∧ (i = 2 ∨ i = 3)) → gi T c i = gi S c i) : CR T b t N k := by
  obtain ⟨a, c, d, f⟩ := h
  exact ⟨a.mv (fun c i h1 h2 => e c i (by omega)), c, by rw [e 3 2 (by omega)]; exact d, by rw [e 3 3 (by omega)]; exact f⟩
theorem cd_end {b : Nat → Nat} {t N k : Nat} (hN : NT b t N) (hk : k ≤ N) (h : ¬ cd b t (tkp b t k) = 19) : k < N := by
  rcases Nat.lt_or_ge k N with q | q
  · exact q
  · exfalso
    apply h
    rw [show k = N by omega, cd_19, hN.2.2.1]
    omega
noncomputable def adv (S : AS) (b : Nat → Nat) (t k : Nat) : AS := si (si S 3 2 (nI k)) 3 3 (nI (cd b t (tkp b t k)))
theorem adv_gi (S : AS) (b : Nat → Nat) (t k c i : Nat) (h : ¬ (c = 3 ∧ (i = 2 ∨ i = 3))) : gi (adv S b t k) c i = gi S c i := by
  unfold adv
  rw [gi_si, if_neg (by omega), gi_si, if_neg (by omega)]
theorem adv_fr {P : Nat → Nat → Prop} {S T : AS} (b : Nat → Nat) (t k : Nat) (h : fr P S T) (h2 : P 3 2) (h3 : P 3 3) : fr P S (adv T b t k) := (h.si h2).si h3
theorem adv_spec {S : AS} {b : Nat → Nat} {t N k : Nat} (h : CR S b t N k) (hk : k < N) : f_RuleReader_advance S = some (adv S b t (k + 1)) ∧ CR (adv S b t (k + 1)) b t N (k + 1) := by
  obtain ⟨⟨a1, a2, a3, a4⟩, c, d, f⟩ := id h
  refine ⟨?_, h.1.mv (fun c i h1 h2 => adv_gi _ _ _ _ _ _ (by omega)), by omega, by unfold adv; rw [gi_si, if_neg (by omega), gi_si, if_pos ⟨rfl, rfl⟩], by unfold adv; rw [gi_si, if_pos ⟨rfl, rfl⟩]⟩
  unfold f_RuleReader_advance
  simp only [nm_k]
  have e2 : gi (si S 3 2 (nI (k + 1))) 3 2 = nI (k + 1) := by rw [gi_si, if_pos ⟨rfl, rfl⟩]
  rw [a2, nI_pred, d, if_neg (nI_ge hk (by omega)), nI_1, e2, chk_pos (in_nI (by omega) (by decide)), ix_nI (by omega), gi_si, if_neg (by omega), (a3 (k + 1) (by omega)).1]
  rfl
def FC (S : AS) (f : Int32) (x : Nat) : Prop := gi S 3 4 = f ∧ gi S 3 5 = nI x
theorem fail_spec {S : AS} {b : Nat → Nat} {t N k : Nat} (h : CR S b t N k) (f : Int32) : ∃ S', f_RuleReader_failWith f S = some (0, S') ∧ fr pCr S S' ∧ FC S' f (tkp b t k) := by
  obtain ⟨⟨a1, a2, a3, a4⟩, c, d, g⟩ := id h
  refine ⟨si (si S 3 4 f) 3 5 (nI (tkp b t k)), ?_, ((fr_rf _ S).si (by unfold pCr; omega)).si (by unfold pCr; omega), by rw [gi_si, if_neg (by omega), gi_si, if_pos ⟨rfl, rfl⟩], by rw [gi_si, if_pos ⟨rfl, rfl⟩]⟩
  unfold f_RuleReader_failWith
  simp only [nm_k]
  rw [gi_si, if_neg (by omega), d, chk_pos (in_nI (by omega) (by decide)), ix_nI (by omega), gi_si, if_neg (by omega), (a3 k c).2]
theorem pass_spec {S : AS} {b : Nat → Nat} {t N k w : Nat} (h : CR S b t N k) (hN : NT b t N) (hw : w < 19) : (cd b t (tkp b t k) = w → k < N ∧ f_RuleReader_pass (nI w) S = some (1, adv S b t (k + 1)) ∧ CR (adv S b t (k + 1)) b t N (k + 1)) ∧ (¬ cd b t (tkp b t k) = w → ∃ S', f_RuleReader_pass (nI w) S = some (0, S') ∧ fr pCr S S' ∧ FC S' 1 (tkp b t k)) := by
  have c19 := cd_le (b := b) (t := t) (p := tkp b t k)
  unfold f_RuleReader_pass
  rw [h.2.2.2]
  refine ⟨fun e => ?_, fun e => ?_⟩
  · have hk := cd_end hN h.2.1 (by omega)
    obtain ⟨a1, a2⟩ := adv_spec h hk
    exact ⟨hk, by rw [if_pos (by rw [e]), a1, bV_eq], a2⟩
  · obtain ⟨S', a1, a2, a3⟩ := fail_spec h 1
    exact ⟨S', by rw [if_neg (fun y => e (nI_inj (by omega) (by omega) y)), a1, bI_eq, chk_pos isb_0], a2, a3⟩
theorem addT_spec {S : AS} {n c : Nat} (hn : n < 16) (hc : c < 64) (h4 : gi S 4 4 = nI (n + 1)) (h8 : gi S 4 8 = nI c) (p1 p2 p3 : Int32) : f_RuleBook_addTest 4 p1 p2 p3 S = some (si (si (si (si (si S 9 c p1) 10 c p2) 11 c p3) 4 8 (nI (c + 1))) 8 n (nI (c + 1))) := by
  unfold f_RuleBook_addTest
  rw [h8, if_neg (show ¬ (64 : Int32) ≤ nI c from nI_ge (b := 64) hc (by decide)), h4, if_neg (nI_ne0 (by omega) (by omega))]
  simp [nm_k, gi_si, h4, h8, chk_pos (in_nI hc (by decide : 64 < 2147483648)), ix_nI (show c < 2147483648 by omega), nI_1, nI_pred, chk_pos (in_nI hn (by decide : 16 < 2147483648)), ix_nI (show n < 2147483648 by omega)]
theorem addR_spec {S : AS} {n c : Nat} (hn : n < 16) (h4 : gi S 4 4 = nI n) (h8 : gi S 4 8 = nI c) (p1 p2 : Int32) : f_RuleBook_addRule 4 p1 p2 S = some (si (si (si (si (si S 5 n p1) 6 n p2) 7 n (nI c)) 8 n (nI c)) 4 4 (nI (n + 1))) := by
  unfold f_RuleBook_addRule f_RuleBook_isFull
  rw [h4, if_pos (show nI n < 16 from nI_lt (b := 16) hn (by decide)), bI_eq, if_pos rfl]
  simp [nm_k, gi_si, h4, h8, nI_1, chk_pos (in_nI hn (by decide : 16 < 2147483648)), ix_nI (show n < 2147483648 by omega)]
theorem madd_spec {U : AS} {m : Nat} (hm : m + 3 ≤ 600) (h : gi U 70 21 = nI m) (p1 p2 p3 : Int32) : f_Md_add p1 p2 p3 U = some (si (si (si (si U 84 m p1) 84 (m + 1) p2) 84 (m + 2) p3) 70 21 (nI (m + 3))) := by
  have k1 : nI m + 1 = nI (m + 1) := nI_1 m
  have k2 : nI m + 2 = nI (m + 2) := nI_add m 2
  have k3 : nI m + 3 = nI (m + 3) := nI_add m 3
  unfold f_Md_add
  simp [nm_k, gi_si, h, k1, k2, k3, chk_pos (in_nI (show m < 600 by omega) (by decide)), chk_pos (in_nI (show m + 1 < 600 by omega) (by decide)), chk_pos (in_nI (show m + 2 < 600 by omega) (by decide)), ix_nI (show m < 2147483648 by omega), ix_nI (show m + 1 < 2147483648 by omega), ix_nI (show m + 2 < 2147483648 by omega)]
/-! the rules that stand in both drafts -/
def RUL (S U : AS) (i o q n a : Nat) : Prop := gi U 84 o = nI q ∧ q ≤ 4 ∧ (q = 0 → bnd (gi U 84 (o + 1)) 7) ∧ (q = 2 ∨ q = 3 → bnd (gi U 84 (o + 1)) 6) ∧ gi S 5 i = nI (q + 7) ∧ (¬ q = 1 → ¬ q = 4 → gi S 6 i = gi U 84 (o + 1)) ∧ gi S 7 i = nI a ∧ gi S 8 i = nI (a + n) ∧ ∀ j, j < n → ∃ s, s ≤ 6 ∧ (¬ q = 4 → s ≤ 1) ∧ gi U 84 (o + 3 * (j + 1)) = nI s ∧ (gi U 84 (o + 3 * (j + 1) + 1) = 60 ∨ gi U 84 (o + 3 * (j + 1) + 1) = 61 ∨ gi U 84 (o + 3 * (j + 1) + 1) = 62) ∧ gi S 9 (a + j) = nI s ∧ gi S 10 (a + j) = gi U 84 (o + 3 * (j + 1) + 1) - 61 ∧ gi S 11 (a + j) = gi U 84 (o + 3 * (j + 1) + 2)
theorem RUL.mv {S U S' U' : AS} {i o q n a : Nat} (h : RUL S U i o q n a) (hS : ∀ c, 5 ≤ c → c ≤ 8 → gi S' c i = gi S c i) (hS2 : ∀ c k, 9 ≤ c → c ≤ 11 → k < a + n → gi S' c k = gi S c k) (hU : ∀ x, x < o + 3 + 3 * n → ¬ x = o + 2 → gi U' 84 x = gi U 84 x) : RUL S' U' i o q n a := by
  obtain ⟨h1, h2, h3, h4, h5, h6, h7, h8, h9⟩ := h
  refine ⟨by rw [hU o (by omega) (by omega)]; exact h1, h2, by rw [hU (o + 1) (by omega) (by omega)]; exact h3, by rw [hU (o + 1) (by omega) (by omega)]; exact h4, by rw [hS 5 (by omega) (by omega)]; exact h5, by rw [hS 6 (by omega) (by omega), hU (o + 1) (by omega) (by omega)]; exact h6, by rw [hS 7 (by omega) (by omega)]; exact h7, by rw [hS 8 (by omega) (by omega)]; exact h8, fun j hj => ?_⟩
  obtain ⟨s, s1, s2, s3, s4, s5, s6, s7⟩ := h9 j hj
  rw [hU (o + 3 * (j + 1)) (by omega) (by omega), hU (o + 3 * (j + 1) + 1) (by omega) (by omega), hU (o + 3 * (j + 1) + 2) (by omega) (by omega), hS2 9 (a + j) (by omega) (by omega) (by omega), hS2 10 (a + j) (by omega) (by omega) (by omega), hS2 11 (a + j) (by omega) (by omega) (by omega)]
  exact ⟨s, s1, s2, s3, s4, s5, s6, s7⟩
/-! one test -/
noncomputable def T110 (J : Int32 → AS → Option (Int32 × AS)) (x1 c2 c3 : Int32) (n : Nat) (r7 r10 a13 : Int32) (S14 : AS) : Option (Int32 × AS) := if (gi S14 70 24) ≤ 0 then (bV (f_Md_add r7 r10 a13 S14) fun S15 => bI (f_Md_passes 6385252 3 S15) fun r17 S16 => f_Md_tests_L4 J x1 n (c2 + 1) r17 S16) else (f_Md_tests_L4 J x1 n c2 c3 S14)
noncomputable def T85 (J : Int32 → AS → Option (Int32 × AS)) (x1 c2 c3 : Int32) (n : Nat) (r7 r10 : Int32) (S12 : AS) : Option (Int32 × AS) := if (gi S12 70 24) = 0 then (bI (f_Md_digits S12) fun r19 S18 => T110 J x1 c2 c3 n r7 r10 r19 S18) else T110 J x1 c2 c3 n r7 r10 0 S12
noncomputable def T49 (J : Int32 → AS → Option (Int32 × AS)) (x1 c2 c3 : Int32) (n : Nat) (r7 : Int32) (S8 : AS) : Option (Int32 × AS) := bI (f_Md_here S8) fun r10 S9 => if r10 = 60 ∨ r10 = 62 ∨ r10 = 61 then T85 J x1 c2 c3 n r7 r10 (si S9 70 22 ((gi S9 70 22) + 1)) else bV (f_Md_blame 1 (gi S9 70 22) S9) fun S20 => T85 J x1 c2 c3 n r7 r10 (si S20 70 22 ((gi S20 70 22) + 1))
theorem t_unf (J : Int32 → AS → Option (Int32 × AS)) (x1 c2 c3 : Int32) (n : Nat) (S : AS) (h3 : ¬ c3 = 0) (h24 : gi S 70 24 = 0) : f_Md_tests_L4 J x1 (n + 1) c2 c3 S = bI (f_Md_here S) fun _ S3 => bI (f_Md_subject S3) fun r7 S6 => if x1 = 0 then (if r7 ≤ 1 then T49 J x1 c2 c3 n r7 S6 else bV (f_Md_blame 2 (gi S3 70 22) S6) fun S21 => T49 J x1 c2 c3 n r7 S21) else T49 J x1 c2 c3 n r7 S6 := by
  have h49 : ∀ (r7 : Int32) (S8 : AS), T49 J x1 c2 c3 n r7 S8 = bI (f_Md_here S8) fun r10 S9 => if r10 = 60 then T85 J x1 c2 c3 n r7 r10 (si S9 70 22 ((gi S9 70 22) + 1)) else if r10 = 62 then T85 J x1 c2 c3 n r7 r10 (si S9 70 22 ((gi S9 70 22) + 1)) else if r10 = 61 then T85 J x1 c2 c3 n r7 r10 (si S9 70 22 ((gi S9 70 22) + 1)) else bV (f_Md_blame 1 (gi S9 70 22) S9) fun S20 => T85 J x1 c2 c3 n r7 r10 (si S20 70 22 ((gi S20 70 22) + 1)) := fun r7 S8 => by
    unfold T49
    congr 1
    funext r10 S9
    by_cases a : r10 = 60
    · rw [if_pos (Or.inl a), if_pos a]
    · by_cases c : r10 = 62
      · rw [if_pos (Or.inr (Or.inl c)), if_neg a, if_pos c]
      · by_cases d : r10 = 61
        · rw [if_pos (Or.inr (Or.inr d)), if_neg a, if_neg c, if_pos d]
        · rw [if_neg (fun z => by rcases z with z | z | z; exact a z; exact c z; exact d z), if_neg a, if_neg c, if_neg d]
  simp only [h49]
  rw [f_Md_tests_L4, if_neg h3, if_pos h24]
  rfl
theorem t_stop (J : Int32 → AS → Option (Int32 × AS)) (x1 c2 c3 : Int32) (n : Nat) (S : AS) (h24 : ¬ gi S 70 24 = 0) : f_Md_tests_L4 J x1 (n + 1) c2 c3 S = J c2 S := by
  rw [f_Md_tests_L4]
  by_cases h : c3 = 0
  · rw [if_pos h]
  · rw [if_neg h, if_neg h24]
theorem t_done (J : Int32 → AS → Option (Int32 × AS)) (x1 c2 : Int32) (n : Nat) (S : AS) : f_Md_tests_L4 J x1 (n + 1) c2 0 S = J c2 S := by
  rw [f_Md_tests_L4, if_pos rfl]
/-- behind a fault the reference runs out -/
theorem t_fault {b : Nat → Nat} {t a : Nat} {f : Int32} {x : Nat} (hf : f = 1 ∨ f = 2) (x1 c2 c3 r7 : Int32) (S8 : AS) (hU : MR S8 b t a) (ha : a ≤ 405) (hF : FM S8 f x) : ∃ S', (∀ (J : Int32 → AS → Option (Int32 × AS)) (n : Nat), T49 J x1 c2 c3 (n + 1) r7 S8 = J c2 S') ∧ fr pMr S8 S' ∧ FM S' f x ∧ ∃ a', MR S' b t a' ∧ a' ≤ 406 := by
  have h400 := hU.2.1
  have hs : scn isBl b t a ≤ 405 := by
    rcases Nat.lt_or_ge a t with h | h
    · have := (scn_spec isBl b t a).2.1 (by omega); omega
    · rw [scn_end (by omega)]; exact ha
  have hn0 : ¬ f = 0 := by rcases hf with e | e <;> rw [e] <;> decide
  have hn1 : ¬ f ≤ 0 := by rcases hf with e | e <;> rw [e] <;> decide
  have g22 : gi (si S8 70 22 (nI (scn isBl b t a))) 70 22 = nI (scn isBl b t a) := by rw [gi_si, if_pos ⟨rfl, rfl⟩]
  have g24 : gi (si S8 70 22 (nI (scn isBl b t a))) 70 24 = f := by rw [gi_si, if_neg (by omega)]; exact hF.1
  have h24 : gi (si S8 70 22 (nI (scn isBl b t a + 1))) 70 24 = f := by rw [gi_si, if_neg (by omega)]; exact hF.1
  refine ⟨si S8 70 22 (nI (scn isBl b t a + 1)), fun J n => ?_, (fr_rf _ S8).si (by unfold pMr; omega), ⟨h24, by rw [gi_si, if_neg (by omega)]; exact hF.2⟩, scn isBl b t a + 1, hU.at (by omega), by omega⟩
  have e85 : ∀ r10 : Int32, T85 J x1 c2 c3 (n + 1) r7 r10 (si S8 70 22 (nI (scn isBl b t a + 1))) = J c2 (si S8 70 22 (nI (scn isBl b t a + 1))) := fun r10 => by
    unfold T85
    rw [h24, if_neg hn0]
    unfold T110
    rw [h24, if_neg hn1, t_stop _ _ _ _ _ _ (by rw [h24]; exact hn0)]
  unfold T49
  rw [here_spec hU, bI_eq, blame_spec, g24, if_neg hn1, bV_eq, g22, nI_1, si_si, e85]
  exact ite_self _
