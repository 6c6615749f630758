theorem is_spec (p a b : Int32) (S : AS) : f_Md_is p a b S = some (if p < a then 0 else if b < p then 0 else 1, S) := by
  unfold f_Md_is
  simp only [nm_eq]
  split
  · rfl
  · split <;> rfl
theorem within_spec (p a b : Int32) (S : AS) : f_Chan_isWithin p a b S = some (if p < a then 0 else if b < p then 0 else 1, S) := by
  unfold f_Chan_isWithin
  simp only [nm_eq]
  split
  · rfl
  · split <;> rfl
/-- within 0 .. N, or not -/
theorem rng_cases (p : Int32) (N : Nat) (hN : N < 2147483648) : (if p < 0 then (0 : Int32) else if nI N < p then 0 else 1) = 0 ∨ ∃ n, n ≤ N ∧ p = nI n ∧ (if p < 0 then (0 : Int32) else if nI N < p then 0 else 1) = 1 := by
  by_cases h0 : p < 0
  · left; rw [if_pos h0]
  · by_cases h1 : nI N < p
    · left; rw [if_neg h0, if_pos h1]
    · right
      obtain ⟨n, hn, e⟩ := nn_le hN h0 h1
      exact ⟨n, hn, e, by rw [if_neg h0, if_neg h1]⟩
/-- an index below N, or not -/
theorem idx_cases (p : Int32) (N : Nat) (hN : N < 2147483648) : (∃ n, n < N ∧ p = nI n ∧ ¬ p < 0 ∧ ¬ nI N ≤ p) ∨ (p < 0 ∨ (¬ p < 0 ∧ nI N ≤ p)) := by
  by_cases h0 : p < 0
  · exact Or.inr (Or.inl h0)
  · by_cases h1 : nI N ≤ p
    · exact Or.inr (Or.inr ⟨h0, h1⟩)
    · obtain ⟨n, hn, e⟩ := nn_lt hN h0 h1
      exact Or.inl ⟨n, hn, e, h0, h1⟩
theorem rp_yes {S : AS} {x : Int32} {N : Nat} (e : gi S 16 3 = nI N) (h0 : ¬ x < 0) (h1 : ¬ nI N ≤ x) : f_Roll_isPerson x S = some (1, S) := by unfold f_Roll_isPerson; simp only [nm_eq]; rw [if_neg h0, e, if_neg h1]
theorem rp_no {S : AS} {x : Int32} {N : Nat} (e : gi S 16 3 = nI N) (h : x < 0 ∨ (¬ x < 0 ∧ nI N ≤ x)) : f_Roll_isPerson x S = some (0, S) := by
  unfold f_Roll_isPerson; simp only [nm_eq]
  rcases h with h | ⟨h0, h1⟩
  · rw [if_pos h]
  · rw [if_neg h0, e, if_pos h1]
theorem rq_yes {S : AS} {x : Int32} {N : Nat} (e : gi S 16 7 = nI N) (h0 : ¬ x < 0) (h1 : ¬ nI N ≤ x) : f_Roll_isPost x S = some (1, S) := by unfold f_Roll_isPost; simp only [nm_eq]; rw [if_neg h0, e, if_neg h1]
theorem rq_no {S : AS} {x : Int32} {N : Nat} (e : gi S 16 7 = nI N) (h : x < 0 ∨ (¬ x < 0 ∧ nI N ≤ x)) : f_Roll_isPost x S = some (0, S) := by
  unfold f_Roll_isPost; simp only [nm_eq]
  rcases h with h | ⟨h0, h1⟩
  · rw [if_pos h]
  · rw [if_neg h0, e, if_pos h1]
theorem mp_yes {S : AS} {x : Int32} {N : Nat} (e : gi S 70 2 = nI N) (h0 : ¬ x < 0) (h1 : ¬ nI N ≤ x) : f_Md_isPerson x S = some (1, S) := by unfold f_Md_isPerson; simp only [nm_eq]; rw [if_neg h0, e, if_neg h1]
theorem mp_no {S : AS} {x : Int32} {N : Nat} (e : gi S 70 2 = nI N) (h : x < 0 ∨ (¬ x < 0 ∧ nI N ≤ x)) : f_Md_isPerson x S = some (0, S) := by
  unfold f_Md_isPerson; simp only [nm_eq]
  rcases h with h | ⟨h0, h1⟩
  · rw [if_pos h]
  · rw [if_neg h0, e, if_pos h1]
theorem mq_yes {S : AS} {x : Int32} {N : Nat} (e : gi S 70 4 = nI N) (h0 : ¬ x < 0) (h1 : ¬ nI N ≤ x) : f_Md_isPost x S = some (1, S) := by unfold f_Md_isPost; simp only [nm_eq]; rw [if_neg h0, e, if_neg h1]
theorem mq_no {S : AS} {x : Int32} {N : Nat} (e : gi S 70 4 = nI N) (h : x < 0 ∨ (¬ x < 0 ∧ nI N ≤ x)) : f_Md_isPost x S = some (0, S) := by
  unfold f_Md_isPost; simp only [nm_eq]
  rcases h with h | ⟨h0, h1⟩
  · rw [if_pos h]
  · rw [if_neg h0, e, if_pos h1]
/-! modules where only counts grew -/
theorem iC.up {S S' : AS} (hP : nP S ≤ nP S') (hQ : nQ S ≤ nQ S') (hK : nK S = nK S') (eN : gi S' 70 6 = gi S 70 6) (eC : gi S' 32 4 = gi S 32 4) (e33 : ∀ k, gi S' 33 k = gi S 33 k) (e34 : ∀ k, gi S' 34 k = gi S 34 k) (e35 : ∀ k, gi S' 35 k = gi S 35 k) (e36 : ∀ k, gi S' 36 k = gi S 36 k) (e74 : ∀ k, gi S' 74 k = gi S 74 k) (e75 : ∀ k, gi S' 75 k = gi S 75 k) (e76 : ∀ k, gi S' 76 k = gi S 76 k) (e77 : ∀ k, gi S' 77 k = gi S 77 k) (e78 : ∀ k, gi S' 78 k = gi S 78 k) (h : iC S) : iC S' := by
  obtain ⟨h1, h2, h3, h4⟩ := h
  have hN : nN S' = nN S := by unfold nN; rw [eN]
  refine ⟨by rw [hN]; exact h1, by rw [hN, eN]; exact h2, by rw [hN, eC]; exact h3, fun k k1 k2 => ?_⟩
  rw [hN] at k2
  obtain ⟨a1, a2, a3⟩ := h4 k k1 k2
  simp only [e33, e34, e35, e36, e74, e75, e76, e77, e78, ← hK]
  refine ⟨a1, a2, ?_⟩
  rcases a3 with a | ⟨b1, b2, a⟩
  · exact Or.inl a
  · refine Or.inr ⟨b1, b2, ?_⟩
    rcases a with a | ⟨a, w, hw, e⟩ | ⟨a, a', p, w, hp, hw, e⟩ | ⟨a, a', p, q, hp, hq, e⟩
    · exact Or.inl a
    · exact Or.inr (Or.inl ⟨a, w, by omega, e⟩)
    · exact Or.inr (Or.inr (Or.inl ⟨a, a', p, w, by omega, by omega, e⟩))
    · exact Or.inr (Or.inr (Or.inr ⟨a, a', p, q, by omega, by omega, e⟩))
theorem iD.up {S S' : AS} (hP : nP S ≤ nP S') (eN : gi S' 70 6 = gi S 70 6) (eK : gi S' 70 11 = gi S 70 11) (eC : gi S' 23 8 = gi S 23 8) (e24 : ∀ k, gi S' 24 k = gi S 24 k) (e25 : ∀ k, gi S' 25 k = gi S 25 k) (e26 : ∀ k, gi S' 26 k = gi S 26 k) (e27 : ∀ k, gi S' 27 k = gi S 27 k) (e28 : ∀ k, gi S' 28 k = gi S 28 k) (e29 : ∀ k, gi S' 29 k = gi S 29 k) (e30 : ∀ k, gi S' 30 k = gi S 30 k) (e31 : ∀ k, gi S' 31 k = gi S 31 k) (e74 : ∀ k, gi S' 74 k = gi S 74 k) (e76 : ∀ k, gi S' 76 k = gi S 76 k) (e78 : ∀ k, gi S' 78 k = gi S 78 k) (e79 : ∀ k, gi S' 79 k = gi S 79 k) (h : iD S) : iD S' := by
  obtain ⟨h1, h2, h3, h4⟩ := h
  have hN : nN S' = nN S := by unfold nN; rw [eN]
  have hK : nK S' = nK S := by unfold nK; rw [eK]
  refine ⟨by rw [hK]; exact h1, by rw [hK, eK]; exact h2, by rw [hK, eC]; exact h3, fun j hj => ?_⟩
  rw [hK] at hj
  have a := h4 j hj
  simp only [e24, e25, e26, e27, e28, e29, e30, e31, e74, e76, e78, e79, hN]
  obtain ⟨a1, a2, a3, a4, a5, a6, a7, ⟨w, hw, ew⟩, a9⟩ := a
  exact ⟨a1, a2, a3, a4, a5, a6, a7, ⟨w, by omega, ew⟩, a9⟩
theorem iJ.up {S S' : AS} (hP : nP S ≤ nP S') (e1 : gi S' 70 41 = gi S 70 41) (e2 : gi S' 70 42 = gi S 70 42) (e68 : ∀ k, gi S' 68 k = gi S 68 k) (e96 : ∀ k, gi S' 96 k = gi S 96 k) (h : iJ S) : iJ S' := by
  obtain ⟨h1, ⟨n, hn, en⟩, h3⟩ := h
  unfold iJ
  simp only [e1, e2, e68, e96]
  exact ⟨h1, ⟨n, by omega, en⟩, h3⟩
theorem iU.up {S S' : AS} (hQ : nQ S ≤ nQ S') (e64 : ∀ k, gi S' 64 k = gi S 64 k) (e65 : ∀ k, gi S' 65 k = gi S 65 k) (e94 : ∀ k, gi S' 94 k = gi S 94 k) (e95 : ∀ k, gi S' 95 k = gi S 95 k) (h : iU S) : iU S' := by
  intro w hw
  obtain ⟨c, h1, h2, h3, h4⟩ := h w hw
  simp only [e64, e65, e94, e95]
  refine ⟨c, h1, h2, h3, fun i hi => ?_⟩
  obtain ⟨a, p, hp, e⟩ := h4 i hi
  exact ⟨a, p, by omega, e⟩
theorem hol.up {S S' : AS} (hP : nP S ≤ nP S') {x : Int32} (h : hol S x) : hol S' x := by
  rcases h with h | ⟨w, hw, e⟩
  · exact Or.inl h
  · exact Or.inr ⟨w, by omega, e⟩
def pPersC (c k : Nat) : Prop := (c = 16 ∧ k = 3) ∨ c = 17 ∨ c = 18 ∨ c = 19 ∨ (c = 70 ∧ k = 2) ∨ c = 72
theorem n3 (P j : Nat) : (3 : Int32) * nI P + nI j = nI (3 * P + j) := by rw [show (3 : Int32) = nI 3 from rfl, pk_mul, nI_add]
theorem n30 (P : Nat) : (3 : Int32) * nI P = nI (3 * P) := by rw [show (3 : Int32) = nI 3 from rfl, pk_mul]
theorem addPerson_spec {S : AS} {P : Nat} (e : gi S 16 3 = nI P) (hP : P < 24) (p1 p2 p3 : Int32) : f_Roll_addPerson p1 p2 p3 S = some (nI P, si (si (si (si S 17 P p1) 18 P p2) 19 P p3) 16 3 (nI (P + 1))) := by
  unfold f_Roll_addPerson
  rw [e, show (24 : Int32) = nI 24 from rfl, if_pos (nI_lt hP (by decide))]
  simp [nm_eq, gi_si, e, chk_pos (in_nI hP (by decide : 24 < 2147483648)), ix_nI (show P < 2147483648 by omega), nI_1, nI_pred]
theorem mdPerson_spec {S : AS} {P : Nat} (e : gi S 70 2 = nI P) (hP : P < 24) (p1 p2 p3 : Int32) (h1 : (if p1 < 0 then (0 : Int32) else if 9 < p1 then 0 else 1) = 1) (h2 : (if p2 < 0 then (0 : Int32) else if 9 < p2 then 0 else 1) = 1) (h3 : (if p3 < 0 then (0 : Int32) else if 7 < p3 then 0 else 1) = 1) : f_Md_person p1 p2 p3 S = some (nI P, si (si (si (si S 72 (3 * P) p1) 72 (3 * P + 1) p2) 72 (3 * P + 2) p3) 70 2 (nI (P + 1))) := by
  unfold f_Md_person
  simp only [is_spec, bI_eq, h1, h2, h3, if_neg (show ¬ (1 : Int32) = 0 by decide), e]
  rw [if_neg (show ¬ nI P = 24 from fun q => absurd (nI_inj (b := 24) (by omega) (by decide) q) (by omega))]
  have k0 : (3 : Int32) * nI P = nI (3 * P) := n30 P
  have k1 : nI (3 * P) + 1 = nI (3 * P + 1) := nI_add (3 * P) 1
  have k2 : nI (3 * P) + 2 = nI (3 * P + 2) := nI_add (3 * P) 2
  simp [nm_eq, gi_si, e, k0, k1, k2, chk_pos (in_nI (show 3 * P < 72 by omega) (by decide)), chk_pos (in_nI (show 3 * P + 1 < 72 by omega) (by decide)), chk_pos (in_nI (show 3 * P + 2 < 72 by omega) (by decide)), ix_nI (show 3 * P < 2147483648 by omega), ix_nI (show 3 * P + 1 < 2147483648 by omega), ix_nI (show 3 * P + 2 < 2147483648 by omega), nI_1, nI_pred]
theorem ok_person {m : Nat} {S : AS} (hm : m < 600) (h : INV m S) (p1 p2 p3 : Int32) : ∃ (r : Int32) (S1 S2 : AS), f_Chan_person p1 p2 p3 S = some (r, S1) ∧ f_Md_person p1 p2 p3 S1 = some (r, S2) ∧ INV (m + 1) S2 := by
  obtain ⟨hs, hA, hB, hC, hO, hD, hE, hG, hH, hU, hJ, hW, hF, hK⟩ := id h
  obtain ⟨hP, hQ, e1, e2, e3, e4, bP, bQ⟩ := id hB
  have one : ¬ (1 : Int32) = 0 := by decide
  rcases rng_cases p1 9 (by decide) with r1 | ⟨d1, hd1, ed1, r1⟩
  · refine ⟨-1, S, S, ?_, ?_, h.step⟩
    · unfold f_Chan_person; rw [within_spec, bI_eq, show (9 : Int32) = nI 9 from rfl, r1, if_pos rfl]
    · unfold f_Md_person; rw [is_spec, bI_eq, show (9 : Int32) = nI 9 from rfl, r1, if_pos rfl]
  rcases rng_cases p2 9 (by decide) with r2 | ⟨d2, hd2, ed2, r2⟩
  · refine ⟨-1, S, S, ?_, ?_, h.step⟩
    · unfold f_Chan_person; rw [within_spec, bI_eq, show (9 : Int32) = nI 9 from rfl, r1, if_neg one, within_spec, bI_eq, r2, if_pos rfl]
    · unfold f_Md_person; rw [is_spec, bI_eq, show (9 : Int32) = nI 9 from rfl, r1, if_neg one, is_spec, bI_eq, r2, if_pos rfl]
  rcases rng_cases p3 7 (by decide) with r3 | ⟨d3, hd3, ed3, r3⟩
  · refine ⟨-1, S, S, ?_, ?_, h.step⟩
    · unfold f_Chan_person; rw [within_spec, bI_eq, show (9 : Int32) = nI 9 from rfl, r1, if_neg one, within_spec, bI_eq, r2, if_neg one, within_spec, bI_eq, show (7 : Int32) = nI 7 from rfl, r3, if_pos rfl]
    · unfold f_Md_person; rw [is_spec, bI_eq, show (9 : Int32) = nI 9 from rfl, r1, if_neg one, is_spec, bI_eq, r2, if_neg one, is_spec, bI_eq, show (7 : Int32) = nI 7 from rfl, r3, if_pos rfl]
  have hC1 : f_Chan_person p1 p2 p3 S = (bI (f_Roll_addPerson p1 p2 p3 S) fun r8 S7 => some (r8, S7)) := by
    unfold f_Chan_person; rw [within_spec, bI_eq, show (9 : Int32) = nI 9 from rfl, r1, if_neg one, within_spec, bI_eq, r2, if_neg one, within_spec, bI_eq, show (7 : Int32) = nI 7 from rfl, r3, if_neg one]
  by_cases hfull : nP S < 24
  · have a1 := addPerson_spec e2 hfull p1 p2 p3
    have a2 := mdPerson_spec (S := si (si (si (si S 17 (nP S) p1) 18 (nP S) p2) 19 (nP S) p3) 16 3 (nI (nP S + 1))) (P := nP S) e1 hfull p1 p2 p3 r1 r2 r3
    refine ⟨_, _, _, by rw [hC1, a1, bI_eq], a2, ?_⟩
    generalize hT : si (si (si (si (si (si (si (si S 17 (nP S) p1) 18 (nP S) p2) 19 (nP S) p3) 16 3 (nI (nP S + 1))) 72 (3 * nP S) p1) 72 (3 * nP S + 1) p2) 72 (3 * nP S + 2) p3) 70 2 (nI (nP S + 1)) = T
    have hfr : fr pPersC S T := by
      rw [← hT]
      refine fr.si (fr.si (fr.si (fr.si (fr.si (fr.si (fr.si (fr.si (fr_rf _ _) ?_) ?_) ?_) ?_) ?_) ?_) ?_) ?_ <;> unfold pPersC <;> omega
    have tP : gi T 70 2 = nI (nP S + 1) := by rw [← hT]; rfl
    have nPT : nP T = nP S + 1 := by unfold nP at tP ⊢; rw [tP]; exact ix_nI (by unfold nP at hfull; omega)
    have nQT : nQ T = nQ S := by unfold nQ; rw [hfr.2.1 70 4 (by unfold pPersC; omega)]
    have nKT : nK T = nK S := by unfold nK; rw [hfr.2.1 70 11 (by unfold pPersC; omega)]
    have hB2 : iB T := by
      refine ⟨by omega, by omega, by rw [nPT]; exact tP, by rw [nPT, ← hT]; rfl, by rw [nQT, hfr.2.1 70 4 (by unfold pPersC; omega)]; exact e3, by rw [nQT, hfr.2.1 16 7 (by unfold pPersC; omega)]; exact e4, fun i hi => ?_, fun i hi => ?_⟩
      · rw [nPT] at hi
        by_cases hi2 : i = nP S
        · subst hi2
          have c1 : gi T 17 (nP S) = p1 := by rw [← hT]; simp [gi_si]
          have c2 : gi T 18 (nP S) = p2 := by rw [← hT]; simp [gi_si]
          have c3 : gi T 19 (nP S) = p3 := by rw [← hT]; simp [gi_si]
          have c4 : gi T 72 (3 * nP S) = p1 := by rw [← hT]; simp [gi_si]
          have c5 : gi T 72 (3 * nP S + 1) = p2 := by rw [← hT]; simp [gi_si]
          have c6 : gi T 72 (3 * nP S + 2) = p3 := by rw [← hT]; simp [gi_si]
          rw [c1, c2, c3, c4, c5, c6]
          exact ⟨rfl, rfl, rfl, ⟨d1, hd1, ed1⟩, ⟨d2, hd2, ed2⟩, ⟨d3, hd3, ed3⟩⟩
        · have hlt : i < nP S := by omega
          have c1 : gi T 17 i = gi S 17 i := by rw [← hT]; simp [gi_si, hi2]
          have c2 : gi T 18 i = gi S 18 i := by rw [← hT]; simp [gi_si, hi2]
          have c3 : gi T 19 i = gi S 19 i := by rw [← hT]; simp [gi_si, hi2]
          have c4 : ∀ j, j < 3 * nP S → gi T 72 j = gi S 72 j := fun j hj => by
            rw [← hT]
            simp [gi_si, show ¬ j = 3 * nP S by omega, show ¬ j = 3 * nP S + 1 by omega, show ¬ j = 3 * nP S + 2 by omega]
          rw [c1, c2, c3, c4 _ (by omega), c4 _ (by omega), c4 _ (by omega)]
          exact bP i hlt
      · rw [nQT] at hi
        have q20 := hfr.2.1 20 i (by unfold pPersC; omega)
        have q21 := hfr.2.1 21 i (by unfold pPersC; omega)
        have q22 := hfr.2.1 22 i (by unfold pPersC; omega)
        have q73 : ∀ j, gi T 73 j = gi S 73 j := fun j => hfr.2.1 73 j (by unfold pPersC; omega)
        rw [q20, q21, q22, q73, q73, q73]
        obtain ⟨b1, b2, b3, b4, b5, b6, b7⟩ := bQ i hi
        exact ⟨b1, b2, b3, b4, b5, b6, b7.up (by omega)⟩
    exact ⟨hfr.sh hs, hA.fr hfr (fun c k hd hp => by unfold dA at hd; unfold pPersC at hp; omega), hB2, iC.up (by omega) (by omega) (by omega) (hfr.2.1 70 6 (by unfold pPersC; omega)) (hfr.2.1 32 4 (by unfold pPersC; omega)) (fun k => hfr.2.1 33 k (by unfold pPersC; omega)) (fun k => hfr.2.1 34 k (by unfold pPersC; omega)) (fun k => hfr.2.1 35 k (by unfold pPersC; omega)) (fun k => hfr.2.1 36 k (by unfold pPersC; omega)) (fun k => hfr.2.1 74 k (by unfold pPersC; omega)) (fun k => hfr.2.1 75 k (by unfold pPersC; omega)) (fun k => hfr.2.1 76 k (by unfold pPersC; omega)) (fun k => hfr.2.1 77 k (by unfold pPersC; omega)) (fun k => hfr.2.1 78 k (by unfold pPersC; omega)) hC, hO.fr hfr (fun c k hd hp => by unfold dO at hd; unfold pPersC at hp; omega), iD.up (by omega) (hfr.2.1 70 6 (by unfold pPersC; omega)) (hfr.2.1 70 11 (by unfold pPersC; omega)) (hfr.2.1 23 8 (by unfold pPersC; omega)) (fun k => hfr.2.1 24 k (by unfold pPersC; omega)) (fun k => hfr.2.1 25 k (by unfold pPersC; omega)) (fun k => hfr.2.1 26 k (by unfold pPersC; omega)) (fun k => hfr.2.1 27 k (by unfold pPersC; omega)) (fun k => hfr.2.1 28 k (by unfold pPersC; omega)) (fun k => hfr.2.1 29 k (by unfold pPersC; omega)) (fun k => hfr.2.1 30 k (by unfold pPersC; omega)) (fun k => hfr.2.1 31 k (by unfold pPersC; omega)) (fun k => hfr.2.1 74 k (by unfold pPersC; omega)) (fun k => hfr.2.1 76 k (by unfold pPersC; omega)) (fun k => hfr.2.1 78 k (by unfold pPersC; omega)) (fun k => hfr.2.1 79 k (by unfold pPersC; omega)) hD, hE.fr hfr (fun c k hd hp => by unfold dE at hd; unfold pPersC at hp; omega), hG.fr hfr (fun c k hd hp => by unfold dG at hd; unfold pPersC at hp; omega), hH.fr hfr (fun c k hd hp => by unfold dH at hd; unfold pPersC at hp; omega), hU.fr hfr (fun c k hd hp => by unfold dU at hd; unfold pPersC at hp; omega), iJ.up (by omega) (hfr.2.1 70 41 (by unfold pPersC; omega)) (hfr.2.1 70 42 (by unfold pPersC; omega)) (fun k => hfr.2.1 68 k (by unfold pPersC; omega)) (fun k => hfr.2.1 96 k (by unfold pPersC; omega)) hJ, hW.fr hfr (by unfold pPersC; omega), hF.fr hfr (fun c k hd hp => by unfold dF at hd; unfold pPersC at hp; omega), hK.mv (P' := nP S + 1) (K' := nK S) (by omega) (by omega) (Nat.le_refl _) hD.1 (by unfold nN; rw [hfr.2.1 70 6 (by unfold pPersC; omega)]; exact Nat.le_refl _) tP (by rw [hfr.2.1 70 11 (by unfold pPersC; omega)]; exact hD.2.1) (hfr.2.1 70 4 (by unfold pPersC; omega)) (hfr.2.1 70 15 (by unfold pPersC; omega)) (fun k => hfr.2.1 73 k (by unfold pPersC; omega)) (fun c k _ _ => hfr.2.1 c k (by unfold pPersC; omega)) (fun k hk => by rw [← hT]; simp [gi_si, show ¬ k = 3 * nP S by omega, show ¬ k = 3 * nP S + 1 by omega, show ¬ k = 3 * nP S + 2 by omega]) (fun k _ => hfr.2.1 78 k (by unfold pPersC; omega)) (fun c k _ _ _ => hfr.2.1 c k (by unfold pPersC; omega)) (fun j _ => Or.inl (hfr.2.1 79 j (by unfold pPersC; omega))) (fun c k _ => hfr.2.1 c k (by unfold pPersC; omega)) (fun k => hfr.2.2.1 53 k (by unfold pPersC; omega)) (hfr.2.2.2 49 15)⟩
  · have hP24 : nP S = 24 := by omega
    refine ⟨-1, S, S, ?_, ?_, h.step⟩
    · rw [hC1]
      unfold f_Roll_addPerson
      rw [e2, hP24, if_neg (by decide), bI_eq]
    · unfold f_Md_person; rw [is_spec, bI_eq, show (9 : Int32) = nI 9 from rfl, r1, if_neg one, is_spec, bI_eq, r2, if_neg one, is_spec, bI_eq, show (7 : Int32) = nI 7 from rfl, r3, if_neg one, e1, hP24, if_pos (by decide)]
