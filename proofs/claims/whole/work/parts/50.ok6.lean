def pNews (c k : Nat) : Prop := (c = 32 ∧ (k = 4 ∨ k = 6)) ∨ c = 33 ∨ c = 34 ∨ c = 35 ∨ c = 36 ∨ c = 37 ∨ (c = 70 ∧ k = 6) ∨ c = 74 ∨ c = 75 ∨ c = 76 ∨ c = 77
/-- news of kind 1 to 3 -/
theorem news_inv {m : Nat} {S : AS} (h : INV m S) (hN : nN S < 160) {t : Nat} (ht : t ≤ 9999999) (kd a b b' : Int32) (hv : (kd = 1 ∧ ∃ w, w < nP S ∧ a = nI w) ∨ (kd = 2 ∧ b' = b ∧ ∃ p w, p < nQ S ∧ w < nP S ∧ a = nI p ∧ b = nI w) ∨ (kd = 3 ∧ b' = b ∧ ∃ p q, p < nQ S ∧ q < nQ S ∧ p ≠ q ∧ a = nI p ∧ b = nI q)) : ∃ T1 T2, f_Gazette_add kd (nI t) a b S = some (nI (nN S + 1), T1) ∧ (∀ c k, ¬ pNewsC c k → gi T1 c k = gi S c k) ∧ f_Md_tell kd (nI t) a b' T1 = some (nI (nN S + 1), T2) ∧ INV (m + 1) T2 := by
  obtain ⟨hs, hA, hB, hC, hO, hD, hE, hG, hH, hU, hJ, hW, hF, hK⟩ := id h
  obtain ⟨c1, c2, c3, c4⟩ := id hC
  obtain ⟨mo, o, o1, o2, o3, o4, o5⟩ := id hO
  have hk4 : ¬ kd = 4 := by
    rcases hv with ⟨e, -⟩ | ⟨e, -⟩ | ⟨e, -⟩ <;> rw [e] <;> decide
  have tmc : ∀ k, 1 ≤ k → k ≤ nN S → ¬ gi S 74 k = 4 → gi S 34 k = nI (ix (gi S 75 k)) ∧ ix (gi S 75 k) ≤ 9999999 := fun k h1 h2 h3 => by
    obtain ⟨-, -, q⟩ := c4 k h1 h2
    rcases q with q | ⟨q1, ⟨n, q2, q3⟩, -⟩
    · exact absurd q h3
    · rw [q1, q3, ix_nI (by omega)]; exact ⟨rfl, q2⟩
  obtain ⟨T1, c', g1, g2, g3, g4, g5, g6, g7, g8, g9, g10, g11, g12, g13, g14, g15⟩ := gadd_spec (S := S) (N := nN S) (m := mo) (o := o) (tm := fun k => ix (gi S 75 k)) hN o1 c3 o2 (fun i hi => ⟨(o3 i hi).1, (o3 i hi).2.2.1⟩) (fun i hi => ⟨(tmc _ (o3 i hi).2.1 (o3 i hi).2.2.1 (o3 i hi).2.2.2).1, by have := (tmc _ (o3 i hi).2.1 (o3 i hi).2.2.1 (o3 i hi).2.2.2).2; omega⟩) (t := t) (by omega) kd a b hk4
  have t6 : gi T1 70 6 = nI (nN S) := by rw [g2.2.1 70 6 (by unfold pNewsC; omega)]; exact c2
  refine ⟨T1, _, g1, g2.2.1, tell_spec hN t6 kd (nI t) a b', ?_⟩
  generalize hT : si (si (si (si (si T1 70 6 (nI (nN S + 1))) 74 (nN S + 1) kd) 75 (nN S + 1) (nI t)) 76 (nN S + 1) a) 77 (nN S + 1) b' = T
  have hfr : fr pNews S T := by
    rw [← hT]
    refine fr.si (fr.si (fr.si (fr.si (fr.si (g2.mono (fun c k h => by unfold pNewsC at h; unfold pNews; omega)) ?_) ?_) ?_) ?_) ?_ <;> unfold pNews <;> omega
  have tN : gi T 70 6 = nI (nN S + 1) := by rw [← hT]; simp [gi_si]
  have nNT : nN T = nN S + 1 := by unfold nN at tN ⊢; rw [tN]; exact ix_nI (by unfold nN at hN; omega)
  have nPT : nP T = nP S := by unfold nP; rw [hfr.2.1 70 2 (by unfold pNews; omega)]
  have nQT : nQ T = nQ S := by unfold nQ; rw [hfr.2.1 70 4 (by unfold pNews; omega)]
  have nKT : nK T = nK S := by unfold nK; rw [hfr.2.1 70 11 (by unfold pNews; omega)]
  have x1 : ∀ c k, ¬ c = 70 → ¬ c = 74 → ¬ c = 75 → ¬ c = 76 → ¬ c = 77 → gi T c k = gi T1 c k := fun c k a1 a2 a3 a4 a5 => by
    rw [← hT]; simp [gi_si, a1, a2, a3, a4, a5]
  have y74 : ∀ k, ¬ k = nN S + 1 → gi T 74 k = gi S 74 k := fun k hk => by
    rw [← hT]; simp [gi_si, hk]; exact g2.2.1 74 k (by unfold pNewsC; omega)
  have y75 : ∀ k, ¬ k = nN S + 1 → gi T 75 k = gi S 75 k := fun k hk => by
    rw [← hT]; simp [gi_si, hk]; exact g2.2.1 75 k (by unfold pNewsC; omega)
  have y76 : ∀ k, ¬ k = nN S + 1 → gi T 76 k = gi S 76 k := fun k hk => by
    rw [← hT]; simp [gi_si, hk]; exact g2.2.1 76 k (by unfold pNewsC; omega)
  have y77 : ∀ k, ¬ k = nN S + 1 → gi T 77 k = gi S 77 k := fun k hk => by
    rw [← hT]; simp [gi_si, hk]; exact g2.2.1 77 k (by unfold pNewsC; omega)
  have z74 : gi T 74 (nN S + 1) = kd := by rw [← hT]; simp [gi_si]
  have z75 : gi T 75 (nN S + 1) = nI t := by rw [← hT]; simp [gi_si]
  have z76 : gi T 76 (nN S + 1) = a := by rw [← hT]; simp [gi_si]
  have z77 : gi T 77 (nN S + 1) = b' := by rw [← hT]; simp [gi_si]
  have hC2 : iC T := by
    refine ⟨by omega, by rw [nNT]; exact tN, by rw [nNT, x1 32 4 (by decide) (by decide) (by decide) (by decide) (by decide)]; exact g3, fun k k1 k2 => ?_⟩
    rw [nNT] at k2
    have e33 := x1 33 k (by decide) (by decide) (by decide) (by decide) (by decide)
    have e34 := x1 34 k (by decide) (by decide) (by decide) (by decide) (by decide)
    have e35 := x1 35 k (by decide) (by decide) (by decide) (by decide) (by decide)
    have e36 := x1 36 k (by decide) (by decide) (by decide) (by decide) (by decide)
    by_cases hk : k = nN S + 1
    · subst hk
      rw [e33, e34, e35, e36, g5, g6, g7, g8, z74, z75, z76, z77, nPT, nQT]
      refine ⟨rfl, rfl, Or.inr ⟨rfl, ⟨t, ht, rfl⟩, Or.inr ?_⟩⟩
      rcases hv with q | ⟨q1, q2, q3⟩ | ⟨q1, q2, q3⟩
      · exact Or.inl q
      · exact Or.inr (Or.inl ⟨q1, q2.symm, by rw [q2]; exact q3⟩)
      · exact Or.inr (Or.inr ⟨q1, q2.symm, by rw [q2]; exact q3⟩)
    · obtain ⟨f33, f34, f35, f36⟩ := g9 k hk
      rw [e33, e34, e35, e36, f33, f34, f35, f36, y74 k hk, y75 k hk, y76 k hk, y77 k hk, nPT, nQT, nKT]
      have q := c4 k k1 (by omega)
      have e78 : ∀ j, gi T 78 j = gi S 78 j := fun j => hfr.2.1 78 j (by unfold pNews; omega)
      simp only [e78]
      exact q
  have hO2 : iO T := by
    refine ⟨mo + 1, fun i => if i < c' then o i else if i = c' then nN S + 1 else o (i - 1), by omega, by rw [x1 32 6 (by decide) (by decide) (by decide) (by decide) (by decide)]; exact g4, fun i hi => ?_, fun i j hij hj => ?_, fun k k1 k2 k3 => ?_⟩
    · have e37 := x1 37 i (by decide) (by decide) (by decide) (by decide) (by decide)
      rw [e37, nNT]
      by_cases h1 : i < c'
      · simp only [if_pos h1]
        obtain ⟨q1, q2, q3, q4⟩ := o3 i (by omega)
        rw [y74 _ (by omega)]
        exact ⟨g11 i h1, q2, by omega, q4⟩
      · by_cases h2 : i = c'
        · simp only [if_neg h1, if_pos h2]
          rw [z74, h2]
          exact ⟨g12, by omega, by omega, hk4⟩
        · simp only [if_neg h1, if_neg h2]
          obtain ⟨q1, q2, q3, q4⟩ := o3 (i - 1) (by omega)
          rw [y74 _ (by omega)]
          exact ⟨g13 i (by omega) (by omega), q2, by omega, q4⟩
    · -- sortedness
      have ltime : ∀ i, i < c' → ix (gi S 75 (o i)) ≤ t := fun i hi => by
        rcases g14 with h0 | h0
        · omega
        · rcases Nat.lt_or_ge i (c' - 1) with q | q
          · rcases o4 i (c' - 1) q (by omega) with r | r <;> omega
          · rw [show i = c' - 1 by omega]; exact h0
      have tt : ix (nI t) = t := ix_nI (by omega)
      by_cases h1 : j < c'
      · simp only [if_pos h1, if_pos (show i < c' by omega)]
        have q1 := (o3 i (by omega)).2.2.1
        have q2 := (o3 j (by omega)).2.2.1
        rw [y75 _ (by omega), y75 _ (by omega)]
        exact o4 i j hij (by omega)
      · by_cases h2 : j = c'
        · simp only [if_neg h1, if_pos h2, if_pos (show i < c' by omega)]
          have q1 := (o3 i (by omega)).2.2.1
          rw [y75 _ (by omega), z75, tt]
          have := ltime i (by omega)
          omega
        · simp only [if_neg h1, if_neg h2]
          have q2 := (o3 (j - 1) (by omega)).2.2.1
          rw [y75 (o (j - 1)) (by omega)]
          by_cases h3 : i < c'
          · simp only [if_pos h3]
            have q1 := (o3 i (by omega)).2.2.1
            rw [y75 _ (by omega)]
            exact o4 i (j - 1) (by omega) (by omega)
          · by_cases h4 : i = c'
            · simp only [if_neg h3, if_pos h4]
              rw [z75, tt]
              exact Or.inl (g15 (j - 1) (by omega) (by omega))
            · simp only [if_neg h3, if_neg h4]
              have q1 := (o3 (i - 1) (by omega)).2.2.1
              rw [y75 _ (by omega)]
              exact o4 (i - 1) (j - 1) (by omega) (by omega)
    · rw [nNT] at k2
      by_cases hk : k = nN S + 1
      · exact ⟨c', by omega, by simp [hk]⟩
      · rw [y74 k hk] at k3
        obtain ⟨i, i1, i2⟩ := o5 k k1 (by omega) k3
        by_cases h1 : i < c'
        · exact ⟨i, by omega, by simp only [if_pos h1]; exact i2⟩
        · exact ⟨i + 1, by omega, by simp only [if_neg (show ¬ i + 1 < c' by omega), if_neg (show ¬ i + 1 = c' by omega)]; exact i2⟩
  have hD2 : iD T := by
    obtain ⟨d1, d2, d3, d4⟩ := id hD
    refine ⟨by omega, by rw [nKT, hfr.2.1 70 11 (by unfold pNews; omega)]; exact d2, by rw [nKT, hfr.2.1 23 8 (by unfold pNews; omega)]; exact d3, fun j hj => ?_⟩
    rw [nKT] at hj
    have e24 := hfr.2.1 24 j (by unfold pNews; omega)
    have e25 := hfr.2.1 25 j (by unfold pNews; omega)
    have e26 := hfr.2.1 26 j (by unfold pNews; omega)
    have e27 := hfr.2.1 27 j (by unfold pNews; omega)
    have e28 := hfr.2.1 28 j (by unfold pNews; omega)
    have e29 := hfr.2.1 29 j (by unfold pNews; omega)
    have e30 := hfr.2.1 30 j (by unfold pNews; omega)
    have e31 := hfr.2.1 31 j (by unfold pNews; omega)
    have e78 : ∀ j, gi T 78 j = gi S 78 j := fun j => hfr.2.1 78 j (by unfold pNews; omega)
    have e79 : ∀ j, gi T 79 j = gi S 79 j := fun j => hfr.2.1 79 j (by unfold pNews; omega)
    simp only [e24, e25, e26, e27, e28, e29, e30, e31, e78, e79, nPT, nNT]
    obtain ⟨a1, a2, a3, a4, a5, a6, a7, a8, a9, a10, a11, a12, a13, ⟨k, k1, k2, k3, k4, k5⟩, a15⟩ := d4 j hj
    refine ⟨a1, a2, a3, a4, a5, a6, a7, a8, a9, a10, a11, a12, a13, ⟨k, k1, by omega, k3, by rw [y74 k (by omega)]; exact k4, by rw [y76 k (by omega)]; exact k5⟩, ?_⟩
    rcases a15 with q | ⟨v, v1, v2, v3⟩
    · exact Or.inl q
    · exact Or.inr ⟨v, v1, by omega, v3⟩
  have hE2 : iE T := by
    obtain ⟨f1, f2⟩ := id hE
    refine ⟨by rw [hfr.2.1 0 11 (by unfold pNews; omega), hfr.2.1 70 14 (by unfold pNews; omega)]; exact f1, ?_⟩
    rw [hfr.2.1 70 14 (by unfold pNews; omega), nNT]
    rcases f2 with q | ⟨n, n1, n2⟩
    · exact Or.inl q
    · exact Or.inr ⟨n, by omega, n2⟩
  exact ⟨hfr.sh hs, hA.fr hfr (fun c k hd hp => by unfold dA at hd; unfold pNews at hp; omega), hB.fr hfr (fun c k hd hp => by unfold dB at hd; unfold pNews at hp; omega), hC2, hO2, hD2, hE2, hG.fr hfr (fun c k hd hp => by unfold dG at hd; unfold pNews at hp; omega), hH.fr hfr (fun c k hd hp => by unfold dH at hd; unfold pNews at hp; omega), hU.fr hfr (fun c k hd hp => by unfold dU at hd; unfold pNews at hp; omega), hJ.fr hfr (fun c k hd hp => by unfold dJ at hd; unfold pNews at hp; omega), hW.fr hfr (by unfold pNews; omega), hF.fr hfr (fun c k hd hp => by unfold dF at hd; unfold pNews at hp; omega), hK.mv (P' := nP S) (K' := nK S) (Nat.le_refl _) hB.1 (Nat.le_refl _) hD.1 (by omega) (by rw [hfr.2.1 70 2 (by unfold pNews; omega)]; exact hB.2.2.1) (by rw [hfr.2.1 70 11 (by unfold pNews; omega)]; exact hD.2.1) (hfr.2.1 70 4 (by unfold pNews; omega)) (hfr.2.1 70 15 (by unfold pNews; omega)) (fun k => hfr.2.1 73 k (by unfold pNews; omega)) (fun c k _ _ => hfr.2.1 c k (by unfold pNews; omega)) (fun k _ => hfr.2.1 72 k (by unfold pNews; omega)) (fun k _ => hfr.2.1 78 k (by unfold pNews; omega)) (fun c k h1 h2 h3 => by
    have h4 : c = 74 ∨ c = 75 ∨ c = 76 ∨ c = 77 := by omega
    rcases h4 with rfl | rfl | rfl | rfl
    · exact y74 k (by omega)
    · exact y75 k (by omega)
    · exact y76 k (by omega)
    · exact y77 k (by omega)) (fun j _ => Or.inl (hfr.2.1 79 j (by unfold pNews; omega))) (fun c k _ => hfr.2.1 c k (by unfold pNews; omega)) (fun k => hfr.2.2.1 53 k (by unfold pNews; omega)) (hfr.2.2.2 49 15)⟩
theorem time_spec (p : Int32) (S : AS) : f_Chan_isTime p S = some (if p < 0 then 0 else if 9999999 < p then 0 else 1, S) := by
  unfold f_Chan_isTime
  simp only [nm_eq]
  split
  · rfl
  · split <;> rfl
theorem can_spec {S : AS} {N : Nat} (e : gi S 70 6 = nI N) (hN : N ≤ 160) (p : Int32) : f_Md_can p S = some (if (if p < 0 then (0 : Int32) else if 9999999 < p then 0 else 1) = 0 then 0 else if 160 ≤ N then 0 else 1, S) := by
  unfold f_Md_can
  rw [is_spec, bI_eq]
  simp only [nm_eq]
  rw [e]
  generalize (if p < 0 then (0 : Int32) else if 9999999 < p then 0 else 1) = r
  by_cases h0 : r = 0
  · rw [if_pos h0, if_pos h0]
  · rw [if_neg h0, if_neg h0]
    by_cases h : 160 ≤ N
    · rw [if_pos (show (160 : Int32) ≤ nI N from nI_le (a := 160) h (by omega)), if_pos h]
    · rw [if_neg (show ¬ (160 : Int32) ≤ nI N from nI_ge (b := 160) (by omega) (by decide)), if_neg h]
theorem gadd_full {S : AS} (e : gi S 32 4 = nI 160) (kd t a b : Int32) : f_Gazette_add kd t a b S = some (-1, S) := by
  unfold f_Gazette_add f_Gazette_isFull
  rw [e, if_neg (by decide), bI_eq, if_neg (by decide)]
theorem ok_death {m : Nat} {S : AS} (hm : m < 600) (h : INV m S) (p1 p2 : Int32) : ∃ (r : Int32) (S1 S2 : AS), f_Chan_death p1 p2 S = some (r, S1) ∧ f_Md_death p1 p2 S1 = some (r, S2) ∧ INV (m + 1) S2 := by
  obtain ⟨hs, hA, hB, hC, hO, hD, hE, hG, hH, hU, hJ, hW, hF, hK⟩ := id h
  obtain ⟨hP, hQ, e1, e2, e3, e4, bP, bQ⟩ := id hB
  obtain ⟨c1, c2, c3, c4⟩ := id hC
  have one : ¬ (1 : Int32) = 0 := by decide
  unfold f_Chan_death f_Md_death
  simp only [nm_eq]
  rcases idx_cases p1 (nP S) (by omega) with ⟨w, hw, ew, w0, w1⟩ | hno
  rotate_left
  · exact ⟨-1, S, S, by rw [rp_no e2 hno, bI_eq, if_pos rfl], by rw [mp_no e1 hno, bI_eq, if_pos rfl], h.step⟩
  rw [rp_yes e2 w0 w1, bI_eq, if_neg one, time_spec, bI_eq]
  rcases rng_cases p2 9999999 (by decide) with r1 | ⟨t, ht, et, r1⟩
  · have r1' : (if p2 < 0 then (0 : Int32) else if 9999999 < p2 then 0 else 1) = 0 := r1
    rw [r1', if_pos rfl]
    exact ⟨-1, S, S, rfl, by rw [mp_yes e1 w0 w1, bI_eq, if_neg one, can_spec c2 c1, bI_eq, r1', if_pos rfl, if_pos rfl], h.step⟩
  have r1' : (if p2 < 0 then (0 : Int32) else if 9999999 < p2 then 0 else 1) = 1 := r1
  rw [r1', if_neg one]
  by_cases hN : nN S < 160
  · obtain ⟨T1, T2, a1, a2, a3, a4⟩ := news_inv h hN ht 1 p1 (-1) 0 (Or.inl ⟨rfl, w, hw, ew⟩)
    refine ⟨_, T1, T2, by rw [et, a1, bI_eq], ?_, a4⟩
    have e1' : gi T1 70 2 = nI (nP S) := by rw [a2 70 2 (by unfold pNewsC; omega)]; exact e1
    have c2' : gi T1 70 6 = nI (nN S) := by rw [a2 70 6 (by unfold pNewsC; omega)]; exact c2
    rw [mp_yes e1' w0 w1, bI_eq, if_neg one, can_spec c2' c1, bI_eq, r1', if_neg one, if_neg (show ¬ 160 ≤ nN S by omega), if_neg one, et, a3, bI_eq]
  · have h160 : nN S = 160 := by omega
    refine ⟨-1, S, S, by rw [gadd_full (by rw [c3, h160]), bI_eq], ?_, h.step⟩
    rw [mp_yes e1 w0 w1, bI_eq, if_neg one, can_spec c2 c1, bI_eq, r1', if_neg one, if_pos (show 160 ≤ nN S by omega), if_pos rfl]
theorem ok_resign {m : Nat} {S : AS} (hm : m < 600) (h : INV m S) (p1 p2 p3 : Int32) : ∃ (r : Int32) (S1 S2 : AS), f_Chan_resign p1 p2 p3 S = some (r, S1) ∧ f_Md_resign p1 p2 p3 S1 = some (r, S2) ∧ INV (m + 1) S2 := by
  obtain ⟨hs, hA, hB, hC, hO, hD, hE, hG, hH, hU, hJ, hW, hF, hK⟩ := id h
  obtain ⟨hP, hQ, e1, e2, e3, e4, bP, bQ⟩ := id hB
  obtain ⟨c1, c2, c3, c4⟩ := id hC
  have one : ¬ (1 : Int32) = 0 := by decide
  unfold f_Chan_resign f_Md_resign
  simp only [nm_eq]
  rcases idx_cases p1 (nQ S) (by omega) with ⟨p, hp, ep, q0, q1⟩ | hno
  rotate_left
  · exact ⟨-1, S, S, by rw [rq_no e4 hno, bI_eq, if_pos rfl], by rw [mq_no e3 hno, bI_eq, if_pos rfl], h.step⟩
  rcases idx_cases p2 (nP S) (by omega) with ⟨w, hw, ew, w0, w1⟩ | hno
  rotate_left
  · exact ⟨-1, S, S, by rw [rq_yes e4 q0 q1, bI_eq, if_neg one, rp_no e2 hno, bI_eq, if_pos rfl], by rw [mq_yes e3 q0 q1, bI_eq, if_neg one, mp_no e1 hno, bI_eq, if_pos rfl], h.step⟩
  rw [rq_yes e4 q0 q1, bI_eq, if_neg one, rp_yes e2 w0 w1, bI_eq, if_neg one, time_spec, bI_eq]
  rcases rng_cases p3 9999999 (by decide) with r1 | ⟨t, ht, et, r1⟩
  · have r1' : (if p3 < 0 then (0 : Int32) else if 9999999 < p3 then 0 else 1) = 0 := r1
    rw [r1', if_pos rfl]
    exact ⟨-1, S, S, rfl, by rw [mq_yes e3 q0 q1, bI_eq, if_neg one, mp_yes e1 w0 w1, bI_eq, if_neg one, can_spec c2 c1, bI_eq, r1', if_pos rfl, if_pos rfl], h.step⟩
  have r1' : (if p3 < 0 then (0 : Int32) else if 9999999 < p3 then 0 else 1) = 1 := r1
  rw [r1', if_neg one]
  by_cases hN : nN S < 160
  · obtain ⟨T1, T2, a1, a2, a3, a4⟩ := news_inv h hN ht 2 p1 p2 p2 (Or.inr (Or.inl ⟨rfl, rfl, p, w, hp, hw, ep, ew⟩))
    refine ⟨_, T1, T2, by rw [et, a1, bI_eq], ?_, a4⟩
    have e1' : gi T1 70 2 = nI (nP S) := by rw [a2 70 2 (by unfold pNewsC; omega)]; exact e1
    have e3' : gi T1 70 4 = nI (nQ S) := by rw [a2 70 4 (by unfold pNewsC; omega)]; exact e3
    have c2' : gi T1 70 6 = nI (nN S) := by rw [a2 70 6 (by unfold pNewsC; omega)]; exact c2
    rw [mq_yes e3' q0 q1, bI_eq, if_neg one, mp_yes e1' w0 w1, bI_eq, if_neg one, can_spec c2' c1, bI_eq, r1', if_neg one, if_neg (show ¬ 160 ≤ nN S by omega), if_neg one, et, a3, bI_eq]
  · have h160 : nN S = 160 := by omega
    refine ⟨-1, S, S, by rw [gadd_full (by rw [c3, h160]), bI_eq], ?_, h.step⟩
    rw [mq_yes e3 q0 q1, bI_eq, if_neg one, mp_yes e1 w0 w1, bI_eq, if_neg one, can_spec c2 c1, bI_eq, r1', if_neg one, if_pos (show 160 ≤ nN S by omega), if_pos rfl]
theorem ok_swap {m : Nat} {S : AS} (hm : m < 600) (h : INV m S) (p1 p2 p3 : Int32) : ∃ (r : Int32) (S1 S2 : AS), f_Chan_swap p1 p2 p3 S = some (r, S1) ∧ f_Md_swap p1 p2 p3 S1 = some (r, S2) ∧ INV (m + 1) S2 := by
  obtain ⟨hs, hA, hB, hC, hO, hD, hE, hG, hH, hU, hJ, hW, hF, hK⟩ := id h
  obtain ⟨hP, hQ, e1, e2, e3, e4, bP, bQ⟩ := id hB
  obtain ⟨c1, c2, c3, c4⟩ := id hC
  have one : ¬ (1 : Int32) = 0 := by decide
  unfold f_Chan_swap f_Md_swap
  simp only [nm_eq]
  rcases idx_cases p1 (nQ S) (by omega) with ⟨p, hp, ep, q0, q1⟩ | hno
  rotate_left
  · exact ⟨-1, S, S, by rw [rq_no e4 hno, bI_eq, if_pos rfl], by rw [mq_no e3 hno, bI_eq, if_pos rfl], h.step⟩
  rcases idx_cases p2 (nQ S) (by omega) with ⟨w, hw, ew, w0, w1⟩ | hno
  rotate_left
  · exact ⟨-1, S, S, by rw [rq_yes e4 q0 q1, bI_eq, if_neg one, rq_no e4 hno, bI_eq, if_pos rfl], by rw [mq_yes e3 q0 q1, bI_eq, if_neg one, mq_no e3 hno, bI_eq, if_pos rfl], h.step⟩
  by_cases heq : p1 = p2
  · exact ⟨-1, S, S, by rw [rq_yes e4 q0 q1, bI_eq, if_neg one, rq_yes e4 w0 w1, bI_eq, if_neg one, if_pos heq], by rw [mq_yes e3 q0 q1, bI_eq, if_neg one, mq_yes e3 w0 w1, bI_eq, if_neg one, if_pos heq], h.step⟩
  rw [rq_yes e4 q0 q1, bI_eq, if_neg one, rq_yes e4 w0 w1, bI_eq, if_neg one, if_neg heq, time_spec, bI_eq]
  rcases rng_cases p3 9999999 (by decide) with r1 | ⟨t, ht, et, r1⟩
  · have r1' : (if p3 < 0 then (0 : Int32) else if 9999999 < p3 then 0 else 1) = 0 := r1
    rw [r1', if_pos rfl]
    exact ⟨-1, S, S, rfl, by rw [mq_yes e3 q0 q1, bI_eq, if_neg one, mq_yes e3 w0 w1, bI_eq, if_neg one, if_neg heq, can_spec c2 c1, bI_eq, r1', if_pos rfl, if_pos rfl], h.step⟩
  have r1' : (if p3 < 0 then (0 : Int32) else if 9999999 < p3 then 0 else 1) = 1 := r1
  rw [r1', if_neg one]
  by_cases hN : nN S < 160
  · obtain ⟨T1, T2, a1, a2, a3, a4⟩ := news_inv h hN ht 3 p1 p2 p2 (Or.inr (Or.inr ⟨rfl, rfl, p, w, hp, hw, fun e => heq (by rw [ep, ew, e]), ep, ew⟩))
    refine ⟨_, T1, T2, by rw [et, a1, bI_eq], ?_, a4⟩
    have e3' : gi T1 70 4 = nI (nQ S) := by rw [a2 70 4 (by unfold pNewsC; omega)]; exact e3
    have c2' : gi T1 70 6 = nI (nN S) := by rw [a2 70 6 (by unfold pNewsC; omega)]; exact c2
    rw [mq_yes e3' q0 q1, bI_eq, if_neg one, mq_yes e3' w0 w1, bI_eq, if_neg one, if_neg heq, can_spec c2' c1, bI_eq, r1', if_neg one, if_neg (show ¬ 160 ≤ nN S by omega), if_neg one, et, a3, bI_eq]
  · have h160 : nN S = 160 := by omega
    refine ⟨-1, S, S, by rw [gadd_full (by rw [c3, h160]), bI_eq], ?_, h.step⟩
    rw [mq_yes e3 q0 q1, bI_eq, if_neg one, mq_yes e3 w0 w1, bI_eq, if_neg one, if_neg heq, can_spec c2 c1, bI_eq, r1', if_neg one, if_pos (show 160 ≤ nN S by omega), if_pos rfl]
