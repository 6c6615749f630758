def pAs (c k : Nat) : Prop := (c = 0 ∧ k = 11) ∨ (c = 70 ∧ k = 14)
theorem ok_as {m : Nat} {S : AS} (hm : m < 600) (h : INV m S) (p1 : Int32) : ∃ (r : Int32) (S1 S2 : AS), f_Chan_as p1 S = some (r, S1) ∧ f_Md_as p1 S1 = some (r, S2) ∧ INV (m + 1) S2 := by
  obtain ⟨hs, hA, hB, hC, hO, hD, hE, hG, hH, hU, hJ, hW, hF, hK⟩ := id h
  obtain ⟨hN, e1, e2, -⟩ := id hC
  have one : ¬ (1 : Int32) = 0 := by decide
  have fin : (p1 = -1 ∨ ∃ n, n ≤ nN S ∧ p1 = nI n) → INV (m + 1) (si (si S 0 11 p1) 70 14 p1) := fun hp => by
    have hfr : fr pAs S (si (si S 0 11 p1) 70 14 p1) := ((fr_rf _ S).si (by unfold pAs; omega)).si (by unfold pAs; omega)
    have hE2 : iE (si (si S 0 11 p1) 70 14 p1) := ⟨rfl, hp⟩
    exact ⟨hfr.sh hs, hA.fr hfr (fun c k hd hp => by unfold dA at hd; unfold pAs at hp; omega), hB.fr hfr (fun c k hd hp => by unfold dB at hd; unfold pAs at hp; omega), hC.fr hfr (fun c k hd hp => by unfold dC at hd; unfold pAs at hp; omega), hO.fr hfr (fun c k hd hp => by unfold dO at hd; unfold pAs at hp; omega), hD.fr hfr (fun c k hd hp => by unfold dD at hd; unfold pAs at hp; omega), hE2, hG.fr hfr (fun c k hd hp => by unfold dG at hd; unfold pAs at hp; omega), hH.fr hfr (fun c k hd hp => by unfold dH at hd; unfold pAs at hp; omega), hU.fr hfr (fun c k hd hp => by unfold dU at hd; unfold pAs at hp; omega), hJ.fr hfr (fun c k hd hp => by unfold dJ at hd; unfold pAs at hp; omega), hW.fr hfr (by unfold pAs; omega), hF.fr hfr (fun c k hd hp => by unfold dF at hd; unfold pAs at hp; omega), hK.fr hfr (fun c k hd hp => by unfold dK at hd; unfold pAs at hp; omega) hB hD⟩
  unfold f_Chan_as f_Md_as
  simp only [nm_eq, is_spec, within_spec, bI_eq]
  by_cases hm1 : p1 = -1
  · rw [if_pos hm1]
    refine ⟨1, _, _, rfl, ?_, fin (Or.inl hm1)⟩
    have e3 : gi (si S 0 11 p1) 70 6 = nI (nN S) := e1
    rw [e3, hm1, if_neg (by decide : ¬ (-1 : Int32) < -1), if_neg (show ¬ nI (nN S) < -1 by
      have := nI_toInt (n := nN S) (by omega)
      rw [Int32.lt_iff_toInt_lt, this]
      have h9 : (-1 : Int32).toInt = -1 := by decide
      omega), if_neg one]
  · rw [if_neg hm1, e2]
    rcases rng_cases p1 (nN S) (by omega) with r1 | ⟨n, hn, en, r1⟩
    · rw [r1, if_pos rfl]
      refine ⟨0, S, S, rfl, ?_, h.step⟩
      rw [e1]
      have : (if p1 < -1 then (0 : Int32) else if nI (nN S) < p1 then 0 else 1) = 0 := by
        by_cases h0 : p1 < 0
        · have h1 : p1 < -1 := by
            rw [Int32.lt_iff_toInt_lt] at h0 ⊢
            have h9 : (-1 : Int32).toInt = -1 := by decide
            have h8 : (0 : Int32).toInt = 0 := by decide
            have h7 : p1.toInt ≠ -1 := fun e => hm1 (by rw [← Int32.ofInt_toInt p1, e]; decide)
            omega
          rw [if_pos h1]
        · rw [if_neg h0] at r1
          split
          · rfl
          · exact r1
      rw [this, if_pos rfl]
    · rw [r1, if_neg one]
      refine ⟨1, _, _, rfl, ?_, fin (Or.inr ⟨n, hn, en⟩)⟩
      have e3 : gi (si S 0 11 p1) 70 6 = nI (nN S) := e1
      rw [e3]
      have h0 : ¬ p1 < 0 := by rw [en]; exact nI_pos (by omega)
      have h1 : ¬ p1 < -1 := by
        rw [Int32.lt_iff_toInt_lt] at h0 ⊢
        have h9 : (-1 : Int32).toInt = -1 := by decide
        have h8 : (0 : Int32).toInt = 0 := by decide
        omega
      rw [if_neg h0] at r1
      rw [if_neg h1, r1, if_neg one]
def pCont (c k : Nat) : Prop := c = 64 ∨ c = 65 ∨ c = 94 ∨ c = 95
theorem ok_content {m : Nat} {S : AS} (hm : m < 600) (h : INV m S) (p1 : Int32) : ∃ (r : Int32) (S1 S2 : AS), f_Chan_content p1 S = some (r, S1) ∧ f_Md_content p1 S1 = some (r, S2) ∧ INV (m + 1) S2 := by
  obtain ⟨hs, hA, hB, hC, hO, hD, hE, hG, hH, hU, hJ, hW, hF, hK⟩ := id h
  obtain ⟨hP, hQ, e1, e2, e3, e4, bP, bQ⟩ := id hB
  have one : ¬ (1 : Int32) = 0 := by decide
  unfold f_Chan_content f_Md_content f_Exchange_dropWishes
  rcases idx_cases p1 (nP S) (by omega) with ⟨w, hw, ew, w0, w1⟩ | hno
  · rw [rp_yes e2 w0 w1, bI_eq, if_neg one]
    subst ew
    simp only [nm_eq, chk_pos (in_nI (show w < 24 by omega) (by decide)), ix_nI (show w < 2147483648 by omega), bI_eq]
    obtain ⟨c, hc, c1, c2, c3⟩ := hU w (by omega)
    refine ⟨_, _, si (si S 65 w 0) 95 w 0, rfl, ?_, ?_⟩
    · have e5 : gi (si S 65 w 0) 70 2 = nI (nP S) := e1
      rw [mp_yes e5 w0 w1, bI_eq, if_neg one, c1]
      have e6 : gi (si S 65 w 0) 95 w = nI c := c2
      rw [e6]
    · have hfr : fr pCont S (si (si S 65 w 0) 95 w 0) := ((fr_rf _ S).si (by unfold pCont; omega)).si (by unfold pCont; omega)
      have hU2 : iU (si (si S 65 w 0) 95 w 0) := by
        intro v hv
        by_cases hvw : v = w
        · subst hvw
          exact ⟨0, by omega, by simp [gi_si, nI_0], by simp [gi_si, nI_0], fun i hi => by omega⟩
        · obtain ⟨d, d0, d1, d2, d3⟩ := hU v hv
          refine ⟨d, d0, ?_, ?_, d3⟩
          · have : gi (si (si S 65 w 0) 95 w 0) 65 v = gi S 65 v := by simp [gi_si, hvw]
            rw [this]; exact d1
          · have : gi (si (si S 65 w 0) 95 w 0) 95 v = gi S 95 v := by simp [gi_si, hvw]
            rw [this]; exact d2
      exact ⟨hfr.sh hs, hA.fr hfr (fun c k hd hp => by unfold dA at hd; unfold pCont at hp; omega), hB.fr hfr (fun c k hd hp => by unfold dB at hd; unfold pCont at hp; omega), hC.fr hfr (fun c k hd hp => by unfold dC at hd; unfold pCont at hp; omega), hO.fr hfr (fun c k hd hp => by unfold dO at hd; unfold pCont at hp; omega), hD.fr hfr (fun c k hd hp => by unfold dD at hd; unfold pCont at hp; omega), hE.fr hfr (fun c k hd hp => by unfold dE at hd; unfold pCont at hp; omega), hG.fr hfr (fun c k hd hp => by unfold dG at hd; unfold pCont at hp; omega), hH.fr hfr (fun c k hd hp => by unfold dH at hd; unfold pCont at hp; omega), hU2, hJ.fr hfr (fun c k hd hp => by unfold dJ at hd; unfold pCont at hp; omega), hW.fr hfr (by unfold pCont; omega), hF.fr hfr (fun c k hd hp => by unfold dF at hd; unfold pCont at hp; omega), hK.fr hfr (fun c k hd hp => by unfold dK at hd; unfold pCont at hp; omega) hB hD⟩
  · rw [rp_no e2 hno, bI_eq, if_pos rfl]
    exact ⟨-1, S, S, rfl, by rw [mp_no e1 hno, bI_eq, if_pos rfl], h.step⟩
theorem ok_got {m : Nat} {S : AS} (hm : m < 600) (h : INV m S) (p1 : Int32) : ∃ (r : Int32) (S1 S2 : AS), f_Chan_got p1 S = some (r, S1) ∧ f_Md_got p1 S1 = some (r, S2) ∧ INV (m + 1) S2 := by
  obtain ⟨hs, hA, hB, hC, hO, hD, hE, hG, hH, hU, hJ, hW, hF, hK⟩ := id h
  obtain ⟨hP, hQ, e1, e2, e3, e4, bP, bQ⟩ := id hB
  obtain ⟨j1, ⟨n, hn, j2⟩, j3⟩ := id hJ
  have one : ¬ (1 : Int32) = 0 := by decide
  unfold f_Chan_got f_Md_got
  simp only [nm_eq]
  rcases idx_cases p1 (nP S) (by omega) with ⟨w, hw, ew, w0, w1⟩ | hno
  · rw [rp_yes e2 w0 w1, bI_eq, if_neg one]
    subst ew
    rw [chk_pos (in_nI (show w < 24 by omega) (by decide)), ix_nI (show w < 2147483648 by omega), j3 w (by omega)]
    refine ⟨_, S, S, rfl, ?_, h.step⟩
    by_cases hr : gi S 70 41 = 0
    · rw [if_pos hr, if_pos (Or.inl hr)]
    · rw [if_neg hr, if_neg w0, j2]
      rcases Nat.lt_or_ge w n with q | q
      · rw [if_pos (nI_lt q (by omega)), chk_pos (in_nI (show w < 24 by omega) (by decide)), if_neg (fun hh => by
          rcases hh with hh | hh
          · exact hr hh
          · exact nI_ge q (by omega) hh)]
      · rw [if_neg (nI_nlt q (by omega)), if_pos (Or.inr (nI_le q (by omega)))]
  · rw [rp_no e2 hno, bI_eq, if_pos rfl]
    refine ⟨-1, S, S, rfl, ?_, h.step⟩
    by_cases hr : gi S 70 41 = 0
    · rw [if_pos hr]
    · rw [if_neg hr]
      rcases hno with h0 | ⟨h0, h1⟩
      · rw [if_pos h0]
      · rw [if_neg h0, j2]
        have : ¬ p1 < nI n := by
          obtain ⟨v, hv, rfl⟩ := nn_of h0
          have : nP S ≤ v := by
            rcases Nat.lt_or_ge v (nP S) with q | q
            · exact absurd h1 (nI_ge q (by omega))
            · exact q
          exact nI_nlt (by omega) hv
        rw [if_neg this]
