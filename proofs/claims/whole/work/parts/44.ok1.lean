theorem byt_bnd (x : Int32) (j : Nat) : bnd (byt x j) 255 := by
  have key : ∀ y : Int32, bnd (y &&& 255) 255 := fun y => by
    obtain ⟨n, h1, h2⟩ := pk_andE y (m := 255) 8 (by decide)
    exact ⟨n, by omega, h2⟩
  unfold byt
  split
  · exact key _
  split
  · exact key _
  split
  · exact key _
  · exact key _
def pFeed (c k : Nat) : Prop := (c = 1 ∧ k = 1) ∨ c = 2 ∨ (c = 70 ∧ k = 1) ∨ c = 71
theorem pC_feed {S T : AS} (h : fr pTapeC S T) : fr pFeed S T := h.mono (fun c k h => by unfold pTapeC at h; unfold pFeed; omega)
theorem pM_feed {S T : AS} (h : fr pTapeM S T) : fr pFeed S T := h.mono (fun c k h => by unfold pTapeM at h; unfold pFeed; omega)
theorem ok_feed {m : Nat} {S : AS} (hm : m < 600) (h : INV m S) (p1 p2 p3 p4 p5 : Int32) : ∃ (r : Int32) (S1 S2 : AS), f_Chan_feed p1 p2 p3 p4 p5 S = some (r, S1) ∧ f_Md_feed p1 p2 p3 p4 p5 S1 = some (r, S2) ∧ INV (m + 1) S2 := by
  obtain ⟨hs, hA, hB, hC, hO, hD, hE, hG, hH, hU, hJ, hW, hF, hK⟩ := id h
  obtain ⟨t, ht, e1, e2, hb⟩ := id hA
  have e20 : nI t + 20 = nI (t + 20) := by rw [show (20 : Int32) = nI 20 from rfl, nI_add]
  unfold f_Chan_feed f_Md_feed f_Tape_hasRoom
  rw [e1, e20, show (400 : Int32) = nI 400 from rfl]
  by_cases hr : t + 20 ≤ 400
  · rw [if_neg (nI_nlt hr (by omega)), bI_eq, if_neg (by decide)]
    obtain ⟨T1, a1, f1, c1, b1⟩ := append_spec (x := p1) e1 (by omega)
    obtain ⟨T2, a2, f2, c2, b2⟩ := append_spec (x := p2) c1 (by omega)
    obtain ⟨T3, a3, f3, c3, b3⟩ := append_spec (x := p3) c2 (by omega)
    obtain ⟨T4, a4, f4, c4, b4⟩ := append_spec (x := p4) c3 (by omega)
    obtain ⟨T5, a5, f5, c5, b5⟩ := append_spec (x := p5) c4 (by omega)
    have g5 : fr pTapeC S T5 := f1.tr (f2.tr (f3.tr (f4.tr f5)))
    have d0 : gi T5 70 1 = nI t := by rw [g5.2.1 70 1 (by unfold pTapeC; omega)]; exact e2
    obtain ⟨U1, u1, k1, n1, w1⟩ := put_spec (x := p1) d0 (by omega)
    obtain ⟨U2, u2, k2, n2, w2⟩ := put_spec (x := p2) n1 (by omega)
    obtain ⟨U3, u3, k3, n3, w3⟩ := put_spec (x := p3) n2 (by omega)
    obtain ⟨U4, u4, k4, n4, w4⟩ := put_spec (x := p4) n3 (by omega)
    obtain ⟨U5, u5, k5, n5, w5⟩ := put_spec (x := p5) n4 (by omega)
    have l5 : fr pTapeM T5 U5 := k1.tr (k2.tr (k3.tr (k4.tr k5)))
    have hfr : fr pFeed S U5 := (pC_feed g5).tr (pM_feed l5)
    refine ⟨nI (t + 20), T5, U5, ?_, ?_, ?_⟩
    · simp only [a1, a2, a3, a4, a5, bV_eq]
      rw [c5]
    · rw [d0, e20, if_pos (nI_le hr (by decide))]
      simp only [u1, u2, u3, u4, u5, bV_eq]
      rw [n5]
    · have hA2 : iA U5 := by
        refine ⟨t + 20, hr, ?_, n5, fun i => ?_⟩
        · rw [l5.2.1 1 1 (by unfold pTapeM; omega)]; exact c5
        · have q1 : gi U5 2 i = gi T5 2 i := l5.2.1 2 i (by unfold pTapeM; omega)
          have q2 : gi T5 71 i = gi S 71 i := g5.2.1 71 i (by unfold pTapeC; omega)
          rw [q1, b5, b4, b3, b2, b1, w5, w4, w3, w2, w1, q2, (hb i).1]
          refine ⟨rfl, ?_⟩
          split
          · exact byt_bnd _ _
          split
          · exact byt_bnd _ _
          split
          · exact byt_bnd _ _
          split
          · exact byt_bnd _ _
          split
          · exact byt_bnd _ _
          · exact (hb i).2
      exact ⟨hfr.sh hs, hA2, hB.fr hfr (fun c k hd hp => by unfold dB at hd; unfold pFeed at hp; omega), hC.fr hfr (fun c k hd hp => by unfold dC at hd; unfold pFeed at hp; omega), hO.fr hfr (fun c k hd hp => by unfold dO at hd; unfold pFeed at hp; omega), hD.fr hfr (fun c k hd hp => by unfold dD at hd; unfold pFeed at hp; omega), hE.fr hfr (fun c k hd hp => by unfold dE at hd; unfold pFeed at hp; omega), hG.fr hfr (fun c k hd hp => by unfold dG at hd; unfold pFeed at hp; omega), hH.fr hfr (fun c k hd hp => by unfold dH at hd; unfold pFeed at hp; omega), hU.fr hfr (fun c k hd hp => by unfold dU at hd; unfold pFeed at hp; omega), hJ.fr hfr (fun c k hd hp => by unfold dJ at hd; unfold pFeed at hp; omega), hW.fr hfr (by unfold pFeed; omega), hF.fr hfr (fun c k hd hp => by unfold dF at hd; unfold pFeed at hp; omega), hK.fr hfr (fun c k hd hp => by unfold dK at hd; unfold pFeed at hp; omega) hB hD⟩
  · rw [if_pos (nI_lt (by omega) (by omega)), bI_eq, if_pos rfl]
    refine ⟨-1, S, S, rfl, ?_, h.step⟩
    rw [e2, e20, if_neg (nI_ge (by omega) (by omega))]
theorem ok_end {m : Nat} {S : AS} (hm : m < 600) (h : INV m S) (p1 : Int32) : ∃ (r : Int32) (S1 S2 : AS), f_Chan_end p1 S = some (r, S1) ∧ f_Md_end p1 S1 = some (r, S2) ∧ INV (m + 1) S2 := by
  obtain ⟨hs, hA, hB, hC, hO, hD, hE, hG, hH, hU, hJ, hW, hF, hK⟩ := id h
  obtain ⟨t, ht, e1, e2, hb⟩ := id hA
  unfold f_Chan_end f_Md_end f_Tape_cutTo
  rw [e1]
  by_cases h0 : p1 < 0
  · rw [if_pos h0, bI_eq, chk_pos isb_0]
    exact ⟨0, S, S, rfl, by rw [if_pos h0], h.step⟩
  · rw [if_neg h0]
    by_cases h1 : p1 ≤ nI t
    · rw [if_pos h1, nm_eq, bI_eq, chk_pos isb_1]
      obtain ⟨n, hn, rfl⟩ := nn_of h0
      have hnt : n ≤ t := by
        rcases Nat.lt_or_ge t n with q | q
        · exact absurd h1 (nI_ge q hn)
        · exact q
      have hfr : fr pFeed S (si (si S 1 1 (nI n)) 70 1 (nI n)) := ((fr_rf _ S).si (by unfold pFeed; omega)).si (by unfold pFeed; omega)
      refine ⟨1, _, si (si S 1 1 (nI n)) 70 1 (nI n), rfl, ?_, ?_⟩
      · have e3 : gi (si S 1 1 (nI n)) 70 1 = nI t := e2
        rw [if_neg h0, e3, if_pos h1, nm_eq]
      · have hA2 : iA (si (si S 1 1 (nI n)) 70 1 (nI n)) := ⟨n, by omega, rfl, rfl, fun i => hb i⟩
        exact ⟨hfr.sh hs, hA2, hB.fr hfr (fun c k hd hp => by unfold dB at hd; unfold pFeed at hp; omega), hC.fr hfr (fun c k hd hp => by unfold dC at hd; unfold pFeed at hp; omega), hO.fr hfr (fun c k hd hp => by unfold dO at hd; unfold pFeed at hp; omega), hD.fr hfr (fun c k hd hp => by unfold dD at hd; unfold pFeed at hp; omega), hE.fr hfr (fun c k hd hp => by unfold dE at hd; unfold pFeed at hp; omega), hG.fr hfr (fun c k hd hp => by unfold dG at hd; unfold pFeed at hp; omega), hH.fr hfr (fun c k hd hp => by unfold dH at hd; unfold pFeed at hp; omega), hU.fr hfr (fun c k hd hp => by unfold dU at hd; unfold pFeed at hp; omega), hJ.fr hfr (fun c k hd hp => by unfold dJ at hd; unfold pFeed at hp; omega), hW.fr hfr (by unfold pFeed; omega), hF.fr hfr (fun c k hd hp => by unfold dF at hd; unfold pFeed at hp; omega), hK.fr hfr (fun c k hd hp => by unfold dK at hd; unfold pFeed at hp; omega) hB hD⟩
    · rw [if_neg h1, bI_eq, chk_pos isb_0]
      refine ⟨0, S, S, rfl, ?_, h.step⟩
      rw [if_neg h0, e2, if_neg h1]
theorem ok_fault {m : Nat} {S : AS} (hm : m < 600) (h : INV m S) (p1 : Int32) : ∃ (r : Int32) (S1 S2 : AS), f_Chan_fault p1 S = some (r, S1) ∧ f_Md_fault p1 S1 = some (r, S2) ∧ INV (m + 1) S2 := by
  obtain ⟨hs, hA, hB, hC, hO, hD, hE, hG, hH, hU, hJ, hW, hF, hK⟩ := id h
  unfold f_Chan_fault f_Md_fault
  by_cases h0 : p1 = 0
  · rw [if_pos h0]
    exact ⟨_, S, S, rfl, by rw [if_pos h0, hG.1], h.step⟩
  · rw [if_neg h0]
    by_cases h1 : p1 = 1
    · rw [if_pos h1]
      exact ⟨_, S, S, rfl, by rw [if_neg h0, if_pos h1, hG.2], h.step⟩
    · rw [if_neg h1]
      exact ⟨_, S, S, rfl, by rw [if_neg h0, if_neg h1], h.step⟩
theorem ok_claim {m : Nat} {S : AS} (hm : m < 600) (h : INV m S) (p1 : Int32) : ∃ (r : Int32) (S1 S2 : AS), f_Chan_claim p1 S = some (r, S1) ∧ f_Md_claim p1 S1 = some (r, S2) ∧ INV (m + 1) S2 := by
  obtain ⟨hs, hA, hB, hC, hO, hD, hE, hG, hH, hU, hJ, hW, hF, hK⟩ := id h
  obtain ⟨c, hc, e1, e2, hb⟩ := id hH
  unfold f_Chan_claim f_Md_claim
  simp only [nm_eq]
  rw [e1]
  by_cases h0 : p1 < 0
  · rw [if_pos h0]
    exact ⟨_, S, S, rfl, by rw [if_pos h0], h.step⟩
  · rw [if_neg h0]
    obtain ⟨n, hn, rfl⟩ := nn_of h0
    rcases Nat.lt_or_ge n c with q | q
    · rw [if_neg (nI_ge q (by omega)), chk_pos (in_nI (by omega) (by decide))]
      refine ⟨_, S, S, rfl, ?_, h.step⟩
      rw [if_neg h0, e2, if_pos (nI_lt q (by omega)), chk_pos (in_nI (by omega) (by decide)), ix_nI hn, hb n q]
    · rw [if_pos (nI_le q hn)]
      refine ⟨_, S, S, rfl, ?_, h.step⟩
      rw [if_neg h0, e2, if_neg (nI_nlt q hn)]
