theorem rng1_cases (p : Int32) (N : Nat) (hN : N < 2147483648) : (if p < 1 then (0 : Int32) else if nI N < p then 0 else 1) = 0 ∨ ∃ n, 1 ≤ n ∧ n ≤ N ∧ p = nI n ∧ (if p < 1 then (0 : Int32) else if nI N < p then 0 else 1) = 1 := by
  by_cases h0 : p < 1
  · left; rw [if_pos h0]
  · by_cases h1 : nI N < p
    · left; rw [if_neg h0, if_pos h1]
    · right
      have h00 : ¬ p < 0 := fun q => h0 (by
        rw [Int32.lt_iff_toInt_lt] at q ⊢
        have h9 : (1 : Int32).toInt = 1 := by decide
        have h8 : (0 : Int32).toInt = 0 := by decide
        omega)
      obtain ⟨n, hn, e⟩ := nn_le hN h00 h1
      refine ⟨n, ?_, hn, e, by rw [if_neg h0, if_neg h1]⟩
      rcases Nat.eq_zero_or_pos n with q | q
      · exfalso; apply h0; rw [e, q]; decide
      · exact q
def pPost (c k : Nat) : Prop := (c = 16 ∧ (k = 7 ∨ k = 8)) ∨ c = 20 ∨ c = 21 ∨ c = 22 ∨ (c = 70 ∧ k = 4) ∨ c = 73
theorem addPost_spec {S : AS} {Q w : Nat} (e : gi S 16 7 = nI Q) (ew : gi S 16 8 = nI w) (hQ : Q < 16) (p1 p2 : Int32) : f_Roll_addPost p1 p2 S = some (nI Q, si (si (si (si (si S 20 Q p1) 21 Q p2) 22 Q (-1)) 16 7 (nI (Q + 1))) 16 8 (nI (w + 1))) := by
  unfold f_Roll_addPost
  rw [e, show (16 : Int32) = nI 16 from rfl, if_pos (nI_lt hQ (by decide))]
  simp [nm_eq, gi_si, e, ew, chk_pos (in_nI hQ (by decide : 16 < 2147483648)), ix_nI (show Q < 2147483648 by omega), nI_1, nI_pred]
theorem mdPost_spec {S : AS} {P : Nat} (e : gi S 70 4 = nI P) (hP : P < 16) (p1 p2 : Int32) (h1 : (if p1 < 0 then (0 : Int32) else if 7 < p1 then 0 else 1) = 1) (h2 : (if p2 < 1 then (0 : Int32) else if 1000 < p2 then 0 else 1) = 1) : f_Md_post p1 p2 S = some (nI P, si (si (si (si S 73 (3 * P) p1) 73 (3 * P + 1) p2) 73 (3 * P + 2) (-1)) 70 4 (nI (P + 1))) := by
  unfold f_Md_post
  simp only [is_spec, bI_eq, h1, h2, if_neg (show ¬ (1 : Int32) = 0 by decide), e]
  rw [if_neg (show ¬ nI P = 16 from fun q => absurd (nI_inj (b := 16) (by omega) (by decide) q) (by omega))]
  have k0 : (3 : Int32) * nI P = nI (3 * P) := n30 P
  have k1 : nI (3 * P) + 1 = nI (3 * P + 1) := nI_add (3 * P) 1
  have k2 : nI (3 * P) + 2 = nI (3 * P + 2) := nI_add (3 * P) 2
  simp [nm_eq, gi_si, e, k0, k1, k2, chk_pos (in_nI (show 3 * P < 48 by omega) (by decide)), chk_pos (in_nI (show 3 * P + 1 < 48 by omega) (by decide)), chk_pos (in_nI (show 3 * P + 2 < 48 by omega) (by decide)), ix_nI (show 3 * P < 2147483648 by omega), ix_nI (show 3 * P + 1 < 2147483648 by omega), ix_nI (show 3 * P + 2 < 2147483648 by omega), nI_1, nI_pred]
theorem ok_post {m : Nat} {S : AS} (hm : m < 600) (h : INV m S) (p1 p2 : Int32) : ∃ (r : Int32) (S1 S2 : AS), f_Chan_post p1 p2 S = some (r, S1) ∧ f_Md_post p1 p2 S1 = some (r, S2) ∧ INV (m + 1) S2 := by
  obtain ⟨hs, hA, hB, hC, hO, hD, hE, hG, hH, hU, hJ, hW, hF, hK⟩ := id h
  obtain ⟨hP, hQ, e1, e2, e3, e4, bP, bQ⟩ := id hB
  obtain ⟨w, hw, ew⟩ := id hW
  have one : ¬ (1 : Int32) = 0 := by decide
  rcases rng_cases p1 7 (by decide) with r1 | ⟨d1, hd1, ed1, r1⟩
  · refine ⟨-1, S, S, ?_, ?_, h.step⟩
    · unfold f_Chan_post; rw [within_spec, bI_eq, show (7 : Int32) = nI 7 from rfl, r1, if_pos rfl]
    · unfold f_Md_post; rw [is_spec, bI_eq, show (7 : Int32) = nI 7 from rfl, r1, if_pos rfl]
  rcases rng1_cases p2 1000 (by decide) with r2 | ⟨d2, hd0, hd2, ed2, r2⟩
  · refine ⟨-1, S, S, ?_, ?_, h.step⟩
    · unfold f_Chan_post; rw [within_spec, bI_eq, show (7 : Int32) = nI 7 from rfl, r1, if_neg one, within_spec, bI_eq, show (1000 : Int32) = nI 1000 from rfl, r2, if_pos rfl]
    · unfold f_Md_post; rw [is_spec, bI_eq, show (7 : Int32) = nI 7 from rfl, r1, if_neg one, is_spec, bI_eq, show (1000 : Int32) = nI 1000 from rfl, r2, if_pos rfl]
  have hC1 : f_Chan_post p1 p2 S = (bI (f_Roll_addPost p1 p2 S) fun r8 S7 => some (r8, S7)) := by
    unfold f_Chan_post; rw [within_spec, bI_eq, show (7 : Int32) = nI 7 from rfl, r1, if_neg one, within_spec, bI_eq, show (1000 : Int32) = nI 1000 from rfl, r2, if_neg one]
  by_cases hfull : nQ S < 16
  · have a1 := addPost_spec e4 ew hfull p1 p2
    have a2 := mdPost_spec (S := si (si (si (si (si S 20 (nQ S) p1) 21 (nQ S) p2) 22 (nQ S) (-1)) 16 7 (nI (nQ S + 1))) 16 8 (nI (w + 1))) (P := nQ S) e3 hfull p1 p2 r1 r2
    refine ⟨_, _, _, by rw [hC1, a1, bI_eq], a2, ?_⟩
    generalize hT : si (si (si (si (si (si (si (si (si S 20 (nQ S) p1) 21 (nQ S) p2) 22 (nQ S) (-1)) 16 7 (nI (nQ S + 1))) 16 8 (nI (w + 1))) 73 (3 * nQ S) p1) 73 (3 * nQ S + 1) p2) 73 (3 * nQ S + 2) (-1)) 70 4 (nI (nQ S + 1)) = T
    have hfr : fr pPost S T := by
      rw [← hT]
      refine fr.si (fr.si (fr.si (fr.si (fr.si (fr.si (fr.si (fr.si (fr.si (fr_rf _ _) ?_) ?_) ?_) ?_) ?_) ?_) ?_) ?_) ?_ <;> unfold pPost <;> omega
    have tQ : gi T 70 4 = nI (nQ S + 1) := by rw [← hT]; rfl
    have nQT : nQ T = nQ S + 1 := by unfold nQ at tQ ⊢; rw [tQ]; exact ix_nI (by unfold nQ at hfull; omega)
    have nPT : nP T = nP S := by unfold nP; rw [hfr.2.1 70 2 (by unfold pPost; omega)]
    have nKT : nK T = nK S := by unfold nK; rw [hfr.2.1 70 11 (by unfold pPost; omega)]
    have hB2 : iB T := by
      refine ⟨by omega, by omega, by rw [nPT, hfr.2.1 70 2 (by unfold pPost; omega)]; exact e1, by rw [nPT, hfr.2.1 16 3 (by unfold pPost; omega)]; exact e2, by rw [nQT]; exact tQ, by rw [nQT, ← hT]; rfl, fun i hi => ?_, fun i hi => ?_⟩
      · rw [nPT] at hi
        have q17 := hfr.2.1 17 i (by unfold pPost; omega)
        have q18 := hfr.2.1 18 i (by unfold pPost; omega)
        have q19 := hfr.2.1 19 i (by unfold pPost; omega)
        have q72 : ∀ j, gi T 72 j = gi S 72 j := fun j => hfr.2.1 72 j (by unfold pPost; omega)
        rw [q17, q18, q19, q72, q72, q72]
        exact bP i hi
      · rw [nQT] at hi
        by_cases hi2 : i = nQ S
        · subst hi2
          have c1 : gi T 20 (nQ S) = p1 := by rw [← hT]; simp [gi_si]
          have c2 : gi T 21 (nQ S) = p2 := by rw [← hT]; simp [gi_si]
          have c3 : gi T 22 (nQ S) = -1 := by rw [← hT]; simp [gi_si]
          have c4 : gi T 73 (3 * nQ S) = p1 := by rw [← hT]; simp [gi_si]
          have c5 : gi T 73 (3 * nQ S + 1) = p2 := by rw [← hT]; simp [gi_si]
          have c6 : gi T 73 (3 * nQ S + 2) = -1 := by rw [← hT]; simp [gi_si]
          rw [c1, c2, c3, c4, c5, c6]
          exact ⟨rfl, rfl, rfl, ⟨d1, hd1, ed1⟩, ⟨d2, hd2, ed2⟩, by rw [ed2]; exact nI_ne0 (by omega) (by omega), Or.inl rfl⟩
        · have hlt : i < nQ S := by omega
          have c1 : gi T 20 i = gi S 20 i := by rw [← hT]; simp [gi_si, hi2]
          have c2 : gi T 21 i = gi S 21 i := by rw [← hT]; simp [gi_si, hi2]
          have c3 : gi T 22 i = gi S 22 i := by rw [← hT]; simp [gi_si, hi2]
          have c4 : ∀ j, j < 3 * nQ S → gi T 73 j = gi S 73 j := fun j hj => by
            rw [← hT]
            simp [gi_si, show ¬ j = 3 * nQ S by omega, show ¬ j = 3 * nQ S + 1 by omega, show ¬ j = 3 * nQ S + 2 by omega]
          rw [c1, c2, c3, c4 _ (by omega), c4 _ (by omega), c4 _ (by omega)]
          obtain ⟨b1, b2, b3, b4, b5, b6, b7⟩ := bQ i hlt
          exact ⟨b1, b2, b3, b4, b5, b6, b7.up (by omega)⟩
    have hW2 : iW (m + 1) T := ⟨w + 1, by omega, by rw [← hT]; rfl⟩
    exact ⟨hfr.sh hs, hA.fr hfr (fun c k hd hp => by unfold dA at hd; unfold pPost at hp; omega), hB2, iC.up (by omega) (by omega) (by omega) (hfr.2.1 70 6 (by unfold pPost; omega)) (hfr.2.1 32 4 (by unfold pPost; omega)) (fun k => hfr.2.1 33 k (by unfold pPost; omega)) (fun k => hfr.2.1 34 k (by unfold pPost; omega)) (fun k => hfr.2.1 35 k (by unfold pPost; omega)) (fun k => hfr.2.1 36 k (by unfold pPost; omega)) (fun k => hfr.2.1 74 k (by unfold pPost; omega)) (fun k => hfr.2.1 75 k (by unfold pPost; omega)) (fun k => hfr.2.1 76 k (by unfold pPost; omega)) (fun k => hfr.2.1 77 k (by unfold pPost; omega)) (fun k => hfr.2.1 78 k (by unfold pPost; omega)) hC, hO.fr hfr (fun c k hd hp => by unfold dO at hd; unfold pPost at hp; omega), hD.fr hfr (fun c k hd hp => by unfold dD at hd; unfold pPost at hp; omega), hE.fr hfr (fun c k hd hp => by unfold dE at hd; unfold pPost at hp; omega), hG.fr hfr (fun c k hd hp => by unfold dG at hd; unfold pPost at hp; omega), hH.fr hfr (fun c k hd hp => by unfold dH at hd; unfold pPost at hp; omega), iU.up (by omega) (fun k => hfr.2.1 64 k (by unfold pPost; omega)) (fun k => hfr.2.1 65 k (by unfold pPost; omega)) (fun k => hfr.2.1 94 k (by unfold pPost; omega)) (fun k => hfr.2.1 95 k (by unfold pPost; omega)) hU, hJ.fr hfr (fun c k hd hp => by unfold dJ at hd; unfold pPost at hp; omega), hW2, hF.fr hfr (fun c k hd hp => by unfold dF at hd; unfold pPost at hp; omega), hK.bump (w := w) (by omega) ew (by rw [← hT]; rfl) (hfr.2.1 49 16 (by unfold pPost; omega)) (fun n => hfr.2.1 62 n (by unfold pPost; omega))⟩
  · have hP24 : nQ S = 16 := by omega
    refine ⟨-1, S, S, ?_, ?_, h.step⟩
    · rw [hC1]
      unfold f_Roll_addPost
      rw [e4, hP24, if_neg (by decide), bI_eq]
    · unfold f_Md_post; rw [is_spec, bI_eq, show (7 : Int32) = nI 7 from rfl, r1, if_neg one, is_spec, bI_eq, show (1000 : Int32) = nI 1000 from rfl, r2, if_neg one, e3, hP24, if_pos (by decide)]
def pSeat (c k : Nat) : Prop := (c = 16 ∧ k = 8) ∨ c = 22 ∨ c = 73
theorem ok_seat {m : Nat} {S : AS} (hm : m < 600) (h : INV m S) (p1 p2 : Int32) : ∃ (r : Int32) (S1 S2 : AS), f_Chan_seat p1 p2 S = some (r, S1) ∧ f_Md_seat p1 p2 S1 = some (r, S2) ∧ INV (m + 1) S2 := by
  obtain ⟨hs, hA, hB, hC, hO, hD, hE, hG, hH, hU, hJ, hW, hF, hK⟩ := id h
  obtain ⟨hP, hQ, e1, e2, e3, e4, bP, bQ⟩ := id hB
  obtain ⟨hN, n1, n2, -⟩ := id hC
  obtain ⟨w, hw, ew⟩ := id hW
  have one : ¬ (1 : Int32) = 0 := by decide
  rcases idx_cases p1 (nQ S) (by omega) with ⟨p, hp, ep, q0, q1⟩ | hno
  rotate_left
  · refine ⟨0, S, S, ?_, ?_, h.step⟩
    · unfold f_Chan_seat; rw [rq_no e4 hno, bI_eq, if_pos rfl]
    · unfold f_Md_seat; rw [mq_no e3 hno, bI_eq, if_pos rfl]
  subst ep
  -- the rest, once the person is well
  have core : (p2 = -1 ∨ ∃ v, v < nP S ∧ p2 = nI v) → ∃ (r : Int32) (S1 S2 : AS), (if (gi S 32 4) ≤ 0 then (bV (f_Roll_putSeat (nI p) p2 S) fun S4 => some ((1 : Int32), S4)) else (some (0, S))) = some (r, S1) ∧ (if (gi S1 70 6) ≤ 0 then (chk (vp_in ((3 * nI p) + 2) 48) (nm (si S1 73 (ix ((3 * nI p) + 2)) p2) fun S4 => some ((1 : Int32), S4))) else (some (0, S1))) = some (r, S2) ∧ (∀ c k, ¬ pSeat c k → gi S1 c k = gi S c k) ∧ INV (m + 1) S2 := fun hv => by
    by_cases hz : nN S = 0
    · have k2 : (3 : Int32) * nI p + 2 = nI (3 * p + 2) := n3 p 2
      have hfr1 : fr pSeat S (si (si S 22 p p2) 16 8 (nI (w + 1))) := ((fr_rf _ S).si (by unfold pSeat; omega)).si (by unfold pSeat; omega)
      have hfr : fr pSeat S (si (si (si S 22 p p2) 16 8 (nI (w + 1))) 73 (3 * p + 2) p2) := hfr1.si (by unfold pSeat; omega)
      refine ⟨1, si (si S 22 p p2) 16 8 (nI (w + 1)), si (si (si S 22 p p2) 16 8 (nI (w + 1))) 73 (3 * p + 2) p2, ?_, ?_, hfr1.2.1, ?_⟩
      · rw [n2, hz, if_pos (by decide)]
        unfold f_Roll_putSeat
        have ew2 : gi (si S 22 p p2) 16 8 = nI w := ew
        rw [rq_yes e4 q0 q1, bI_eq, if_neg one, chk_pos (in_nI (by omega) (by decide)), nm_eq, nm_eq, ix_nI (by omega), ew2, nI_1, bV_eq]
      · have n3' : gi (si (si S 22 p p2) 16 8 (nI (w + 1))) 70 6 = nI (nN S) := n1
        rw [n3', hz, if_pos (by decide), k2, chk_pos (in_nI (by omega) (by decide)), nm_eq, ix_nI (by omega)]
      · generalize hT : si (si (si S 22 p p2) 16 8 (nI (w + 1))) 73 (3 * p + 2) p2 = T at hfr
        have nPT : nP T = nP S := by unfold nP; rw [hfr.2.1 70 2 (by unfold pSeat; omega)]
        have nQT : nQ T = nQ S := by unfold nQ; rw [hfr.2.1 70 4 (by unfold pSeat; omega)]
        have hB2 : iB T := by
          refine ⟨by omega, by omega, by rw [nPT, hfr.2.1 70 2 (by unfold pSeat; omega)]; exact e1, by rw [nPT, hfr.2.1 16 3 (by unfold pSeat; omega)]; exact e2, by rw [nQT, hfr.2.1 70 4 (by unfold pSeat; omega)]; exact e3, by rw [nQT, hfr.2.1 16 7 (by unfold pSeat; omega)]; exact e4, fun i hi => ?_, fun i hi => ?_⟩
          · rw [nPT] at hi
            have q17 := hfr.2.1 17 i (by unfold pSeat; omega)
            have q18 := hfr.2.1 18 i (by unfold pSeat; omega)
            have q19 := hfr.2.1 19 i (by unfold pSeat; omega)
            have q72 : ∀ j, gi T 72 j = gi S 72 j := fun j => hfr.2.1 72 j (by unfold pSeat; omega)
            rw [q17, q18, q19, q72, q72, q72]
            exact bP i hi
          · rw [nQT] at hi
            have q20 := hfr.2.1 20 i (by unfold pSeat; omega)
            have q21 := hfr.2.1 21 i (by unfold pSeat; omega)
            have q73 : ∀ j, ¬ j = 3 * p + 2 → gi T 73 j = gi S 73 j := fun j hj => by rw [← hT]; simp [gi_si, hj]
            rw [q20, q21, q73 (3 * i) (by omega), q73 (3 * i + 1) (by omega)]
            obtain ⟨b1, b2, b3, b4, b5, b6, b7⟩ := bQ i hi
            by_cases hip : i = p
            · subst hip
              have c1 : gi T 22 i = p2 := by rw [← hT]; simp [gi_si]
              have c2 : gi T 73 (3 * i + 2) = p2 := by rw [← hT]; simp [gi_si]
              rw [c1, c2]
              refine ⟨b1, b2, rfl, b4, b5, b6, ?_⟩
              rcases hv with hv | ⟨v, hv, e⟩
              · exact Or.inl hv
              · exact Or.inr ⟨v, by omega, e⟩
            · have c1 : gi T 22 i = gi S 22 i := by rw [← hT]; simp [gi_si, hip]
              rw [c1, q73 (3 * i + 2) (by omega)]
              exact ⟨b1, b2, b3, b4, b5, b6, b7.up (by omega)⟩
        have hW2 : iW (m + 1) T := ⟨w + 1, by omega, by rw [← hT]; rfl⟩
        exact ⟨hfr.sh hs, hA.fr hfr (fun c k hd hp => by unfold dA at hd; unfold pSeat at hp; omega), hB2, hC.fr hfr (fun c k hd hp => by unfold dC at hd; unfold pSeat at hp; omega), hO.fr hfr (fun c k hd hp => by unfold dO at hd; unfold pSeat at hp; omega), hD.fr hfr (fun c k hd hp => by unfold dD at hd; unfold pSeat at hp; omega), hE.fr hfr (fun c k hd hp => by unfold dE at hd; unfold pSeat at hp; omega), hG.fr hfr (fun c k hd hp => by unfold dG at hd; unfold pSeat at hp; omega), hH.fr hfr (fun c k hd hp => by unfold dH at hd; unfold pSeat at hp; omega), hU.fr hfr (fun c k hd hp => by unfold dU at hd; unfold pSeat at hp; omega), hJ.fr hfr (fun c k hd hp => by unfold dJ at hd; unfold pSeat at hp; omega), hW2, hF.fr hfr (fun c k hd hp => by unfold dF at hd; unfold pSeat at hp; omega), hK.bump (w := w) (by omega) ew (by rw [← hT]; rfl) (hfr.2.1 49 16 (by unfold pSeat; omega)) (fun n => hfr.2.1 62 n (by unfold pSeat; omega))⟩
    · have hp0 : ¬ nI (nN S) ≤ 0 := nI_nle (by omega) (by omega)
      refine ⟨0, S, S, by rw [n2, if_neg hp0], by rw [n1, if_neg hp0], fun _ _ _ => rfl, h.step⟩
  unfold f_Chan_seat f_Md_seat
  rw [rq_yes e4 q0 q1, bI_eq, if_neg one]
  simp only [nm_eq]
  by_cases hm1 : p2 = -1
  · obtain ⟨r, S1, S2, a1, a2, a3, a4⟩ := core (Or.inl hm1)
    refine ⟨r, S1, S2, by rw [if_pos hm1]; exact a1, ?_, a4⟩
    have e3' : gi S1 70 4 = nI (nQ S) := by rw [a3 70 4 (by unfold pSeat; omega)]; exact e3
    rw [mq_yes e3' q0 q1, bI_eq, if_neg one, if_pos hm1]
    exact a2
  · rcases idx_cases p2 (nP S) (by omega) with ⟨v, hv, ev, v0, v1⟩ | hno
    · obtain ⟨r, S1, S2, a1, a2, a3, a4⟩ := core (Or.inr ⟨v, hv, ev⟩)
      refine ⟨r, S1, S2, by rw [if_neg hm1, rp_yes e2 v0 v1, bI_eq, if_neg one]; exact a1, ?_, a4⟩
      have e3' : gi S1 70 4 = nI (nQ S) := by rw [a3 70 4 (by unfold pSeat; omega)]; exact e3
      have e1' : gi S1 70 2 = nI (nP S) := by rw [a3 70 2 (by unfold pSeat; omega)]; exact e1
      rw [mq_yes e3' q0 q1, bI_eq, if_neg one, if_neg hm1, mp_yes e1' v0 v1, bI_eq, if_neg one]
      exact a2
    · refine ⟨0, S, S, by rw [if_neg hm1, rp_no e2 hno, bI_eq, if_pos rfl], ?_, h.step⟩
      rw [mq_yes e3 q0 q1, bI_eq, if_neg one, if_neg hm1, mp_no e1 hno, bI_eq, if_pos rfl]
