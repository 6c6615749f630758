theorem wC_no {J : AS → Option (Int32 × AS)} {w cnt : Nat} {p : Int32} {S : AS} (hw : w < 24) (hc : cnt ≤ 3) : ∀ (n i : Nat), i ≤ cnt → cnt - i < n → (∀ k, i ≤ k → k < cnt → ¬ gi S 64 (3 * w + k) = p) → f_Exchange_addWish_L10 J (nI w) p (nI cnt) n (nI i) S = J S := by
  intro n
  induction n with
  | zero => intro i _ h; omega
  | succ n ih =>
    intro i hi hn hno
    rw [f_Exchange_addWish_L10]
    rcases Nat.lt_or_ge i cnt with q | q
    · rw [if_neg (nI_ge q (by omega))]
      have e : nI w * 3 + nI i = nI (3 * w + i) := by rw [show (3 : Int32) = nI 3 from rfl, pk_mul, nI_add, Nat.mul_comm]
      rw [e, chk_pos (in_nI (by omega) (by decide)), ix_nI (by omega), if_neg (hno i (Nat.le_refl _) q), nI_1]
      exact ih (i + 1) (by omega) (by omega) (fun k h1 h2 => hno k (by omega) h2)
    · rw [if_pos (nI_le q (by omega))]
theorem wC_yes {J : AS → Option (Int32 × AS)} {w cnt : Nat} {p : Int32} {S : AS} (hw : w < 24) (hc : cnt ≤ 3) : ∀ (n i : Nat), i ≤ cnt → cnt - i < n → (∃ k, i ≤ k ∧ k < cnt ∧ gi S 64 (3 * w + k) = p) → f_Exchange_addWish_L10 J (nI w) p (nI cnt) n (nI i) S = some (-1, S) := by
  intro n
  induction n with
  | zero => intro i _ h; omega
  | succ n ih =>
    intro i hi hn hyes
    obtain ⟨k, k1, k2, k3⟩ := hyes
    rw [f_Exchange_addWish_L10, if_neg (nI_ge (by omega) (by omega))]
    have e : nI w * 3 + nI i = nI (3 * w + i) := by rw [show (3 : Int32) = nI 3 from rfl, pk_mul, nI_add, Nat.mul_comm]
    rw [e, chk_pos (in_nI (by omega) (by decide)), ix_nI (by omega)]
    by_cases hh : gi S 64 (3 * w + i) = p
    · rw [if_pos hh]
    · rw [if_neg hh, nI_1]
      exact ih (i + 1) (by omega) (by omega) ⟨k, by
        rcases Nat.lt_or_ge i k with q | q
        · exact q
        · exact absurd (by rw [show i = k by omega]; exact k3) hh, k2, k3⟩
theorem wM_no {J : AS → Option (Int32 × AS)} {w cnt : Nat} {p : Int32} {S : AS} (hw : w < 24) (hc : cnt ≤ 3) (ec : gi S 95 w = nI cnt) : ∀ (n i : Nat), i ≤ cnt → cnt - i < n → (∀ k, i ≤ k → k < cnt → ¬ gi S 94 (3 * w + k) = p) → f_Md_wish_L30 J (nI w) p n (nI i) S = J S := by
  intro n
  induction n with
  | zero => intro i _ h; omega
  | succ n ih =>
    intro i hi hn hno
    rw [f_Md_wish_L30, chk_pos (in_nI (by omega) (by decide)), ix_nI (by omega), ec]
    rcases Nat.lt_or_ge i cnt with q | q
    · rw [if_neg (nI_ge q (by omega))]
      have e : 3 * nI w + nI i = nI (3 * w + i) := n3 w i
      rw [e, chk_pos (in_nI (by omega) (by decide)), ix_nI (by omega), if_neg (hno i (Nat.le_refl _) q), nI_1]
      exact ih (i + 1) (by omega) (by omega) (fun k h1 h2 => hno k (by omega) h2)
    · rw [if_pos (nI_le q (by omega))]
theorem wM_yes {J : AS → Option (Int32 × AS)} {w cnt : Nat} {p : Int32} {S : AS} (hw : w < 24) (hc : cnt ≤ 3) (ec : gi S 95 w = nI cnt) : ∀ (n i : Nat), i ≤ cnt → cnt - i < n → (∃ k, i ≤ k ∧ k < cnt ∧ gi S 94 (3 * w + k) = p) → f_Md_wish_L30 J (nI w) p n (nI i) S = some (-1, S) := by
  intro n
  induction n with
  | zero => intro i _ h; omega
  | succ n ih =>
    intro i hi hn hyes
    obtain ⟨k, k1, k2, k3⟩ := hyes
    rw [f_Md_wish_L30, chk_pos (in_nI (by omega) (by decide)), ix_nI (by omega), ec, if_neg (nI_ge (by omega) (by omega))]
    have e : 3 * nI w + nI i = nI (3 * w + i) := n3 w i
    rw [e, chk_pos (in_nI (by omega) (by decide)), ix_nI (by omega)]
    by_cases hh : gi S 94 (3 * w + i) = p
    · rw [if_pos hh]
    · rw [if_neg hh, nI_1]
      exact ih (i + 1) (by omega) (by omega) ⟨k, by
        rcases Nat.lt_or_ge i k with q | q
        · exact q
        · exact absurd (by rw [show i = k by omega]; exact k3) hh, k2, k3⟩
theorem ok_wish {m : Nat} {S : AS} (hm : m < 600) (h : INV m S) (p1 p2 : Int32) : ∃ (r : Int32) (S1 S2 : AS), f_Chan_wish p1 p2 S = some (r, S1) ∧ f_Md_wish p1 p2 S1 = some (r, S2) ∧ INV (m + 1) S2 := by
  obtain ⟨hs, hA, hB, hC, hO, hD, hE, hG, hH, hU, hJ, hW, hF, hK⟩ := id h
  obtain ⟨hP, hQ, e1, e2, e3, e4, bP, bQ⟩ := id hB
  have one : ¬ (1 : Int32) = 0 := by decide
  rcases idx_cases p1 (nP S) (by omega) with ⟨w, hw, ew, w0, w1⟩ | hno
  rotate_left
  · refine ⟨-1, S, S, ?_, ?_, h.step⟩
    · unfold f_Chan_wish; rw [rp_no e2 hno, bI_eq, if_pos rfl]
    · unfold f_Md_wish; rw [mp_no e1 hno, bI_eq, if_pos rfl]
  rcases idx_cases p2 (nQ S) (by omega) with ⟨p, hp, ep, q0, q1⟩ | hno
  rotate_left
  · refine ⟨-1, S, S, ?_, ?_, h.step⟩
    · unfold f_Chan_wish; rw [rp_yes e2 w0 w1, bI_eq, if_neg one, rq_no e4 hno, bI_eq, if_pos rfl]
    · unfold f_Md_wish; rw [mp_yes e1 w0 w1, bI_eq, if_neg one, mq_no e3 hno, bI_eq, if_pos rfl]
  obtain ⟨c, hc, c1, c2, c3⟩ := hU w (by omega)
  have hCC : f_Chan_wish p1 p2 S = (bI (f_Exchange_addWish p1 p2 S) fun r6 S5 => some (r6, S5)) := by
    unfold f_Chan_wish; rw [rp_yes e2 w0 w1, bI_eq, if_neg one, rq_yes e4 q0 q1, bI_eq, if_neg one]
  subst ew
  have hex : f_Exchange_addWish (nI w) p2 S = f_Exchange_addWish_L10 (fun (S2 : AS) => if nI c < 3 then (chk (vp_in ((nI w * 3) + nI c) 72) (nm (si S2 64 (ix ((nI w * 3) + nI c)) p2) fun S3 => chk (vp_in (nI w) 24) (nm (si S3 65 (ix (nI w)) (nI c + 1)) fun S4 => some (nI c + 1, S4)))) else (some ((-1), S2))) (nI w) p2 (nI c) FU (nI 0) S := by
    unfold f_Exchange_addWish
    rw [chk_pos (in_nI (by omega) (by decide)), nm_eq, nm_eq, ix_nI (by omega), c1]
    rfl
  by_cases hf : ∃ k, k < c ∧ gi S 64 (3 * w + k) = p2
  · obtain ⟨k, k1, k2⟩ := hf
    refine ⟨-1, S, S, ?_, ?_, h.step⟩
    · rw [hCC, hex, wC_yes (by omega) hc FU 0 (by omega) (by unfold FU; omega) ⟨k, by omega, k1, k2⟩, bI_eq]
    · unfold f_Md_wish
      rw [mp_yes e1 w0 w1, bI_eq, if_neg one, mq_yes e3 q0 q1, bI_eq, if_neg one, chk_pos (in_nI (by omega) (by decide)), ix_nI (by omega), c2]
      by_cases h3 : c = 3
      · rw [if_pos (by rw [h3]; rfl)]
      · rw [if_neg (show ¬ nI c = 3 from fun q => h3 (nI_inj (b := 3) (by omega) (by decide) q)), nm_eq]
        rw [show (0 : Int32) = nI 0 from rfl, wM_yes (by omega) hc c2 FU 0 (by omega) (by unfold FU; omega) ⟨k, by omega, k1, by rw [← (c3 k k1).1]; exact k2⟩]
  · have hno1 : ∀ k, 0 ≤ k → k < c → ¬ gi S 64 (3 * w + k) = p2 := fun k _ h1 h2 => hf ⟨k, h1, h2⟩
    by_cases h3 : c = 3
    · refine ⟨-1, S, S, ?_, ?_, h.step⟩
      · rw [hCC, hex, wC_no (by omega) hc FU 0 (by omega) (by unfold FU; omega) hno1, if_neg (by rw [h3]; decide), bI_eq]
      · unfold f_Md_wish
        rw [mp_yes e1 w0 w1, bI_eq, if_neg one, mq_yes e3 q0 q1, bI_eq, if_neg one, chk_pos (in_nI (by omega) (by decide)), ix_nI (by omega), c2, if_pos (by rw [h3]; rfl)]
    · have e9 : nI w * 3 + nI c = nI (3 * w + c) := by rw [show (3 : Int32) = nI 3 from rfl, pk_mul, nI_add, Nat.mul_comm]
      have e8 : 3 * nI w + nI c = nI (3 * w + c) := n3 w c
      have hcl : f_Chan_wish (nI w) p2 S = some (nI (c + 1), si (si S 64 (3 * w + c) p2) 65 w (nI (c + 1))) := by
        rw [hCC, hex, wC_no (by omega) hc FU 0 (by omega) (by unfold FU; omega) hno1, if_pos (show nI c < 3 from nI_lt (b := 3) (by omega) (by decide)), e9, chk_pos (in_nI (by omega) (by decide)), nm_eq, chk_pos (in_nI (by omega) (by decide)), nm_eq, ix_nI (by omega), ix_nI (by omega), nI_1, bI_eq]
      refine ⟨_, _, si (si (si (si S 64 (3 * w + c) p2) 65 w (nI (c + 1))) 94 (3 * w + c) p2) 95 w (nI (c + 1)), hcl, ?_, ?_⟩
      · generalize hT : si (si S 64 (3 * w + c) p2) 65 w (nI (c + 1)) = T
        have t1 : gi T 70 2 = nI (nP S) := by rw [← hT]; exact e1
        have t3 : gi T 70 4 = nI (nQ S) := by rw [← hT]; exact e3
        have t95 : gi T 95 w = nI c := by rw [← hT]; exact c2
        have t94 : ∀ k, gi T 94 k = gi S 94 k := fun k => by rw [← hT]; rfl
        unfold f_Md_wish
        rw [mp_yes t1 w0 w1, bI_eq, if_neg one, mq_yes t3 q0 q1, bI_eq, if_neg one, chk_pos (in_nI (by omega) (by decide)), ix_nI (by omega), t95, if_neg (show ¬ nI c = 3 from fun q => h3 (nI_inj (b := 3) (by omega) (by decide) q)), nm_eq]
        rw [show (0 : Int32) = nI 0 from rfl, wM_no (by omega) hc t95 FU 0 (by omega) (by unfold FU; omega) (fun k k1 k2 => by rw [t94, ← (c3 k k2).1]; exact hno1 k k1 k2)]
        have u95 : gi (si T 94 (3 * w + c) p2) 95 w = nI c := t95
        simp only [t95, e8, chk_pos (in_nI (show w < 24 by omega) (by decide : 24 < 2147483648)), chk_pos (in_nI (show 3 * w + c < 72 by omega) (by decide : 72 < 2147483648)), ix_nI (show 3 * w + c < 2147483648 by omega), ix_nI (show w < 2147483648 by omega), nm_eq, u95, nI_1]
        have u96 : gi (si (si T 94 (3 * w + c) p2) 95 w (nI (c + 1))) 95 w = nI (c + 1) := by simp [gi_si]
        rw [u96]
      · generalize hT : si (si (si (si S 64 (3 * w + c) p2) 65 w (nI (c + 1))) 94 (3 * w + c) p2) 95 w (nI (c + 1)) = T
        have hfr : fr pCont S T := by
          rw [← hT]
          refine fr.si (fr.si (fr.si (fr.si (fr_rf _ _) ?_) ?_) ?_) ?_ <;> unfold pCont <;> omega
        have nQT : nQ T = nQ S := by unfold nQ; rw [hfr.2.1 70 4 (by unfold pCont; omega)]
        have hU2 : iU T := by
          intro v hv
          by_cases hvw : v = w
          · subst hvw
            refine ⟨c + 1, by omega, by rw [← hT]; simp [gi_si], by rw [← hT]; simp [gi_si], fun i hi => ?_⟩
            by_cases hic : i = c
            · subst hic
              have a1 : gi T 64 (3 * v + i) = p2 := by rw [← hT]; simp [gi_si]
              have a2 : gi T 94 (3 * v + i) = p2 := by rw [← hT]; simp [gi_si]
              rw [a1, a2, nQT]
              exact ⟨rfl, p, hp, ep⟩
            · have a1 : gi T 64 (3 * v + i) = gi S 64 (3 * v + i) := by rw [← hT]; simp [gi_si, show ¬ i = c from hic]
              have a2 : gi T 94 (3 * v + i) = gi S 94 (3 * v + i) := by rw [← hT]; simp [gi_si, show ¬ i = c from hic]
              rw [a1, a2, nQT]
              exact c3 i (by omega)
          · obtain ⟨d, d0, d1, d2, d3⟩ := hU v hv
            have a1 : gi T 65 v = gi S 65 v := by rw [← hT]; simp [gi_si, hvw]
            have a2 : gi T 95 v = gi S 95 v := by rw [← hT]; simp [gi_si, hvw]
            refine ⟨d, d0, by rw [a1]; exact d1, by rw [a2]; exact d2, fun i hi => ?_⟩
            have a3 : gi T 64 (3 * v + i) = gi S 64 (3 * v + i) := by rw [← hT]; simp [gi_si, show ¬ 3 * v + i = 3 * w + c by omega]
            have a4 : gi T 94 (3 * v + i) = gi S 94 (3 * v + i) := by rw [← hT]; simp [gi_si, show ¬ 3 * v + i = 3 * w + c by omega]
            rw [a3, a4, nQT]
            exact d3 i hi
        exact ⟨hfr.sh hs, hA.fr hfr (fun c k hd hp => by unfold dA at hd; unfold pCont at hp; omega), hB.fr hfr (fun c k hd hp => by unfold dB at hd; unfold pCont at hp; omega), hC.fr hfr (fun c k hd hp => by unfold dC at hd; unfold pCont at hp; omega), hO.fr hfr (fun c k hd hp => by unfold dO at hd; unfold pCont at hp; omega), hD.fr hfr (fun c k hd hp => by unfold dD at hd; unfold pCont at hp; omega), hE.fr hfr (fun c k hd hp => by unfold dE at hd; unfold pCont at hp; omega), hG.fr hfr (fun c k hd hp => by unfold dG at hd; unfold pCont at hp; omega), hH.fr hfr (fun c k hd hp => by unfold dH at hd; unfold pCont at hp; omega), hU2, hJ.fr hfr (fun c k hd hp => by unfold dJ at hd; unfold pCont at hp; omega), hW.fr hfr (by unfold pCont; omega), hF.fr hfr (fun c k hd hp => by unfold dF at hd; unfold pCont at hp; omega), hK.fr hfr (fun c k hd hp => by unfold dK at hd; unfold pCont at hp; omega) hB hD⟩
