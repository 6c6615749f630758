theorem gadd_void {S : AS} {N : Nat} (hN : N < 160) (eN : gi S 32 4 = nI N) (t a b : Int32) : f_Gazette_add 4 t a b S = some (nI (N + 1), si (si (si (si (si S 32 4 (nI (N + 1))) 33 (N + 1) 4) 34 (N + 1) t) 35 (N + 1) a) 36 (N + 1) b) := by
  unfold f_Gazette_add f_Gazette_isFull
  rw [eN, show (160 : Int32) = nI 160 from rfl, if_pos (nI_lt hN (by decide)), bI_eq, if_pos rfl]
  simp [nm_eq, gi_si, eN, nI_1, chk_pos (in_nI (show N + 1 < 161 by omega) (by decide : 161 < 2147483648)), ix_nI (show N + 1 < 2147483648 by omega)]
def pDis (c k : Nat) : Prop := (c = 32 ∧ k = 4) ∨ c = 33 ∨ c = 34 ∨ c = 35 ∨ c = 36 ∨ c = 31 ∨ (c = 70 ∧ k = 6) ∨ c = 74 ∨ c = 75 ∨ c = 76 ∨ c = 77 ∨ c = 79
theorem ok_disprove {m : Nat} {S : AS} (hm : m < 600) (h : INV m S) (p1 : Int32) : ∃ (r : Int32) (S1 S2 : AS), f_Chan_disprove p1 S = some (r, S1) ∧ f_Md_disprove p1 S1 = some (r, S2) ∧ INV (m + 1) S2 := by
  obtain ⟨hs, hA, hB, hC, hO, hD, hE, hG, hH, hU, hJ, hW, hF, hK⟩ := id h
  obtain ⟨c1, c2, c3, c4⟩ := id hC
  obtain ⟨d1, d2, d3, d4⟩ := id hD
  have one : ¬ (1 : Int32) = 0 := by decide
  unfold f_Chan_disprove f_Md_disprove f_PaperBox_has
  simp only [nm_eq]
  rw [d3]
  rcases idx_cases p1 (nK S) (by omega) with ⟨j, hj, ej, j0, j1⟩ | hno
  rotate_left
  · refine ⟨-1, S, S, ?_, ?_, h.step⟩
    · rcases hno with q | ⟨q, q2⟩
      · rw [if_pos q, bI_eq, if_pos rfl]
      · rw [if_neg q, if_pos q2, bI_eq, if_pos rfl]
    · rw [d2]
      rcases hno with q | ⟨q, q2⟩
      · rw [if_pos q]
      · rw [if_neg q, if_pos q2]
  rw [if_neg j0, if_neg j1, bI_eq, if_neg one]
  subst ej
  rw [chk_pos (in_nI (by omega) (by decide)), ix_nI (by omega)]
  obtain ⟨a1, a2, a3, a4, a5, a6, a7, a8, a9, a10, a11, a12, a13, a14, a15⟩ := d4 j hj
  rcases a15 with ⟨v1, v2⟩ | ⟨v, v0, v1, v2, v3⟩
  rotate_left
  · refine ⟨-1, S, S, by rw [if_neg (by rw [v3]; exact nI_ne_m1 (by omega))], ?_, h.step⟩
    rw [if_neg j0, d2, if_neg j1, chk_pos (in_nI (show j < 48 by omega) (by decide)), v2, if_pos (show (0 : Int32) < nI v from nI_lt (a := 0) (by omega) (by omega))]
  rw [if_pos v2]
  unfold f_Gazette_isFull
  rw [c3]
  by_cases hN : nN S < 160
  rotate_left
  · have h160 : nN S = 160 := by omega
    refine ⟨-1, S, S, by rw [h160, if_neg (by decide), bI_eq, if_neg one], ?_, h.step⟩
    rw [if_neg j0, d2, if_neg j1, chk_pos (in_nI (show j < 48 by omega) (by decide)), v1, if_neg (by decide), c2, h160, if_pos (by decide)]
  rw [if_pos (show nI (nN S) < 160 from nI_lt (b := 160) hN (by decide)), bI_eq, if_pos rfl, gadd_void hN c3, bI_eq]
  refine ⟨_, _, si (si (si (si (si (si (si (si (si (si (si (si S 32 4 (nI (nN S + 1))) 33 (nN S + 1) 4) 34 (nN S + 1) (-1)) 35 (nN S + 1) (nI j)) 36 (nN S + 1) (-1)) 31 j (nI (nN S + 1))) 70 6 (nI (nN S + 1))) 74 (nN S + 1) 4) 75 (nN S + 1) 0) 76 (nN S + 1) (nI j)) 77 (nN S + 1) 0) 79 j (nI (nN S + 1)), chk_pos (in_nI (show j < 48 by omega) (by decide)), ?_, ?_⟩
  · generalize hT : si (si (si (si (si (si S 32 4 (nI (nN S + 1))) 33 (nN S + 1) 4) 34 (nN S + 1) (-1)) 35 (nN S + 1) (nI j)) 36 (nN S + 1) (-1)) 31 j (nI (nN S + 1)) = T
    have t6 : gi T 70 6 = nI (nN S) := by rw [← hT]; exact c2
    have t11 : gi T 70 11 = nI (nK S) := by rw [← hT]; exact d2
    have t79 : gi T 79 j = 0 := by rw [← hT]; exact v1
    rw [if_neg j0, t11, if_neg j1, chk_pos (in_nI (show j < 48 by omega) (by decide)), t79, if_neg (by decide), t6, if_neg (show ¬ nI (nN S) = 160 from fun q => absurd (nI_inj (b := 160) (by omega) (by decide) q) (by omega)), tell_spec hN t6, bI_eq]
    simp [gi_si, nm_eq, chk_pos (in_nI (show j < 48 by omega) (by decide : 48 < 2147483648))]
  · generalize hT : si (si (si (si (si (si (si (si (si (si (si (si S 32 4 (nI (nN S + 1))) 33 (nN S + 1) 4) 34 (nN S + 1) (-1)) 35 (nN S + 1) (nI j)) 36 (nN S + 1) (-1)) 31 j (nI (nN S + 1))) 70 6 (nI (nN S + 1))) 74 (nN S + 1) 4) 75 (nN S + 1) 0) 76 (nN S + 1) (nI j)) 77 (nN S + 1) 0) 79 j (nI (nN S + 1)) = T
    have hfr : fr pDis S T := by
      rw [← hT]
      refine fr.si (fr.si (fr.si (fr.si (fr.si (fr.si (fr.si (fr.si (fr.si (fr.si (fr.si (fr.si (fr_rf _ _) ?_) ?_) ?_) ?_) ?_) ?_) ?_) ?_) ?_) ?_) ?_) ?_ <;> unfold pDis <;> omega
    have tN : gi T 70 6 = nI (nN S + 1) := by rw [← hT]; simp [gi_si]
    have nNT : nN T = nN S + 1 := by unfold nN at tN ⊢; rw [tN]; exact ix_nI (by unfold nN at hN; omega)
    have nPT : nP T = nP S := by unfold nP; rw [hfr.2.1 70 2 (by unfold pDis; omega)]
    have nQT : nQ T = nQ S := by unfold nQ; rw [hfr.2.1 70 4 (by unfold pDis; omega)]
    have nKT : nK T = nK S := by unfold nK; rw [hfr.2.1 70 11 (by unfold pDis; omega)]
    have y33 : ∀ k, ¬ k = nN S + 1 → gi T 33 k = gi S 33 k := fun k hk => by rw [← hT]; simp [gi_si, hk]
    have y34 : ∀ k, ¬ k = nN S + 1 → gi T 34 k = gi S 34 k := fun k hk => by rw [← hT]; simp [gi_si, hk]
    have y35 : ∀ k, ¬ k = nN S + 1 → gi T 35 k = gi S 35 k := fun k hk => by rw [← hT]; simp [gi_si, hk]
    have y36 : ∀ k, ¬ k = nN S + 1 → gi T 36 k = gi S 36 k := fun k hk => by rw [← hT]; simp [gi_si, hk]
    have y74 : ∀ k, ¬ k = nN S + 1 → gi T 74 k = gi S 74 k := fun k hk => by rw [← hT]; simp [gi_si, hk]
    have y75 : ∀ k, ¬ k = nN S + 1 → gi T 75 k = gi S 75 k := fun k hk => by rw [← hT]; simp [gi_si, hk]
    have y76 : ∀ k, ¬ k = nN S + 1 → gi T 76 k = gi S 76 k := fun k hk => by rw [← hT]; simp [gi_si, hk]
    have y77 : ∀ k, ¬ k = nN S + 1 → gi T 77 k = gi S 77 k := fun k hk => by rw [← hT]; simp [gi_si, hk]
    have z74 : gi T 74 (nN S + 1) = 4 := by rw [← hT]; simp [gi_si]
    have hC2 : iC T := by
      refine ⟨by omega, by rw [nNT]; exact tN, by rw [nNT, ← hT]; simp [gi_si], fun k k1 k2 => ?_⟩
      rw [nNT] at k2
      by_cases hk : k = nN S + 1
      · subst hk
        have z33 : gi T 33 (nN S + 1) = 4 := by rw [← hT]; simp [gi_si]
        have z35 : gi T 35 (nN S + 1) = nI j := by rw [← hT]; simp [gi_si]
        have z76 : gi T 76 (nN S + 1) = nI j := by rw [← hT]; simp [gi_si]
        rw [z33, z35, z74, z76]
        exact ⟨rfl, rfl, Or.inl rfl⟩
      · rw [y33 k hk, y34 k hk, y35 k hk, y36 k hk, y74 k hk, y75 k hk, y76 k hk, y77 k hk, nPT, nQT, nKT]
        have e78 : ∀ j, gi T 78 j = gi S 78 j := fun j => hfr.2.1 78 j (by unfold pDis; omega)
        simp only [e78]
        exact c4 k k1 (by omega)
    have hO2 : iO T := by
      obtain ⟨mo, o, o1, o2, o3, o4, o5⟩ := id hO
      refine ⟨mo, o, by omega, by rw [hfr.2.1 32 6 (by unfold pDis; omega)]; exact o2, fun i hi => ?_, fun i k hik hk => ?_, fun k k1 k2 k3 => ?_⟩
      · obtain ⟨q1, q2, q3, q4⟩ := o3 i hi
        rw [hfr.2.1 37 i (by unfold pDis; omega), y74 _ (by omega), nNT]
        exact ⟨q1, q2, by omega, q4⟩
      · have q1 := (o3 i (by omega)).2.2.1
        have q2 := (o3 k hk).2.2.1
        rw [y75 _ (by omega), y75 _ (by omega)]
        exact o4 i k hik hk
      · rw [nNT] at k2
        by_cases hk : k = nN S + 1
        · rw [hk] at k3; exact absurd z74 k3
        · rw [y74 k hk] at k3
          exact o5 k k1 (by omega) k3
    have hD2 : iD T := by
      refine ⟨by omega, by rw [nKT, hfr.2.1 70 11 (by unfold pDis; omega)]; exact d2, by rw [nKT, hfr.2.1 23 8 (by unfold pDis; omega)]; exact d3, fun i hi => ?_⟩
      rw [nKT] at hi
      have e24 := hfr.2.1 24 i (by unfold pDis; omega)
      have e25 := hfr.2.1 25 i (by unfold pDis; omega)
      have e26 := hfr.2.1 26 i (by unfold pDis; omega)
      have e27 := hfr.2.1 27 i (by unfold pDis; omega)
      have e28 := hfr.2.1 28 i (by unfold pDis; omega)
      have e29 := hfr.2.1 29 i (by unfold pDis; omega)
      have e30 := hfr.2.1 30 i (by unfold pDis; omega)
      have e78 : ∀ j, gi T 78 j = gi S 78 j := fun j => hfr.2.1 78 j (by unfold pDis; omega)
      simp only [e24, e25, e26, e27, e28, e29, e30, e78, nPT, nNT]
      obtain ⟨b1, b2, b3, b4, b5, b6, b7, b8, b9, b10, b11, b12, b13, ⟨k, k1, k2, k3, k4, k5⟩, b15⟩ := d4 i hi
      refine ⟨b1, b2, b3, b4, b5, b6, b7, b8, b9, b10, b11, b12, b13, ⟨k, k1, by omega, k3, by rw [y74 k (by omega)]; exact k4, by rw [y76 k (by omega)]; exact k5⟩, ?_⟩
      by_cases hij : i = j
      · subst hij
        refine Or.inr ⟨nN S + 1, by omega, by omega, ?_, ?_⟩
        · rw [← hT]; simp [gi_si]
        · rw [← hT]; simp [gi_si]
      · have e31 : gi T 31 i = gi S 31 i := by rw [← hT]; simp [gi_si, hij]
        have e79 : gi T 79 i = gi S 79 i := by rw [← hT]; simp [gi_si, hij]
        rw [e31, e79]
        rcases b15 with q | ⟨v, v1, v2, v3⟩
        · exact Or.inl q
        · exact Or.inr ⟨v, v1, by omega, v3⟩
    have hE2 : iE T := by
      obtain ⟨f1, f2⟩ := id hE
      refine ⟨by rw [hfr.2.1 0 11 (by unfold pDis; omega), hfr.2.1 70 14 (by unfold pDis; omega)]; exact f1, ?_⟩
      rw [hfr.2.1 70 14 (by unfold pDis; omega), nNT]
      rcases f2 with q | ⟨n, n1, n2⟩
      · exact Or.inl q
      · exact Or.inr ⟨n, by omega, n2⟩
    exact ⟨hfr.sh hs, hA.fr hfr (fun c k hd hp => by unfold dA at hd; unfold pDis at hp; omega), hB.fr hfr (fun c k hd hp => by unfold dB at hd; unfold pDis at hp; omega), hC2, hO2, hD2, hE2, hG.fr hfr (fun c k hd hp => by unfold dG at hd; unfold pDis at hp; omega), hH.fr hfr (fun c k hd hp => by unfold dH at hd; unfold pDis at hp; omega), hU.fr hfr (fun c k hd hp => by unfold dU at hd; unfold pDis at hp; omega), hJ.fr hfr (fun c k hd hp => by unfold dJ at hd; unfold pDis at hp; omega), hW.fr hfr (by unfold pDis; omega), hF.fr hfr (fun c k hd hp => by unfold dF at hd; unfold pDis at hp; omega), hK.mv (P' := nP S) (K' := nK S) (Nat.le_refl _) hB.1 (Nat.le_refl _) hD.1 (by omega) (by rw [hfr.2.1 70 2 (by unfold pDis; omega)]; exact hB.2.2.1) (by rw [hfr.2.1 70 11 (by unfold pDis; omega)]; exact hD.2.1) (hfr.2.1 70 4 (by unfold pDis; omega)) (hfr.2.1 70 15 (by unfold pDis; omega)) (fun k => hfr.2.1 73 k (by unfold pDis; omega)) (fun c k _ _ => hfr.2.1 c k (by unfold pDis; omega)) (fun k _ => hfr.2.1 72 k (by unfold pDis; omega)) (fun k _ => hfr.2.1 78 k (by unfold pDis; omega)) (fun c k h1 h2 h3 => by
    have h4 : c = 74 ∨ c = 75 ∨ c = 76 ∨ c = 77 := by omega
    rcases h4 with rfl | rfl | rfl | rfl
    · exact y74 k (by omega)
    · exact y75 k (by omega)
    · exact y76 k (by omega)
    · exact y77 k (by omega)) (fun i _ => by
    by_cases hij : i = j
    · subst hij; exact Or.inr ⟨v1, nN S + 1, by omega, by omega, by rw [← hT]; simp [gi_si]⟩
    · exact Or.inl (by rw [← hT]; simp [gi_si, hij])) (fun c k _ => hfr.2.1 c k (by unfold pDis; omega)) (fun k => hfr.2.2.1 53 k (by unfold pDis; omega)) (hfr.2.2.2 49 15)⟩
