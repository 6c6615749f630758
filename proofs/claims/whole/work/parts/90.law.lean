theorem lg_cmp_rf (x : Int64) : lg_cmp x x = 0 := by unfold lg_cmp; simp
theorem law_0 {L : Nat} {xs : Nat → Int32} {J : AS → Option AS} {c3 : Int32} {m : Nat} {S : AS} (h1 : vp_in (c3 + 1) L) (h2 : vp_in (c3 + 2) L) (h3 : vp_in (c3 + 3) L) (h4 : vp_in (c3 + 4) L) (h5 : vp_in (c3 + 5) L) (hm : m < 600) (h : INV m S) : ∃ S2, INV (m + 1) S2 ∧ f_law_0 L xs J c3 S = J S2 := by
  obtain ⟨r, S1, S2, e1, e2, hz⟩ := ok_feed hm h (xs (ix (c3 + 1))) (xs (ix (c3 + 2))) (xs (ix (c3 + 3))) (xs (ix (c3 + 4))) (xs (ix (c3 + 5)))
  refine ⟨S2, hz, ?_⟩
  unfold f_law_0
  simp only [chk_pos h1, chk_pos h2, chk_pos h3, chk_pos h4, chk_pos h5, e1, e2, bI_eq, if_true]
theorem law_1 {L : Nat} {xs : Nat → Int32} {J : AS → Option AS} {c3 : Int32} {m : Nat} {S : AS} (h1 : vp_in (c3 + 1) L) (hm : m < 600) (h : INV m S) : ∃ S2, INV (m + 1) S2 ∧ f_law_1 L xs J c3 S = J S2 := by
  obtain ⟨r, S1, S2, e1, e2, hz⟩ := ok_end hm h (xs (ix (c3 + 1)))
  refine ⟨S2, hz, ?_⟩
  unfold f_law_1
  simp only [chk_pos h1, e1, e2, bI_eq, if_true]
theorem law_2 {L : Nat} {xs : Nat → Int32} {J : AS → Option AS} {c3 : Int32} {m : Nat} {S : AS} (h1 : vp_in (c3 + 1) L) (h2 : vp_in (c3 + 2) L) (h3 : vp_in (c3 + 3) L) (hm : m < 600) (h : INV m S) : ∃ S2, INV (m + 1) S2 ∧ f_law_2 L xs J c3 S = J S2 := by
  obtain ⟨r, S1, S2, e1, e2, hz⟩ := ok_person hm h (xs (ix (c3 + 1))) (xs (ix (c3 + 2))) (xs (ix (c3 + 3)))
  refine ⟨S2, hz, ?_⟩
  unfold f_law_2
  simp only [chk_pos h1, chk_pos h2, chk_pos h3, e1, e2, bI_eq, if_true]
theorem law_3 {L : Nat} {xs : Nat → Int32} {J : AS → Option AS} {c3 : Int32} {m : Nat} {S : AS} (h1 : vp_in (c3 + 1) L) (h2 : vp_in (c3 + 2) L) (hm : m < 600) (h : INV m S) : ∃ S2, INV (m + 1) S2 ∧ f_law_3 L xs J c3 S = J S2 := by
  obtain ⟨r, S1, S2, e1, e2, hz⟩ := ok_post hm h (xs (ix (c3 + 1))) (xs (ix (c3 + 2)))
  refine ⟨S2, hz, ?_⟩
  unfold f_law_3
  simp only [chk_pos h1, chk_pos h2, e1, e2, bI_eq, if_true]
theorem law_4 {L : Nat} {xs : Nat → Int32} {J : AS → Option AS} {c3 : Int32} {m : Nat} {S : AS} (h1 : vp_in (c3 + 1) L) (h2 : vp_in (c3 + 2) L) (hm : m < 600) (h : INV m S) : ∃ S2, INV (m + 1) S2 ∧ f_law_4 L xs J c3 S = J S2 := by
  obtain ⟨r, S1, S2, e1, e2, hz⟩ := ok_seat hm h (xs (ix (c3 + 1))) (xs (ix (c3 + 2)))
  refine ⟨S2, hz, ?_⟩
  unfold f_law_4
  simp only [chk_pos h1, chk_pos h2, e1, e2, bI_eq, if_true]
theorem law_5 {L : Nat} {xs : Nat → Int32} {J : AS → Option AS} {c3 : Int32} {m : Nat} {S : AS} (h1 : vp_in (c3 + 1) L) (hm : m < 600) (h : INV m S) : ∃ S2, INV (m + 1) S2 ∧ f_law_5 L xs J c3 S = J S2 := by
  obtain ⟨r, S1, S2, e1, e2, hz⟩ := ok_reign hm h (xs (ix (c3 + 1)))
  refine ⟨S2, hz, ?_⟩
  unfold f_law_5
  simp only [chk_pos h1, e1, e2, bI_eq, if_true]
theorem law_6 {L : Nat} {xs : Nat → Int32} {J : AS → Option AS} {c3 : Int32} {m : Nat} {S : AS} (h1 : vp_in (c3 + 1) L) (hm : m < 600) (h : INV m S) : ∃ S2, INV (m + 1) S2 ∧ f_law_6 L xs J c3 S = J S2 := by
  obtain ⟨r, S1, S2, e1, e2, hz⟩ := ok_fault hm h (xs (ix (c3 + 1)))
  refine ⟨S2, hz, ?_⟩
  unfold f_law_6
  simp only [chk_pos h1, e1, e2, bI_eq, if_true]
theorem law_7 {L : Nat} {xs : Nat → Int32} {J : AS → Option AS} {c3 : Int32} {m : Nat} {S : AS} (h1 : vp_in (c3 + 1) L) (h2 : vp_in (c3 + 2) L) (h3 : vp_in (c3 + 3) L) (h4 : vp_in (c3 + 4) L) (h5 : vp_in (c3 + 5) L) (h6 : vp_in (c3 + 6) L) (hm : m < 600) (h : INV m S) : ∃ S2, INV (m + 1) S2 ∧ f_law_7 L xs J c3 S = J S2 := by
  obtain ⟨r, S1, S2, e1, e2, hz⟩ := ok_paper hm h (xs (ix (c3 + 1))) (xs (ix (c3 + 2))) (xs (ix (c3 + 3))) (xs (ix (c3 + 4))) (xs (ix (c3 + 5))) (xs (ix (c3 + 6)))
  refine ⟨S2, hz, ?_⟩
  unfold f_law_7
  simp only [chk_pos h1, chk_pos h2, chk_pos h3, chk_pos h4, chk_pos h5, chk_pos h6, e1, e2, bI_eq, if_true]
theorem law_8 {L : Nat} {xs : Nat → Int32} {J : AS → Option AS} {c3 : Int32} {m : Nat} {S : AS} (h1 : vp_in (c3 + 1) L) (h2 : vp_in (c3 + 2) L) (hm : m < 600) (h : INV m S) : ∃ S2, INV (m + 1) S2 ∧ f_law_8 L xs J c3 S = J S2 := by
  obtain ⟨r, S1, S2, e1, e2, hz⟩ := ok_death hm h (xs (ix (c3 + 1))) (xs (ix (c3 + 2)))
  refine ⟨S2, hz, ?_⟩
  unfold f_law_8
  simp only [chk_pos h1, chk_pos h2, e1, e2, bI_eq, if_true]
theorem law_9 {L : Nat} {xs : Nat → Int32} {J : AS → Option AS} {c3 : Int32} {m : Nat} {S : AS} (h1 : vp_in (c3 + 1) L) (h2 : vp_in (c3 + 2) L) (h3 : vp_in (c3 + 3) L) (hm : m < 600) (h : INV m S) : ∃ S2, INV (m + 1) S2 ∧ f_law_9 L xs J c3 S = J S2 := by
  obtain ⟨r, S1, S2, e1, e2, hz⟩ := ok_resign hm h (xs (ix (c3 + 1))) (xs (ix (c3 + 2))) (xs (ix (c3 + 3)))
  refine ⟨S2, hz, ?_⟩
  unfold f_law_9
  simp only [chk_pos h1, chk_pos h2, chk_pos h3, e1, e2, bI_eq, if_true]
theorem law_10 {L : Nat} {xs : Nat → Int32} {J : AS → Option AS} {c3 : Int32} {m : Nat} {S : AS} (h1 : vp_in (c3 + 1) L) (h2 : vp_in (c3 + 2) L) (h3 : vp_in (c3 + 3) L) (hm : m < 600) (h : INV m S) : ∃ S2, INV (m + 1) S2 ∧ f_law_10 L xs J c3 S = J S2 := by
  obtain ⟨r, S1, S2, e1, e2, hz⟩ := ok_swap hm h (xs (ix (c3 + 1))) (xs (ix (c3 + 2))) (xs (ix (c3 + 3)))
  refine ⟨S2, hz, ?_⟩
  unfold f_law_10
  simp only [chk_pos h1, chk_pos h2, chk_pos h3, e1, e2, bI_eq, if_true]
theorem law_11 {L : Nat} {xs : Nat → Int32} {J : AS → Option AS} {c3 : Int32} {m : Nat} {S : AS} (h1 : vp_in (c3 + 1) L) (hm : m < 600) (h : INV m S) : ∃ S2, INV (m + 1) S2 ∧ f_law_11 L xs J c3 S = J S2 := by
  obtain ⟨r, S1, S2, e1, e2, hz⟩ := ok_disprove hm h (xs (ix (c3 + 1)))
  refine ⟨S2, hz, ?_⟩
  unfold f_law_11
  simp only [chk_pos h1, e1, e2, bI_eq, if_true]
theorem law_12 {L : Nat} {xs : Nat → Int32} {J : AS → Option AS} {c3 : Int32} {m : Nat} {S : AS} (h1 : vp_in (c3 + 1) L) (hm : m < 600) (h : INV m S) : ∃ S2, INV (m + 1) S2 ∧ f_law_12 L xs J c3 S = J S2 := by
  obtain ⟨r, S1, S2, e1, e2, hz⟩ := ok_as hm h (xs (ix (c3 + 1)))
  refine ⟨S2, hz, ?_⟩
  unfold f_law_12
  simp only [chk_pos h1, e1, e2, bI_eq, if_true]
theorem law_13 {L : Nat} {xs : Nat → Int32} {J : AS → Option AS} {c3 : Int32} {m : Nat} {S : AS} (h1 : vp_in (c3 + 1) L) (h2 : vp_in (c3 + 2) L) (hm : m < 600) (h : INV m S) : ∃ S2, INV (m + 1) S2 ∧ f_law_13 L xs J c3 S = J S2 := by
  obtain ⟨r, S1, S2, e1, e2, hz⟩ := ok_holder hm h (xs (ix (c3 + 1))) (xs (ix (c3 + 2)))
  refine ⟨S2, hz, ?_⟩
  unfold f_law_13
  simp only [chk_pos h1, chk_pos h2, e1, e2, bI_eq, if_true]
theorem law_14 {L : Nat} {xs : Nat → Int32} {J : AS → Option AS} {c3 : Int32} {m : Nat} {S : AS} (h1 : vp_in (c3 + 1) L) (h2 : vp_in (c3 + 2) L) (hm : m < 600) (h : INV m S) : ∃ S2, INV (m + 1) S2 ∧ f_law_14 L xs J c3 S = J S2 := by
  obtain ⟨r, S1, S2, e1, e2, hz⟩ := ok_paperOf hm h (xs (ix (c3 + 1))) (xs (ix (c3 + 2)))
  refine ⟨S2, hz, ?_⟩
  unfold f_law_14
  simp only [chk_pos h1, chk_pos h2, e1, e2, bI_eq, if_true]
theorem law_15 {L : Nat} {xs : Nat → Int32} {J : AS → Option AS} {c3 : Int32} {m : Nat} {S : AS} (h1 : vp_in (c3 + 1) L) (h2 : vp_in (c3 + 2) L) (hm : m < 600) (h : INV m S) : ∃ S2, INV (m + 1) S2 ∧ f_law_15 L xs J c3 S = J S2 := by
  obtain ⟨r, S1, S2, e1, e2, hz⟩ := ok_posts hm h (xs (ix (c3 + 1))) (xs (ix (c3 + 2)))
  refine ⟨S2, hz, ?_⟩
  unfold f_law_15
  simp only [chk_pos h1, chk_pos h2, e1, e2, bI_eq, if_true]
theorem law_16 {L : Nat} {xs : Nat → Int32} {J : AS → Option AS} {c3 : Int32} {m : Nat} {S : AS} (h1 : vp_in (c3 + 1) L) (h2 : vp_in (c3 + 2) L) (hm : m < 600) (h : INV m S) : ∃ S2, INV (m + 1) S2 ∧ f_law_16 L xs J c3 S = J S2 := by
  obtain ⟨r, S1, S2, e1, e2, hz⟩ := ok_due hm h (xs (ix (c3 + 1))) (xs (ix (c3 + 2)))
  refine ⟨S2, hz, ?_⟩
  unfold f_law_16
  simp only [chk_pos h1, chk_pos h2, e1, e2, bL_eq, lg_cmp_rf, if_true]
theorem law_17 {L : Nat} {xs : Nat → Int32} {J : AS → Option AS} {c3 : Int32} {m : Nat} {S : AS} (h1 : vp_in (c3 + 1) L) (h2 : vp_in (c3 + 2) L) (hm : m < 600) (h : INV m S) : ∃ S2, INV (m + 1) S2 ∧ f_law_17 L xs J c3 S = J S2 := by
  obtain ⟨r, S1, S2, e1, e2, hz⟩ := ok_claims hm h (xs (ix (c3 + 1))) (xs (ix (c3 + 2)))
  refine ⟨S2, hz, ?_⟩
  unfold f_law_17
  simp only [chk_pos h1, chk_pos h2, e1, e2, bI_eq, if_true]
theorem law_18 {L : Nat} {xs : Nat → Int32} {J : AS → Option AS} {c3 : Int32} {m : Nat} {S : AS} (h1 : vp_in (c3 + 1) L) (hm : m < 600) (h : INV m S) : ∃ S2, INV (m + 1) S2 ∧ f_law_18 L xs J c3 S = J S2 := by
  obtain ⟨r, S1, S2, e1, e2, hz⟩ := ok_claim hm h (xs (ix (c3 + 1)))
  refine ⟨S2, hz, ?_⟩
  unfold f_law_18
  simp only [chk_pos h1, e1, e2, bI_eq, if_true]
theorem law_19 {L : Nat} {xs : Nat → Int32} {J : AS → Option AS} {c3 : Int32} {m : Nat} {S : AS} (h1 : vp_in (c3 + 1) L) (h2 : vp_in (c3 + 2) L) (h3 : vp_in (c3 + 3) L) (h4 : vp_in (c3 + 4) L) (hm : m < 600) (h : INV m S) : ∃ S2, INV (m + 1) S2 ∧ f_law_19 L xs J c3 S = J S2 := by
  obtain ⟨r, S1, S2, e1, e2, hz⟩ := ok_by hm h (xs (ix (c3 + 1))) (xs (ix (c3 + 2))) (xs (ix (c3 + 3))) (xs (ix (c3 + 4)))
  refine ⟨S2, hz, ?_⟩
  unfold f_law_19
  simp only [chk_pos h1, chk_pos h2, chk_pos h3, chk_pos h4, e1, e2, bI_eq, if_true]
theorem law_20 {L : Nat} {xs : Nat → Int32} {J : AS → Option AS} {c3 : Int32} {m : Nat} {S : AS} (h1 : vp_in (c3 + 1) L) (hm : m < 600) (h : INV m S) : ∃ S2, INV (m + 1) S2 ∧ f_law_20 L xs J c3 S = J S2 := by
  obtain ⟨r, S1, S2, e1, e2, hz⟩ := ok_since hm h (xs (ix (c3 + 1)))
  refine ⟨S2, hz, ?_⟩
  unfold f_law_20
  simp only [chk_pos h1, e1, e2, bI_eq, if_true]
theorem law_21 {L : Nat} {xs : Nat → Int32} {J : AS → Option AS} {c3 : Int32} {m : Nat} {S : AS} (h1 : vp_in (c3 + 1) L) (hm : m < 600) (h : INV m S) : ∃ S2, INV (m + 1) S2 ∧ f_law_21 L xs J c3 S = J S2 := by
  obtain ⟨r, S1, S2, e1, e2, hz⟩ := ok_all hm h (xs (ix (c3 + 1)))
  refine ⟨S2, hz, ?_⟩
  unfold f_law_21
  simp only [chk_pos h1, e1, e2, bI_eq, if_true]
theorem law_22 {L : Nat} {xs : Nat → Int32} {J : AS → Option AS} {c3 : Int32} {m : Nat} {S : AS} (h1 : vp_in (c3 + 1) L) (h2 : vp_in (c3 + 2) L) (hm : m < 600) (h : INV m S) : ∃ S2, INV (m + 1) S2 ∧ f_law_22 L xs J c3 S = J S2 := by
  obtain ⟨r, S1, S2, e1, e2, hz⟩ := ok_wish hm h (xs (ix (c3 + 1))) (xs (ix (c3 + 2)))
  refine ⟨S2, hz, ?_⟩
  unfold f_law_22
  simp only [chk_pos h1, chk_pos h2, e1, e2, bI_eq, if_true]
theorem law_23 {L : Nat} {xs : Nat → Int32} {J : AS → Option AS} {c3 : Int32} {m : Nat} {S : AS} (h1 : vp_in (c3 + 1) L) (hm : m < 600) (h : INV m S) : ∃ S2, INV (m + 1) S2 ∧ f_law_23 L xs J c3 S = J S2 := by
  obtain ⟨r, S1, S2, e1, e2, hz⟩ := ok_content hm h (xs (ix (c3 + 1)))
  refine ⟨S2, hz, ?_⟩
  unfold f_law_23
  simp only [chk_pos h1, e1, e2, bI_eq, if_true]
theorem law_24 {L : Nat} {xs : Nat → Int32} {J : AS → Option AS} {c3 : Int32} {m : Nat} {S : AS} (hm : m < 600) (h : INV m S) : ∃ S2, INV (m + 1) S2 ∧ f_law_24 L xs J c3 S = J S2 := by
  obtain ⟨r, S1, S2, e1, e2, hz⟩ := ok_rings hm h
  refine ⟨S2, hz, ?_⟩
  unfold f_law_24
  simp only [e1, e2, bI_eq, if_true]
theorem law_25 {L : Nat} {xs : Nat → Int32} {J : AS → Option AS} {c3 : Int32} {m : Nat} {S : AS} (h1 : vp_in (c3 + 1) L) (hm : m < 600) (h : INV m S) : ∃ S2, INV (m + 1) S2 ∧ f_law_25 L xs J c3 S = J S2 := by
  obtain ⟨r, S1, S2, e1, e2, hz⟩ := ok_got hm h (xs (ix (c3 + 1)))
  refine ⟨S2, hz, ?_⟩
  unfold f_law_25
  simp only [chk_pos h1, e1, e2, bI_eq, if_true]
set_option maxRecDepth 100000 in
set_option maxHeartbeats 4000000 in
theorem law_pure {L : Nat} {xs : Nat → Int32} (hL : L ≤ 3584) : ∀ (n j : Nat) (S : AS), INV j S → L / 7 + 1 ≤ n + j → j ≤ L / 7 → ∃ S', f_law_L L xs n (nI (7 * j)) S = some S' := by
  intro n
  induction n with
  | zero => intro j S _ h1 h2; omega
  | succ n ih =>
    intro j S hI h1 h2
    rw [f_law_L]
    by_cases hx : Int32.ofNat L - 7 < nI (7 * j)
    · rw [if_pos hx]; exact ⟨S, rfl⟩
    · rw [if_neg hx]
      have hle : 7 * j + 7 ≤ L := by
        rcases Nat.lt_or_ge L 7 with q | q
        · exfalso
          apply hx
          have h3 := pk_sneg (a := L) (b := 7) (by decide) q
          have h4 : nI L - nI 7 < nI (7 * j) := by
            have h5 := nI_pos' (n := 7 * j) (by omega)
            rw [Int32.lt_iff_toInt_lt] at h3 ⊢
            rw [Int32.le_iff_toInt_le] at h5
            omega
          exact h4
        · have h3 : Int32.ofNat L - 7 = nI (L - 7) := pk_sub q
          rw [h3] at hx
          rcases Nat.lt_or_ge (L - 7) (7 * j) with q2 | q2
          · exact absurd (nI_lt q2 (by omega)) hx
          · omega
      rw [chk_pos (in_nI (by omega) (by omega))]
      have hin : ∀ i : Nat, 1 ≤ i → i ≤ 6 → vp_in (nI (7 * j) + nI i) L := fun i h1 h2 => by
        rw [nI_add]
        exact in_nI (by omega) (by omega)
      have hnx : nI (7 * j) + 7 = nI (7 * (j + 1)) := by
        rw [show (7 : Int32) = nI 7 from rfl, nI_add]
        congr 1
      have key : ∃ S2, INV (j + 1) S2 ∧ (nm (fun (T : AS) => f_law_L L xs n (nI (7 * j) + 7) T) fun J => if (xs (ix (nI (7 * j))) &&& 31) = 0 then (f_law_0 L xs J (nI (7 * j)) S) else (if (xs (ix (nI (7 * j))) &&& 31) = 1 then (f_law_1 L xs J (nI (7 * j)) S) else (if (xs (ix (nI (7 * j))) &&& 31) = 2 then (f_law_2 L xs J (nI (7 * j)) S) else (if (xs (ix (nI (7 * j))) &&& 31) = 3 then (f_law_3 L xs J (nI (7 * j)) S) else (if (xs (ix (nI (7 * j))) &&& 31) = 4 then (f_law_4 L xs J (nI (7 * j)) S) else (if (xs (ix (nI (7 * j))) &&& 31) = 5 then (f_law_5 L xs J (nI (7 * j)) S) else (if (xs (ix (nI (7 * j))) &&& 31) = 6 then (f_law_6 L xs J (nI (7 * j)) S) else (if (xs (ix (nI (7 * j))) &&& 31) = 7 then (f_law_7 L xs J (nI (7 * j)) S) else (if (xs (ix (nI (7 * j))) &&& 31) = 8 then (f_law_8 L xs J (nI (7 * j)) S) else (if (xs (ix (nI (7 * j))) &&& 31) = 9 then (f_law_9 L xs J (nI (7 * j)) S) else (if (xs (ix (nI (7 * j))) &&& 31) = 10 then (f_law_10 L xs J (nI (7 * j)) S) else (if (xs (ix (nI (7 * j))) &&& 31) = 11 then (f_law_11 L xs J (nI (7 * j)) S) else (if (xs (ix (nI (7 * j))) &&& 31) = 12 then (f_law_12 L xs J (nI (7 * j)) S) else (if (xs (ix (nI (7 * j))) &&& 31) = 13 then (f_law_13 L xs J (nI (7 * j)) S) else (if (xs (ix (nI (7 * j))) &&& 31) = 14 then (f_law_14 L xs J (nI (7 * j)) S) else (if (xs (ix (nI (7 * j))) &&& 31) = 15 then (f_law_15 L xs J (nI (7 * j)) S) else (if (xs (ix (nI (7 * j))) &&& 31) = 16 then (f_law_16 L xs J (nI (7 * j)) S) else (if (xs (ix (nI (7 * j))) &&& 31) = 17 then (f_law_17 L xs J (nI (7 * j)) S) else (if (xs (ix (nI (7 * j))) &&& 31) = 18 then (f_law_18 L xs J (nI (7 * j)) S) else (if (xs (ix (nI (7 * j))) &&& 31) = 19 then (f_law_19 L xs J (nI (7 * j)) S) else (if (xs (ix (nI (7 * j))) &&& 31) = 20 then (f_law_20 L xs J (nI (7 * j)) S) else (if (xs (ix (nI (7 * j))) &&& 31) = 21 then (f_law_21 L xs J (nI (7 * j)) S) else (if (xs (ix (nI (7 * j))) &&& 31) = 22 then (f_law_22 L xs J (nI (7 * j)) S) else (if (xs (ix (nI (7 * j))) &&& 31) = 23 then (f_law_23 L xs J (nI (7 * j)) S) else (if (xs (ix (nI (7 * j))) &&& 31) = 24 then (f_law_24 L xs J (nI (7 * j)) S) else (if (xs (ix (nI (7 * j))) &&& 31) = 25 then (f_law_25 L xs J (nI (7 * j)) S) else (J S))))))))))))))))))))))))))) = f_law_L L xs n (nI (7 * j) + 7) S2 := by
        rw [nm_eq]
        by_cases h0 : xs (ix (nI (7 * j))) &&& 31 = 0
        · rw [if_pos h0]; exact law_0 (hin 1 (by decide) (by decide)) (hin 2 (by decide) (by decide)) (hin 3 (by decide) (by decide)) (hin 4 (by decide) (by decide)) (hin 5 (by decide) (by decide)) (by omega) hI
        rw [if_neg h0]
        by_cases h1 : xs (ix (nI (7 * j))) &&& 31 = 1
        · rw [if_pos h1]; exact law_1 (hin 1 (by decide) (by decide)) (by omega) hI
        rw [if_neg h1]
        by_cases h2 : xs (ix (nI (7 * j))) &&& 31 = 2
        · rw [if_pos h2]; exact law_2 (hin 1 (by decide) (by decide)) (hin 2 (by decide) (by decide)) (hin 3 (by decide) (by decide)) (by omega) hI
        rw [if_neg h2]
        by_cases h3 : xs (ix (nI (7 * j))) &&& 31 = 3
        · rw [if_pos h3]; exact law_3 (hin 1 (by decide) (by decide)) (hin 2 (by decide) (by decide)) (by omega) hI
        rw [if_neg h3]
        by_cases h4 : xs (ix (nI (7 * j))) &&& 31 = 4
        · rw [if_pos h4]; exact law_4 (hin 1 (by decide) (by decide)) (hin 2 (by decide) (by decide)) (by omega) hI
        rw [if_neg h4]
        by_cases h5 : xs (ix (nI (7 * j))) &&& 31 = 5
        · rw [if_pos h5]; exact law_5 (hin 1 (by decide) (by decide)) (by omega) hI
        rw [if_neg h5]
        by_cases h6 : xs (ix (nI (7 * j))) &&& 31 = 6
        · rw [if_pos h6]; exact law_6 (hin 1 (by decide) (by decide)) (by omega) hI
        rw [if_neg h6]
        by_cases h7 : xs (ix (nI (7 * j))) &&& 31 = 7
        · rw [if_pos h7]; exact law_7 (hin 1 (by decide) (by decide)) (hin 2 (by decide) (by decide)) (hin 3 (by decide) (by decide)) (hin 4 (by decide) (by decide)) (hin 5 (by decide) (by decide)) (hin 6 (by decide) (by decide)) (by omega) hI
        rw [if_neg h7]
        by_cases h8 : xs (ix (nI (7 * j))) &&& 31 = 8
        · rw [if_pos h8]; exact law_8 (hin 1 (by decide) (by decide)) (hin 2 (by decide) (by decide)) (by omega) hI
        rw [if_neg h8]
        by_cases h9 : xs (ix (nI (7 * j))) &&& 31 = 9
        · rw [if_pos h9]; exact law_9 (hin 1 (by decide) (by decide)) (hin 2 (by decide) (by decide)) (hin 3 (by decide) (by decide)) (by omega) hI
        rw [if_neg h9]
        by_cases h10 : xs (ix (nI (7 * j))) &&& 31 = 10
        · rw [if_pos h10]; exact law_10 (hin 1 (by decide) (by decide)) (hin 2 (by decide) (by decide)) (hin 3 (by decide) (by decide)) (by omega) hI
        rw [if_neg h10]
        by_cases h11 : xs (ix (nI (7 * j))) &&& 31 = 11
        · rw [if_pos h11]; exact law_11 (hin 1 (by decide) (by decide)) (by omega) hI
        rw [if_neg h11]
        by_cases h12 : xs (ix (nI (7 * j))) &&& 31 = 12
        · rw [if_pos h12]; exact law_12 (hin 1 (by decide) (by decide)) (by omega) hI
        rw [if_neg h12]
        by_cases h13 : xs (ix (nI (7 * j))) &&& 31 = 13
        · rw [if_pos h13]; exact law_13 (hin 1 (by decide) (by decide)) (hin 2 (by decide) (by decide)) (by omega) hI
        rw [if_neg h13]
        by_cases h14 : xs (ix (nI (7 * j))) &&& 31 = 14
        · rw [if_pos h14]; exact law_14 (hin 1 (by decide) (by decide)) (hin 2 (by decide) (by decide)) (by omega) hI
        rw [if_neg h14]
        by_cases h15 : xs (ix (nI (7 * j))) &&& 31 = 15
        · rw [if_pos h15]; exact law_15 (hin 1 (by decide) (by decide)) (hin 2 (by decide) (by decide)) (by omega) hI
        rw [if_neg h15]
        by_cases h16 : xs (ix (nI (7 * j))) &&& 31 = 16
        · rw [if_pos h16]; exact law_16 (hin 1 (by decide) (by decide)) (hin 2 (by decide) (by decide)) (by omega) hI
        rw [if_neg h16]
        by_cases h17 : xs (ix (nI (7 * j))) &&& 31 = 17
        · rw [if_pos h17]; exact law_17 (hin 1 (by decide) (by decide)) (hin 2 (by decide) (by decide)) (by omega) hI
        rw [if_neg h17]
        by_cases h18 : xs (ix (nI (7 * j))) &&& 31 = 18
        · rw [if_pos h18]; exact law_18 (hin 1 (by decide) (by decide)) (by omega) hI
        rw [if_neg h18]
        by_cases h19 : xs (ix (nI (7 * j))) &&& 31 = 19
        · rw [if_pos h19]; exact law_19 (hin 1 (by decide) (by decide)) (hin 2 (by decide) (by decide)) (hin 3 (by decide) (by decide)) (hin 4 (by decide) (by decide)) (by omega) hI
        rw [if_neg h19]
        by_cases h20 : xs (ix (nI (7 * j))) &&& 31 = 20
        · rw [if_pos h20]; exact law_20 (hin 1 (by decide) (by decide)) (by omega) hI
        rw [if_neg h20]
        by_cases h21 : xs (ix (nI (7 * j))) &&& 31 = 21
        · rw [if_pos h21]; exact law_21 (hin 1 (by decide) (by decide)) (by omega) hI
        rw [if_neg h21]
        by_cases h22 : xs (ix (nI (7 * j))) &&& 31 = 22
        · rw [if_pos h22]; exact law_22 (hin 1 (by decide) (by decide)) (hin 2 (by decide) (by decide)) (by omega) hI
        rw [if_neg h22]
        by_cases h23 : xs (ix (nI (7 * j))) &&& 31 = 23
        · rw [if_pos h23]; exact law_23 (hin 1 (by decide) (by decide)) (by omega) hI
        rw [if_neg h23]
        by_cases h24 : xs (ix (nI (7 * j))) &&& 31 = 24
        · rw [if_pos h24]; exact law_24 (by omega) hI
        rw [if_neg h24]
        by_cases h25 : xs (ix (nI (7 * j))) &&& 31 = 25
        · rw [if_pos h25]; exact law_25 (hin 1 (by decide) (by decide)) (by omega) hI
        rw [if_neg h25]
        exact ⟨S, INV.step hI, rfl⟩
      obtain ⟨S2, hI2, e⟩ := key
      rw [e, hnx]
      exact ih (j + 1) S2 hI2 (by omega) (by omega)
