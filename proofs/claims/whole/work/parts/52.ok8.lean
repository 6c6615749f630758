theorem boxadd_spec {S : AS} {K : Nat} (hK : K < 48) (e : gi S 23 8 = nI K) (p1 p2 p3 p4 p5 p6 p7 : Int32) : f_PaperBox_add p1 p2 p3 p4 p5 p6 p7 S = some (si (si (si (si (si (si (si (si (si S 24 K p1) 25 K p2) 26 K p3) 27 K p4) 28 K p5) 29 K p6) 30 K p7) 31 K (-1)) 23 8 (nI (K + 1))) := by
  unfold f_PaperBox_add f_PaperBox_isFull
  rw [e, show (48 : Int32) = nI 48 from rfl, if_pos (nI_lt hK (by decide)), bI_eq, if_pos rfl]
  simp [nm_eq, gi_si, e, nI_1, chk_pos (in_nI hK (by decide : 48 < 2147483648)), ix_nI (show K < 2147483648 by omega)]
theorem rngp_cases (p q : Int32) {a : Nat} (hq : q = nI a) (ha : a < 2147483648) : (if p < q then (0 : Int32) else if 1000 < p then 0 else 1) = 0 ∨ ∃ n, a ≤ n ∧ n ≤ 1000 ∧ p = nI n ∧ (if p < q then (0 : Int32) else if 1000 < p then 0 else 1) = 1 := by
  by_cases h0 : p < q
  · left; rw [if_pos h0]
  · by_cases h1 : (1000 : Int32) < p
    · left; rw [if_neg h0, if_pos h1]
    · right
      have h00 : ¬ p < 0 := fun z => h0 (by
        have := nI_pos' ha
        rw [hq]
        rw [Int32.lt_iff_toInt_lt] at z ⊢
        rw [Int32.le_iff_toInt_le] at this
        omega)
      obtain ⟨n, hn, e⟩ := nn_le (N := 1000) (by decide) h00 h1
      refine ⟨n, ?_, hn, e, by rw [if_neg h0, if_neg h1]⟩
      rcases Nat.lt_or_ge n a with z | z
      · exact absurd (by rw [e, hq]; exact nI_lt z ha) h0
      · exact z
def pPap (c k : Nat) : Prop := (c = 32 ∧ (k = 4 ∨ k = 6)) ∨ (33 ≤ c ∧ c ≤ 37) ∨ (24 ≤ c ∧ c ≤ 31) ∨ (c = 23 ∧ k = 8) ∨ (c = 70 ∧ (k = 6 ∨ k = 11)) ∨ (74 ≤ c ∧ c ≤ 79)
theorem gi_ne {S : AS} {a j c k : Nat} {v : Int32} (h : ¬ c = a) : gi (si S a j v) c k = gi S c k := by rw [gi_si, if_neg (fun e => h e.1)]
theorem gi_nk {S : AS} {a j c k : Nat} {v : Int32} (h : ¬ k = j) : gi (si S a j v) c k = gi S c k := by rw [gi_si, if_neg (fun e => h e.2)]
theorem gi_eq (S : AS) (a j : Nat) (v : Int32) : gi (si S a j v) a j = v := by rw [gi_si, if_pos ⟨rfl, rfl⟩]
theorem pap_t1 {T1 : AS} {K c k : Nat} {p1 p2 p3 p4 p5 p6 p7 p8 p9 : Int32} (hc : 32 ≤ c) : gi (si (si (si (si (si (si (si (si (si T1 24 K p1) 25 K p2) 26 K p3) 27 K p4) 28 K p5) 29 K p6) 30 K p7) 31 K p8) 23 8 p9) c k = gi T1 c k := by
  rw [gi_ne (by omega), gi_ne (by omega), gi_ne (by omega), gi_ne (by omega), gi_ne (by omega), gi_ne (by omega), gi_ne (by omega), gi_ne (by omega), gi_ne (by omega)]
theorem pap_dA (c k : Nat) (hd : dA c k) : ¬ pPap c k := fun hp => by unfold dA at hd; unfold pPap at hp; omega
theorem pap_dB (c k : Nat) (hd : dB c k) : ¬ pPap c k := fun hp => by unfold dB at hd; unfold pPap at hp; omega
theorem pap_dG (c k : Nat) (hd : dG c k) : ¬ pPap c k := fun hp => by unfold dG at hd; unfold pPap at hp; omega
theorem pap_dH (c k : Nat) (hd : dH c k) : ¬ pPap c k := fun hp => by unfold dH at hd; unfold pPap at hp; omega
theorem pap_dU (c k : Nat) (hd : dU c k) : ¬ pPap c k := fun hp => by unfold dU at hd; unfold pPap at hp; omega
theorem pap_dJ (c k : Nat) (hd : dJ c k) : ¬ pPap c k := fun hp => by unfold dJ at hd; unfold pPap at hp; omega
theorem mdPaper_spec {S : AS} {K N P : Nat} (hK : K < 48) (hN : N < 160) (e11 : gi S 70 11 = nI K) (e6 : gi S 70 6 = nI N) (p1 p2 p3 p4 p5 p6 : Int32) (h1 : f_Md_isPerson p1 S = some (1, S)) (h2 : (if p2 < 0 then (0 : Int32) else if 9999999 < p2 then 0 else 1) = 1) (h3 : (if p3 < 0 then (0 : Int32) else if 255 < p3 then 0 else 1) = 1) (h4 : (if p4 < 0 then (0 : Int32) else if 255 < p4 then 0 else 1) = 1) (h5 : (if p5 < 1 then (0 : Int32) else if 1000 < p5 then 0 else 1) = 1) (h6 : (if p6 < p5 then (0 : Int32) else if 1000 < p6 then 0 else 1) = 1) :
    f_Md_paper p1 p2 p3 p4 p5 p6 S = some (nI (N + 1), si (si (si (si (si (si (si (si (si (si (si (si (si (si S 78 (7 * K) p1) 78 (7 * K + 1) p2) 78 (7 * K + 2) p3) 78 (7 * K + 3) p4) 78 (7 * K + 4) p5) 78 (7 * K + 5) p6) 79 K 0) 70 6 (nI (N + 1))) 74 (N + 1) 0) 75 (N + 1) p2) 76 (N + 1) (nI K)) 77 (N + 1) 0) 78 (7 * K + 6) (nI (N + 1))) 70 11 (nI (K + 1))) := by
  have one : ¬ (1 : Int32) = 0 := by decide
  unfold f_Md_paper
  rw [h1, bI_eq, if_neg one, can_spec e6 (by omega), bI_eq, h2, if_neg one, if_neg (show ¬ 160 ≤ N by omega), if_neg one]
  simp only [is_spec, bI_eq, h3, h4, h5, h6, if_neg one, e11, nm_eq]
  rw [if_neg (show ¬ nI K = 48 from fun q => absurd (nI_inj (b := 48) (by omega) (by decide) q) (by omega))]
  have k7 : (7 : Int32) * nI K = nI (7 * K) := by rw [show (7 : Int32) = nI 7 from rfl, pk_mul]
  have k1 : nI (7 * K) + 1 = nI (7 * K + 1) := nI_add (7 * K) 1
  have k2 : nI (7 * K) + 2 = nI (7 * K + 2) := nI_add (7 * K) 2
  have k3 : nI (7 * K) + 3 = nI (7 * K + 3) := nI_add (7 * K) 3
  have k4 : nI (7 * K) + 4 = nI (7 * K + 4) := nI_add (7 * K) 4
  have k5 : nI (7 * K) + 5 = nI (7 * K + 5) := nI_add (7 * K) 5
  have k6 : nI (7 * K) + 6 = nI (7 * K + 6) := nI_add (7 * K) 6
  simp only [k7, k1, k2, k3, k4, k5, k6, chk_pos (in_nI (show 7 * K < 336 by omega) (by decide : 336 < 2147483648)), chk_pos (in_nI (show 7 * K + 1 < 336 by omega) (by decide : 336 < 2147483648)), chk_pos (in_nI (show 7 * K + 2 < 336 by omega) (by decide : 336 < 2147483648)), chk_pos (in_nI (show 7 * K + 3 < 336 by omega) (by decide : 336 < 2147483648)), chk_pos (in_nI (show 7 * K + 4 < 336 by omega) (by decide : 336 < 2147483648)), chk_pos (in_nI (show 7 * K + 5 < 336 by omega) (by decide : 336 < 2147483648)), chk_pos (in_nI (show 7 * K + 6 < 336 by omega) (by decide : 336 < 2147483648)), ix_nI (show 7 * K < 2147483648 by omega), ix_nI (show 7 * K + 1 < 2147483648 by omega), ix_nI (show 7 * K + 2 < 2147483648 by omega), ix_nI (show 7 * K + 3 < 2147483648 by omega), ix_nI (show 7 * K + 4 < 2147483648 by omega), ix_nI (show 7 * K + 5 < 2147483648 by omega), ix_nI (show 7 * K + 6 < 2147483648 by omega)]
  generalize hU : si (si (si (si (si (si S 78 (7 * K) p1) 78 (7 * K + 1) p2) 78 (7 * K + 2) p3) 78 (7 * K + 3) p4) 78 (7 * K + 4) p5) 78 (7 * K + 5) p6 = U
  have u11 : gi U 70 11 = nI K := by rw [← hU]; exact e11
  have v11 : gi (si U 79 K 0) 70 11 = nI K := u11
  have v6 : gi (si U 79 K 0) 70 6 = nI N := by rw [← hU]; exact e6
  simp only [u11, chk_pos (in_nI hK (by decide : 48 < 2147483648)), ix_nI (show K < 2147483648 by omega), v11, tell_spec hN v6, bI_eq]
  simp [gi_si, u11, nI_1]
def PapT (S T1 T : AS) (t : Nat) (p1 p3 p4 p5 p6 : Int32) : Prop := fr pPap S T ∧ gi T 70 6 = nI (nN S + 1) ∧ gi T 70 11 = nI (nK S + 1) ∧ (∀ c k, 32 ≤ c → c < 70 → gi T c k = gi T1 c k)
  ∧ (∀ k, ¬ k = nN S + 1 → gi T 74 k = gi S 74 k) ∧ (∀ k, ¬ k = nN S + 1 → gi T 75 k = gi S 75 k) ∧ (∀ k, ¬ k = nN S + 1 → gi T 76 k = gi S 76 k) ∧ (∀ k, ¬ k = nN S + 1 → gi T 77 k = gi S 77 k) ∧ (∀ k, ¬ k = nK S → gi T 79 k = gi S 79 k) ∧ (∀ k, k < 7 * nK S → gi T 78 k = gi S 78 k)
  ∧ gi T 74 (nN S + 1) = 0 ∧ gi T 75 (nN S + 1) = nI t ∧ gi T 76 (nN S + 1) = nI (nK S) ∧ gi T 78 (7 * nK S + 6) = nI (nN S + 1)
  ∧ gi T 23 8 = nI (nK S + 1) ∧ (gi T 24 (nK S) = p1 ∧ gi T 25 (nK S) = nI t ∧ gi T 26 (nK S) = p3 ∧ gi T 27 (nK S) = p4 ∧ gi T 28 (nK S) = p5 ∧ gi T 29 (nK S) = p6 ∧ gi T 30 (nK S) = nI (nN S + 1) ∧ gi T 31 (nK S) = -1)
  ∧ (gi T 78 (7 * nK S) = p1 ∧ gi T 78 (7 * nK S + 1) = nI t ∧ gi T 78 (7 * nK S + 2) = p3 ∧ gi T 78 (7 * nK S + 3) = p4 ∧ gi T 78 (7 * nK S + 4) = p5 ∧ gi T 78 (7 * nK S + 5) = p6 ∧ gi T 79 (nK S) = 0)
  ∧ ∀ c j, 24 ≤ c → c ≤ 31 → ¬ j = nK S → gi T c j = gi S c j
theorem papT_of {S T1 V1 T : AS} {t : Nat} {p1 p3 p4 p5 p6 : Int32} (g2 : fr pNewsC S T1)
    (hV : si (si (si (si (si (si (si (si (si T1 24 (nK S) p1) 25 (nK S) (nI t)) 26 (nK S) p3) 27 (nK S) p4) 28 (nK S) p5) 29 (nK S) p6) 30 (nK S) (nI (nN S + 1))) 31 (nK S) (-1)) 23 8 (nI (nK S + 1)) = V1)
    (hT : si (si (si (si (si (si (si (si (si (si (si (si (si (si V1 78 (7 * nK S) p1) 78 (7 * nK S + 1) (nI t)) 78 (7 * nK S + 2) p3) 78 (7 * nK S + 3) p4) 78 (7 * nK S + 4) p5) 78 (7 * nK S + 5) p6) 79 (nK S) 0) 70 6 (nI (nN S + 1))) 74 (nN S + 1) 0) 75 (nN S + 1) (nI t)) 76 (nN S + 1) (nI (nK S))) 77 (nN S + 1) 0) 78 (7 * nK S + 6) (nI (nN S + 1))) 70 11 (nI (nK S + 1)) = T) : PapT S T1 T t p1 p3 p4 p5 p6 := by
  have hfrV : fr pPap S V1 := by
    rw [← hV]
    refine fr.si (fr.si (fr.si (fr.si (fr.si (fr.si (fr.si (fr.si (fr.si (g2.mono (fun c k h => by unfold pNewsC at h; unfold pPap; omega)) ?_) ?_) ?_) ?_) ?_) ?_) ?_) ?_) ?_ <;> unfold pPap <;> omega
  have vx : ∀ c k, 70 ≤ c → gi V1 c k = gi S c k := fun c k hc => by
    rw [← hV]
    simp only [gi_si, if_neg (show ¬ (c = 23 ∧ k = 8) by omega), if_neg (show ¬ (c = 24 ∧ k = nK S) by omega), if_neg (show ¬ (c = 25 ∧ k = nK S) by omega), if_neg (show ¬ (c = 26 ∧ k = nK S) by omega), if_neg (show ¬ (c = 27 ∧ k = nK S) by omega), if_neg (show ¬ (c = 28 ∧ k = nK S) by omega), if_neg (show ¬ (c = 29 ∧ k = nK S) by omega), if_neg (show ¬ (c = 30 ∧ k = nK S) by omega), if_neg (show ¬ (c = 31 ∧ k = nK S) by omega)]
    exact g2.2.1 c k (by unfold pNewsC; omega)
  have hfr : fr pPap S T := by
    rw [← hT]
    refine fr.si (fr.si (fr.si (fr.si (fr.si (fr.si (fr.si (fr.si (fr.si (fr.si (fr.si (fr.si (fr.si (fr.si hfrV ?_) ?_) ?_) ?_) ?_) ?_) ?_) ?_) ?_) ?_) ?_) ?_) ?_) ?_ <;> unfold pPap <;> omega
  have tN : gi T 70 6 = nI (nN S + 1) := by rw [← hT, gi_si, if_neg (by omega), gi_si, if_neg (by omega), gi_si, if_neg (by omega), gi_si, if_neg (by omega), gi_si, if_neg (by omega), gi_si, if_neg (by omega), gi_si, if_pos ⟨rfl, rfl⟩]
  have tK2 : gi T 70 11 = nI (nK S + 1) := by rw [← hT, gi_si, if_pos ⟨rfl, rfl⟩]
  have tv : ∀ c k, c < 70 → gi T c k = gi V1 c k := fun c k hc => by
    rw [← hT]
    simp only [gi_si, if_neg (show ¬ (c = 70 ∧ k = 11) by omega), if_neg (show ¬ (c = 70 ∧ k = 6) by omega), if_neg (show ¬ (c = 79 ∧ k = nK S) by omega), if_neg (show ¬ (c = 74 ∧ k = nN S + 1) by omega), if_neg (show ¬ (c = 75 ∧ k = nN S + 1) by omega), if_neg (show ¬ (c = 76 ∧ k = nN S + 1) by omega), if_neg (show ¬ (c = 77 ∧ k = nN S + 1) by omega), if_neg (show ¬ (c = 78 ∧ k = 7 * nK S) by omega), if_neg (show ¬ (c = 78 ∧ k = 7 * nK S + 1) by omega), if_neg (show ¬ (c = 78 ∧ k = 7 * nK S + 2) by omega), if_neg (show ¬ (c = 78 ∧ k = 7 * nK S + 3) by omega), if_neg (show ¬ (c = 78 ∧ k = 7 * nK S + 4) by omega), if_neg (show ¬ (c = 78 ∧ k = 7 * nK S + 5) by omega), if_neg (show ¬ (c = 78 ∧ k = 7 * nK S + 6) by omega)]
  have t1 : ∀ c k, 32 ≤ c → c < 70 → gi T c k = gi T1 c k := fun c k hc hc2 => by
    rw [tv c k hc2, ← hV]
    exact pap_t1 hc
  have y74 : ∀ k, ¬ k = nN S + 1 → gi T 74 k = gi S 74 k := fun k hk => by rw [← vx 74 k (by decide), ← hT, gi_ne (by decide), gi_ne (by decide), gi_ne (by decide), gi_ne (by decide), gi_ne (by decide), gi_nk hk, gi_ne (by decide), gi_ne (by decide), gi_ne (by decide), gi_ne (by decide), gi_ne (by decide), gi_ne (by decide), gi_ne (by decide), gi_ne (by decide)]
  have y75 : ∀ k, ¬ k = nN S + 1 → gi T 75 k = gi S 75 k := fun k hk => by rw [← vx 75 k (by decide), ← hT, gi_ne (by decide), gi_ne (by decide), gi_ne (by decide), gi_ne (by decide), gi_nk hk, gi_ne (by decide), gi_ne (by decide), gi_ne (by decide), gi_ne (by decide), gi_ne (by decide), gi_ne (by decide), gi_ne (by decide), gi_ne (by decide), gi_ne (by decide)]
  have y76 : ∀ k, ¬ k = nN S + 1 → gi T 76 k = gi S 76 k := fun k hk => by rw [← vx 76 k (by decide), ← hT, gi_ne (by decide), gi_ne (by decide), gi_ne (by decide), gi_nk hk, gi_ne (by decide), gi_ne (by decide), gi_ne (by decide), gi_ne (by decide), gi_ne (by decide), gi_ne (by decide), gi_ne (by decide), gi_ne (by decide), gi_ne (by decide), gi_ne (by decide)]
  have y77 : ∀ k, ¬ k = nN S + 1 → gi T 77 k = gi S 77 k := fun k hk => by rw [← vx 77 k (by decide), ← hT, gi_ne (by decide), gi_ne (by decide), gi_nk hk, gi_ne (by decide), gi_ne (by decide), gi_ne (by decide), gi_ne (by decide), gi_ne (by decide), gi_ne (by decide), gi_ne (by decide), gi_ne (by decide), gi_ne (by decide), gi_ne (by decide), gi_ne (by decide)]
  have y79 : ∀ k, ¬ k = nK S → gi T 79 k = gi S 79 k := fun k hk => by rw [← vx 79 k (by decide), ← hT, gi_ne (by decide), gi_ne (by decide), gi_ne (by decide), gi_ne (by decide), gi_ne (by decide), gi_ne (by decide), gi_ne (by decide), gi_nk hk, gi_ne (by decide), gi_ne (by decide), gi_ne (by decide), gi_ne (by decide), gi_ne (by decide), gi_ne (by decide)]
  have y78 : ∀ k, k < 7 * nK S → gi T 78 k = gi S 78 k := fun k hk => by
    rw [← vx 78 k (by decide), ← hT, gi_ne (by decide), gi_nk (by omega), gi_ne (by decide), gi_ne (by decide), gi_ne (by decide), gi_ne (by decide), gi_ne (by decide), gi_ne (by decide), gi_nk (by omega), gi_nk (by omega), gi_nk (by omega), gi_nk (by omega), gi_nk (by omega), gi_nk (by omega)]
  have z74 : gi T 74 (nN S + 1) = 0 := by rw [← hT, gi_ne (by decide), gi_ne (by decide), gi_ne (by decide), gi_ne (by decide), gi_ne (by decide), gi_eq]
  have z75 : gi T 75 (nN S + 1) = nI t := by rw [← hT, gi_ne (by decide), gi_ne (by decide), gi_ne (by decide), gi_ne (by decide), gi_eq]
  have z76 : gi T 76 (nN S + 1) = nI (nK S) := by rw [← hT, gi_ne (by decide), gi_ne (by decide), gi_ne (by decide), gi_eq]
  have z786 : gi T 78 (7 * nK S + 6) = nI (nN S + 1) := by rw [← hT, gi_ne (by decide), gi_eq]
  have b24 : gi T 24 (nK S) = p1 := by rw [tv 24 _ (by decide), ← hV, gi_ne (by decide), gi_ne (by decide), gi_ne (by decide), gi_ne (by decide), gi_ne (by decide), gi_ne (by decide), gi_ne (by decide), gi_ne (by decide), gi_eq]
  have b25 : gi T 25 (nK S) = nI t := by rw [tv 25 _ (by decide), ← hV, gi_ne (by decide), gi_ne (by decide), gi_ne (by decide), gi_ne (by decide), gi_ne (by decide), gi_ne (by decide), gi_ne (by decide), gi_eq]
  have b26 : gi T 26 (nK S) = p3 := by rw [tv 26 _ (by decide), ← hV, gi_ne (by decide), gi_ne (by decide), gi_ne (by decide), gi_ne (by decide), gi_ne (by decide), gi_ne (by decide), gi_eq]
  have b27 : gi T 27 (nK S) = p4 := by rw [tv 27 _ (by decide), ← hV, gi_ne (by decide), gi_ne (by decide), gi_ne (by decide), gi_ne (by decide), gi_ne (by decide), gi_eq]
  have b28 : gi T 28 (nK S) = p5 := by rw [tv 28 _ (by decide), ← hV, gi_ne (by decide), gi_ne (by decide), gi_ne (by decide), gi_ne (by decide), gi_eq]
  have b29 : gi T 29 (nK S) = p6 := by rw [tv 29 _ (by decide), ← hV, gi_ne (by decide), gi_ne (by decide), gi_ne (by decide), gi_eq]
  have b30 : gi T 30 (nK S) = nI (nN S + 1) := by rw [tv 30 _ (by decide), ← hV, gi_ne (by decide), gi_ne (by decide), gi_eq]
  have b31 : gi T 31 (nK S) = -1 := by rw [tv 31 _ (by decide), ← hV, gi_ne (by decide), gi_eq]
  have m0 : gi T 78 (7 * nK S) = p1 := by rw [← hT, gi_ne (by decide), gi_nk (by omega), gi_ne (by decide), gi_ne (by decide), gi_ne (by decide), gi_ne (by decide), gi_ne (by decide), gi_ne (by decide), gi_nk (by omega), gi_nk (by omega), gi_nk (by omega), gi_nk (by omega), gi_nk (by omega), gi_eq]
  have m1 : gi T 78 (7 * nK S + 1) = nI t := by rw [← hT, gi_ne (by decide), gi_nk (by omega), gi_ne (by decide), gi_ne (by decide), gi_ne (by decide), gi_ne (by decide), gi_ne (by decide), gi_ne (by decide), gi_nk (by omega), gi_nk (by omega), gi_nk (by omega), gi_nk (by omega), gi_eq]
  have m2 : gi T 78 (7 * nK S + 2) = p3 := by rw [← hT, gi_ne (by decide), gi_nk (by omega), gi_ne (by decide), gi_ne (by decide), gi_ne (by decide), gi_ne (by decide), gi_ne (by decide), gi_ne (by decide), gi_nk (by omega), gi_nk (by omega), gi_nk (by omega), gi_eq]
  have m3 : gi T 78 (7 * nK S + 3) = p4 := by rw [← hT, gi_ne (by decide), gi_nk (by omega), gi_ne (by decide), gi_ne (by decide), gi_ne (by decide), gi_ne (by decide), gi_ne (by decide), gi_ne (by decide), gi_nk (by omega), gi_nk (by omega), gi_eq]
  have m4 : gi T 78 (7 * nK S + 4) = p5 := by rw [← hT, gi_ne (by decide), gi_nk (by omega), gi_ne (by decide), gi_ne (by decide), gi_ne (by decide), gi_ne (by decide), gi_ne (by decide), gi_ne (by decide), gi_nk (by omega), gi_eq]
  have m5 : gi T 78 (7 * nK S + 5) = p6 := by rw [← hT, gi_ne (by decide), gi_nk (by omega), gi_ne (by decide), gi_ne (by decide), gi_ne (by decide), gi_ne (by decide), gi_ne (by decide), gi_ne (by decide), gi_eq]
  have m9 : gi T 79 (nK S) = 0 := by rw [← hT, gi_ne (by decide), gi_ne (by decide), gi_ne (by decide), gi_ne (by decide), gi_ne (by decide), gi_ne (by decide), gi_ne (by decide), gi_eq]
  have q : ∀ c j, 24 ≤ c → c ≤ 31 → ¬ j = nK S → gi T c j = gi S c j := fun c j h1 h2 hj => by
    rw [tv c j (by omega), ← hV]
    simp only [gi_si, if_neg (show ¬ (c = 23 ∧ j = 8) by omega), if_neg (show ¬ (c = 24 ∧ j = nK S) by omega), if_neg (show ¬ (c = 25 ∧ j = nK S) by omega), if_neg (show ¬ (c = 26 ∧ j = nK S) by omega), if_neg (show ¬ (c = 27 ∧ j = nK S) by omega), if_neg (show ¬ (c = 28 ∧ j = nK S) by omega), if_neg (show ¬ (c = 29 ∧ j = nK S) by omega), if_neg (show ¬ (c = 30 ∧ j = nK S) by omega), if_neg (show ¬ (c = 31 ∧ j = nK S) by omega)]
    exact g2.2.1 c j (by unfold pNewsC; omega)
  have q23 : gi T 23 8 = nI (nK S + 1) := by rw [tv 23 8 (by decide), ← hV, gi_eq]
  exact ⟨hfr, tN, tK2, t1, y74, y75, y76, y77, y79, y78, z74, z75, z76, z786, q23, ⟨b24, b25, b26, b27, b28, b29, b30, b31⟩, ⟨m0, m1, m2, m3, m4, m5, m9⟩, q⟩
theorem paper_C {m : Nat} {S T1 T : AS} {mo c' t w x3 x4 x5 x6 : Nat} {o : Nat → Nat} {p1 p3 p4 p5 p6 : Int32} (h : INV m S) (hKK : nK S < 48) (hN : nN S < 160) (ht : t ≤ 9999999) (hw : w < nP S) (ew : p1 = nI w) (hx3 : x3 ≤ 255) (ex3 : p3 = nI x3) (hx4 : x4 ≤ 255) (ex4 : p4 = nI x4) (hx5 : x5 ≤ 1000) (ex5 : p5 = nI x5) (hx6 : x6 ≤ 1000) (ex6 : p6 = nI x6)
    (o1 : mo ≤ nN S) (o3 : ∀ i, i < mo → gi S 37 i = nI (o i) ∧ 1 ≤ o i ∧ o i ≤ nN S ∧ ¬ gi S 74 (o i) = 4) (o4 : ∀ i j, i < j → j < mo → ix (gi S 75 (o i)) < ix (gi S 75 (o j)) ∨ (ix (gi S 75 (o i)) = ix (gi S 75 (o j)) ∧ o i < o j)) (o5 : ∀ k, 1 ≤ k → k ≤ nN S → ¬ gi S 74 k = 4 → ∃ i, i < mo ∧ o i = k)
    (g2 : fr pNewsC S T1) (g3 : gi T1 32 4 = nI (nN S + 1)) (g4 : gi T1 32 6 = nI (mo + 1)) (g5 : gi T1 33 (nN S + 1) = 0) (g6 : gi T1 34 (nN S + 1) = nI t) (g7 : gi T1 35 (nN S + 1) = nI (nK S)) (g9 : ∀ k, ¬ k = nN S + 1 → gi T1 33 k = gi S 33 k ∧ gi T1 34 k = gi S 34 k ∧ gi T1 35 k = gi S 35 k ∧ gi T1 36 k = gi S 36 k)
    (g10 : c' ≤ mo) (g11 : ∀ i, i < c' → gi T1 37 i = nI (o i)) (g12 : gi T1 37 c' = nI (nN S + 1)) (g13 : ∀ i, c' < i → i ≤ mo → gi T1 37 i = nI (o (i - 1))) (g14 : c' = 0 ∨ ix (gi S 75 (o (c' - 1))) ≤ t) (g15 : ∀ i, c' ≤ i → i < mo → t < ix (gi S 75 (o i))) (hPT : PapT S T1 T t p1 p3 p4 p5 p6) : iC T := by
  obtain ⟨hs, hA, hB, hC, hO, hD, hE, hG, hH, hU, hJ, hW, hF, hK⟩ := id h
  obtain ⟨hP, hQ, e1, e2, e3, e4, bP, bQ⟩ := id hB
  obtain ⟨c1, c2, c3, c4⟩ := id hC
  obtain ⟨d1, d2, d3, d4⟩ := id hD
  obtain ⟨hfr, tN, tK2, t1, y74, y75, y76, y77, y79, y78, z74, z75, z76, z786, q23, ⟨b24, b25, b26, b27, b28, b29, b30, b31⟩, ⟨m0, m1, m2, m3, m4, m5, m9⟩, q⟩ := hPT
  have nNT : nN T = nN S + 1 := by unfold nN at tN ⊢; rw [tN]; exact ix_nI (by unfold nN at hN; omega)
  have nKT : nK T = nK S + 1 := by unfold nK at tK2 ⊢; rw [tK2]; exact ix_nI (by unfold nK at hKK; omega)
  have nPT : nP T = nP S := by unfold nP; rw [hfr.2.1 70 2 (by unfold pPap; omega)]
  have nQT : nQ T = nQ S := by unfold nQ; rw [hfr.2.1 70 4 (by unfold pPap; omega)]
  refine ⟨by omega, by rw [nNT]; exact tN, by rw [nNT, t1 32 4 (by decide) (by decide)]; exact g3, fun k k1 k2 => ?_⟩
  rw [nNT] at k2
  by_cases hk : k = nN S + 1
  · subst hk
    rw [t1 33 _ (by decide) (by decide), t1 34 _ (by decide) (by decide), t1 35 _ (by decide) (by decide), g5, g6, g7, z74, z75, z76]
    exact ⟨rfl, rfl, Or.inr ⟨rfl, ⟨t, ht, rfl⟩, Or.inl ⟨rfl, nK S, by omega, rfl, z786⟩⟩⟩
  · obtain ⟨f33, f34, f35, f36⟩ := g9 k hk
    rw [t1 33 _ (by decide) (by decide), t1 34 _ (by decide) (by decide), t1 35 _ (by decide) (by decide), t1 36 _ (by decide) (by decide), f33, f34, f35, f36, y74 k hk, y75 k hk, y76 k hk, y77 k hk, nPT, nQT]
    obtain ⟨a1, a2, a3⟩ := c4 k k1 (by omega)
    refine ⟨a1, a2, ?_⟩
    rcases a3 with a | ⟨b1, b2, a⟩
    · exact Or.inl a
    · refine Or.inr ⟨b1, b2, ?_⟩
      rcases a with ⟨a, j, hj, ej, ej2⟩ | a
      · exact Or.inl ⟨a, j, by omega, ej, by rw [y78 _ (by omega)]; exact ej2⟩
      · exact Or.inr a
theorem paper_O {m : Nat} {S T1 T : AS} {mo c' t w x3 x4 x5 x6 : Nat} {o : Nat → Nat} {p1 p3 p4 p5 p6 : Int32} (h : INV m S) (hKK : nK S < 48) (hN : nN S < 160) (ht : t ≤ 9999999) (hw : w < nP S) (ew : p1 = nI w) (hx3 : x3 ≤ 255) (ex3 : p3 = nI x3) (hx4 : x4 ≤ 255) (ex4 : p4 = nI x4) (hx5 : x5 ≤ 1000) (ex5 : p5 = nI x5) (hx6 : x6 ≤ 1000) (ex6 : p6 = nI x6)
    (o1 : mo ≤ nN S) (o3 : ∀ i, i < mo → gi S 37 i = nI (o i) ∧ 1 ≤ o i ∧ o i ≤ nN S ∧ ¬ gi S 74 (o i) = 4) (o4 : ∀ i j, i < j → j < mo → ix (gi S 75 (o i)) < ix (gi S 75 (o j)) ∨ (ix (gi S 75 (o i)) = ix (gi S 75 (o j)) ∧ o i < o j)) (o5 : ∀ k, 1 ≤ k → k ≤ nN S → ¬ gi S 74 k = 4 → ∃ i, i < mo ∧ o i = k)
    (g2 : fr pNewsC S T1) (g3 : gi T1 32 4 = nI (nN S + 1)) (g4 : gi T1 32 6 = nI (mo + 1)) (g5 : gi T1 33 (nN S + 1) = 0) (g6 : gi T1 34 (nN S + 1) = nI t) (g7 : gi T1 35 (nN S + 1) = nI (nK S)) (g9 : ∀ k, ¬ k = nN S + 1 → gi T1 33 k = gi S 33 k ∧ gi T1 34 k = gi S 34 k ∧ gi T1 35 k = gi S 35 k ∧ gi T1 36 k = gi S 36 k)
    (g10 : c' ≤ mo) (g11 : ∀ i, i < c' → gi T1 37 i = nI (o i)) (g12 : gi T1 37 c' = nI (nN S + 1)) (g13 : ∀ i, c' < i → i ≤ mo → gi T1 37 i = nI (o (i - 1))) (g14 : c' = 0 ∨ ix (gi S 75 (o (c' - 1))) ≤ t) (g15 : ∀ i, c' ≤ i → i < mo → t < ix (gi S 75 (o i))) (hPT : PapT S T1 T t p1 p3 p4 p5 p6) : iO T := by
  obtain ⟨hs, hA, hB, hC, hO, hD, hE, hG, hH, hU, hJ, hW, hF, hK⟩ := id h
  obtain ⟨hP, hQ, e1, e2, e3, e4, bP, bQ⟩ := id hB
  obtain ⟨c1, c2, c3, c4⟩ := id hC
  obtain ⟨d1, d2, d3, d4⟩ := id hD
  obtain ⟨hfr, tN, tK2, t1, y74, y75, y76, y77, y79, y78, z74, z75, z76, z786, q23, ⟨b24, b25, b26, b27, b28, b29, b30, b31⟩, ⟨m0, m1, m2, m3, m4, m5, m9⟩, q⟩ := hPT
  have nNT : nN T = nN S + 1 := by unfold nN at tN ⊢; rw [tN]; exact ix_nI (by unfold nN at hN; omega)
  have nKT : nK T = nK S + 1 := by unfold nK at tK2 ⊢; rw [tK2]; exact ix_nI (by unfold nK at hKK; omega)
  have nPT : nP T = nP S := by unfold nP; rw [hfr.2.1 70 2 (by unfold pPap; omega)]
  have nQT : nQ T = nQ S := by unfold nQ; rw [hfr.2.1 70 4 (by unfold pPap; omega)]
  refine ⟨mo + 1, fun i => if i < c' then o i else if i = c' then nN S + 1 else o (i - 1), by omega, by rw [t1 32 6 (by decide) (by decide)]; exact g4, fun i hi => ?_, fun i j hij hj => ?_, fun k k1 k2 k3 => ?_⟩
  · rw [t1 37 i (by decide) (by decide), nNT]
    by_cases h1 : i < c'
    · simp only [if_pos h1]
      obtain ⟨q1, q2, q3, q4⟩ := o3 i (by omega)
      rw [y74 _ (by omega)]
      exact ⟨g11 i h1, q2, by omega, q4⟩
    · by_cases h2 : i = c'
      · simp only [if_neg h1, if_pos h2]
        rw [z74, h2]
        exact ⟨g12, by omega, by omega, by decide⟩
      · simp only [if_neg h1, if_neg h2]
        obtain ⟨q1, q2, q3, q4⟩ := o3 (i - 1) (by omega)
        rw [y74 _ (by omega)]
        exact ⟨g13 i (by omega) (by omega), q2, by omega, q4⟩
  · have ltime : ∀ i, i < c' → ix (gi S 75 (o i)) ≤ t := fun i hi => by
      rcases g14 with h0 | h0
      · omega
      · rcases Nat.lt_or_ge i (c' - 1) with q | q
        · rcases o4 i (c' - 1) q (by omega) with r | r <;> omega
        · rw [show i = c' - 1 by omega]; exact h0
    have tt : ix (nI t) = t := ix_nI (by omega)
    by_cases h1 : j < c'
    · simp only [if_pos h1, if_pos (show i < c' by omega)]
      have q1 := (o3 i (by omega)).2.2.1
      have q2 := (o3 j (by omega)).2.2.1
      rw [y75 _ (by omega), y75 _ (by omega)]
      exact o4 i j hij (by omega)
    · by_cases h2 : j = c'
      · simp only [if_neg h1, if_pos h2, if_pos (show i < c' by omega)]
        have q1 := (o3 i (by omega)).2.2.1
        rw [y75 _ (by omega), z75, tt]
        have := ltime i (by omega)
        omega
      · simp only [if_neg h1, if_neg h2]
        have q2 := (o3 (j - 1) (by omega)).2.2.1
        rw [y75 (o (j - 1)) (by omega)]
        by_cases h3 : i < c'
        · simp only [if_pos h3]
          have q1 := (o3 i (by omega)).2.2.1
          rw [y75 _ (by omega)]
          exact o4 i (j - 1) (by omega) (by omega)
        · by_cases h4 : i = c'
          · simp only [if_neg h3, if_pos h4]
            rw [z75, tt]
            exact Or.inl (g15 (j - 1) (by omega) (by omega))
          · simp only [if_neg h3, if_neg h4]
            have q1 := (o3 (i - 1) (by omega)).2.2.1
            rw [y75 _ (by omega)]
            exact o4 (i - 1) (j - 1) (by omega) (by omega)
  · rw [nNT] at k2
    by_cases hk : k = nN S + 1
    · exact ⟨c', by omega, by simp [hk]⟩
    · rw [y74 k hk] at k3
      obtain ⟨i, i1, i2⟩ := o5 k k1 (by omega) k3
      by_cases h1 : i < c'
      · exact ⟨i, by omega, by simp only [if_pos h1]; exact i2⟩
      · exact ⟨i + 1, by omega, by simp only [if_neg (show ¬ i + 1 < c' by omega), if_neg (show ¬ i + 1 = c' by omega)]; exact i2⟩
theorem paper_D {m : Nat} {S T1 T : AS} {mo c' t w x3 x4 x5 x6 : Nat} {o : Nat → Nat} {p1 p3 p4 p5 p6 : Int32} (h : INV m S) (hKK : nK S < 48) (hN : nN S < 160) (ht : t ≤ 9999999) (hw : w < nP S) (ew : p1 = nI w) (hx3 : x3 ≤ 255) (ex3 : p3 = nI x3) (hx4 : x4 ≤ 255) (ex4 : p4 = nI x4) (hx5 : x5 ≤ 1000) (ex5 : p5 = nI x5) (hx6 : x6 ≤ 1000) (ex6 : p6 = nI x6)
    (o1 : mo ≤ nN S) (o3 : ∀ i, i < mo → gi S 37 i = nI (o i) ∧ 1 ≤ o i ∧ o i ≤ nN S ∧ ¬ gi S 74 (o i) = 4) (o4 : ∀ i j, i < j → j < mo → ix (gi S 75 (o i)) < ix (gi S 75 (o j)) ∨ (ix (gi S 75 (o i)) = ix (gi S 75 (o j)) ∧ o i < o j)) (o5 : ∀ k, 1 ≤ k → k ≤ nN S → ¬ gi S 74 k = 4 → ∃ i, i < mo ∧ o i = k)
    (g2 : fr pNewsC S T1) (g3 : gi T1 32 4 = nI (nN S + 1)) (g4 : gi T1 32 6 = nI (mo + 1)) (g5 : gi T1 33 (nN S + 1) = 0) (g6 : gi T1 34 (nN S + 1) = nI t) (g7 : gi T1 35 (nN S + 1) = nI (nK S)) (g9 : ∀ k, ¬ k = nN S + 1 → gi T1 33 k = gi S 33 k ∧ gi T1 34 k = gi S 34 k ∧ gi T1 35 k = gi S 35 k ∧ gi T1 36 k = gi S 36 k)
    (g10 : c' ≤ mo) (g11 : ∀ i, i < c' → gi T1 37 i = nI (o i)) (g12 : gi T1 37 c' = nI (nN S + 1)) (g13 : ∀ i, c' < i → i ≤ mo → gi T1 37 i = nI (o (i - 1))) (g14 : c' = 0 ∨ ix (gi S 75 (o (c' - 1))) ≤ t) (g15 : ∀ i, c' ≤ i → i < mo → t < ix (gi S 75 (o i))) (hPT : PapT S T1 T t p1 p3 p4 p5 p6) : iD T := by
  obtain ⟨hs, hA, hB, hC, hO, hD, hE, hG, hH, hU, hJ, hW, hF, hK⟩ := id h
  obtain ⟨hP, hQ, e1, e2, e3, e4, bP, bQ⟩ := id hB
  obtain ⟨c1, c2, c3, c4⟩ := id hC
  obtain ⟨d1, d2, d3, d4⟩ := id hD
  obtain ⟨hfr, tN, tK2, t1, y74, y75, y76, y77, y79, y78, z74, z75, z76, z786, q23, ⟨b24, b25, b26, b27, b28, b29, b30, b31⟩, ⟨m0, m1, m2, m3, m4, m5, m9⟩, q⟩ := hPT
  have nNT : nN T = nN S + 1 := by unfold nN at tN ⊢; rw [tN]; exact ix_nI (by unfold nN at hN; omega)
  have nKT : nK T = nK S + 1 := by unfold nK at tK2 ⊢; rw [tK2]; exact ix_nI (by unfold nK at hKK; omega)
  have nPT : nP T = nP S := by unfold nP; rw [hfr.2.1 70 2 (by unfold pPap; omega)]
  have nQT : nQ T = nQ S := by unfold nQ; rw [hfr.2.1 70 4 (by unfold pPap; omega)]
  refine ⟨by omega, by rw [nKT]; exact tK2, by rw [nKT]; exact q23, fun j hj => ?_⟩
  rw [nKT] at hj
  by_cases hjk : j = nK S
  · subst hjk
    rw [b24, b25, b26, b27, b28, b29, b30, b31, m0, m1, m2, m3, m4, m5, z786, m9, nPT]
    exact ⟨rfl, rfl, rfl, rfl, rfl, rfl, rfl, ⟨w, hw, ew⟩, ⟨t, ht, rfl⟩, ⟨x3, hx3, ex3⟩, ⟨x4, hx4, ex4⟩, ⟨x5, hx5, ex5⟩, ⟨x6, hx6, ex6⟩, ⟨nN S + 1, by omega, by omega, rfl, z74, z76⟩, Or.inl ⟨rfl, rfl⟩⟩
  · have hjl : j < nK S := by omega
    rw [q 24 j (by decide) (by decide) hjk, q 25 j (by decide) (by decide) hjk, q 26 j (by decide) (by decide) hjk, q 27 j (by decide) (by decide) hjk, q 28 j (by decide) (by decide) hjk, q 29 j (by decide) (by decide) hjk, q 30 j (by decide) (by decide) hjk, q 31 j (by decide) (by decide) hjk, y78 _ (by omega), y78 _ (by omega), y78 _ (by omega), y78 _ (by omega), y78 _ (by omega), y78 _ (by omega), y78 _ (by omega), y79 j hjk, nPT, nNT]
    obtain ⟨b1, b2, b3, b4, b5, b6, b7, b8, b9, b10, b11, b12, b13, ⟨k, k1, k2, k3, k4, k5⟩, b15⟩ := d4 j hjl
    refine ⟨b1, b2, b3, b4, b5, b6, b7, b8, b9, b10, b11, b12, b13, ⟨k, k1, by omega, k3, by rw [y74 k (by omega)]; exact k4, by rw [y76 k (by omega)]; exact k5⟩, ?_⟩
    rcases b15 with q | ⟨v, v1, v2, v3⟩
    · exact Or.inl q
    · exact Or.inr ⟨v, v1, by omega, v3⟩
theorem paper_E {m : Nat} {S T1 T : AS} {mo c' t w x3 x4 x5 x6 : Nat} {o : Nat → Nat} {p1 p3 p4 p5 p6 : Int32} (h : INV m S) (hKK : nK S < 48) (hN : nN S < 160) (ht : t ≤ 9999999) (hw : w < nP S) (ew : p1 = nI w) (hx3 : x3 ≤ 255) (ex3 : p3 = nI x3) (hx4 : x4 ≤ 255) (ex4 : p4 = nI x4) (hx5 : x5 ≤ 1000) (ex5 : p5 = nI x5) (hx6 : x6 ≤ 1000) (ex6 : p6 = nI x6)
    (o1 : mo ≤ nN S) (o3 : ∀ i, i < mo → gi S 37 i = nI (o i) ∧ 1 ≤ o i ∧ o i ≤ nN S ∧ ¬ gi S 74 (o i) = 4) (o4 : ∀ i j, i < j → j < mo → ix (gi S 75 (o i)) < ix (gi S 75 (o j)) ∨ (ix (gi S 75 (o i)) = ix (gi S 75 (o j)) ∧ o i < o j)) (o5 : ∀ k, 1 ≤ k → k ≤ nN S → ¬ gi S 74 k = 4 → ∃ i, i < mo ∧ o i = k)
    (g2 : fr pNewsC S T1) (g3 : gi T1 32 4 = nI (nN S + 1)) (g4 : gi T1 32 6 = nI (mo + 1)) (g5 : gi T1 33 (nN S + 1) = 0) (g6 : gi T1 34 (nN S + 1) = nI t) (g7 : gi T1 35 (nN S + 1) = nI (nK S)) (g9 : ∀ k, ¬ k = nN S + 1 → gi T1 33 k = gi S 33 k ∧ gi T1 34 k = gi S 34 k ∧ gi T1 35 k = gi S 35 k ∧ gi T1 36 k = gi S 36 k)
    (g10 : c' ≤ mo) (g11 : ∀ i, i < c' → gi T1 37 i = nI (o i)) (g12 : gi T1 37 c' = nI (nN S + 1)) (g13 : ∀ i, c' < i → i ≤ mo → gi T1 37 i = nI (o (i - 1))) (g14 : c' = 0 ∨ ix (gi S 75 (o (c' - 1))) ≤ t) (g15 : ∀ i, c' ≤ i → i < mo → t < ix (gi S 75 (o i))) (hPT : PapT S T1 T t p1 p3 p4 p5 p6) : iE T := by
  obtain ⟨hs, hA, hB, hC, hO, hD, hE, hG, hH, hU, hJ, hW, hF, hK⟩ := id h
  obtain ⟨hP, hQ, e1, e2, e3, e4, bP, bQ⟩ := id hB
  obtain ⟨c1, c2, c3, c4⟩ := id hC
  obtain ⟨d1, d2, d3, d4⟩ := id hD
  obtain ⟨hfr, tN, tK2, t1, y74, y75, y76, y77, y79, y78, z74, z75, z76, z786, q23, ⟨b24, b25, b26, b27, b28, b29, b30, b31⟩, ⟨m0, m1, m2, m3, m4, m5, m9⟩, q⟩ := hPT
  have nNT : nN T = nN S + 1 := by unfold nN at tN ⊢; rw [tN]; exact ix_nI (by unfold nN at hN; omega)
  have nKT : nK T = nK S + 1 := by unfold nK at tK2 ⊢; rw [tK2]; exact ix_nI (by unfold nK at hKK; omega)
  have nPT : nP T = nP S := by unfold nP; rw [hfr.2.1 70 2 (by unfold pPap; omega)]
  have nQT : nQ T = nQ S := by unfold nQ; rw [hfr.2.1 70 4 (by unfold pPap; omega)]
  obtain ⟨f1, f2⟩ := id hE
  refine ⟨by rw [hfr.2.1 0 11 (by unfold pPap; omega), hfr.2.1 70 14 (by unfold pPap; omega)]; exact f1, ?_⟩
  rw [hfr.2.1 70 14 (by unfold pPap; omega), nNT]
  rcases f2 with q | ⟨n, n1, n2⟩
  · exact Or.inl q
  · exact Or.inr ⟨n, by omega, n2⟩
theorem paper_inv {m : Nat} {S T1 T : AS} {mo c' t w x3 x4 x5 x6 : Nat} {o : Nat → Nat} {p1 p3 p4 p5 p6 : Int32} (h : INV m S) (hKK : nK S < 48) (hN : nN S < 160) (ht : t ≤ 9999999) (hw : w < nP S) (ew : p1 = nI w) (hx3 : x3 ≤ 255) (ex3 : p3 = nI x3) (hx4 : x4 ≤ 255) (ex4 : p4 = nI x4) (hx5 : x5 ≤ 1000) (ex5 : p5 = nI x5) (hx6 : x6 ≤ 1000) (ex6 : p6 = nI x6)
    (o1 : mo ≤ nN S) (o3 : ∀ i, i < mo → gi S 37 i = nI (o i) ∧ 1 ≤ o i ∧ o i ≤ nN S ∧ ¬ gi S 74 (o i) = 4) (o4 : ∀ i j, i < j → j < mo → ix (gi S 75 (o i)) < ix (gi S 75 (o j)) ∨ (ix (gi S 75 (o i)) = ix (gi S 75 (o j)) ∧ o i < o j)) (o5 : ∀ k, 1 ≤ k → k ≤ nN S → ¬ gi S 74 k = 4 → ∃ i, i < mo ∧ o i = k)
    (g2 : fr pNewsC S T1) (g3 : gi T1 32 4 = nI (nN S + 1)) (g4 : gi T1 32 6 = nI (mo + 1)) (g5 : gi T1 33 (nN S + 1) = 0) (g6 : gi T1 34 (nN S + 1) = nI t) (g7 : gi T1 35 (nN S + 1) = nI (nK S)) (g9 : ∀ k, ¬ k = nN S + 1 → gi T1 33 k = gi S 33 k ∧ gi T1 34 k = gi S 34 k ∧ gi T1 35 k = gi S 35 k ∧ gi T1 36 k = gi S 36 k)
    (g10 : c' ≤ mo) (g11 : ∀ i, i < c' → gi T1 37 i = nI (o i)) (g12 : gi T1 37 c' = nI (nN S + 1)) (g13 : ∀ i, c' < i → i ≤ mo → gi T1 37 i = nI (o (i - 1))) (g14 : c' = 0 ∨ ix (gi S 75 (o (c' - 1))) ≤ t) (g15 : ∀ i, c' ≤ i → i < mo → t < ix (gi S 75 (o i))) (hPT : PapT S T1 T t p1 p3 p4 p5 p6) : INV (m + 1) T := by
  obtain ⟨hs, hA, hB, hC, hO, hD, hE, hG, hH, hU, hJ, hW, hF, hK⟩ := id h
  obtain ⟨hfr, tN, tK2, t1, y74, y75, y76, y77, y79, y78, -⟩ := id hPT
  have nNT : nN T = nN S + 1 := by unfold nN at tN ⊢; rw [tN]; exact ix_nI (by unfold nN at hN; omega)
  exact ⟨hfr.sh hs, hA.fr hfr pap_dA, hB.fr hfr pap_dB, paper_C h hKK hN ht hw ew hx3 ex3 hx4 ex4 hx5 ex5 hx6 ex6 o1 o3 o4 o5 g2 g3 g4 g5 g6 g7 g9 g10 g11 g12 g13 g14 g15 hPT, paper_O h hKK hN ht hw ew hx3 ex3 hx4 ex4 hx5 ex5 hx6 ex6 o1 o3 o4 o5 g2 g3 g4 g5 g6 g7 g9 g10 g11 g12 g13 g14 g15 hPT, paper_D h hKK hN ht hw ew hx3 ex3 hx4 ex4 hx5 ex5 hx6 ex6 o1 o3 o4 o5 g2 g3 g4 g5 g6 g7 g9 g10 g11 g12 g13 g14 g15 hPT, paper_E h hKK hN ht hw ew hx3 ex3 hx4 ex4 hx5 ex5 hx6 ex6 o1 o3 o4 o5 g2 g3 g4 g5 g6 g7 g9 g10 g11 g12 g13 g14 g15 hPT, hG.fr hfr pap_dG, hH.fr hfr pap_dH, hU.fr hfr pap_dU, hJ.fr hfr pap_dJ, hW.fr hfr (by unfold pPap; omega), hF.fr hfr (fun c k hd hp => by unfold dF at hd; unfold pPap at hp; omega), hK.mv (P' := nP S) (K' := nK S + 1) (Nat.le_refl _) hB.1 (by omega) (by omega) (by omega) (by rw [hfr.2.1 70 2 (by unfold pPap; omega)]; exact hB.2.2.1) tK2 (hfr.2.1 70 4 (by unfold pPap; omega)) (hfr.2.1 70 15 (by unfold pPap; omega)) (fun k => hfr.2.1 73 k (by unfold pPap; omega)) (fun c k _ _ => hfr.2.1 c k (by unfold pPap; omega)) (fun k _ => hfr.2.1 72 k (by unfold pPap; omega)) y78 (fun c k h1 h2 h3 => by
    have h4 : c = 74 ∨ c = 75 ∨ c = 76 ∨ c = 77 := by omega
    rcases h4 with rfl | rfl | rfl | rfl
    · exact y74 k (by omega)
    · exact y75 k (by omega)
    · exact y76 k (by omega)
    · exact y77 k (by omega)) (fun j hj => Or.inl (y79 j (by omega))) (fun c k _ => hfr.2.1 c k (by unfold pPap; omega)) (fun k => hfr.2.2.1 53 k (by unfold pPap; omega)) (hfr.2.2.2 49 15)⟩
theorem ok_paper {m : Nat} {S : AS} (hm : m < 600) (h : INV m S) (p1 p2 p3 p4 p5 p6 : Int32) : ∃ (r : Int32) (S1 S2 : AS), f_Chan_paper p1 p2 p3 p4 p5 p6 S = some (r, S1) ∧ f_Md_paper p1 p2 p3 p4 p5 p6 S1 = some (r, S2) ∧ INV (m + 1) S2 := by
  obtain ⟨hs, hA, hB, hC, hO, hD, hE, hG, hH, hU, hJ, hW, hF, hK⟩ := id h
  obtain ⟨hP, hQ, e1, e2, e3, e4, bP, bQ⟩ := id hB
  obtain ⟨c1, c2, c3, c4⟩ := id hC
  obtain ⟨d1, d2, d3, d4⟩ := id hD
  have one : ¬ (1 : Int32) = 0 := by decide
  rcases idx_cases p1 (nP S) (by omega) with ⟨w, hw, ew, w0, w1⟩ | hno
  rotate_left
  · exact ⟨-1, S, S, by unfold f_Chan_paper; simp only [nm_eq]; rw [rp_no e2 hno, bI_eq, if_pos rfl, if_true], by unfold f_Md_paper; rw [mp_no e1 hno, bI_eq, if_pos rfl], h.step⟩
  rcases rng_cases p2 9999999 (by decide) with r2 | ⟨t, ht, et, r2⟩
  · have r2 : (if p2 < 0 then (0 : Int32) else if 9999999 < p2 then 0 else 1) = 0 := r2
    exact ⟨-1, S, S, by unfold f_Chan_paper; simp only [nm_eq]; rw [rp_yes e2 w0 w1, bI_eq, if_neg one, time_spec, bI_eq, r2, if_pos rfl, if_true], by unfold f_Md_paper; rw [mp_yes e1 w0 w1, bI_eq, if_neg one, can_spec c2 c1, bI_eq, r2, if_pos rfl, if_pos rfl], h.step⟩
  have r2 : (if p2 < 0 then (0 : Int32) else if 9999999 < p2 then 0 else 1) = 1 := r2
  rcases rng_cases p3 255 (by decide) with r3 | ⟨x3, hx3, ex3, r3⟩
  · have r3 : (if p3 < 0 then (0 : Int32) else if 255 < p3 then 0 else 1) = 0 := r3
    exact ⟨-1, S, S, by unfold f_Chan_paper; simp only [nm_eq]; rw [rp_yes e2 w0 w1, bI_eq, if_neg one, time_spec, bI_eq, r2, if_neg one, within_spec, bI_eq, r3, if_pos rfl, if_true], by
      unfold f_Md_paper
      by_cases hN : nN S < 160
      · rw [mp_yes e1 w0 w1, bI_eq, if_neg one, can_spec c2 c1, bI_eq, r2, if_neg one, if_neg (show ¬ 160 ≤ nN S by omega), if_neg one, is_spec, bI_eq, r3, if_pos rfl]
      · rw [mp_yes e1 w0 w1, bI_eq, if_neg one, can_spec c2 c1, bI_eq, r2, if_neg one, if_pos (show 160 ≤ nN S by omega), if_pos rfl], h.step⟩
  have r3 : (if p3 < 0 then (0 : Int32) else if 255 < p3 then 0 else 1) = 1 := r3
  rcases rng_cases p4 255 (by decide) with r4 | ⟨x4, hx4, ex4, r4⟩
  · have r4 : (if p4 < 0 then (0 : Int32) else if 255 < p4 then 0 else 1) = 0 := r4
    exact ⟨-1, S, S, by unfold f_Chan_paper; simp only [nm_eq]; rw [rp_yes e2 w0 w1, bI_eq, if_neg one, time_spec, bI_eq, r2, if_neg one, within_spec, bI_eq, r3, if_neg one, within_spec, bI_eq, r4, if_pos rfl, if_true], by
      unfold f_Md_paper
      by_cases hN : nN S < 160
      · rw [mp_yes e1 w0 w1, bI_eq, if_neg one, can_spec c2 c1, bI_eq, r2, if_neg one, if_neg (show ¬ 160 ≤ nN S by omega), if_neg one, is_spec, bI_eq, r3, if_neg one, is_spec, bI_eq, r4, if_pos rfl]
      · rw [mp_yes e1 w0 w1, bI_eq, if_neg one, can_spec c2 c1, bI_eq, r2, if_neg one, if_pos (show 160 ≤ nN S by omega), if_pos rfl], h.step⟩
  have r4 : (if p4 < 0 then (0 : Int32) else if 255 < p4 then 0 else 1) = 1 := r4
  rcases rng1_cases p5 1000 (by decide) with r5 | ⟨x5, hx50, hx5, ex5, r5⟩
  · have r5 : (if p5 < 1 then (0 : Int32) else if 1000 < p5 then 0 else 1) = 0 := r5
    exact ⟨-1, S, S, by unfold f_Chan_paper; simp only [nm_eq]; rw [rp_yes e2 w0 w1, bI_eq, if_neg one, time_spec, bI_eq, r2, if_neg one, within_spec, bI_eq, r3, if_neg one, within_spec, bI_eq, r4, if_neg one, within_spec, bI_eq, r5, if_pos rfl, if_true], by
      unfold f_Md_paper
      by_cases hN : nN S < 160
      · rw [mp_yes e1 w0 w1, bI_eq, if_neg one, can_spec c2 c1, bI_eq, r2, if_neg one, if_neg (show ¬ 160 ≤ nN S by omega), if_neg one, is_spec, bI_eq, r3, if_neg one, is_spec, bI_eq, r4, if_neg one, is_spec, bI_eq, r5, if_pos rfl]
      · rw [mp_yes e1 w0 w1, bI_eq, if_neg one, can_spec c2 c1, bI_eq, r2, if_neg one, if_pos (show 160 ≤ nN S by omega), if_pos rfl], h.step⟩
  have r5 : (if p5 < 1 then (0 : Int32) else if 1000 < p5 then 0 else 1) = 1 := r5
  rcases rngp_cases p6 p5 ex5 (by omega) with r6 | ⟨x6, hx60, hx6, ex6, r6⟩
  · exact ⟨-1, S, S, by unfold f_Chan_paper; simp only [nm_eq]; rw [rp_yes e2 w0 w1, bI_eq, if_neg one, time_spec, bI_eq, r2, if_neg one, within_spec, bI_eq, r3, if_neg one, within_spec, bI_eq, r4, if_neg one, within_spec, bI_eq, r5, if_neg one, within_spec, bI_eq, r6, if_pos rfl, if_true], by
      unfold f_Md_paper
      by_cases hN : nN S < 160
      · rw [mp_yes e1 w0 w1, bI_eq, if_neg one, can_spec c2 c1, bI_eq, r2, if_neg one, if_neg (show ¬ 160 ≤ nN S by omega), if_neg one, is_spec, bI_eq, r3, if_neg one, is_spec, bI_eq, r4, if_neg one, is_spec, bI_eq, r5, if_neg one, is_spec, bI_eq, r6, if_pos rfl]
      · rw [mp_yes e1 w0 w1, bI_eq, if_neg one, can_spec c2 c1, bI_eq, r2, if_neg one, if_pos (show 160 ≤ nN S by omega), if_pos rfl], h.step⟩
  have hcls : f_Chan_paper p1 p2 p3 p4 p5 p6 S = (bI (f_PaperBox_isFull S) fun r6 S5 => if r6 = 0 then (bI (f_Gazette_isFull S5) fun r8 S7 => if r8 = 0 then (bI (f_Gazette_add 0 p2 (gi S7 23 8) (-1) S7) fun r10 S9 => bV (f_PaperBox_add p1 p2 p3 p4 p5 p6 r10 S9) fun S11 => some (r10, S11)) else (some ((-1), S7))) else (some ((-1), S5))) := by
    unfold f_Chan_paper; simp only [nm_eq]; rw [rp_yes e2 w0 w1, bI_eq, if_neg one, time_spec, bI_eq, r2, if_neg one, within_spec, bI_eq, r3, if_neg one, within_spec, bI_eq, r4, if_neg one, within_spec, bI_eq, r5, if_neg one, within_spec, bI_eq, r6, if_neg one, if_neg one]
  rw [hcls]
  unfold f_PaperBox_isFull f_Gazette_isFull
  rw [d3]
  by_cases hK : nK S < 48
  rotate_left
  · have h48 : nK S = 48 := by omega
    refine ⟨-1, S, S, by rw [h48, if_neg (by decide), bI_eq, if_neg one], ?_, h.step⟩
    unfold f_Md_paper
    by_cases hN : nN S < 160
    · rw [mp_yes e1 w0 w1, bI_eq, if_neg one, can_spec c2 c1, bI_eq, r2, if_neg one, if_neg (show ¬ 160 ≤ nN S by omega), if_neg one, is_spec, bI_eq, r3, if_neg one, is_spec, bI_eq, r4, if_neg one, is_spec, bI_eq, r5, if_neg one, is_spec, bI_eq, r6, if_neg one, d2, h48, if_pos (by decide)]
    · rw [mp_yes e1 w0 w1, bI_eq, if_neg one, can_spec c2 c1, bI_eq, r2, if_neg one, if_pos (show 160 ≤ nN S by omega), if_pos rfl]
  rw [if_pos (show nI (nK S) < 48 from nI_lt (b := 48) hK (by decide)), bI_eq, if_pos rfl, c3]
  by_cases hN : nN S < 160
  rotate_left
  · have h160 : nN S = 160 := by omega
    refine ⟨-1, S, S, by rw [h160, if_neg (by decide), bI_eq, if_neg one], ?_, h.step⟩
    unfold f_Md_paper
    rw [mp_yes e1 w0 w1, bI_eq, if_neg one, can_spec c2 c1, bI_eq, r2, if_neg one, if_pos (show 160 ≤ nN S by omega), if_pos rfl]
  rw [if_pos (show nI (nN S) < 160 from nI_lt (b := 160) hN (by decide)), bI_eq, if_pos rfl, d3, et]
  obtain ⟨mo, o, o1, o2, o3, o4, o5⟩ := id hO
  have tmc : ∀ k, 1 ≤ k → k ≤ nN S → ¬ gi S 74 k = 4 → gi S 34 k = nI (ix (gi S 75 k)) ∧ ix (gi S 75 k) ≤ 9999999 := fun k h1 h2 h3 => by
    obtain ⟨-, -, q⟩ := c4 k h1 h2
    rcases q with q | ⟨q1, ⟨n, q2, q3⟩, -⟩
    · exact absurd q h3
    · rw [q1, q3, ix_nI (by omega)]; exact ⟨rfl, q2⟩
  obtain ⟨T1, c', g1, g2, g3, g4, g5, g6, g7, g8, g9, g10, g11, g12, g13, g14, g15⟩ := gadd_spec (S := S) (N := nN S) (m := mo) (o := o) (tm := fun k => ix (gi S 75 k)) hN o1 c3 o2 (fun i hi => ⟨(o3 i hi).1, (o3 i hi).2.2.1⟩) (fun i hi => ⟨(tmc _ (o3 i hi).2.1 (o3 i hi).2.2.1 (o3 i hi).2.2.2).1, by have := (tmc _ (o3 i hi).2.1 (o3 i hi).2.2.1 (o3 i hi).2.2.2).2; omega⟩) (t := t) (by omega) 0 (nI (nK S)) (-1) (by decide)
  have tK : gi T1 23 8 = nI (nK S) := by rw [g2.2.1 23 8 (by unfold pNewsC; omega)]; exact d3
  rw [g1, bI_eq, boxadd_spec hK tK, bV_eq]
  generalize hV : si (si (si (si (si (si (si (si (si T1 24 (nK S) p1) 25 (nK S) (nI t)) 26 (nK S) p3) 27 (nK S) p4) 28 (nK S) p5) 29 (nK S) p6) 30 (nK S) (nI (nN S + 1))) 31 (nK S) (-1)) 23 8 (nI (nK S + 1)) = V1
  have vx : ∀ c k, 70 ≤ c → gi V1 c k = gi S c k := fun c k hc => by
    rw [← hV]
    simp only [gi_si, if_neg (show ¬ (c = 23 ∧ k = 8) by omega), if_neg (show ¬ (c = 24 ∧ k = nK S) by omega), if_neg (show ¬ (c = 25 ∧ k = nK S) by omega), if_neg (show ¬ (c = 26 ∧ k = nK S) by omega), if_neg (show ¬ (c = 27 ∧ k = nK S) by omega), if_neg (show ¬ (c = 28 ∧ k = nK S) by omega), if_neg (show ¬ (c = 29 ∧ k = nK S) by omega), if_neg (show ¬ (c = 30 ∧ k = nK S) by omega), if_neg (show ¬ (c = 31 ∧ k = nK S) by omega)]
    exact g2.2.1 c k (by unfold pNewsC; omega)
  have v2 : gi V1 70 2 = nI (nP S) := by rw [vx 70 2 (by decide)]; exact e1
  have v6 : gi V1 70 6 = nI (nN S) := by rw [vx 70 6 (by decide)]; exact c2
  have v11 : gi V1 70 11 = nI (nK S) := by rw [vx 70 11 (by decide)]; exact d2
  refine ⟨_, V1, _, rfl, mdPaper_spec (P := nP S) hK hN v11 v6 p1 (nI t) p3 p4 p5 p6 (mp_yes v2 w0 w1) (by rw [← et]; exact r2) r3 r4 r5 r6, paper_inv h hK hN ht hw ew hx3 ex3 hx4 ex4 hx5 ex5 hx6 ex6 o1 o3 o4 o5 g2 g3 g4 g5 g6 g7 g9 g10 g11 g12 g13 g14 g15 (papT_of g2 hV rfl)⟩
