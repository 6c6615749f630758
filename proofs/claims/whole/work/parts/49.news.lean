/-! news: the gazette's order, tell -/
def pOrd (c k : Nat) : Prop := c = 37
theorem po_loop {J : Int32 → AS → Option AS} {N m : Nat} {o tm : Nat → Nat} (hN : N ≤ 160) (hm : m < 160) (ho : ∀ i, i < m → o i ≤ 160) (hto : ∀ i, i < m → tm (o i) < 2147483648) (htN : tm N < 2147483648) : ∀ (n c : Nat) (S : AS), c ≤ m → c < n → (∀ i, i < m → gi S 34 (o i) = nI (tm (o i))) → gi S 34 N = nI (tm N) → (∀ i, i < c → gi S 37 i = nI (o i)) → (∀ i, c < i → i ≤ m → gi S 37 i = nI (o (i - 1))) →
    ∃ c' S', f_Gazette_putInOrder_L18 J (nI N) n (nI c) S = J (nI c') S' ∧ c' ≤ c ∧ fr pOrd S S' ∧ (∀ i, i < c' → gi S' 37 i = nI (o i)) ∧ (∀ i, c' < i → i ≤ m → gi S' 37 i = nI (o (i - 1))) ∧ (c' = 0 ∨ tm (o (c' - 1)) ≤ tm N) ∧ ∀ i, c' ≤ i → i < c → tm N < tm (o i) := by
  intro n
  induction n with
  | zero => intro c S _ h; omega
  | succ n ih =>
    intro c S hc hn ht34 htN34 h1 h2
    rw [f_Gazette_putInOrder_L18]
    rcases Nat.eq_zero_or_pos c with hz | hz
    · subst hz
      rw [if_pos (by decide)]
      exact ⟨0, S, rfl, Nat.le_refl _, fr_rf _ _, h1, h2, Or.inl rfl, fun i a b => by omega⟩
    · rw [if_neg (nI_nle hz (by omega)), nI_sub1 hz]
      have ec := h1 (c - 1) (by omega)
      have hoc := ho (c - 1) (by omega)
      rw [chk_pos (in_nI (by omega) (by decide)), ix_nI (by omega), ec, chk_pos (in_nI (by omega) (by decide)), chk_pos (in_nI (by omega) (by decide)), ix_nI (by omega), ix_nI (by omega), ht34 (c - 1) (by omega), htN34]
      by_cases hle : tm (o (c - 1)) ≤ tm N
      · rw [if_pos (nI_le hle htN)]
        exact ⟨c, S, rfl, Nat.le_refl _, fr_rf _ _, h1, h2, Or.inr hle, fun i a b => by omega⟩
      · rw [if_neg (nI_ge (by omega) (hto (c - 1) (by omega))), chk_pos (in_nI (by omega) (by decide)), chk_pos (in_nI (by omega) (by decide)), nm_eq, ix_nI (by omega)]
        have em : nI c + (-1) = nI (c - 1) := by
          obtain ⟨d, rfl⟩ : ∃ d, c = d + 1 := ⟨c - 1, by omega⟩
          exact pk_m1 d
        rw [em]
        obtain ⟨c', S', a1, a2, a3, a4, a5, a6, a7⟩ := ih (c - 1) (si S 37 c (nI (o (c - 1)))) (by omega) (by omega) (fun i hi => ht34 i hi) htN34 (fun i hi => by rw [gi_si, if_neg (by omega)]; exact h1 i (by omega)) (fun i i1 i2 => by
          rw [gi_si]
          by_cases e : i = c
          · rw [if_pos ⟨rfl, e⟩, e]
          · rw [if_neg (by omega)]
            exact h2 i (by omega) i2)
        refine ⟨c', S', a1, by omega, ((fr_rf pOrd S).si (by unfold pOrd; rfl)).tr a3, a4, a5, a6, fun i i1 i2 => ?_⟩
        by_cases e : i = c - 1
        · subst e; omega
        · exact a7 i i1 (by omega)
def pNewsC (c k : Nat) : Prop := (c = 32 ∧ (k = 4 ∨ k = 6)) ∨ c = 33 ∨ c = 34 ∨ c = 35 ∨ c = 36 ∨ c = 37
/-- the class's add of news that are not void: the order is kept -/
theorem gadd_spec {S : AS} {N m : Nat} {o tm : Nat → Nat} (hN : N < 160) (hm : m ≤ N) (eN : gi S 32 4 = nI N) (em : gi S 32 6 = nI m) (ho : ∀ i, i < m → gi S 37 i = nI (o i) ∧ o i ≤ N) (ht : ∀ i, i < m → gi S 34 (o i) = nI (tm (o i)) ∧ tm (o i) < 2147483648) {t : Nat} (htt : t < 2147483648) (kd a b : Int32) (hkd : ¬ kd = 4) : ∃ T c', f_Gazette_add kd (nI t) a b S = some (nI (N + 1), T) ∧ fr pNewsC S T ∧ gi T 32 4 = nI (N + 1) ∧ gi T 32 6 = nI (m + 1) ∧ gi T 33 (N + 1) = kd ∧ gi T 34 (N + 1) = nI t ∧ gi T 35 (N + 1) = a ∧ gi T 36 (N + 1) = b ∧ (∀ k, ¬ k = N + 1 → gi T 33 k = gi S 33 k ∧ gi T 34 k = gi S 34 k ∧ gi T 35 k = gi S 35 k ∧ gi T 36 k = gi S 36 k)
    ∧ c' ≤ m ∧ (∀ i, i < c' → gi T 37 i = nI (o i)) ∧ gi T 37 c' = nI (N + 1) ∧ (∀ i, c' < i → i ≤ m → gi T 37 i = nI (o (i - 1))) ∧ (c' = 0 ∨ tm (o (c' - 1)) ≤ t) ∧ ∀ i, c' ≤ i → i < m → t < tm (o i) := by
  unfold f_Gazette_add f_Gazette_isFull
  rw [eN, show (160 : Int32) = nI 160 from rfl, if_pos (nI_lt hN (by decide)), bI_eq, if_pos rfl]
  simp only [nm_eq, gi_si, eN, nI_1, and_self, if_true, Nat.reduceEqDiff, false_and, if_false, chk_pos (in_nI (show N + 1 < 161 by omega) (by decide : 161 < 2147483648)), ix_nI (show N + 1 < 2147483648 by omega)]
  rw [if_neg hkd]
  generalize hU : si (si (si (si (si S 32 4 (nI (N + 1))) 33 (N + 1) kd) 34 (N + 1) (nI t)) 35 (N + 1) a) 36 (N + 1) b = U
  have hfrU : fr pNewsC S U := by
    rw [← hU]
    refine fr.si (fr.si (fr.si (fr.si (fr.si (fr_rf _ _) ?_) ?_) ?_) ?_) ?_ <;> unfold pNewsC <;> omega
  have u37 : ∀ i, gi U 37 i = gi S 37 i := fun i => by rw [← hU]; rfl
  have u34 : ∀ i, ¬ i = N + 1 → gi U 34 i = gi S 34 i := fun i hi => by rw [← hU]; simp [gi_si, hi]
  have u34N : gi U 34 (N + 1) = nI t := by rw [← hU]; simp [gi_si]
  have um : gi U 32 6 = nI m := by rw [← hU]; exact em
  unfold f_Gazette_putInOrder
  rw [um, show (160 : Int32) = nI 160 from rfl, if_pos (nI_lt (show m < 160 by omega) (by decide)), nm_eq, nm_eq]
  obtain ⟨c', S', a1, a2, a3, a4, a5, a6, a7⟩ := po_loop (J := fun (a2 : Int32) (S3 : AS) => chk (vp_in a2 160) (nm (si S3 37 (ix a2) (nI (N + 1))) fun S4 => nm (si S4 32 6 ((gi S4 32 6) + 1)) fun S5 => some S5)) (N := N + 1) (m := m) (o := o) (tm := fun k => if k = N + 1 then t else tm k) (by omega) (by omega) (fun i hi => by have := (ho i hi).2; omega) (fun i hi => by rw [if_neg (by have := (ho i hi).2; omega)]; exact (ht i hi).2) (by simpa using htt) FU m U (Nat.le_refl _) (by unfold FU; omega) (fun i hi => by have := (ho i hi).2; rw [if_neg (by omega), u34 _ (by omega)]; exact (ht i hi).1) (by simpa using u34N) (fun i hi => by rw [u37]; exact (ho i hi).1) (fun i i1 i2 => by omega)
  rw [a1, chk_pos (in_nI (by omega) (by decide)), nm_eq, nm_eq, ix_nI (by omega)]
  have s6 : gi (si S' 37 c' (nI (N + 1))) 32 6 = nI m := by
    rw [gi_si, if_neg (by omega), a3.2.1 32 6 (by unfold pOrd; omega)]; exact um
  rw [s6, nI_1, bV_eq]
  have s4 : gi (si (si S' 37 c' (nI (N + 1))) 32 6 (nI (m + 1))) 32 4 = nI (N + 1) := by
    rw [gi_si, if_neg (by omega), gi_si, if_neg (by omega), a3.2.1 32 4 (by unfold pOrd; omega), ← hU]
    simp [gi_si]
  rw [s4]
  have hx : ∀ c k, ¬ c = 37 → ¬ c = 32 → gi (si (si S' 37 c' (nI (N + 1))) 32 6 (nI (m + 1))) c k = gi U c k := fun c k h1 h2 => by
    rw [gi_si, if_neg (by omega), gi_si, if_neg (by omega), a3.2.1 c k (by unfold pOrd; exact h1)]
  have h37 : ∀ i, ¬ i = c' → gi (si (si S' 37 c' (nI (N + 1))) 32 6 (nI (m + 1))) 37 i = gi S' 37 i := fun i hi => by
    rw [gi_si, if_neg (by omega), gi_si, if_neg (by omega)]
  refine ⟨_, c', rfl, ?_, s4, by simp [gi_si], ?_, ?_, ?_, ?_, fun k hk => ⟨?_, ?_, ?_, ?_⟩, a2, fun i hi => ?_, by simp [gi_si], fun i i1 i2 => ?_, ?_, fun i i1 i2 => ?_⟩
  · exact ((hfrU.tr (a3.mono (fun c k h => by unfold pOrd at h; unfold pNewsC; omega))).si (by unfold pNewsC; omega)).si (by unfold pNewsC; omega)
  · rw [hx 33 _ (by decide) (by decide), ← hU]; simp [gi_si]
  · rw [hx 34 _ (by decide) (by decide)]; exact u34N
  · rw [hx 35 _ (by decide) (by decide), ← hU]; simp [gi_si]
  · rw [hx 36 _ (by decide) (by decide), ← hU]; simp [gi_si]
  · rw [hx 33 _ (by decide) (by decide), ← hU]; simp [gi_si, hk]
  · rw [hx 34 _ (by decide) (by decide)]; exact u34 k hk
  · rw [hx 35 _ (by decide) (by decide), ← hU]; simp [gi_si, hk]
  · rw [hx 36 _ (by decide) (by decide), ← hU]; simp [gi_si, hk]
  · rw [h37 i (by omega)]; exact a4 i hi
  · rw [h37 i (by omega)]; exact a5 i i1 i2
  · by_cases hz : c' = 0
    · exact Or.inl hz
    · right
      rcases a6 with h | h
      · exact absurd h hz
      · have h2 := (ho (c' - 1) (by omega)).2
        simp only [if_true, if_neg (show ¬ o (c' - 1) = N + 1 by omega)] at h
        exact h
  · have h2 := (ho i i2).2
    have h3 := a7 i i1 i2
    simp only [if_true, if_neg (show ¬ o i = N + 1 by omega)] at h3
    exact h3
theorem tell_spec {S : AS} {N : Nat} (hN : N < 160) (e : gi S 70 6 = nI N) (kd t a b : Int32) : f_Md_tell kd t a b S = some (nI (N + 1), si (si (si (si (si S 70 6 (nI (N + 1))) 74 (N + 1) kd) 75 (N + 1) t) 76 (N + 1) a) 77 (N + 1) b) := by
  unfold f_Md_tell
  simp [nm_eq, gi_si, e, nI_1, chk_pos (in_nI (show N + 1 < 161 by omega) (by decide : 161 < 2147483648)), ix_nI (show N + 1 < 2147483648 by omega)]
