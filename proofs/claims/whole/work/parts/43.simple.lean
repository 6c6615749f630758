/-! feed and end -/
theorem INV.step {m : Nat} {S : AS} (h : INV m S) : INV (m + 1) S := by
  obtain ⟨hs, hA, hB, hC, hO, hD, hE, hG, hH, hU, hJ, ⟨w, h1, h2⟩, hF, hK⟩ := h
  exact ⟨hs, hA, hB, hC, hO, hD, hE, hG, hH, hU, hJ, ⟨w, by omega, h2⟩, hF, hK⟩
theorem iW.fr {m : Nat} {P : Nat → Nat → Prop} {S S' : AS} (h : fr P S S') (hp : ¬ P 16 8) (hi : iW m S) : iW (m + 1) S' := by
  obtain ⟨w, h1, h2⟩ := hi
  exact ⟨w, by omega, by rw [h.2.1 16 8 hp]; exact h2⟩
def pTapeC (c k : Nat) : Prop := (c = 1 ∧ k = 1) ∨ c = 2
def pTapeM (c k : Nat) : Prop := (c = 70 ∧ k = 1) ∨ c = 71
/-- the byte of x that is told at shift c -/
def byt (x : Int32) (j : Nat) : Int32 := if j = 0 then (x >>> ((24 : Int32) &&& 31)) &&& 255 else if j = 1 then (x >>> ((16 : Int32) &&& 31)) &&& 255 else if j = 2 then (x >>> ((8 : Int32) &&& 31)) &&& 255 else (x >>> ((0 : Int32) &&& 31)) &&& 255
theorem ap_step {J : AS → Option AS} {x c : Int32} {n t : Nat} {S : AS} (hc : ¬ c < 0) (ht : gi S 1 1 = nI t) (h : t < 400) : f_Tape_append_L3 J x (n + 1) c S = f_Tape_append_L3 J x n (c + (-8)) (si (si S 2 t (((x.toUInt32 >>> (c.toUInt32 &&& Int32.toUInt32 31)).toInt32) &&& 255)) 1 1 (nI (t + 1))) := by
  rw [f_Tape_append_L3, if_neg hc, ht, if_neg (by rw [show (400 : Int32) = nI 400 from rfl]; exact nI_ge h (by decide)), chk_pos (in_nI h (by decide)), nm_eq, nm_eq, ix_nI (by omega)]
  simp only [gi_si]
  rw [if_neg (by omega), ht, nI_1]
theorem pt_step {J : AS → Option AS} {x c : Int32} {n t : Nat} {S : AS} (hc : ¬ c < 0) (ht : gi S 70 1 = nI t) (h : t < 400) : f_Md_put_L3 J x (n + 1) c S = f_Md_put_L3 J x n (c + (-8)) (si (si S 71 t ((x >>> (c &&& 31)) &&& 255)) 70 1 (nI (t + 1))) := by
  rw [f_Md_put_L3, if_neg hc, ht, chk_pos (in_nI h (by decide)), nm_eq, nm_eq, ix_nI (by omega)]
  simp only [gi_si]
  rw [if_neg (by omega), ht, nI_1]
theorem FU5 : FU = 99995 + 1 + 1 + 1 + 1 + 1 := rfl
theorem append_spec {x : Int32} {t : Nat} {S : AS} (ht : gi S 1 1 = nI t) (h : t + 4 ≤ 400) : ∃ T, f_Tape_append x S = some T ∧ fr pTapeC S T ∧ gi T 1 1 = nI (t + 4) ∧ ∀ i, gi T 2 i = if t ≤ i ∧ i < t + 4 then byt x (i - t) else gi S 2 i := by
  unfold f_Tape_append
  rw [nm_eq, FU5]
  rw [ap_step (t := t) (by decide) ht (by omega)]
  rw [ap_step (t := t + 1) (by decide) (by simp [gi_si]) (by omega)]
  rw [ap_step (t := t + 2) (by decide) (by simp [gi_si]) (by omega)]
  rw [ap_step (t := t + 3) (by decide) (by simp [gi_si]) (by omega)]
  rw [f_Tape_append_L3, if_pos (by decide)]
  refine ⟨_, rfl, ?_, by simp [gi_si], fun i => ?_⟩
  · refine fr.si (fr.si (fr.si (fr.si (fr.si (fr.si (fr.si (fr.si (fr_rf _ _) ?_) ?_) ?_) ?_) ?_) ?_) ?_) ?_ <;> unfold pTapeC <;> omega
  · simp only [gi_si]
    have e0 := sh_k (x := x) (s := 24 &&& 31) (t := 24) 24 (by decide) (by decide) (by decide)
    have e1 := sh_k (x := x) (s := 16 &&& 31) (t := 16) 16 (by decide) (by decide) (by decide)
    have e2 := sh_k (x := x) (s := 8 &&& 31) (t := 8) 8 (by decide) (by decide) (by decide)
    have e3 := sh_k (x := x) (s := 0 &&& 31) (t := 0) 0 (by decide) (by decide) (by decide)
    have c1 : (24 : Int32) + (-8) = 16 := by decide
    have c2 : (16 : Int32) + (-8) = 8 := by decide
    have c3 : (8 : Int32) + (-8) = 0 := by decide
    simp only [c1, c2, c3]
    simp only [show ¬ (2 = 1) by decide, false_and, if_false, true_and]
    by_cases h3 : i = t + 3
    · rw [if_pos h3, if_pos (by omega), show i - t = 3 by omega]; exact e3.symm
    by_cases h2 : i = t + 2
    · rw [if_neg h3, if_pos h2, if_pos (by omega), show i - t = 2 by omega]; exact e2.symm
    by_cases h1 : i = t + 1
    · rw [if_neg h3, if_neg h2, if_pos h1, if_pos (by omega), show i - t = 1 by omega]; exact e1.symm
    by_cases h0 : i = t
    · rw [if_neg h3, if_neg h2, if_neg h1, if_pos h0, if_pos (by omega), show i - t = 0 by omega]; exact e0.symm
    rw [if_neg h3, if_neg h2, if_neg h1, if_neg h0, if_neg (by omega)]
theorem put_spec {x : Int32} {t : Nat} {S : AS} (ht : gi S 70 1 = nI t) (h : t + 4 ≤ 400) : ∃ T, f_Md_put x S = some T ∧ fr pTapeM S T ∧ gi T 70 1 = nI (t + 4) ∧ ∀ i, gi T 71 i = if t ≤ i ∧ i < t + 4 then byt x (i - t) else gi S 71 i := by
  unfold f_Md_put
  rw [nm_eq, FU5]
  rw [pt_step (t := t) (by decide) ht (by omega)]
  rw [pt_step (t := t + 1) (by decide) (by simp [gi_si]) (by omega)]
  rw [pt_step (t := t + 2) (by decide) (by simp [gi_si]) (by omega)]
  rw [pt_step (t := t + 3) (by decide) (by simp [gi_si]) (by omega)]
  rw [f_Md_put_L3, if_pos (by decide)]
  refine ⟨_, rfl, ?_, by simp [gi_si], fun i => ?_⟩
  · refine fr.si (fr.si (fr.si (fr.si (fr.si (fr.si (fr.si (fr.si (fr_rf _ _) ?_) ?_) ?_) ?_) ?_) ?_) ?_) ?_ <;> unfold pTapeM <;> omega
  · simp only [gi_si]
    have c1 : (24 : Int32) + (-8) = 16 := by decide
    have c2 : (16 : Int32) + (-8) = 8 := by decide
    have c3 : (8 : Int32) + (-8) = 0 := by decide
    simp only [c1, c2, c3]
    simp only [show ¬ (71 = 70) by decide, false_and, if_false, true_and]
    by_cases h3 : i = t + 3
    · rw [if_pos h3, if_pos (by omega), show i - t = 3 by omega]; rfl
    by_cases h2 : i = t + 2
    · rw [if_neg h3, if_pos h2, if_pos (by omega), show i - t = 2 by omega]; rfl
    by_cases h1 : i = t + 1
    · rw [if_neg h3, if_neg h2, if_pos h1, if_pos (by omega), show i - t = 1 by omega]; rfl
    by_cases h0 : i = t
    · rw [if_neg h3, if_neg h2, if_neg h1, if_pos h0, if_pos (by omega), show i - t = 0 by omega]; rfl
    rw [if_neg h3, if_neg h2, if_neg h1, if_neg h0, if_neg (by omega)]
