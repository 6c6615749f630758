/-! the invariant, in modules; each with its frame -/
def nP (S : AS) : Nat := ix (gi S 70 2)
def nQ (S : AS) : Nat := ix (gi S 70 4)
def nN (S : AS) : Nat := ix (gi S 70 6)
def nK (S : AS) : Nat := ix (gi S 70 11)
def nR (S : AS) : Nat := ix (gi S 70 15)
/-- a holder: none, or a person -/
def hol (S : AS) (x : Int32) : Prop := x = -1 ∨ ∃ w, w < nP S ∧ x = nI w
def iA (S : AS) : Prop := ∃ t : Nat, t ≤ 400 ∧ gi S 1 1 = nI t ∧ gi S 70 1 = nI t ∧ ∀ i, gi S 2 i = gi S 71 i ∧ bnd (gi S 71 i) 255
def dA (c k : Nat) : Prop := (c = 1 ∧ k = 1) ∨ (c = 70 ∧ k = 1) ∨ c = 2 ∨ c = 71
theorem iA.fr {P : Nat → Nat → Prop} {S S' : AS} (h : fr P S S') (hd : ∀ c k, dA c k → ¬ P c k) (hi : iA S) : iA S' := by
  have e1_1 : gi S' 1 1 = gi S 1 1 := h.2.1 1 1 (hd 1 1 (by unfold dA; omega))
  have e70_1 : gi S' 70 1 = gi S 70 1 := h.2.1 70 1 (hd 70 1 (by unfold dA; omega))
  have e2 : ∀ k, gi S' 2 k = gi S 2 k := fun k => h.2.1 2 k (hd 2 k (by unfold dA; omega))
  have e71 : ∀ k, gi S' 71 k = gi S 71 k := fun k => h.2.1 71 k (hd 71 k (by unfold dA; omega))
  unfold iA at hi ⊢
  simp only [e1_1, e70_1, e2, e71]
  exact hi
def iB (S : AS) : Prop := nP S ≤ 24 ∧ nQ S ≤ 16 ∧ gi S 70 2 = nI (nP S) ∧ gi S 16 3 = nI (nP S) ∧ gi S 70 4 = nI (nQ S) ∧ gi S 16 7 = nI (nQ S)
  ∧ (∀ i, i < nP S → gi S 17 i = gi S 72 (3 * i) ∧ gi S 18 i = gi S 72 (3 * i + 1) ∧ gi S 19 i = gi S 72 (3 * i + 2) ∧ bnd (gi S 72 (3 * i)) 9 ∧ bnd (gi S 72 (3 * i + 1)) 9 ∧ bnd (gi S 72 (3 * i + 2)) 7)
  ∧ (∀ i, i < nQ S → gi S 20 i = gi S 73 (3 * i) ∧ gi S 21 i = gi S 73 (3 * i + 1) ∧ gi S 22 i = gi S 73 (3 * i + 2) ∧ bnd (gi S 73 (3 * i)) 7 ∧ bnd (gi S 73 (3 * i + 1)) 1000 ∧ ¬ gi S 73 (3 * i + 1) = 0 ∧ hol S (gi S 73 (3 * i + 2)))
def dB (c k : Nat) : Prop := (c = 70 ∧ k = 2) ∨ (c = 70 ∧ k = 4) ∨ (c = 16 ∧ k = 3) ∨ (c = 16 ∧ k = 7) ∨ c = 17 ∨ c = 18 ∨ c = 19 ∨ c = 20 ∨ c = 21 ∨ c = 22 ∨ c = 72 ∨ c = 73
theorem iB.fr {P : Nat → Nat → Prop} {S S' : AS} (h : fr P S S') (hd : ∀ c k, dB c k → ¬ P c k) (hi : iB S) : iB S' := by
  have e70_2 : gi S' 70 2 = gi S 70 2 := h.2.1 70 2 (hd 70 2 (by unfold dB; omega))
  have e70_4 : gi S' 70 4 = gi S 70 4 := h.2.1 70 4 (hd 70 4 (by unfold dB; omega))
  have e16_3 : gi S' 16 3 = gi S 16 3 := h.2.1 16 3 (hd 16 3 (by unfold dB; omega))
  have e16_7 : gi S' 16 7 = gi S 16 7 := h.2.1 16 7 (hd 16 7 (by unfold dB; omega))
  have e17 : ∀ k, gi S' 17 k = gi S 17 k := fun k => h.2.1 17 k (hd 17 k (by unfold dB; omega))
  have e18 : ∀ k, gi S' 18 k = gi S 18 k := fun k => h.2.1 18 k (hd 18 k (by unfold dB; omega))
  have e19 : ∀ k, gi S' 19 k = gi S 19 k := fun k => h.2.1 19 k (hd 19 k (by unfold dB; omega))
  have e20 : ∀ k, gi S' 20 k = gi S 20 k := fun k => h.2.1 20 k (hd 20 k (by unfold dB; omega))
  have e21 : ∀ k, gi S' 21 k = gi S 21 k := fun k => h.2.1 21 k (hd 21 k (by unfold dB; omega))
  have e22 : ∀ k, gi S' 22 k = gi S 22 k := fun k => h.2.1 22 k (hd 22 k (by unfold dB; omega))
  have e72 : ∀ k, gi S' 72 k = gi S 72 k := fun k => h.2.1 72 k (hd 72 k (by unfold dB; omega))
  have e73 : ∀ k, gi S' 73 k = gi S 73 k := fun k => h.2.1 73 k (hd 73 k (by unfold dB; omega))
  unfold iB at hi ⊢
  simp only [hol, nP, nQ] at hi ⊢
  simp only [e70_2, e70_4, e16_3, e16_7, e17, e18, e19, e20, e21, e22, e72, e73]
  exact hi
def iC (S : AS) : Prop := nN S ≤ 160 ∧ gi S 70 6 = nI (nN S) ∧ gi S 32 4 = nI (nN S) ∧ ∀ k, 1 ≤ k → k ≤ nN S → gi S 33 k = gi S 74 k ∧ gi S 35 k = gi S 76 k ∧ (gi S 74 k = 4 ∨ (gi S 34 k = gi S 75 k ∧ bnd (gi S 75 k) 9999999 ∧
  ((gi S 74 k = 0 ∧ ∃ j, j < nK S ∧ gi S 76 k = nI j ∧ gi S 78 (7 * j + 6) = nI k)
  ∨ (gi S 74 k = 1 ∧ ∃ w, w < nP S ∧ gi S 76 k = nI w)
  ∨ (gi S 74 k = 2 ∧ gi S 36 k = gi S 77 k ∧ ∃ p w, p < nQ S ∧ w < nP S ∧ gi S 76 k = nI p ∧ gi S 77 k = nI w)
  ∨ (gi S 74 k = 3 ∧ gi S 36 k = gi S 77 k ∧ ∃ p q, p < nQ S ∧ q < nQ S ∧ p ≠ q ∧ gi S 76 k = nI p ∧ gi S 77 k = nI q))))
def dC (c k : Nat) : Prop := (c = 70 ∧ k = 2) ∨ (c = 70 ∧ k = 4) ∨ (c = 70 ∧ k = 6) ∨ (c = 70 ∧ k = 11) ∨ (c = 32 ∧ k = 4) ∨ c = 33 ∨ c = 34 ∨ c = 35 ∨ c = 36 ∨ c = 74 ∨ c = 75 ∨ c = 76 ∨ c = 77 ∨ c = 78
theorem iC.fr {P : Nat → Nat → Prop} {S S' : AS} (h : fr P S S') (hd : ∀ c k, dC c k → ¬ P c k) (hi : iC S) : iC S' := by
  have e70_2 : gi S' 70 2 = gi S 70 2 := h.2.1 70 2 (hd 70 2 (by unfold dC; omega))
  have e70_4 : gi S' 70 4 = gi S 70 4 := h.2.1 70 4 (hd 70 4 (by unfold dC; omega))
  have e70_6 : gi S' 70 6 = gi S 70 6 := h.2.1 70 6 (hd 70 6 (by unfold dC; omega))
  have e70_11 : gi S' 70 11 = gi S 70 11 := h.2.1 70 11 (hd 70 11 (by unfold dC; omega))
  have e32_4 : gi S' 32 4 = gi S 32 4 := h.2.1 32 4 (hd 32 4 (by unfold dC; omega))
  have e33 : ∀ k, gi S' 33 k = gi S 33 k := fun k => h.2.1 33 k (hd 33 k (by unfold dC; omega))
  have e34 : ∀ k, gi S' 34 k = gi S 34 k := fun k => h.2.1 34 k (hd 34 k (by unfold dC; omega))
  have e35 : ∀ k, gi S' 35 k = gi S 35 k := fun k => h.2.1 35 k (hd 35 k (by unfold dC; omega))
  have e36 : ∀ k, gi S' 36 k = gi S 36 k := fun k => h.2.1 36 k (hd 36 k (by unfold dC; omega))
  have e74 : ∀ k, gi S' 74 k = gi S 74 k := fun k => h.2.1 74 k (hd 74 k (by unfold dC; omega))
  have e75 : ∀ k, gi S' 75 k = gi S 75 k := fun k => h.2.1 75 k (hd 75 k (by unfold dC; omega))
  have e76 : ∀ k, gi S' 76 k = gi S 76 k := fun k => h.2.1 76 k (hd 76 k (by unfold dC; omega))
  have e77 : ∀ k, gi S' 77 k = gi S 77 k := fun k => h.2.1 77 k (hd 77 k (by unfold dC; omega))
  have e78 : ∀ k, gi S' 78 k = gi S 78 k := fun k => h.2.1 78 k (hd 78 k (by unfold dC; omega))
  unfold iC at hi ⊢
  simp only [nP, nQ, nN, nK] at hi ⊢
  simp only [e70_2, e70_4, e70_6, e70_11, e32_4, e33, e34, e35, e36, e74, e75, e76, e77, e78]
  exact hi
def iO (S : AS) : Prop := ∃ (m : Nat) (o : Nat → Nat), m ≤ nN S ∧ gi S 32 6 = nI m ∧ (∀ i, i < m → gi S 37 i = nI (o i) ∧ 1 ≤ o i ∧ o i ≤ nN S ∧ ¬ gi S 74 (o i) = 4) ∧ (∀ i j, i < j → j < m → ix (gi S 75 (o i)) < ix (gi S 75 (o j)) ∨ (ix (gi S 75 (o i)) = ix (gi S 75 (o j)) ∧ o i < o j)) ∧ (∀ k, 1 ≤ k → k ≤ nN S → ¬ gi S 74 k = 4 → ∃ i, i < m ∧ o i = k)
def dO (c k : Nat) : Prop := (c = 70 ∧ k = 6) ∨ (c = 32 ∧ k = 6) ∨ c = 37 ∨ c = 74 ∨ c = 75
theorem iO.fr {P : Nat → Nat → Prop} {S S' : AS} (h : fr P S S') (hd : ∀ c k, dO c k → ¬ P c k) (hi : iO S) : iO S' := by
  have e70_6 : gi S' 70 6 = gi S 70 6 := h.2.1 70 6 (hd 70 6 (by unfold dO; omega))
  have e32_6 : gi S' 32 6 = gi S 32 6 := h.2.1 32 6 (hd 32 6 (by unfold dO; omega))
  have e37 : ∀ k, gi S' 37 k = gi S 37 k := fun k => h.2.1 37 k (hd 37 k (by unfold dO; omega))
  have e74 : ∀ k, gi S' 74 k = gi S 74 k := fun k => h.2.1 74 k (hd 74 k (by unfold dO; omega))
  have e75 : ∀ k, gi S' 75 k = gi S 75 k := fun k => h.2.1 75 k (hd 75 k (by unfold dO; omega))
  unfold iO at hi ⊢
  simp only [nN] at hi ⊢
  simp only [e70_6, e32_6, e37, e74, e75]
  exact hi
def iD (S : AS) : Prop := nK S ≤ 48 ∧ gi S 70 11 = nI (nK S) ∧ gi S 23 8 = nI (nK S) ∧ ∀ j, j < nK S → gi S 24 j = gi S 78 (7 * j) ∧ gi S 25 j = gi S 78 (7 * j + 1) ∧ gi S 26 j = gi S 78 (7 * j + 2) ∧ gi S 27 j = gi S 78 (7 * j + 3) ∧ gi S 28 j = gi S 78 (7 * j + 4) ∧ gi S 29 j = gi S 78 (7 * j + 5) ∧ gi S 30 j = gi S 78 (7 * j + 6)
  ∧ (∃ w, w < nP S ∧ gi S 78 (7 * j) = nI w) ∧ bnd (gi S 78 (7 * j + 1)) 9999999 ∧ bnd (gi S 78 (7 * j + 2)) 255 ∧ bnd (gi S 78 (7 * j + 3)) 255 ∧ bnd (gi S 78 (7 * j + 4)) 1000 ∧ bnd (gi S 78 (7 * j + 5)) 1000
  ∧ (∃ k, 1 ≤ k ∧ k ≤ nN S ∧ gi S 78 (7 * j + 6) = nI k ∧ gi S 74 k = 0 ∧ gi S 76 k = nI j) ∧ ((gi S 79 j = 0 ∧ gi S 31 j = -1) ∨ ∃ v, 1 ≤ v ∧ v ≤ nN S ∧ gi S 79 j = nI v ∧ gi S 31 j = nI v)
def dD (c k : Nat) : Prop := (c = 70 ∧ k = 2) ∨ (c = 70 ∧ k = 6) ∨ (c = 70 ∧ k = 11) ∨ (c = 23 ∧ k = 8) ∨ c = 24 ∨ c = 25 ∨ c = 26 ∨ c = 27 ∨ c = 28 ∨ c = 29 ∨ c = 30 ∨ c = 31 ∨ c = 74 ∨ c = 76 ∨ c = 78 ∨ c = 79
theorem iD.fr {P : Nat → Nat → Prop} {S S' : AS} (h : fr P S S') (hd : ∀ c k, dD c k → ¬ P c k) (hi : iD S) : iD S' := by
  have e70_2 : gi S' 70 2 = gi S 70 2 := h.2.1 70 2 (hd 70 2 (by unfold dD; omega))
  have e70_6 : gi S' 70 6 = gi S 70 6 := h.2.1 70 6 (hd 70 6 (by unfold dD; omega))
  have e70_11 : gi S' 70 11 = gi S 70 11 := h.2.1 70 11 (hd 70 11 (by unfold dD; omega))
  have e23_8 : gi S' 23 8 = gi S 23 8 := h.2.1 23 8 (hd 23 8 (by unfold dD; omega))
  have e24 : ∀ k, gi S' 24 k = gi S 24 k := fun k => h.2.1 24 k (hd 24 k (by unfold dD; omega))
  have e25 : ∀ k, gi S' 25 k = gi S 25 k := fun k => h.2.1 25 k (hd 25 k (by unfold dD; omega))
  have e26 : ∀ k, gi S' 26 k = gi S 26 k := fun k => h.2.1 26 k (hd 26 k (by unfold dD; omega))
  have e27 : ∀ k, gi S' 27 k = gi S 27 k := fun k => h.2.1 27 k (hd 27 k (by unfold dD; omega))
  have e28 : ∀ k, gi S' 28 k = gi S 28 k := fun k => h.2.1 28 k (hd 28 k (by unfold dD; omega))
  have e29 : ∀ k, gi S' 29 k = gi S 29 k := fun k => h.2.1 29 k (hd 29 k (by unfold dD; omega))
  have e30 : ∀ k, gi S' 30 k = gi S 30 k := fun k => h.2.1 30 k (hd 30 k (by unfold dD; omega))
  have e31 : ∀ k, gi S' 31 k = gi S 31 k := fun k => h.2.1 31 k (hd 31 k (by unfold dD; omega))
  have e74 : ∀ k, gi S' 74 k = gi S 74 k := fun k => h.2.1 74 k (hd 74 k (by unfold dD; omega))
  have e76 : ∀ k, gi S' 76 k = gi S 76 k := fun k => h.2.1 76 k (hd 76 k (by unfold dD; omega))
  have e78 : ∀ k, gi S' 78 k = gi S 78 k := fun k => h.2.1 78 k (hd 78 k (by unfold dD; omega))
  have e79 : ∀ k, gi S' 79 k = gi S 79 k := fun k => h.2.1 79 k (hd 79 k (by unfold dD; omega))
  unfold iD at hi ⊢
  simp only [nP, nN, nK] at hi ⊢
  simp only [e70_2, e70_6, e70_11, e23_8, e24, e25, e26, e27, e28, e29, e30, e31, e74, e76, e78, e79]
  exact hi
def iE (S : AS) : Prop := gi S 0 11 = gi S 70 14 ∧ (gi S 70 14 = -1 ∨ ∃ n, n ≤ nN S ∧ gi S 70 14 = nI n)
def dE (c k : Nat) : Prop := (c = 0 ∧ k = 11) ∨ (c = 70 ∧ k = 6) ∨ (c = 70 ∧ k = 14)
theorem iE.fr {P : Nat → Nat → Prop} {S S' : AS} (h : fr P S S') (hd : ∀ c k, dE c k → ¬ P c k) (hi : iE S) : iE S' := by
  have e0_11 : gi S' 0 11 = gi S 0 11 := h.2.1 0 11 (hd 0 11 (by unfold dE; omega))
  have e70_6 : gi S' 70 6 = gi S 70 6 := h.2.1 70 6 (hd 70 6 (by unfold dE; omega))
  have e70_14 : gi S' 70 14 = gi S 70 14 := h.2.1 70 14 (hd 70 14 (by unfold dE; omega))
  unfold iE at hi ⊢
  simp only [nN] at hi ⊢
  simp only [e0_11, e70_6, e70_14]
  exact hi
def iG (S : AS) : Prop := gi S 3 4 = gi S 70 24 ∧ gi S 3 5 = gi S 70 25
def dG (c k : Nat) : Prop := (c = 3 ∧ k = 4) ∨ (c = 3 ∧ k = 5) ∨ (c = 70 ∧ k = 24) ∨ (c = 70 ∧ k = 25)
theorem iG.fr {P : Nat → Nat → Prop} {S S' : AS} (h : fr P S S') (hd : ∀ c k, dG c k → ¬ P c k) (hi : iG S) : iG S' := by
  have e3_4 : gi S' 3 4 = gi S 3 4 := h.2.1 3 4 (hd 3 4 (by unfold dG; omega))
  have e3_5 : gi S' 3 5 = gi S 3 5 := h.2.1 3 5 (hd 3 5 (by unfold dG; omega))
  have e70_24 : gi S' 70 24 = gi S 70 24 := h.2.1 70 24 (hd 70 24 (by unfold dG; omega))
  have e70_25 : gi S' 70 25 = gi S 70 25 := h.2.1 70 25 (hd 70 25 (by unfold dG; omega))
  unfold iG at hi ⊢
  simp only [e3_4, e3_5, e70_24, e70_25]
  exact hi
def iH (S : AS) : Prop := ∃ m : Nat, m ≤ 48 ∧ gi S 0 10 = nI m ∧ gi S 70 35 = nI m ∧ ∀ i, i < m → gi S 69 i = gi S 93 i
def dH (c k : Nat) : Prop := (c = 0 ∧ k = 10) ∨ (c = 70 ∧ k = 35) ∨ c = 69 ∨ c = 93
theorem iH.fr {P : Nat → Nat → Prop} {S S' : AS} (h : fr P S S') (hd : ∀ c k, dH c k → ¬ P c k) (hi : iH S) : iH S' := by
  have e0_10 : gi S' 0 10 = gi S 0 10 := h.2.1 0 10 (hd 0 10 (by unfold dH; omega))
  have e70_35 : gi S' 70 35 = gi S 70 35 := h.2.1 70 35 (hd 70 35 (by unfold dH; omega))
  have e69 : ∀ k, gi S' 69 k = gi S 69 k := fun k => h.2.1 69 k (hd 69 k (by unfold dH; omega))
  have e93 : ∀ k, gi S' 93 k = gi S 93 k := fun k => h.2.1 93 k (hd 93 k (by unfold dH; omega))
  unfold iH at hi ⊢
  simp only [e0_10, e70_35, e69, e93]
  exact hi
def iU (S : AS) : Prop := ∀ w, w < 24 → ∃ m : Nat, m ≤ 3 ∧ gi S 65 w = nI m ∧ gi S 95 w = nI m ∧ ∀ i, i < m → gi S 64 (3 * w + i) = gi S 94 (3 * w + i) ∧ ∃ p, p < nQ S ∧ gi S 94 (3 * w + i) = nI p
def dU (c k : Nat) : Prop := (c = 70 ∧ k = 4) ∨ c = 64 ∨ c = 65 ∨ c = 94 ∨ c = 95
theorem iU.fr {P : Nat → Nat → Prop} {S S' : AS} (h : fr P S S') (hd : ∀ c k, dU c k → ¬ P c k) (hi : iU S) : iU S' := by
  have e70_4 : gi S' 70 4 = gi S 70 4 := h.2.1 70 4 (hd 70 4 (by unfold dU; omega))
  have e64 : ∀ k, gi S' 64 k = gi S 64 k := fun k => h.2.1 64 k (hd 64 k (by unfold dU; omega))
  have e65 : ∀ k, gi S' 65 k = gi S 65 k := fun k => h.2.1 65 k (hd 65 k (by unfold dU; omega))
  have e94 : ∀ k, gi S' 94 k = gi S 94 k := fun k => h.2.1 94 k (hd 94 k (by unfold dU; omega))
  have e95 : ∀ k, gi S' 95 k = gi S 95 k := fun k => h.2.1 95 k (hd 95 k (by unfold dU; omega))
  unfold iU at hi ⊢
  simp only [nQ] at hi ⊢
  simp only [e70_4, e64, e65, e94, e95]
  exact hi
def iJ (S : AS) : Prop := (gi S 70 41 = 0 ∨ gi S 70 41 = 1) ∧ (∃ n, n ≤ nP S ∧ gi S 70 42 = nI n) ∧ ∀ w, w < 24 → gi S 68 w = if gi S 70 41 = 0 ∨ gi S 70 42 ≤ nI w then -1 else gi S 96 w
def dJ (c k : Nat) : Prop := (c = 70 ∧ k = 2) ∨ (c = 70 ∧ k = 41) ∨ (c = 70 ∧ k = 42) ∨ c = 68 ∨ c = 96
theorem iJ.fr {P : Nat → Nat → Prop} {S S' : AS} (h : fr P S S') (hd : ∀ c k, dJ c k → ¬ P c k) (hi : iJ S) : iJ S' := by
  have e70_2 : gi S' 70 2 = gi S 70 2 := h.2.1 70 2 (hd 70 2 (by unfold dJ; omega))
  have e70_41 : gi S' 70 41 = gi S 70 41 := h.2.1 70 41 (hd 70 41 (by unfold dJ; omega))
  have e70_42 : gi S' 70 42 = gi S 70 42 := h.2.1 70 42 (hd 70 42 (by unfold dJ; omega))
  have e68 : ∀ k, gi S' 68 k = gi S 68 k := fun k => h.2.1 68 k (hd 68 k (by unfold dJ; omega))
  have e96 : ∀ k, gi S' 96 k = gi S 96 k := fun k => h.2.1 96 k (hd 96 k (by unfold dJ; omega))
  unfold iJ at hi ⊢
  simp only [nP] at hi ⊢
  simp only [e70_2, e70_41, e70_42, e68, e96]
  exact hi
/-- how often the world has changed: never more than calls -/
def iW (m : Nat) (S : AS) : Prop := ∃ w : Nat, w ≤ m ∧ gi S 16 8 = nI w
/-! the rules' books, and the courses that are kept -/
theorem mof_cg {D D' : DT} (h : ∀ k, D' 83 k = D 83 k) (r i : Nat) : mof D' r i = mof D r i := by
  induction i with
  | zero => rfl
  | succ i ih => rw [mof, mof, ih, h]
theorem RBK.cg {D D' : DT} {r : Nat} (h : RBK D r) (hD : ∀ c k, 80 ≤ c → c ≤ 83 → D' c k = D c k) : RBK D' r := by
  have e := mof_cg (D := D) (D' := D') (fun k => hD 83 k (by omega) (by omega)) r
  unfold RBK at h ⊢
  simp only [e, hD 80 _ (by omega) (by omega), hD 81 _ (by omega) (by omega), hD 82 _ (by omega) (by omega), hD 83 _ (by omega) (by omega)]
  exact h
theorem BK.cg {S S' : AS} {D D' : DT} {r q : Nat} (h : BK S D r q) (hS : ∀ j k, j ≤ 7 → gi S' (q + j) k = gi S (q + j) k) (hD : ∀ c k, 80 ≤ c → c ≤ 83 → D' c k = D c k) : BK S' D' r q := by
  have e := mof_cg (D := D) (D' := D') (fun k => hD 83 k (by omega) (by omega)) r
  have e0 : gi S' q 4 = gi S q 4 := hS 0 4 (by omega)
  unfold BK at h ⊢
  simp only [e, hD 81 _ (by omega) (by omega), hD 83 _ (by omega) (by omega), e0, hS 1 _ (by omega), hS 2 _ (by omega), hS 3 _ (by omega), hS 4 _ (by omega), hS 5 _ (by omega), hS 6 _ (by omega), hS 7 _ (by omega)]
  exact h
theorem RC.cg {S T : AS} {D : DT} {X : AS} (h : RC S D X) (h1 : ∀ c k, 50 ≤ c → c ≤ 57 → gi T c k = gi S c k) (h2 : ∀ k, gl T 53 k = gl S 53 k) : RC T D X := by
  obtain ⟨a, b, c⟩ := h
  refine ⟨fun p hp => ?_, fun w hw => ?_, fun k hk => ?_⟩
  · rw [h1 50 p (by omega) (by omega), h1 51 p (by omega) (by omega)]; exact a p hp
  · rw [h1 52 w (by omega) (by omega), h2, h1 54 w (by omega) (by omega)]; exact b w hw
  · rw [h1 55 k (by omega) (by omega), h1 56 k (by omega) (by omega), h1 57 k (by omega) (by omega)]; exact c k hk
theorem TR.cg {S T : AS} {D : DT} {t : Int32} (h : TR S D t) (h1 : ∀ c k, c = 49 ∨ (41 ≤ c ∧ c ≤ 48) ∨ 99 ≤ c → gi T c k = gi S c k) (h2 : gr T 49 15 = gr S 49 15) : TR T D t := by
  obtain ⟨a, b, q, c, d, e⟩ := h
  refine ⟨by rw [h1 49 14 (by omega)]; exact a, b, q, by rw [h2]; exact c, d, ?_⟩
  rcases e with ⟨x, y⟩ | ⟨r, x, y, z⟩
  · exact Or.inl ⟨x, by rw [h1 q 4 (by omega)]; exact y⟩
  · exact Or.inr ⟨r, x, y, z.cg (fun j k hj => h1 (q + j) k (by omega)) (fun c k _ _ => rfl)⟩
def DAT (S : AS) (n : Nat) (u : Int32) (D : DT) (W kn : Nat → Prop) (P K m : Nat) (l : Nat → Nat) : Prop := DOK D W kn ∧ NOK D W kn P n ∧ MSt S D W kn P K ∧ NMt S D kn n ∧ SQ D n u m l ∧ m ≤ 160
theorem DAT.mv {S S' : AS} {n : Nat} {u : Int32} {D : DT} {W kn : Nat → Prop} {P K m N P' K' : Nat} {l : Nat → Nat} (hn : n ≤ N) (hP : P ≤ P') (hP24 : P' ≤ 24) (hK : K ≤ K') (hK48 : K' ≤ 48) (e2 : gi S' 70 2 = nI P') (e11 : gi S' 70 11 = nI K') (e4 : gi S' 70 4 = gi S 70 4) (e15 : gi S' 70 15 = gi S 70 15) (e73 : ∀ k, gi S' 73 k = gi S 73 k) (e80 : ∀ c k, 80 ≤ c → c ≤ 83 → gi S' c k = gi S c k) (e72 : ∀ k, k < 3 * P → gi S' 72 k = gi S 72 k) (e78 : ∀ k, k < 7 * K → gi S' 78 k = gi S 78 k) (e74 : ∀ c k, 74 ≤ c → c ≤ 77 → k ≤ N → gi S' c k = gi S c k) (e79 : ∀ j, j < K → gi S' 79 j = gi S 79 j ∨ (gi S 79 j = 0 ∧ ∃ v, N < v ∧ v < 1000 ∧ gi S' 79 j = nI v)) (h : DAT S n u D W kn P K m l) : DAT S' n u D W kn P' K' m l := by
  obtain ⟨a, b, ⟨s1, s2, s3, s4, s5, s6, s7, s8, s9, s10⟩, d, e, f⟩ := h
  refine ⟨a, ⟨b.1, fun k k1 k2 => ?_⟩, ⟨hP24, hK48, e2, e11, e4.trans s5, e15.trans s6, fun k => (e73 k).trans (s7 k), fun c k h1 h2 => (e80 c k h1 h2).trans (s8 c k h1 h2), fun w hw => ?_, fun k hk => ?_⟩, ⟨fun k k1 k2 => ?_, fun j hj => ?_⟩, e, f⟩
  · rcases b.2 k k1 k2 with q | ⟨q0, q | ⟨q1, w, q2, q3⟩ | q | q⟩
    · exact Or.inl q
    · exact Or.inr ⟨q0, Or.inl q⟩
    · exact Or.inr ⟨q0, Or.inr (Or.inl ⟨q1, w, by omega, q3⟩)⟩
    · exact Or.inr ⟨q0, Or.inr (Or.inr (Or.inl q))⟩
    · exact Or.inr ⟨q0, Or.inr (Or.inr (Or.inr q))⟩
  · obtain ⟨h1, h2⟩ := s9 w hw
    exact ⟨by omega, fun i hi => by rw [e72 _ (by omega)]; exact h2 i hi⟩
  · obtain ⟨h1, h2⟩ := s10 k hk
    exact ⟨by omega, fun i hi => by rw [e78 _ (by omega)]; exact h2 i hi⟩
  · rw [e74 74 k (by omega) (by omega) (by omega), e74 75 k (by omega) (by omega) (by omega), e74 76 k (by omega) (by omega) (by omega), e74 77 k (by omega) (by omega) (by omega)]; exact d.1 k k1 k2
  · have hjK := (s10 j hj).1
    have h0 := d.2 j hj
    rcases e79 j hjK with q | ⟨q1, v, q2, q3, q4⟩
    · rw [q]; exact h0
    · rw [q1] at h0
      rw [q4]
      refine ⟨fun z => absurd (nI_lt (a := n) (b := v) (by omega) (by omega)) z.2, fun z => absurd (h0.mpr z).1 (fun y => y (by decide))⟩
def iF (S : AS) : Prop := nR S ≤ 6 ∧ gi S 70 15 = nI (nR S) ∧ gi S 38 3 = nI (nR S) ∧ gi S 41 4 = 0 ∧ S.1 = 99 + 8 * nR S ∧ ∀ r, r < nR S → gi S 39 r = gi S 80 r ∧ gr S 40 r = some (99 + 8 * r) ∧ RBK (gi S) r ∧ BK S (gi S) r (99 + 8 * r)
def dF (c k : Nat) : Prop := (c = 70 ∧ k = 15) ∨ (c = 38 ∧ k = 3) ∨ c = 39 ∨ c = 41 ∨ (80 ≤ c ∧ c ≤ 83) ∨ 99 ≤ c
theorem iF.frG {S S' : AS} (h1 : S'.1 = S.1) (h2 : ∀ c k, dF c k → gi S' c k = gi S c k) (h3 : ∀ k, gr S' 40 k = gr S 40 k) (hi : iF S) : iF S' := by
  obtain ⟨a, b, c, d, e, f⟩ := hi
  have eR : nR S' = nR S := by unfold nR; rw [h2 70 15 (by unfold dF; omega)]
  have e8 : ∀ c k, 80 ≤ c → c ≤ 83 → gi S' c k = gi S c k := fun c k x y => h2 c k (by unfold dF; omega)
  unfold iF
  rw [eR, h2 70 15 (by unfold dF; omega), h2 38 3 (by unfold dF; omega), h2 41 4 (by unfold dF; omega), h1]
  refine ⟨a, b, c, d, e, fun r hr => ?_⟩
  obtain ⟨f1, f2, f3, f4⟩ := f r hr
  exact ⟨by rw [h2 39 r (by unfold dF; omega), e8 80 r (by omega) (by omega)]; exact f1, by rw [h3]; exact f2, f3.cg e8, f4.cg (fun j k _ => h2 _ k (by unfold dF; omega)) e8⟩
theorem iF.fr {P : Nat → Nat → Prop} {S S' : AS} (h : fr P S S') (hd : ∀ c k, dF c k → ¬ P c k) (hi : iF S) : iF S' := iF.frG h.1 (fun c k z => h.2.1 c k (hd c k z)) (fun k => h.2.2.2 40 k) hi
def iK (S : AS) : Prop := ∃ w, w < 1000 ∧ gi S 16 8 = nI w ∧ (gi S 49 16 = -1 ∨ ∃ w0, w0 ≤ w ∧ gi S 49 16 = nI w0) ∧ (gi S 49 16 = nI w → ∃ n D W kn P K m l, n ≤ nN S ∧ gi S 49 17 = nI n ∧ DAT S n (gi S 49 18) D W kn P K m l ∧ RC S D (mrun D l m) ∧ TR S D (gi S 49 18)) ∧ ∀ n, n ≤ 160 → (gi S 62 n = -1 ∨ ∃ w0, w0 ≤ w ∧ gi S 62 n = nI w0) ∧ (gi S 62 n = nI w → ∃ D W kn P K m l, n ≤ nN S ∧ DAT S n 9999999 D W kn P K m l ∧ ∀ p, p < mQ D → gi S 61 (16 * n + p) = gi (mrun D l m) 85 p)
theorem iK.mv {S S' : AS} {P' K' : Nat} (hP : nP S ≤ P') (hP24 : P' ≤ 24) (hK : nK S ≤ K') (hK48 : K' ≤ 48) (hN : nN S ≤ nN S') (e2 : gi S' 70 2 = nI P') (e11 : gi S' 70 11 = nI K') (e4 : gi S' 70 4 = gi S 70 4) (e15 : gi S' 70 15 = gi S 70 15) (e73 : ∀ k, gi S' 73 k = gi S 73 k) (e80 : ∀ c k, 80 ≤ c → c ≤ 83 → gi S' c k = gi S c k) (e72 : ∀ k, k < 3 * nP S → gi S' 72 k = gi S 72 k) (e78 : ∀ k, k < 7 * nK S → gi S' 78 k = gi S 78 k) (e74 : ∀ c k, 74 ≤ c → c ≤ 77 → k ≤ nN S → gi S' c k = gi S c k) (e79 : ∀ j, j < nK S → gi S' 79 j = gi S 79 j ∨ (gi S 79 j = 0 ∧ ∃ v, nN S < v ∧ v < 1000 ∧ gi S' 79 j = nI v)) (eC : ∀ c k, (c = 16 ∧ k = 8) ∨ (49 ≤ c ∧ c ≤ 57) ∨ c = 61 ∨ c = 62 ∨ (41 ≤ c ∧ c ≤ 48) ∨ 99 ≤ c → gi S' c k = gi S c k) (eL : ∀ k, gl S' 53 k = gl S 53 k) (eR : gr S' 49 15 = gr S 49 15) (h : iK S) : iK S' := by
  obtain ⟨w, h1, h2, h3, h4, h5⟩ := h
  have go : ∀ {n : Nat} {u : Int32} {D : DT} {W kn : Nat → Prop} {P K m : Nat} {l : Nat → Nat}, n ≤ nN S → DAT S n u D W kn P K m l → DAT S' n u D W kn P' K' m l := fun {n u D W kn P K m l} hn hd => by
    have q1 := hd.2.2.1.1
    have q2 := hd.2.2.1.2.1
    have p1 : nP S = P := by unfold nP; rw [hd.2.2.1.2.2.1]; exact ix_nI (by omega)
    have k1 : nK S = K := by unfold nK; rw [hd.2.2.1.2.2.2.1]; exact ix_nI (by omega)
    rw [p1] at hP e72
    rw [k1] at hK e78 e79
    exact hd.mv hn hP hP24 hK hK48 e2 e11 e4 e15 e73 e80 e72 e78 e74 e79
  refine ⟨w, h1, by rw [eC 16 8 (by omega)]; exact h2, by rw [eC 49 16 (by omega)]; exact h3, fun z => ?_, fun n hn => ⟨by rw [eC 62 n (by omega)]; exact (h5 n hn).1, fun z => ?_⟩⟩
  · rw [eC 49 16 (by omega)] at z
    obtain ⟨n, D, W, kn, P, K, m, l, a, b, c, d, e⟩ := h4 z
    rw [eC 49 17 (by omega), eC 49 18 (by omega)]
    exact ⟨n, D, W, kn, P', K', m, l, by omega, b, go a c, d.cg (fun c k x y => eC c k (by omega)) eL, e.cg (fun c k x => eC c k (by omega)) eR⟩
  · rw [eC 62 n (by omega)] at z
    obtain ⟨D, W, kn, P, K, m, l, a, b, c⟩ := (h5 n hn).2 z
    exact ⟨D, W, kn, P', K', m, l, by omega, go a b, fun p hp => by rw [eC 61 _ (by omega)]; exact c p hp⟩
def dK (c k : Nat) : Prop := (c = 16 ∧ k = 8) ∨ (49 ≤ c ∧ c ≤ 57) ∨ c = 61 ∨ c = 62 ∨ (41 ≤ c ∧ c ≤ 48) ∨ (c = 70 ∧ (k = 2 ∨ k = 4 ∨ k = 6 ∨ k = 11 ∨ k = 15)) ∨ (72 ≤ c ∧ c ≤ 83) ∨ 99 ≤ c
theorem iK.fr {P : Nat → Nat → Prop} {S S' : AS} (h : fr P S S') (hd : ∀ c k, dK c k → ¬ P c k) (hB : iB S) (hD : iD S) (hi : iK S) : iK S' := by
  have e : ∀ c k, dK c k → gi S' c k = gi S c k := fun c k z => h.2.1 c k (hd c k z)
  refine hi.mv (P' := nP S) (K' := nK S) (Nat.le_refl _) hB.1 (Nat.le_refl _) hD.1 (by unfold nN; rw [e 70 6 (by unfold dK; omega)]; exact Nat.le_refl _) (by rw [e 70 2 (by unfold dK; omega)]; exact hB.2.2.1) (by rw [e 70 11 (by unfold dK; omega)]; exact hD.2.1) (e 70 4 (by unfold dK; omega)) (e 70 15 (by unfold dK; omega)) (fun k => e 73 k (by unfold dK; omega)) (fun c k _ _ => e c k (by unfold dK; omega)) (fun k _ => e 72 k (by unfold dK; omega)) (fun k _ => e 78 k (by unfold dK; omega)) (fun c k _ _ _ => e c k (by unfold dK; omega)) (fun j _ => Or.inl (e 79 j (by unfold dK; omega))) (fun c k _ => e c k (by unfold dK; omega)) (fun k => h.2.2.1 53 k (hd 53 k (by unfold dK; omega))) (h.2.2.2 49 15)
theorem iK.bump {S S' : AS} {w : Nat} (hw : w < 900) (h8 : gi S 16 8 = nI w) (e8 : gi S' 16 8 = nI (w + 1)) (e49 : gi S' 49 16 = gi S 49 16) (e62 : ∀ n, gi S' 62 n = gi S 62 n) (h : iK S) : iK S' := by
  obtain ⟨w', h1, h2, h3, h4, h5⟩ := h
  have ew : w' = w := nI_inj (by omega) (by omega) (h2.symm.trans h8)
  subst ew
  have no : ∀ x : Int32, (x = -1 ∨ ∃ w0, w0 ≤ w' ∧ x = nI w0) → ¬ x = nI (w' + 1) := fun x hx e => by
    rcases hx with hx | ⟨w0, a, b⟩
    · exact nI_ne_m1 (a := w' + 1) (by omega) (e.symm.trans hx)
    · have := nI_inj (by omega) (by omega) (b.symm.trans e)
      omega
  have up : ∀ x : Int32, (x = -1 ∨ ∃ w0, w0 ≤ w' ∧ x = nI w0) → (x = -1 ∨ ∃ w0, w0 ≤ w' + 1 ∧ x = nI w0) := fun x hx => by
    rcases hx with hx | ⟨w0, a, b⟩
    · exact Or.inl hx
    · exact Or.inr ⟨w0, by omega, b⟩
  refine ⟨w' + 1, by omega, e8, by rw [e49]; exact up _ h3, fun z => ?_, fun n hn => ⟨by rw [e62]; exact up _ (h5 n hn).1, fun z => ?_⟩⟩
  · rw [e49] at z; exact absurd z (no _ h3)
  · rw [e62] at z; exact absurd z (no _ (h5 n hn).1)
def INV (m : Nat) (S : AS) : Prop := Sh S ∧ iA S ∧ iB S ∧ iC S ∧ iO S ∧ iD S ∧ iE S ∧ iG S ∧ iH S ∧ iU S ∧ iJ S ∧ iW m S ∧ iF S ∧ iK S
