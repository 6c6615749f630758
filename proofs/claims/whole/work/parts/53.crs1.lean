/-! the course as a function: data D (masked), state X (cells 85 to 91) -/
noncomputable def pif {α : Type} (p : Prop) (a b : α) : α := @ite α p (Classical.propDecidable p) a b
theorem pif_pos {α : Type} {p : Prop} (h : p) (a b : α) : pif p a b = a := by unfold pif; exact if_pos h
theorem pif_neg {α : Type} {p : Prop} (h : ¬ p) (a b : α) : pif p a b = b := by unfold pif; exact if_neg h
abbrev DT : Type := Nat → Nat → Int32
def mQ (D : DT) : Nat := ix (D 70 4)
def mR (D : DT) : Nat := ix (D 70 15)
def mcnt (X : AS) (w : Int32) : Nat → Nat
  | 0 => 0
  | n + 1 => mcnt X w n + (if gi X 85 n = w then 1 else 0)
def msub (D : DT) (X : AS) (s : Int32) (p w : Nat) (b t : Int32) : Int32 :=
  if s = 0 then D 73 (3 * p + 1) else if s = 1 then D 73 (3 * p) else if s = 2 then D 72 (3 * w) else if s = 3 then D 72 (3 * w + 1) else if s = 4 then nI (mcnt X (nI w) (mQ D)) else if s = 5 then (if b = -1 then 0 else D 78 (7 * ix b + 1)) else if b = -1 then 0 else if D 78 (7 * ix b + 1) ≤ t then (t - D 78 (7 * ix b + 1)) / 1440 else 0
def mtst (D : DT) (X : AS) (o p w : Nat) (b t : Int32) : Int32 :=
  if D 83 (o + 1) = 60 then (if D 83 (o + 2) ≤ msub D X (D 83 o) p w b t then 0 else 1) else if D 83 (o + 1) = 62 then (if msub D X (D 83 o) p w b t ≤ D 83 (o + 2) then 0 else 1) else if msub D X (D 83 o) p w b t = D 83 (o + 2) then 1 else 0
def mhol (D : DT) (X : AS) (o p w : Nat) (b t : Int32) : Nat → Int32
  | 0 => 1
  | c + 1 => if mhol D X o p w b t c = 0 then 0 else mtst D X (o + 3 * (c + 1)) p w b t
def mof (D : DT) (r : Nat) : Nat → Nat
  | 0 => 600 * r
  | i + 1 => mof D r i + 3 + 3 * ix (D 83 (mof D r i + 2))
def mhl (D : DT) (X : AS) (r i p w : Nat) (b t : Int32) : Int32 := mhol D X (mof D r i) p w b t (ix (D 83 (mof D r i + 2)))
def mbar (D : DT) (X : AS) (r p w : Nat) (b t : Int32) : Nat → Nat → Int32
  | 0, _ => 0
  | m + 1, i => if D 83 (mof D r i) = 4 then (if mhl D X r i p w b t = 0 then mbar D X r p w b t m (i + 1) else 1) else mbar D X r p w b t m (i + 1)
def mfor (D : DT) (t : Int32) : Nat → Int32
  | 0 => -1
  | k + 1 => if D 80 k ≤ t ∧ (mfor D t k = -1 ∨ D 80 (ix (mfor D t k)) ≤ D 80 k) then nI k else mfor D t k
def mF (D : DT) (t : Int32) : Int32 := mfor D t (mR D)
def mB (D : DT) (X : AS) (p w : Nat) (b t : Int32) : Int32 := if mF D t = -1 then 0 else mbar D X (ix (mF D t)) p w b t (ix (D 81 (ix (mF D t)))) 0
def mdif (D : DT) (X : AS) (o p a b : Nat) (t : Int32) : Int32 :=
  if D 83 o = 0 then ((D 78 (7 * a + 2) >>> (D 83 (o + 1) &&& 31)) &&& 1) - ((D 78 (7 * b + 2) >>> (D 83 (o + 1) &&& 31)) &&& 1)
  else if D 83 o = 1 then (if D 72 (3 * ix (D 78 (7 * a)) + 2) = D 73 (3 * p) then 1 else 0) - (if D 72 (3 * ix (D 78 (7 * b)) + 2) = D 73 (3 * p) then 1 else 0)
  else if D 83 o = 2 then msub D X (D 83 (o + 1)) p (ix (D 78 (7 * a))) (nI a) t - msub D X (D 83 (o + 1)) p (ix (D 78 (7 * b))) (nI b) t
  else msub D X (D 83 (o + 1)) p (ix (D 78 (7 * b))) (nI b) t - msub D X (D 83 (o + 1)) p (ix (D 78 (7 * a))) (nI a) t
def mdec (D : DT) (X : AS) (r p a b : Nat) (t : Int32) : Nat → Nat → Int32
  | 0, _ => if b ≤ a then -101 else 100
  | m + 1, i => if D 83 (mof D r i) = 4 then mdec D X r p a b t m (i + 1) else if mhl D X r i p (ix (D 78 (7 * a))) (nI a) t = 0 then mdec D X r p a b t m (i + 1) else if mdif D X (mof D r i) p a b t = 0 then mdec D X r p a b t m (i + 1) else if mdif D X (mof D r i) p a b t ≤ 0 then (-(nI i)) - 1 else nI i
def mDec (D : DT) (X : AS) (p a b : Nat) (t : Int32) : Int32 := if mF D t = -1 then (if b ≤ a then -101 else 100) else mdec D X (ix (mF D t)) p a b t (ix (D 81 (ix (mF D t)))) 0
def mrch (D : DT) (k p : Nat) : Int32 := if ((D 78 (7 * k + 3) >>> (D 73 (3 * p) &&& 31)) &&& 1) = 1 then (if D 73 (3 * p + 1) < D 78 (7 * k + 4) then 0 else if D 78 (7 * k + 5) < D 73 (3 * p + 1) then 0 else 1) else 0
def mmay (D : DT) (X : AS) (k p : Nat) (t : Int32) : Int32 := if gi X 88 k = 0 then 0 else if mrch D k p = 0 then 0 else if mB D X p (ix (D 78 (7 * k))) (nI k) t = 0 then 1 else 0
def mtake (X : AS) (p : Nat) (w t : Int32) : AS := si (si X 85 p w) 86 p t
def mleave (D : DT) (X : AS) (p : Nat) (t : Int32) : AS := if gi X 85 p = -1 then X else si (sl X 91 (ix (gi X 85 p)) (gl X 91 (ix (gi X 85 p)) + (D 73 (3 * p + 1)).toInt64 * (t - gi X 86 p).toInt64)) 85 p (-1)
def muse (D : DT) (X : AS) (k p : Nat) (t : Int32) : AS := mtake (si (si (si X 88 k 0) 89 k (nI p)) 90 k t) p (D 78 (7 * k)) t
def mbest (D : DT) (X : AS) (p : Nat) (t : Int32) : Nat → Int32
  | 0 => -1
  | k + 1 => if mmay D X k p t = 0 then mbest D X p t k else if mbest D X p t k = -1 then nI k else if mDec D X p k (ix (mbest D X p t k)) t < 0 then mbest D X p t k else nI k
def mgive (D : DT) (X : AS) (p : Nat) (t : Int32) : AS := if mbest D X p t 48 = -1 then X else muse D X (ix (mbest D X p t 48)) p t
def mfre (D : DT) (X : AS) (k : Nat) (t : Int32) : Nat → Int32
  | 0 => -1
  | p + 1 => if gi X 85 p = -1 then (if mmay D X k p t = 0 then mfre D X k t p else if mfre D X k t p = -1 then nI p else if D 73 (3 * p + 1) ≤ D 73 (3 * ix (mfre D X k t p) + 1) then mfre D X k t p else nI p) else mfre D X k t p
def mcome (D : DT) (X : AS) (k : Nat) (t : Int32) : AS := if gi X 87 (ix (D 78 (7 * k))) = 0 then (if mfre D (si X 88 k 1) k t (mQ D) = -1 then si X 88 k 1 else muse D (si X 88 k 1) k (ix (mfre D (si X 88 k 1) k t (mQ D))) t) else X
def mkil (D : DT) (X : AS) (w : Nat) : Nat → AS
  | 0 => X
  | k + 1 => si (mkil D X w k) 88 k (if gi X 88 k = 0 then 0 else if D 78 (7 * k) = nI w then 0 else 1)
def mlv (D : DT) (X : AS) (w : Nat) (t : Int32) : Nat → AS
  | 0 => X
  | p + 1 => if gi (mlv D X w t p) 85 p = nI w then mgive D (mleave D (mlv D X w t p) p t) p t else mlv D X w t p
def mdie (D : DT) (X : AS) (w : Nat) (t : Int32) : AS := if gi X 87 w = 0 then mlv D (mkil D (si X 87 w 1) w 48) w t (mQ D) else X
def mres (D : DT) (X : AS) (p w : Nat) (t : Int32) : AS := if gi X 85 p = -1 then X else if gi (mleave D X p t) 87 w = 0 then (if mB D (mleave D X p t) p w (-1) t = 0 then mtake (mleave D X p t) p (nI w) t else mgive D (mleave D X p t) p t) else mgive D (mleave D X p t) p t
def mswp (D : DT) (X : AS) (a b : Nat) (t : Int32) : AS := if gi X 85 a = -1 then X else if gi X 85 b = -1 then X else mtake (mtake (mleave D (mleave D X a t) b t) a (gi X 85 b) t) b (gi X 85 a) t
def mstp (D : DT) (X : AS) (k : Nat) : AS := if D 74 k = 0 then mcome D X (ix (D 76 k)) (D 75 k) else if D 74 k = 1 then mdie D X (ix (D 76 k)) (D 75 k) else if D 74 k = 2 then mres D X (ix (D 76 k)) (ix (D 77 k)) (D 75 k) else mswp D X (ix (D 76 k)) (ix (D 77 k)) (D 75 k)
def mini (D : DT) : AS := (0, fun c k => if c = 85 then (if k < mQ D then D 73 (3 * k + 2) else -1) else if c = 89 ∨ c = 90 then -1 else 0, fun _ _ => 0, fun _ _ => none)
def mrun (D : DT) (l : Nat → Nat) : Nat → AS
  | 0 => mini D
  | i + 1 => mstp D (mrun D l i) (l i)
/-- a news that counts -/
def okN (D : DT) (n : Nat) (u : Int32) (k : Nat) : Prop := 1 ≤ k ∧ k ≤ n ∧ ¬ D 74 k = 4 ∧ D 75 k ≤ u ∧ ¬ (D 74 k = 0 ∧ D 79 (ix (D 76 k)) = 1)
/-- one news ahead of another -/
def ltN (D : DT) (a b : Nat) : Prop := D 75 a < D 75 b ∨ (D 75 a = D 75 b ∧ a < b)
def SQ (D : DT) (n : Nat) (u : Int32) (m : Nat) (l : Nat → Nat) : Prop := (∀ i, i < m → okN D n u (l i)) ∧ (∀ i j, i < j → j < m → ltN D (l i) (l j)) ∧ ∀ k, okN D n u k → ∃ i, i < m ∧ l i = k
/-! what the data keep to -/
def RBK (D : DT) (r : Nat) : Prop := ∃ n, n ≤ 16 ∧ D 81 r = nI n ∧ bnd (D 80 r) 9999999 ∧ mof D r n ≤ 600 * r + 600 ∧ D 82 r = nI (mof D r n - 600 * r) ∧ ∀ i, i < n → ∃ c q, c ≤ 64 ∧ D 83 (mof D r i + 2) = nI c ∧ q ≤ 4 ∧ D 83 (mof D r i) = nI q ∧ (q = 0 → bnd (D 83 (mof D r i + 1)) 7) ∧ (q = 2 ∨ q = 3 → bnd (D 83 (mof D r i + 1)) 6) ∧ ∀ t, t < c → ∃ s, s ≤ 6 ∧ (¬ q = 4 → s ≤ 1) ∧ D 83 (mof D r i + 3 * (t + 1)) = nI s ∧ (D 83 (mof D r i + 3 * (t + 1) + 1) = 60 ∨ D 83 (mof D r i + 3 * (t + 1) + 1) = 61 ∨ D 83 (mof D r i + 3 * (t + 1) + 1) = 62)
def DOK (D : DT) (W kn : Nat → Prop) : Prop := mQ D ≤ 16 ∧ D 70 4 = nI (mQ D)
  ∧ (∀ p, p < mQ D → bnd (D 73 (3 * p)) 7 ∧ bnd (D 73 (3 * p + 1)) 1000 ∧ (D 73 (3 * p + 2) = -1 ∨ ∃ w, W w ∧ D 73 (3 * p + 2) = nI w))
  ∧ (∀ w, W w → w < 24 ∧ bnd (D 72 (3 * w)) 9 ∧ bnd (D 72 (3 * w + 1)) 9 ∧ bnd (D 72 (3 * w + 2)) 7)
  ∧ (∀ k, kn k → k < 48 ∧ (∃ w, W w ∧ D 78 (7 * k) = nI w) ∧ bnd (D 78 (7 * k + 1)) 9999999 ∧ bnd (D 78 (7 * k + 2)) 255 ∧ bnd (D 78 (7 * k + 3)) 255 ∧ bnd (D 78 (7 * k + 4)) 1000 ∧ bnd (D 78 (7 * k + 5)) 1000)
  ∧ mR D ≤ 6 ∧ D 70 15 = nI (mR D) ∧ ∀ r, r < mR D → RBK D r
def XOK (D : DT) (W kn : Nat → Prop) (X : AS) : Prop := (∀ p, p < mQ D → gi X 85 p = -1 ∨ ∃ w, W w ∧ gi X 85 p = nI w) ∧ (∀ k, gi X 88 k = 0 ∨ (gi X 88 k = 1 ∧ kn k)) ∧ ∀ w, gi X 87 w = 0 ∨ gi X 87 w = 1
/-- the reference's cells hold the data and the state -/
def MSt (S : AS) (D : DT) (W kn : Nat → Prop) (P K : Nat) : Prop := P ≤ 24 ∧ K ≤ 48 ∧ gi S 70 2 = nI P ∧ gi S 70 11 = nI K ∧ gi S 70 4 = D 70 4 ∧ gi S 70 15 = D 70 15 ∧ (∀ k, gi S 73 k = D 73 k) ∧ (∀ c k, 80 ≤ c → c ≤ 83 → gi S c k = D c k) ∧ (∀ w, W w → w < P ∧ ∀ i, i < 3 → gi S 72 (3 * w + i) = D 72 (3 * w + i)) ∧ ∀ k, kn k → k < K ∧ ∀ i, i < 7 → gi S 78 (7 * k + i) = D 78 (7 * k + i)
def RM (S : AS) (D : DT) (P K : Nat) (X : AS) : Prop := (∀ p, p < mQ D → gi S 85 p = gi X 85 p ∧ gi S 86 p = gi X 86 p) ∧ (∀ w, w < P → gi S 87 w = gi X 87 w ∧ gl S 91 w = gl X 91 w) ∧ ∀ k, k < K → gi S 88 k = gi X 88 k ∧ gi S 89 k = gi X 89 k ∧ gi S 90 k = gi X 90 k
theorem m3 (p : Nat) : (3 : Int32) * nI p = nI (3 * p) := by rw [show (3 : Int32) = nI 3 from rfl, pk_mul]
theorem m31 (p : Nat) : (3 : Int32) * nI p + 1 = nI (3 * p + 1) := by rw [m3]; exact nI_add (3 * p) 1
theorem m32 (p : Nat) : (3 : Int32) * nI p + 2 = nI (3 * p + 2) := by rw [m3]; exact nI_add (3 * p) 2
theorem m7 (p : Nat) : (7 : Int32) * nI p = nI (7 * p) := by rw [show (7 : Int32) = nI 7 from rfl, pk_mul]
theorem m71 (p : Nat) : (7 : Int32) * nI p + 1 = nI (7 * p + 1) := by rw [m7]; exact nI_add (7 * p) 1
theorem m72 (p : Nat) : (7 : Int32) * nI p + 2 = nI (7 * p + 2) := by rw [m7]; exact nI_add (7 * p) 2
theorem m73 (p : Nat) : (7 : Int32) * nI p + 3 = nI (7 * p + 3) := by rw [m7]; exact nI_add (7 * p) 3
theorem m74 (p : Nat) : (7 : Int32) * nI p + 4 = nI (7 * p + 4) := by rw [m7]; exact nI_add (7 * p) 4
theorem m75 (p : Nat) : (7 : Int32) * nI p + 5 = nI (7 * p + 5) := by rw [m7]; exact nI_add (7 * p) 5
theorem m600 (p : Nat) : (600 : Int32) * nI p = nI (600 * p) := by rw [show (600 : Int32) = nI 600 from rfl, pk_mul]
theorem na2 (o : Nat) : nI o + 2 = nI (o + 2) := nI_add o 2
theorem nm1 : ¬ (0 : Int32) = -1 := by decide
theorem ne10 : ¬ (1 : Int32) = 0 := by decide
theorem nI_is_m1 {n : Nat} (h : n < 2147483648) : (nI n = -1) = False := propext ⟨fun e => nI_ne_m1 h e, False.elim⟩
/-! the reference's readers -/
theorem md_held {S : AS} {D : DT} {P K : Nat} {X : AS} (hQ : mQ D ≤ 16) (h4 : gi S 70 4 = nI (mQ D)) (hr : ∀ p, p < mQ D → gi S 85 p = gi X 85 p) (x : Int32) : f_Md_held x S = some (nI (mcnt X x (mQ D)), S) := by
  have key : ∀ (J : Int32 → AS → Option (Int32 × AS)) (n i : Nat), i ≤ mQ D → mQ D - i < n → f_Md_held_L4 J x n (nI (mcnt X x i)) (nI i) S = J (nI (mcnt X x (mQ D))) S := by
    intro J n
    induction n with
    | zero => intro i _ h; omega
    | succ n ih =>
      intro i hi hn
      rw [f_Md_held_L4, h4]
      rcases Nat.lt_or_ge i (mQ D) with q | q
      · rw [if_neg (nI_ge q (by omega)), chk_pos (in_nI (by omega) (by decide)), ix_nI (by omega), hr i q]
        simp only [nm_eq]
        have e := ih (i + 1) (by omega) (by omega)
        rw [mcnt] at e
        by_cases hh : gi X 85 i = x
        · rw [if_pos hh, nI_1, nI_1]; rw [if_pos hh] at e; exact e
        · rw [if_neg hh, nI_1]; rw [if_neg hh] at e
          rw [show nI (mcnt X x i) + 0 = nI (mcnt X x i + 0) from nI_add _ 0]
          exact e
      · rw [if_pos (nI_le q (by omega)), show i = mQ D by omega]
  unfold f_Md_held
  simp only [nm_eq]
  have k0 := key (fun (a1 : Int32) (S2 : AS) => some (a1, S2)) FU 0 (by omega) (by rw [FU_succ]; omega)
  rw [show mcnt X x 0 = 0 from rfl, nI_0] at k0
  exact k0
theorem md_sub {S : AS} {D : DT} {W kn : Nat → Prop} {P K : Nat} {X : AS} (hd : DOK D W kn) (hs : MSt S D W kn P K) (hr : RM S D P K X) {s p w : Nat} {b : Int32} (h6 : s ≤ 6) (hp : p < mQ D) (hw : W w) (hb : b = -1 ∨ ∃ k, kn k ∧ b = nI k) (t : Int32) : f_Md_subjectOf (nI s) (nI p) (nI w) b t S = some (msub D X (nI s) p w b t, S) := by
  obtain ⟨d1, d2, d3, d4, d5, d6, d7, d8⟩ := id hd
  obtain ⟨s1, s2, s3, s4, s5, s6, s7, s8, s9, s10⟩ := id hs
  obtain ⟨w1, w2⟩ := s9 w hw
  unfold f_Md_subjectOf msub
  rw [m31, m3, m31, m3, chk_pos (in_nI (by omega) (by decide)), chk_pos (in_nI (by omega) (by decide)), chk_pos (in_nI (by omega) (by decide)), chk_pos (in_nI (by omega) (by decide)), ix_nI (by omega), ix_nI (by omega), ix_nI (by omega), ix_nI (by omega), s7, s7, w2 1 (by omega), show 3 * w = 3 * w + 0 from rfl, w2 0 (by omega), md_held (D := D) (P := P) (K := K) (X := X) d1 (by rw [s5]; exact d2) (fun p hp => (hr.1 p hp).1), bI_eq]
  simp only [nm_eq]
  by_cases h0 : nI s = 0
  · rw [if_pos h0, if_pos h0]
  rw [if_neg h0, if_neg h0]
  by_cases h1 : nI s = 1
  · rw [if_pos h1, if_pos h1]
  rw [if_neg h1, if_neg h1]
  by_cases h2 : nI s = 2
  · rw [if_pos h2, if_pos h2]
  rw [if_neg h2, if_neg h2]
  by_cases h3 : nI s = 3
  · rw [if_pos h3, if_pos h3]
  rw [if_neg h3, if_neg h3]
  by_cases h4 : nI s = 4
  · rw [if_pos h4, if_pos h4]
  rw [if_neg h4, if_neg h4]
  rcases hb with hb | ⟨k, hk, hb⟩
  · rw [if_pos hb, if_pos hb, if_pos hb, if_pos hb]
    by_cases h5 : nI s = 5
    · rw [if_pos h5, if_pos h5]
    · rw [if_neg h5, if_neg h5]
  · obtain ⟨k1, k2⟩ := s10 k hk
    have hn : ¬ b = -1 := by rw [hb]; exact nI_ne_m1 (by omega)
    rw [if_neg hn, if_neg hn, if_neg hn, if_neg hn, hb, m71, chk_pos (in_nI (by omega) (by decide)), ix_nI (by omega), ix_nI (by omega), k2 1 (by omega), chk_pos (in_nI (by omega) (by decide)), chk_pos (in_nI (by omega) (by decide))]
    by_cases h5 : nI s = 5
    · rw [if_pos h5, if_pos h5]
    · rw [if_neg h5, if_neg h5]
      by_cases h6 : D 78 (7 * k + 1) ≤ t
      · rw [if_pos h6, if_pos h6]
      · rw [if_neg h6, if_neg h6]
theorem mof_le (D : DT) (r : Nat) {i j : Nat} (h : i ≤ j) : mof D r i ≤ mof D r j := by
  induction h with
  | refl => exact Nat.le_refl _
  | step _ ih => rw [mof]; omega
theorem mof_ge (D : DT) (r i : Nat) : 600 * r ≤ mof D r i := mof_le D r (Nat.zero_le i)
theorem mhol_zero {D : DT} {X : AS} {o p w : Nat} {b t : Int32} {i j : Nat} (h : i ≤ j) (h0 : mhol D X o p w b t i = 0) : mhol D X o p w b t j = 0 := by
  induction h with
  | refl => exact h0
  | step _ ih => rw [mhol, if_pos ih]
theorem mtst_01 (D : DT) (X : AS) (o p w : Nat) (b t : Int32) : mtst D X o p w b t = 0 ∨ mtst D X o p w b t = 1 := by
  unfold mtst
  split <;> (try split) <;> (try split) <;> simp
theorem mhol_01 (D : DT) (X : AS) (o p w : Nat) (b t : Int32) (c : Nat) : mhol D X o p w b t c = 0 ∨ mhol D X o p w b t c = 1 := by
  induction c with
  | zero => exact Or.inr rfl
  | succ c ih =>
    rw [mhol]
    by_cases h : mhol D X o p w b t c = 0
    · rw [if_pos h]; exact Or.inl rfl
    · rw [if_neg h]; exact mtst_01 D X _ p w b t
theorem md_holds {S : AS} {D : DT} {W kn : Nat → Prop} {P K : Nat} {X : AS} (hd : DOK D W kn) (hs : MSt S D W kn P K) (hr : RM S D P K X) {r n i p w : Nat} {b : Int32} (hr6 : r < mR D) (hn : D 81 r = nI n) (hn16 : n ≤ 16) (hi : i < n) (hp : p < mQ D) (hw : W w) (hb : b = -1 ∨ ∃ k, kn k ∧ b = nI k) (t : Int32) : f_Md_holds (nI (mof D r i)) (nI p) (nI w) b t S = some (mhl D X r i p w b t, S) := by
  obtain ⟨d1, d2, d3, d4, d5, d6, d7, d8⟩ := id hd
  obtain ⟨s1, s2, s3, s4, s5, s6, s7, s8, s9, s10⟩ := id hs
  obtain ⟨n', n1, n2, n3, n4, n5, n6⟩ := d8 r hr6
  have en : n' = n := nI_inj (by omega) (by omega) (n2.symm.trans hn)
  subst en
  obtain ⟨c, q, c1, c2, q1, q2, q3, q4, ct⟩ := n6 i hi
  have hof : mof D r (i + 1) ≤ mof D r n' := mof_le D r hi
  have hof2 : mof D r (i + 1) = mof D r i + 3 + 3 * c := by rw [mof, c2, ix_nI (by omega)]
  have e2 : gi S 83 (mof D r i + 2) = nI c := by rw [s8 83 _ (by decide) (by decide), c2]
  unfold mhl
  rw [c2, ix_nI (by omega)]
  have key : ∀ (J : Int32 → AS → Option (Int32 × AS)) (n j : Nat), j ≤ c → c - j < n → f_Md_holds_L6 J (nI (mof D r i)) (nI p) (nI w) b t n (mhol D X (mof D r i) p w b t j) (nI (j + 1)) S = J (mhol D X (mof D r i) p w b t c) S := by
    intro J n
    induction n with
    | zero => intro i _ h; omega
    | succ n ih =>
      intro j hj hnn
      rw [f_Md_holds_L6, na2, chk_pos (in_nI (by omega) (by decide)), ix_nI (by omega), e2]
      rcases Nat.lt_or_ge j c with q | q
      · rw [if_neg (nI_nlt (by omega) (by omega))]
        by_cases hz : mhol D X (mof D r i) p w b t j = 0
        · rw [if_pos hz, hz, mhol_zero (Nat.le_of_lt q) hz]
        · obtain ⟨s, t1, t2, t3, t4⟩ := ct j q
          have a0 : nI (mof D r i) + 3 * nI (j + 1) = nI (mof D r i + 3 * (j + 1)) := by rw [m3, nI_add]
          have a1 : nI (mof D r i) + 3 * nI (j + 1) + 1 = nI (mof D r i + 3 * (j + 1) + 1) := by rw [a0, nI_1]
          have a2 : nI (mof D r i) + 3 * nI (j + 1) + 2 = nI (mof D r i + 3 * (j + 1) + 2) := by rw [a0, na2]
          rw [if_neg hz, a1, a2, a0, chk_pos (in_nI (by omega) (by decide)), ix_nI (by omega), s8 83 _ (by decide) (by decide), t3, md_sub hd hs hr t1 hp hw hb t, bI_eq, chk_pos (in_nI (by omega) (by decide)), ix_nI (by omega), s8 83 _ (by decide) (by decide)]
          simp only [nm_eq]
          rw [chk_pos (in_nI (by omega) (by decide)), ix_nI (by omega), s8 83 _ (by decide) (by decide), nI_1]
          have e := ih (j + 1) (by omega) (by omega)
          rw [mhol, if_neg hz] at e
          unfold mtst at e
          rw [t3] at e
          by_cases h60 : D 83 (mof D r i + 3 * (j + 1) + 1) = 60
          · rw [if_pos h60] at e ⊢
            by_cases hh : D 83 (mof D r i + 3 * (j + 1) + 2) ≤ msub D X (nI s) p w b t
            · rw [if_pos hh] at e ⊢; exact e
            · rw [if_neg hh] at e ⊢; exact e
          · rw [if_neg h60] at e ⊢
            by_cases h62 : D 83 (mof D r i + 3 * (j + 1) + 1) = 62
            · rw [if_pos h62] at e ⊢
              by_cases hh : msub D X (nI s) p w b t ≤ D 83 (mof D r i + 3 * (j + 1) + 2)
              · rw [if_pos hh] at e ⊢; exact e
              · rw [if_neg hh] at e ⊢; exact e
            · rw [if_neg h62] at e ⊢
              by_cases hh : msub D X (nI s) p w b t = D 83 (mof D r i + 3 * (j + 1) + 2)
              · rw [if_pos hh] at e ⊢; exact e
              · rw [if_neg hh] at e ⊢; exact e
      · rw [if_pos (nI_lt (by omega) (by omega)), show j = c by omega]
  unfold f_Md_holds
  simp only [nm_eq]
  have k0 := key (fun (a1 : Int32) (S2 : AS) => chk (isb a1) (some (a1, S2))) FU 0 (by omega) (by rw [FU_succ]; omega)
  rw [show mhol D X (mof D r i) p w b t 0 = 1 from rfl, show nI (0 + 1) = 1 from rfl] at k0
  rw [k0, chk_pos]
  rcases mhol_01 D X (mof D r i) p w b t c with h | h
  · rw [h]; exact isb_0
  · rw [h]; exact isb_1
