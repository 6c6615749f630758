/-! the course as a function: data D (masked), state X (cells 85 to 91) -/
def bnd (x : Int32) (N : Nat) : Prop := ∃ n : Nat, n ≤ N ∧ x = nI n
abbrev DT : Type := Nat → Nat → Int32
def mQ (D : DT) : Nat := ix (D 70 4)
def mR (D : DT) : Nat := ix (D 70 15)
def mcnt (X : AS) (w : Int32) : Nat → Nat
  | 0 => 0
  | n + 1 => mcnt X w n + (if gi X 85 n = w then 1 else 0)
def msub (D : DT) (X : AS) (s : Int32) (p w : Nat) (b t : Int32) : Int32 :=
  if s = 0 then D 73 (3 * p + 1) else if s = 1 then D 73 (3 * p) else if s = 2 then D 72 (3 * w) else if s = 3 then D 72 (3 * w + 1) else if s = 4 then nI (mcnt X (nI w) (mQ D)) else if s = 5 then (if b = -1 then 0 else D 78 (7 * ix b + 1)) else if b = -1 then 0 else if D 78 (7 * ix b + 1) ≤ t then (t - D 78 (7 * ix b + 1)) / 1440 else 0
def mtst (D : DT) (X : AS) (o p w : Nat) (b t : Int32) : Int32 :=
  if D 83 (o + 1) = 60 then (if D 83 (o + 2) ≤ msub D X (D 83 o) p w b t then 0 else 1) else if D 83 (o + 1) = 62 then (if msub D X (D 83 o) p w b t ≤ D 83 (o + 2) then 0 else 1) else if msub D X (D 83 o) p w b t = D 83 (o + 2) then 1 else 0
def mhol (D : DT) (X : AS) (o p w : Nat) (b t : Int32) : Nat → Int32
  | 0 => 1
  | c + 1 => if mhol D X o p w b t c = 0 then 0 else mtst D X (o + 3 * (c + 1)) p w b t
def mof (D : DT) (r : Nat) : Nat → Nat
  | 0 => 600 * r
  | i + 1 => mof D r i + 3 + 3 * ix (D 83 (mof D r i + 2))
def mhl (D : DT) (X : AS) (r i p w : Nat) (b t : Int32) : Int32 := mhol D X (mof D r i) p w b t (ix (D 83 (mof D r i + 2)))
def mbar (D : DT) (X : AS) (r p w : Nat) (b t : Int32) : Nat → Nat → Int32
  | 0, _ => 0
  | m + 1, i => if D 83 (mof D r i) = 4 then (if mhl D X r i p w b t = 0 then mbar D X r p w b t m (i + 1) else 1) else mbar D X r p w b t m (i + 1)
def mfor (D : DT) (t : Int32) : Nat → Int32
  | 0 => -1
  | k + 1 => if D 80 k ≤ t ∧ (mfor D t k = -1 ∨ D 80 (ix (mfor D t k)) ≤ D 80 k) then nI k else mfor D t k
def mF (D : DT) (t : Int32) : Int32 := mfor D t (mR D)
def mB (D : DT) (X : AS) (p w : Nat) (b t : Int32) : Int32 := if mF D t = -1 then 0 else mbar D X (ix (mF D t)) p w b t (ix (D 81 (ix (mF D t)))) 0
def mdif (D : DT) (X : AS) (o p a b : Nat) (t : Int32) : Int32 :=
  if D 83 o = 0 then ((D 78 (7 * a + 2) >>> (D 83 (o + 1) &&& 31)) &&& 1) - ((D 78 (7 * b + 2) >>> (D 83 (o + 1) &&& 31)) &&& 1)
  else if D 83 o = 1 then (if D 72 (3 * ix (D 78 (7 * a)) + 2) = D 73 (3 * p) then 1 else 0) - (if D 72 (3 * ix (D 78 (7 * b)) + 2) = D 73 (3 * p) then 1 else 0)
  else if D 83 o = 2 then msub D X (D 83 (o + 1)) p (ix (D 78 (7 * a))) (nI a) t - msub D X (D 83 (o + 1)) p (ix (D 78 (7 * b))) (nI b) t
  else msub D X (D 83 (o + 1)) p (ix (D 78 (7 * b))) (nI b) t - msub D X (D 83 (o + 1)) p (ix (D 78 (7 * a))) (nI a) t
def mdec (D : DT) (X : AS) (r p a b : Nat) (t : Int32) : Nat → Nat → Int32
  | 0, _ => if b ≤ a then -101 else 100
  | m + 1, i => if D 83 (mof D r i) = 4 then mdec D X r p a b t m (i + 1) else if mhl D X r i p (ix (D 78 (7 * a))) (nI a) t = 0 then mdec D X r p a b t m (i + 1) else if mdif D X (mof D r i) p a b t = 0 then mdec D X r p a b t m (i + 1) else if mdif D X (mof D r i) p a b t ≤ 0 then (-(nI i)) - 1 else nI i
def mDec (D : DT) (X : AS) (p a b : Nat) (t : Int32) : Int32 := if mF D t = -1 then (if b ≤ a then -101 else 100) else mdec D X (ix (mF D t)) p a b t (ix (D 81 (ix (mF D t)))) 0
def mrch (D : DT) (k p : Nat) : Int32 := if ((D 78 (7 * k + 3) >>> (D 73 (3 * p) &&& 31)) &&& 1) = 1 then (if D 73 (3 * p + 1) < D 78 (7 * k + 4) then 0 else if D 78 (7 * k + 5) < D 73 (3 * p + 1) then 0 else 1) else 0
def mmay (D : DT) (X : AS) (k p : Nat) (t : Int32) : Int32 := if gi X 88 k = 0 then 0 else if mrch D k p = 0 then 0 else if mB D X p (ix (D 78 (7 * k))) (nI k) t = 0 then 1 else 0
def mtake (X : AS) (p : Nat) (w t : Int32) : AS := si (si X 85 p w) 86 p t
def mleave (D : DT) (X : AS) (p : Nat) (t : Int32) : AS := if gi X 85 p = -1 then X else si (sl X 91 (ix (gi X 85 p)) (gl X 91 (ix (gi X 85 p)) + (D 73 (3 * p + 1)).toInt64 * (t - gi X 86 p).toInt64)) 85 p (-1)
def muse (D : DT) (X : AS) (k p : Nat) (t : Int32) : AS := mtake (si (si (si X 88 k 0) 89 k (nI p)) 90 k t) p (D 78 (7 * k)) t
def mbest (D : DT) (X : AS) (p : Nat) (t : Int32) : Nat → Int32
  | 0 => -1
  | k + 1 => if mmay D X k p t = 0 then mbest D X p t k else if mbest D X p t k = -1 then nI k else if mDec D X p k (ix (mbest D X p t k)) t < 0 then mbest D X p t k else nI k
def mgive (D : DT) (X : AS) (p : Nat) (t : Int32) : AS := if mbest D X p t 48 = -1 then X else muse D X (ix (mbest D X p t 48)) p t
def mfre (D : DT) (X : AS) (k : Nat) (t : Int32) : Nat → Int32
  | 0 => -1
  | p + 1 => if gi X 85 p = -1 then (if mmay D X k p t = 0 then mfre D X k t p else if mfre D X k t p = -1 then nI p else if D 73 (3 * p + 1) ≤ D 73 (3 * ix (mfre D X k t p) + 1) then mfre D X k t p else nI p) else mfre D X k t p
def mcome (D : DT) (X : AS) (k : Nat) (t : Int32) : AS := if gi X 87 (ix (D 78 (7 * k))) = 0 then (if mfre D (si X 88 k 1) k t (mQ D) = -1 then si X 88 k 1 else muse D (si X 88 k 1) k (ix (mfre D (si X 88 k 1) k t (mQ D))) t) else X
def mkil (D : DT) (X : AS) (w : Nat) : Nat → AS
  | 0 => X
  | k + 1 => si (mkil D X w k) 88 k (if gi X 88 k = 0 then 0 else if D 78 (7 * k) = nI w then 0 else 1)
def mlv (D : DT) (X : AS) (w : Nat) (t : Int32) : Nat → AS
  | 0 => X
  | p + 1 => if gi (mlv D X w t p) 85 p = nI w then mgive D (mleave D (mlv D X w t p) p t) p t else mlv D X w t p
def mdie (D : DT) (X : AS) (w : Nat) (t : Int32) : AS := if gi X 87 w = 0 then mlv D (mkil D (si X 87 w 1) w 48) w t (mQ D) else X
def mres (D : DT) (X : AS) (p w : Nat) (t : Int32) : AS := if gi X 85 p = -1 then X else if gi (mleave D X p t) 87 w = 0 then (if mB D (mleave D X p t) p w (-1) t = 0 then mtake (mleave D X p t) p (nI w) t else mgive D (mleave D X p t) p t) else mgive D (mleave D X p t) p t
def mswp (D : DT) (X : AS) (a b : Nat) (t : Int32) : AS := if gi X 85 a = -1 then X else if gi X 85 b = -1 then X else mtake (mtake (mleave D (mleave D X a t) b t) a (gi X 85 b) t) b (gi X 85 a) t
def mstp (D : DT) (X : AS) (k : Nat) : AS := if D 74 k = 0 then mcome D X (ix (D 76 k)) (D 75 k) else if D 74 k = 1 then mdie D X (ix (D 76 k)) (D 75 k) else if D 74 k = 2 then mres D X (ix (D 76 k)) (ix (D 77 k)) (D 75 k) else mswp D X (ix (D 76 k)) (ix (D 77 k)) (D 75 k)
def mini (D : DT) : AS := (0, fun c k => if c = 85 then (if k < mQ D then D 73 (3 * k + 2) else -1) else if c = 89 ∨ c = 90 then -1 else 0, fun _ _ => 0, fun _ _ => none)
def mrun (D : DT) (l : Nat → Nat) : Nat → AS
  | 0 => mini D
  | i + 1 => mstp D (mrun D l i) (l i)
/-- a news that counts -/
def okN (D : DT) (n : Nat) (u : Int32) (k : Nat) : Prop := 1 ≤ k ∧ k ≤ n ∧ ¬ D 74 k = 4 ∧ D 75 k ≤ u ∧ ¬ (D 74 k = 0 ∧ D 79 (ix (D 76 k)) = 1)
/-- one news ahead of another -/
def ltN (D : DT) (a b : Nat) : Prop := D 75 a < D 75 b ∨ (D 75 a = D 75 b ∧ a < b)
def SQ (D : DT) (n : Nat) (u : Int32) (m : Nat) (l : Nat → Nat) : Prop := (∀ i, i < m → okN D n u (l i)) ∧ (∀ i j, i < j → j < m → ltN D (l i) (l j)) ∧ ∀ k, okN D n u k → ∃ i, i < m ∧ l i = k
def RBK (D : DT) (r : Nat) : Prop := ∃ n, n ≤ 16 ∧ D 81 r = nI n ∧ bnd (D 80 r) 9999999 ∧ mof D r n ≤ 600 * r + 600 ∧ D 82 r = nI (mof D r n - 600 * r) ∧ ∀ i, i < n → ∃ c q, c ≤ 64 ∧ D 83 (mof D r i + 2) = nI c ∧ q ≤ 4 ∧ D 83 (mof D r i) = nI q ∧ (q = 0 → bnd (D 83 (mof D r i + 1)) 7) ∧ (q = 2 ∨ q = 3 → bnd (D 83 (mof D r i + 1)) 6) ∧ ∀ t, t < c → ∃ s, s ≤ 6 ∧ (¬ q = 4 → s ≤ 1) ∧ D 83 (mof D r i + 3 * (t + 1)) = nI s ∧ (D 83 (mof D r i + 3 * (t + 1) + 1) = 60 ∨ D 83 (mof D r i + 3 * (t + 1) + 1) = 61 ∨ D 83 (mof D r i + 3 * (t + 1) + 1) = 62)
def DOK (D : DT) (W kn : Nat → Prop) : Prop := mQ D ≤ 16 ∧ D 70 4 = nI (mQ D)
  ∧ (∀ p, p < mQ D → bnd (D 73 (3 * p)) 7 ∧ bnd (D 73 (3 * p + 1)) 1000 ∧ (D 73 (3 * p + 2) = -1 ∨ ∃ w, W w ∧ D 73 (3 * p + 2) = nI w))
  ∧ (∀ w, W w → w < 24 ∧ bnd (D 72 (3 * w)) 9 ∧ bnd (D 72 (3 * w + 1)) 9 ∧ bnd (D 72 (3 * w + 2)) 7)
  ∧ (∀ k, kn k → k < 48 ∧ (∃ w, W w ∧ D 78 (7 * k) = nI w) ∧ bnd (D 78 (7 * k + 1)) 9999999 ∧ bnd (D 78 (7 * k + 2)) 255 ∧ bnd (D 78 (7 * k + 3)) 255 ∧ bnd (D 78 (7 * k + 4)) 1000 ∧ bnd (D 78 (7 * k + 5)) 1000)
  ∧ mR D ≤ 6 ∧ D 70 15 = nI (mR D) ∧ ∀ r, r < mR D → RBK D r
/-- the reference's cells hold the data and the state -/
def MSt (S : AS) (D : DT) (W kn : Nat → Prop) (P K : Nat) : Prop := P ≤ 24 ∧ K ≤ 48 ∧ gi S 70 2 = nI P ∧ gi S 70 11 = nI K ∧ gi S 70 4 = D 70 4 ∧ gi S 70 15 = D 70 15 ∧ (∀ k, gi S 73 k = D 73 k) ∧ (∀ c k, 80 ≤ c → c ≤ 83 → gi S c k = D c k) ∧ (∀ w, W w → w < P ∧ ∀ i, i < 3 → gi S 72 (3 * w + i) = D 72 (3 * w + i)) ∧ ∀ k, kn k → k < K ∧ ∀ i, i < 7 → gi S 78 (7 * k + i) = D 78 (7 * k + i)
def NOK (D : DT) (W kn : Nat → Prop) (P n : Nat) : Prop := n ≤ 160 ∧ ∀ k, 1 ≤ k → k ≤ n → D 74 k = 4 ∨ (bnd (D 75 k) 9999999 ∧ ((D 74 k = 0 ∧ ∃ j, kn j ∧ D 76 k = nI j) ∨ (D 74 k = 1 ∧ ∃ w, w < P ∧ D 76 k = nI w) ∨ (D 74 k = 2 ∧ ∃ p w, p < mQ D ∧ W w ∧ D 76 k = nI p ∧ D 77 k = nI w) ∨ (D 74 k = 3 ∧ ∃ p q, p < mQ D ∧ q < mQ D ∧ D 76 k = nI p ∧ D 77 k = nI q)))
def NMt (S : AS) (D : DT) (kn : Nat → Prop) (n : Nat) : Prop := (∀ k, 1 ≤ k → k ≤ n → gi S 74 k = D 74 k ∧ gi S 75 k = D 75 k ∧ gi S 76 k = D 76 k ∧ gi S 77 k = D 77 k) ∧ ∀ j, kn j → ((¬ gi S 79 j ≤ 0 ∧ ¬ nI n < gi S 79 j) ↔ D 79 j = 1)
def BK (S : AS) (D : DT) (r q : Nat) : Prop := gi S q 4 = D 81 r ∧ ∀ i, i < ix (D 81 r) → gi S (q + 1) i = D 83 (mof D r i) + 7 ∧ (¬ D 83 (mof D r i) = 1 → ¬ D 83 (mof D r i) = 4 → gi S (q + 2) i = D 83 (mof D r i + 1)) ∧ ∃ a, a + ix (D 83 (mof D r i + 2)) ≤ 64 ∧ gi S (q + 3) i = nI a ∧ gi S (q + 4) i = nI (a + ix (D 83 (mof D r i + 2))) ∧ ∀ t, t < ix (D 83 (mof D r i + 2)) → gi S (q + 5) (a + t) = D 83 (mof D r i + 3 * (t + 1)) ∧ gi S (q + 6) (a + t) = D 83 (mof D r i + 3 * (t + 1) + 1) - 61 ∧ gi S (q + 7) (a + t) = D 83 (mof D r i + 3 * (t + 1) + 2)
def RC (S : AS) (D : DT) (X : AS) : Prop := (∀ p, p < mQ D → gi S 50 p = gi X 85 p ∧ (¬ gi X 85 p = -1 → gi S 51 p = gi X 86 p)) ∧ (∀ w, w < 24 → gi S 52 w = nI (mcnt X (nI w) (mQ D)) ∧ gl S 53 w = gl X 91 w ∧ gi S 54 w = gi X 87 w) ∧ ∀ k, k < 48 → gi S 55 k = gi X 88 k ∧ gi S 56 k = gi X 89 k ∧ gi S 57 k = gi X 90 k
def TB (S : AS) (D : DT) (t : Int32) (q : Nat) : Prop := (q = 41 ∨ 99 ≤ q) ∧ ((mF D t = -1 ∧ gi S q 4 = 0) ∨ ∃ r, r < mR D ∧ mF D t = nI r ∧ BK S D r q)
def TR (S : AS) (D : DT) (t : Int32) : Prop := gi S 49 14 = t ∧ bnd t 9999999 ∧ ∃ q, gr S 49 15 = some q ∧ TB S D t q
