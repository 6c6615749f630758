/-! rings: numbers that return -/
theorem pigeon : ∀ (N : Nat) (x : Nat → Nat), (∀ i, i ≤ N → x i < N) → ∃ i j, i < j ∧ j ≤ N ∧ x i = x j := by
  intro N
  induction N with
  | zero => intro x h; have := h 0 (Nat.le_refl _); omega
  | succ N ih =>
    intro x h
    by_cases q : ∃ i, i ≤ N ∧ x i = x (N + 1)
    · obtain ⟨i, h1, h2⟩ := q
      exact ⟨i, N + 1, by omega, Nat.le_refl _, h2⟩
    · have hne : ∀ i, i ≤ N → ¬ x i = x (N + 1) := fun i hi e => q ⟨i, hi, e⟩
      obtain ⟨i, j, h1, h2, h3⟩ := ih (fun i => if x (N + 1) < x i then x i - 1 else x i) (fun i hi => by
        have a := h i (by omega)
        have b := h (N + 1) (Nat.le_refl _)
        have c := hne i hi
        show (if x (N + 1) < x i then x i - 1 else x i) < N
        split <;> omega)
      refine ⟨i, j, h1, by omega, ?_⟩
      have c1 := hne i (by omega)
      have c2 := hne j h2
      have h4 : (if x (N + 1) < x i then x i - 1 else x i) = (if x (N + 1) < x j then x j - 1 else x j) := h3
      split at h4 <;> split at h4 <;> omega
theorem least {P : Nat → Prop} (h : ∃ n, P n) : ∃ n, P n ∧ ∀ m, m < n → ¬ P m := by
  obtain ⟨n, hn⟩ := h
  exact Nat.strongRecOn (motive := fun n => P n → ∃ k, P k ∧ ∀ m, m < k → ¬ P m) n (fun n ih hn => by
    by_cases q : ∃ m, m < n ∧ P m
    · obtain ⟨m, a, b⟩ := q
      exact ih m a b
    · exact ⟨n, hn, fun m hm hp => q ⟨m, hm, hp⟩⟩) hn
def itr (f : Nat → Nat) : Nat → Nat → Nat
  | 0, w => w
  | n + 1, w => f (itr f n w)
theorem itr_add (f : Nat → Nat) (a b w : Nat) : itr f (a + b) w = itr f a (itr f b w) := by
  induction a with
  | zero => rw [Nat.zero_add]; rfl
  | succ a ih => rw [show a + 1 + b = (a + b) + 1 by omega, itr, itr, ih]
theorem itr_mul {f : Nat → Nat} {d w : Nat} (h : itr f d w = w) (k : Nat) : itr f (d * k) w = w := by
  induction k with
  | zero => rw [Nat.mul_zero]; rfl
  | succ k ih => rw [Nat.mul_add, Nat.mul_one, itr_add, h, ih]
theorem em1 (d i : Nat) : d * i + i = (d + 1) * i := by rw [Nat.add_mul, Nat.one_mul]
theorem itr_small {f : Nat → Nat} {w N d : Nat} (hN : ∀ i, i ≤ N → itr f i w < N) (h1 : 1 ≤ d) (h : itr f d w = w) : ∃ e, 1 ≤ e ∧ e ≤ N ∧ itr f e w = w := by
  obtain ⟨i, j, a, b, c⟩ := pigeon N (fun i => itr f i w) hN
  have c' : itr f i w = itr f j w := c
  obtain ⟨d', rfl⟩ : ∃ d', d = d' + 1 := ⟨d - 1, by omega⟩
  have e1 : itr f (d' * i) (itr f i w) = w := by rw [← itr_add, em1]; exact itr_mul h i
  have e2 : itr f (d' * i) (itr f j w) = itr f (j - i) w := by
    rw [← itr_add, show d' * i + j = (j - i) + (d' * i + i) by omega, itr_add, em1, itr_mul h i]
  rw [c'] at e1
  exact ⟨j - i, by omega, by omega, e2.symm.trans e1⟩
theorem itr_reach {f : Nat → Nat} {w N n : Nat} (hN : ∀ i, i ≤ N → itr f i w < N) (hn : N ≤ n) : ∃ d, 1 ≤ d ∧ itr f d (itr f n w) = itr f n w := by
  obtain ⟨i, j, a, b, c⟩ := pigeon N (fun i => itr f i w) hN
  have c' : itr f i w = itr f j w := c
  refine ⟨j - i, by omega, ?_⟩
  rw [← itr_add, show j - i + n = (n - i) + j by omega, itr_add, ← c', ← itr_add, show n - i + i = n by omega]
/-- from any point of a ring back to its beginning -/
theorem itr_back {f : Nat → Nat} {w d : Nat} (h1 : 1 ≤ d) (h : itr f d w = w) (i : Nat) : ∃ n, itr f n (itr f i w) = w := by
  obtain ⟨d', rfl⟩ : ∃ d', d = d' + 1 := ⟨d - 1, by omega⟩
  exact ⟨d' * i, by rw [← itr_add, em1]; exact itr_mul h i⟩
theorem itr_per {f : Nat → Nat} {w d : Nat} (h : itr f d w = w) (i : Nat) : itr f d (itr f i w) = itr f i w := by
  rw [← itr_add, Nat.add_comm, itr_add, h]
/-! who points to whom: holders, how many wishes, wishes, own posts -/
abbrev RD : Type := (Nat → Int32) × (Nat → Nat) × (Nat → Nat → Nat) × (Nat → Nat)
noncomputable def fw (R : RD) (A : Nat → Prop) (w : Nat) : Nat → Nat → Nat
  | 0, i => i
  | c + 1, i => pif (∃ v, v < 24 ∧ R.1 (R.2.2.1 w i) = nI v ∧ A v) i (fw R A w c (i + 1))
noncomputable def pt (R : RD) (A : Nat → Prop) (w : Nat) : Nat := if fw R A w (R.2.1 w) 0 < R.2.1 w then R.2.2.1 w (fw R A w (R.2.1 w) 0) else R.2.2.2 w
noncomputable def tt (R : RD) (A : Nat → Prop) (w : Nat) : Nat := ix (R.1 (pt R A w))
theorem tt_of {R : RD} {A B : Nat → Prop} {u : Nat} (h : pt R A u = pt R B u) : tt R A u = tt R B u := by unfold tt; rw [h]
def RG (R : RD) (A0 : Nat → Prop) (Q : Nat) : Prop := (∀ w, A0 w → w < 24 ∧ R.2.2.2 w < Q ∧ R.1 (R.2.2.2 w) = nI w ∧ ∀ q, q < Q → R.1 q = nI w → q = R.2.2.2 w) ∧ ∀ w, w < 24 → ∀ i, i < R.2.1 w → R.2.2.1 w i < Q
theorem fw_spec (R : RD) (A : Nat → Prop) (w : Nat) : ∀ c i, i ≤ fw R A w c i ∧ fw R A w c i ≤ i + c ∧ (∀ j, i ≤ j → j < fw R A w c i → ¬ ∃ v, v < 24 ∧ R.1 (R.2.2.1 w j) = nI v ∧ A v) ∧ (fw R A w c i < i + c → ∃ v, v < 24 ∧ R.1 (R.2.2.1 w (fw R A w c i)) = nI v ∧ A v) := by
  intro c
  induction c with
  | zero => intro i; exact ⟨Nat.le_refl _, Nat.le_refl _, fun j h1 h2 => by rw [fw] at h2; omega, fun h => by rw [fw] at h; omega⟩
  | succ c ih =>
    intro i
    rw [fw]
    by_cases q : ∃ v, v < 24 ∧ R.1 (R.2.2.1 w i) = nI v ∧ A v
    · rw [pif_pos q]
      exact ⟨Nat.le_refl _, by omega, fun j h1 h2 => by omega, fun _ => q⟩
    · rw [pif_neg q]
      obtain ⟨a, b, d, e⟩ := ih (i + 1)
      refine ⟨by omega, by omega, fun j h1 h2 => ?_, fun h => e (by omega)⟩
      by_cases z : j = i
      · rw [z]; exact q
      · exact d j (by omega) h2
theorem pt_spec {R : RD} {A0 A : Nat → Prop} {Q w : Nat} (hR : RG R A0 Q) (hA : ∀ w, A w → A0 w) (hw : A w) : pt R A w < Q ∧ A (tt R A w) ∧ R.1 (pt R A w) = nI (tt R A w) ∧ R.2.2.2 (tt R A w) = pt R A w := by
  obtain ⟨w1, w2, w3, w4⟩ := hR.1 w (hA w hw)
  have key : pt R A w < Q ∧ ∃ v, v < 24 ∧ A v ∧ R.1 (pt R A w) = nI v := by
    obtain ⟨a, b, c, d⟩ := fw_spec R A w (R.2.1 w) 0
    unfold pt
    by_cases h : fw R A w (R.2.1 w) 0 < R.2.1 w
    · rw [if_pos h]
      obtain ⟨v, v1, v2, v3⟩ := d (by omega)
      exact ⟨hR.2 w w1 _ h, v, v1, v3, v2⟩
    · rw [if_neg h]
      exact ⟨w2, w, w1, hw, w3⟩
  obtain ⟨k1, v, v1, v2, v3⟩ := key
  have e : tt R A w = v := by unfold tt; rw [v3]; exact ix_nI (by omega)
  rw [e]
  exact ⟨k1, v2, v3, ((hR.1 v (hA v v2)).2.2.2 _ k1 v3).symm⟩
theorem pt_le {R : RD} {A0 A B : Nat → Prop} {Q u : Nat} (hR : RG R A0 Q) (hA : ∀ w, A w → A0 w) (hu : A u) (h : B (tt R A u)) (hlt : fw R A u (R.2.1 u) 0 < R.2.1 u) : fw R B u (R.2.1 u) 0 ≤ fw R A u (R.2.1 u) 0 := by
  obtain ⟨a, b, c, d⟩ := fw_spec R A u (R.2.1 u) 0
  obtain ⟨a', b', c', d'⟩ := fw_spec R B u (R.2.1 u) 0
  obtain ⟨v, v1, v2, v3⟩ := d (by omega)
  have e : tt R A u = v := by unfold tt pt; rw [if_pos hlt, v2]; exact ix_nI (by omega)
  rcases Nat.lt_or_ge (fw R A u (R.2.1 u) 0) (fw R B u (R.2.1 u) 0) with q | q
  · exact absurd ⟨v, v1, v2, by rw [← e]; exact h⟩ (c' _ (Nat.zero_le _) q)
  · exact q
theorem pt_same {R : RD} {A0 A B : Nat → Prop} {Q u : Nat} (hR : RG R A0 Q) (hA : ∀ w, A w → A0 w) (hB : ∀ w, B w → A0 w) (hu : A u) (hu' : B u) (h1 : B (tt R A u)) (h2 : A (tt R B u)) : pt R A u = pt R B u := by
  have p1 := pt_le (B := B) hR hA hu h1
  have p2 := pt_le (B := A) hR hB hu' h2
  unfold pt
  by_cases x : fw R A u (R.2.1 u) 0 < R.2.1 u
  · have y : fw R B u (R.2.1 u) 0 < R.2.1 u := by have := p1 x; omega
    rw [if_pos x, if_pos y, show fw R A u (R.2.1 u) 0 = fw R B u (R.2.1 u) 0 by have := p1 x; have := p2 y; omega]
  · have y : ¬ fw R B u (R.2.1 u) 0 < R.2.1 u := fun y => by have := p2 y; omega
    rw [if_neg x, if_neg y]
def cyc (R : RD) (A : Nat → Prop) (w : Nat) : Prop := A w ∧ ∃ d, 1 ≤ d ∧ itr (tt R A) d w = w
theorem itr_in {R : RD} {A0 A : Nat → Prop} {Q w : Nat} (hR : RG R A0 Q) (hA : ∀ w, A w → A0 w) (hw : A w) (i : Nat) : A (itr (tt R A) i w) := by
  induction i with
  | zero => exact hw
  | succ i ih => exact (pt_spec hR hA ih).2.1
theorem cyc_itr {R : RD} {A0 A : Nat → Prop} {Q w : Nat} (hR : RG R A0 Q) (hA : ∀ w, A w → A0 w) (h : cyc R A w) (i : Nat) : cyc R A (itr (tt R A) i w) := by
  obtain ⟨hw, d, d1, d2⟩ := h
  exact ⟨itr_in hR hA hw i, d, d1, itr_per d2 i⟩
/-- the rounds: whoever is in a ring leaves -/
def mA (R : RD) (A0 : Nat → Prop) : Nat → Nat → Prop
  | 0 => A0
  | r + 1 => fun w => mA R A0 r w ∧ ¬ cyc R (mA R A0 r) w
theorem mA_anti {R : RD} {A0 : Nat → Prop} {r s w : Nat} (h : r ≤ s) (hw : mA R A0 s w) : mA R A0 r w := by
  induction h with
  | refl => exact hw
  | step _ ih => exact ih hw.1
theorem mA_0 {R : RD} {A0 : Nat → Prop} {s w : Nat} (hw : mA R A0 s w) : A0 w := mA_anti (r := 0) (Nat.zero_le s) hw
theorem lev_ge {R : RD} {A0 : Nat → Prop} {r s w : Nat} (h : cyc R (mA R A0 r) w) (hs : mA R A0 s w) : s ≤ r := by
  rcases Nat.lt_or_ge r s with q | q
  · exact absurd h (mA_anti (r := r + 1) q hs).2
  · exact q
theorem lev_uniq {R : RD} {A0 : Nat → Prop} {r s w : Nat} (h : cyc R (mA R A0 r) w) (h' : cyc R (mA R A0 s) w) : r = s := Nat.le_antisymm (lev_ge h' h.1) (lev_ge h h'.1)
/-- a set from which only whole rings have left -/
def RCL (R : RD) (A0 A : Nat → Prop) : Prop := ∀ r w, cyc R (mA R A0 r) w → A w → A (tt R (mA R A0 r) w)
theorem follow {R : RD} {A0 A : Nat → Prop} {Q : Nat} (hR : RG R A0 Q) (hA : ∀ w, A w → A0 w) (hall : ∀ w, A0 w → ∃ r, cyc R (mA R A0 r) w) (hc : RCL R A0 A) {w : Nat} (h : cyc R A w) : ∃ r, ∀ n, cyc R (mA R A0 r) (itr (tt R A) n w) ∧ pt R A (itr (tt R A) n w) = pt R (mA R A0 r) (itr (tt R A) n w) := by
  obtain ⟨hw, d, d1, d2⟩ := id h
  have orb := itr_in hR hA hw
  obtain ⟨k, ⟨i, hi⟩, kmin⟩ := least (P := fun r => ∃ i, cyc R (mA R A0 r) (itr (tt R A) i w)) (by
    obtain ⟨r, hr⟩ := hall w (hA w hw)
    exact ⟨r, 0, hr⟩)
  have inK : ∀ n, mA R A0 k (itr (tt R A) n w) := fun n => by
    obtain ⟨r, hr⟩ := hall _ (hA _ (orb n))
    rcases Nat.lt_or_ge r k with q | q
    · exact absurd ⟨n, hr⟩ (kmin r q)
    · exact mA_anti q hr.1
  have hmA : ∀ w, mA R A0 k w → A0 w := fun w h => mA_0 h
  have step : ∀ n, cyc R (mA R A0 k) (itr (tt R A) n w) → pt R A (itr (tt R A) n w) = pt R (mA R A0 k) (itr (tt R A) n w) := fun n hn => pt_same hR hA hmA (orb n) hn.1 (inK (n + 1)) (hc k _ hn (orb n))
  have all : ∀ n, cyc R (mA R A0 k) (itr (tt R A) (i + n) w) := fun n => by
    induction n with
    | zero => exact hi
    | succ n ih =>
      have e : tt R A (itr (tt R A) (i + n) w) = tt R (mA R A0 k) (itr (tt R A) (i + n) w) := tt_of (step (i + n) ih)
      show cyc R (mA R A0 k) (tt R A (itr (tt R A) (i + n) w))
      rw [e]
      exact cyc_itr hR hmA ih 1
  have every : ∀ n, cyc R (mA R A0 k) (itr (tt R A) n w) := fun n => by
    obtain ⟨m, hm⟩ := itr_back d1 d2 i
    have := all (n + m)
    rw [show i + (n + m) = n + (m + i) by omega, itr_add, itr_add, hm] at this
    exact this
  exact ⟨k, fun n => ⟨every n, step n (every n)⟩⟩
/-- what is left when a ring has left is such a set again -/
theorem RCL.out {R : RD} {A0 A : Nat → Prop} {Q : Nat} (hR : RG R A0 Q) (hA : ∀ w, A w → A0 w) (hall : ∀ w, A0 w → ∃ r, cyc R (mA R A0 r) w) (hc : RCL R A0 A) {w : Nat} (h : cyc R A w) : RCL R A0 (fun v => A v ∧ ¬ ∃ i, v = itr (tt R A) i w) := by
  intro r v hv hAv
  refine ⟨hc r v hv hAv.1, fun q => hAv.2 ?_⟩
  obtain ⟨i, hi⟩ := q
  obtain ⟨k, hk⟩ := follow hR hA hall hc h
  have hmA : ∀ w, mA R A0 r w → A0 w := fun w h => mA_0 h
  have e : r = k := lev_uniq (by rw [← hi]; exact cyc_itr hR hmA hv 1) (hk i).1
  subst e
  have same : ∀ n, itr (tt R (mA R A0 r)) n (itr (tt R A) i w) = itr (tt R A) (n + i) w := fun n => by
    induction n with
    | zero => rw [Nat.zero_add]; rfl
    | succ n ih =>
      rw [itr, ih, show n + 1 + i = (n + i) + 1 by omega, itr]
      exact (tt_of (hk (n + i)).2).symm
  obtain ⟨-, d, d1, d2⟩ := hv
  obtain ⟨m, hm⟩ := itr_back d1 d2 1
  refine ⟨m + i, ?_⟩
  rw [← same m, ← hi]
  exact hm.symm
/-! counting -/
noncomputable def cntP (p : Nat → Prop) : Nat → Nat
  | 0 => 0
  | n + 1 => cntP p n + pif (p n) 1 0
theorem cntP_congr {p q : Nat → Prop} {n : Nat} (h : ∀ w, w < n → (p w ↔ q w)) : cntP p n = cntP q n := by
  induction n with
  | zero => rfl
  | succ n ih =>
    rw [cntP, cntP, ih (fun w hw => h w (by omega))]
    by_cases z : p n
    · rw [pif_pos z, pif_pos ((h n (by omega)).mp z)]
    · rw [pif_neg z, pif_neg (fun y => z ((h n (by omega)).mpr y))]
theorem cntP_le (p : Nat → Prop) (n : Nat) : cntP p n ≤ n := by
  induction n with
  | zero => exact Nat.le_refl _
  | succ n ih =>
    rw [cntP]
    by_cases z : p n
    · rw [pif_pos z]; omega
    · rw [pif_neg z]; omega
theorem cntP_add {p q r : Nat → Prop} {n : Nat} (h : ∀ w, w < n → (r w ↔ (p w ∨ q w))) (hd : ∀ w, w < n → ¬ (p w ∧ q w)) : cntP r n = cntP p n + cntP q n := by
  induction n with
  | zero => rfl
  | succ n ih =>
    rw [cntP, cntP, cntP, ih (fun w hw => h w (by omega)) (fun w hw => hd w (by omega))]
    by_cases z : p n
    · have y : ¬ q n := fun y => hd n (by omega) ⟨z, y⟩
      rw [pif_pos z, pif_neg y, pif_pos ((h n (by omega)).mpr (Or.inl z))]; omega
    · by_cases y : q n
      · rw [pif_neg z, pif_pos y, pif_pos ((h n (by omega)).mpr (Or.inr y))]; omega
      · rw [pif_neg z, pif_neg y, pif_neg (fun x => by rcases (h n (by omega)).mp x with x | x; exact z x; exact y x)]; omega
theorem cntP_one {p : Nat → Prop} {n v : Nat} (hv : v < n) (h : ∀ w, w < n → (p w ↔ w = v)) : cntP p n = 1 := by
  induction n with
  | zero => omega
  | succ n ih =>
    rw [cntP]
    by_cases z : v = n
    · rw [pif_pos ((h n (by omega)).mpr z.symm)]
      have e : cntP p n = 0 := by
        rw [cntP_congr (q := fun _ => False) (fun w hw => ⟨fun x => by have := (h w (by omega)).mp x; omega, fun x => x.elim⟩)]
        clear ih h hv z
        induction n with
        | zero => rfl
        | succ n ih => rw [cntP, ih, pif_neg (fun x => x)]
      rw [e]
    · rw [pif_neg (fun x => z ((h n (by omega)).mp x).symm), ih (by omega) (fun w hw => h w (by omega))]
theorem cntP_zero {p : Nat → Prop} {n : Nat} (h : cntP p n = 0) : ∀ w, w < n → ¬ p w := by
  induction n with
  | zero => intro w hw; omega
  | succ n ih =>
    rw [cntP] at h
    intro w hw
    by_cases z : p n
    · rw [pif_pos z] at h; omega
    · rw [pif_neg z] at h
      by_cases e : w = n
      · rw [e]; exact z
      · exact ih (by omega) w (by omega)
theorem cntP_pos {p : Nat → Prop} {n w : Nat} (hw : w < n) (h : p w) : 1 ≤ cntP p n := by
  rcases Nat.eq_zero_or_pos (cntP p n) with q | q
  · exact absurd h (cntP_zero q w hw)
  · exact q
/-- after 24 rounds all have left -/
theorem mA_cnt {R : RD} {A0 : Nat → Prop} {Q : Nat} (hR : RG R A0 Q) (r : Nat) : cntP (mA R A0 r) 24 ≤ 24 - r := by
  induction r with
  | zero => exact cntP_le _ _
  | succ r ih =>
    have hmA : ∀ w, mA R A0 r w → A0 w := fun w h => mA_0 h
    have e : cntP (mA R A0 r) 24 = cntP (mA R A0 (r + 1)) 24 + cntP (cyc R (mA R A0 r)) 24 := cntP_add (fun w _ => by
      constructor
      · intro h
        by_cases z : cyc R (mA R A0 r) w
        · exact Or.inr z
        · exact Or.inl ⟨h, z⟩
      · intro h
        rcases h with h | h
        · exact h.1
        · exact h.1) (fun w _ h => h.1.2 h.2)
    by_cases z : ∃ w, mA R A0 r w
    · obtain ⟨w, hw⟩ := z
      have lt : ∀ i, i ≤ 24 → itr (tt R (mA R A0 r)) i w < 24 := fun i _ => (hR.1 _ (hmA _ (itr_in hR hmA hw i))).1
      obtain ⟨d, d1, d2⟩ := itr_reach lt (Nat.le_refl 24)
      have := cntP_pos (p := cyc R (mA R A0 r)) (lt 24 (Nat.le_refl _)) ⟨itr_in hR hmA hw 24, d, d1, d2⟩
      omega
    · have : cntP (mA R A0 (r + 1)) 24 = 0 := by
        rcases Nat.eq_zero_or_pos (cntP (mA R A0 (r + 1)) 24) with q | q
        · exact q
        · exfalso
          have : cntP (mA R A0 (r + 1)) 24 = cntP (fun _ => False) 24 := cntP_congr (fun w _ => ⟨fun h => z ⟨w, h.1⟩, fun h => h.elim⟩)
          have h0 : ∀ n, cntP (fun _ => False) n = 0 := fun n => by
            induction n with
            | zero => rfl
            | succ n ih => rw [cntP, ih, pif_neg (fun x => x)]
          rw [h0] at this
          omega
      omega
theorem mA_all {R : RD} {A0 : Nat → Prop} {Q : Nat} (hR : RG R A0 Q) {w : Nat} (hw : A0 w) : ∃ r, r < 24 ∧ cyc R (mA R A0 r) w := by
  have h24 : ¬ mA R A0 24 w := cntP_zero (by have := mA_cnt hR 24 (A0 := A0); omega) w (hR.1 w hw).1
  have key : ∀ n, n ≤ 24 → mA R A0 n w ∨ ∃ r, r < n ∧ cyc R (mA R A0 r) w := fun n => by
    induction n with
    | zero => intro _; exact Or.inl hw
    | succ n ih =>
      intro hn
      rcases ih (by omega) with h | ⟨r, h1, h2⟩
      · by_cases z : cyc R (mA R A0 n) w
        · exact Or.inr ⟨n, by omega, z⟩
        · exact Or.inl ⟨h, z⟩
      · exact Or.inr ⟨r, by omega, h2⟩
  rcases key 24 (Nat.le_refl _) with h | h
  · exact absurd h h24
  · exact h
