/-! a text: bytes b, size t; runs of bytes, words, numbers, tokens -/
def isL (x : Nat) : Bool := decide (97 ≤ x ∧ x ≤ 122)
def isDg (x : Nat) : Bool := decide (48 ≤ x ∧ x ≤ 57)
def isBl (x : Nat) : Bool := decide (x = 32 ∨ x = 10)
theorem isL_iff (x : Nat) : isL x = true ↔ (97 ≤ x ∧ x ≤ 122) := decide_eq_true_iff
theorem isDg_iff (x : Nat) : isDg x = true ↔ (48 ≤ x ∧ x ≤ 57) := decide_eq_true_iff
theorem isBl_iff (x : Nat) : isBl x = true ↔ (x = 32 ∨ x = 10) := decide_eq_true_iff
def scf (q : Nat → Bool) (b : Nat → Nat) (t : Nat) : Nat → Nat → Nat
  | 0, i => i
  | f + 1, i => if i < t then (if q (b i) = true then scf q b t f (i + 1) else i) else i
def scn (q : Nat → Bool) (b : Nat → Nat) (t i : Nat) : Nat := scf q b t (t - i) i
theorem scn_end {q : Nat → Bool} {b : Nat → Nat} {t i : Nat} (h : ¬ i < t) : scn q b t i = i := by
  unfold scn
  rw [show t - i = 0 by omega]; rfl
theorem scn_stop {q : Nat → Bool} {b : Nat → Nat} {t i : Nat} (h : ¬ q (b i) = true) : scn q b t i = i := by
  unfold scn
  cases t - i with
  | zero => rfl
  | succ f =>
    rw [scf]
    by_cases z : i < t
    · rw [if_pos z, if_neg h]
    · rw [if_neg z]
theorem scn_go {q : Nat → Bool} {b : Nat → Nat} {t i : Nat} (h1 : i < t) (h : q (b i) = true) : scn q b t i = scn q b t (i + 1) := by
  unfold scn
  rw [show t - i = (t - (i + 1)) + 1 by omega, scf, if_pos h1, if_pos h]
theorem scf_spec {q : Nat → Bool} {b : Nat → Nat} {t : Nat} : ∀ f i, t - i = f → i ≤ scf q b t f i ∧ (i ≤ t → scf q b t f i ≤ t) ∧ (∀ j, i ≤ j → j < scf q b t f i → q (b j) = true) ∧ (scf q b t f i < t → ¬ q (b (scf q b t f i)) = true) := by
  intro f
  induction f with
  | zero => intro i h; rw [scf]; exact ⟨Nat.le_refl _, fun h => h, fun j h1 h2 => by omega, fun h => by omega⟩
  | succ f ih =>
    intro i h
    rw [scf, if_pos (show i < t by omega)]
    by_cases z : q (b i) = true
    · rw [if_pos z]
      obtain ⟨a, c, d, e⟩ := ih (i + 1) (by omega)
      refine ⟨by omega, fun _ => c (by omega), fun j h1 h2 => ?_, e⟩
      by_cases y : j = i
      · rw [y]; exact z
      · exact d j (by omega) h2
    · rw [if_neg z]
      exact ⟨Nat.le_refl _, fun h => h, fun j h1 h2 => by omega, fun _ => z⟩
theorem scn_spec (q : Nat → Bool) (b : Nat → Nat) (t i : Nat) : i ≤ scn q b t i ∧ (i ≤ t → scn q b t i ≤ t) ∧ (∀ j, i ≤ j → j < scn q b t i → q (b j) = true) ∧ (scn q b t i < t → ¬ q (b (scn q b t i)) = true) := scf_spec (t - i) i rfl
theorem scn_idem (q : Nat → Bool) (b : Nat → Nat) (t i : Nat) : scn q b t (scn q b t i) = scn q b t i := by
  by_cases h : scn q b t i < t
  · exact scn_stop ((scn_spec q b t i).2.2.2 h)
  · exact scn_end h
/-- the end of a number of at most f digits, and its value -/
def nde (b : Nat → Nat) (t : Nat) : Nat → Nat → Nat
  | 0, i => i
  | f + 1, i => if i < t then (if isDg (b i) = true then nde b t f (i + 1) else i) else i
def ndv (b : Nat → Nat) (t : Nat) : Nat → Nat → Int32 → Int32
  | 0, _, v => v
  | f + 1, i, v => if i < t then (if isDg (b i) = true then ndv b t f (i + 1) ((v * 10 + nI (b i)) - 48) else v) else v
theorem nde_spec {b : Nat → Nat} {t : Nat} : ∀ f i, i ≤ nde b t f i ∧ nde b t f i ≤ i + f ∧ (i ≤ t → nde b t f i ≤ t) ∧ ((nde b t f i < i + f) → nde b t f i < t → ¬ isDg (b (nde b t f i)) = true) := by
  intro f
  induction f with
  | zero => intro i; rw [nde]; exact ⟨Nat.le_refl _, Nat.le_refl _, fun h => h, fun h => by omega⟩
  | succ f ih =>
    intro i
    rw [nde]
    by_cases h : i < t
    · rw [if_pos h]
      by_cases z : isDg (b i) = true
      · rw [if_pos z]
        obtain ⟨a, c, d, e⟩ := ih (i + 1)
        exact ⟨by omega, by omega, fun _ => d (by omega), fun h1 h2 => e (by omega) h2⟩
      · rw [if_neg z]
        exact ⟨Nat.le_refl _, by omega, fun h => h, fun _ _ => z⟩
    · rw [if_neg h]
      exact ⟨Nat.le_refl _, by omega, fun h => h, fun _ h2 => absurd h2 h⟩
/-! words -/
def wlen (w : Nat) : Nat := ([5, 7, 6, 4, 5, 4, 4, 4, 4, 4, 3, 3, 2, 3] : List Nat).getD w 0
theorem wlen_b : ∀ w, w < 14 → 2 ≤ wlen w ∧ wlen w ≤ 7 := by decide
theorem wch_in : ∀ w, w < 14 → ∀ i, i < 7 → i < wlen w → ¬ wch (nI (8 * w + i)) = 32 := by decide
theorem wch_bl : ∀ w, w < 14 → wch (nI (8 * w + wlen w)) = 32 := by decide
theorem wch_ne : ∀ w, w < 14 → ∀ v, v < 14 → wlen w = wlen v → (∀ i, i < 7 → i < wlen w → wch (nI (8 * w + i)) = wch (nI (8 * v + i))) → w = v := by decide +kernel
def wle (b : Nat → Nat) (t p : Nat) : Nat := scn isL b t p - p
def mt (b : Nat → Nat) (t p w : Nat) : Prop := wle b t p = wlen w ∧ ∀ i, i < wlen w → nI (b (p + i)) = wch (nI (8 * w + i))
theorem mt_uniq {b : Nat → Nat} {t p w v : Nat} (hw : w < 14) (hv : v < 14) (h : mt b t p w) (h' : mt b t p v) : w = v := by
  have el : wlen w = wlen v := h.1.symm.trans h'.1
  exact wch_ne w hw v hv el (fun i _ hi => (h.2 i hi).symm.trans (h'.2 i (by omega)))
noncomputable def fm (b : Nat → Nat) (t p : Nat) : Nat → Nat → Nat
  | 0, _ => 18
  | c + 1, w => pif (mt b t p w) w (fm b t p c (w + 1))
theorem fm_spec {b : Nat → Nat} {t p : Nat} : ∀ c w, w + c = 14 → (∀ v, w ≤ v → v < 14 → (fm b t p c w = v ↔ mt b t p v)) ∧ ((fm b t p c w = 18) ∨ (w ≤ fm b t p c w ∧ fm b t p c w < 14)) := by
  intro c
  induction c with
  | zero => intro w h; exact ⟨fun v h1 h2 => by omega, Or.inl rfl⟩
  | succ c ih =>
    intro w h
    obtain ⟨a, d⟩ := ih (w + 1) (by omega)
    rw [fm]
    by_cases z : mt b t p w
    · rw [pif_pos z]
      exact ⟨fun v h1 h2 => ⟨fun e => by rw [← e]; exact z, fun y => mt_uniq (by omega) h2 z y⟩, Or.inr ⟨Nat.le_refl _, by omega⟩⟩
    · rw [pif_neg z]
      refine ⟨fun v h1 h2 => ?_, ?_⟩
      · by_cases e : v = w
        · rw [e]
          refine ⟨fun y => ?_, fun y => absurd y z⟩
          rcases d with d | d <;> omega
        · exact a v (by omega) h2
      · rcases d with d | d
        · exact Or.inl d
        · exact Or.inr ⟨by omega, d.2⟩
/-- the token at p: its code, its value, its end -/
noncomputable def cd (b : Nat → Nat) (t p : Nat) : Nat := if p < t then (if isL (b p) = true then (if wle b t p = 1 ∧ b p ≤ 104 then 14 else fm b t p 14 0) else if isDg (b p) = true then 15 else if b p = 60 ∨ b p = 61 ∨ b p = 62 then 16 else if b p = 59 then 17 else 18) else 19
def vl (b : Nat → Nat) (t p : Nat) : Int32 := if isL (b p) = true then (if wle b t p = 1 ∧ b p ≤ 104 then nI (b p) - 97 else 0) else if isDg (b p) = true then ndv b t 7 p 0 else if b p = 60 then -1 else if b p = 62 then 1 else 0
def en (b : Nat → Nat) (t p : Nat) : Nat := if isL (b p) = true then scn isL b t p else if isDg (b p) = true then nde b t 7 p else p + 1
theorem wle_0 {b : Nat → Nat} {t p : Nat} (h : ¬ p < t ∨ ¬ isL (b p) = true) : wle b t p = 0 := by
  unfold wle
  rcases h with h | h
  · rw [scn_end h]; omega
  · rw [scn_stop h]; omega
theorem cd_word {b : Nat → Nat} {t p w : Nat} (hw : w < 14) : cd b t p = w ↔ mt b t p w := by
  have hb := wlen_b w hw
  unfold cd
  by_cases h : p < t
  · rw [if_pos h]
    by_cases l : isL (b p) = true
    · rw [if_pos l]
      by_cases z : wle b t p = 1 ∧ b p ≤ 104
      · rw [if_pos z]
        exact ⟨fun e => by omega, fun y => by have := y.1; omega⟩
      · rw [if_neg z]
        exact (fm_spec 14 0 rfl).1 w (by omega) hw
    · rw [if_neg l]
      have e0 := wle_0 (t := t) (Or.inr l)
      refine ⟨fun e => ?_, fun y => by have := y.1; omega⟩
      split at e
      · omega
      · split at e
        · omega
        · split at e <;> omega
  · rw [if_neg h]
    have e0 := wle_0 (b := b) (Or.inl h)
    exact ⟨fun e => by omega, fun y => by have := y.1; omega⟩
theorem cd_19 {b : Nat → Nat} {t p : Nat} : cd b t p = 19 ↔ ¬ p < t := by
  unfold cd
  by_cases h : p < t
  · rw [if_pos h]
    refine ⟨fun e => ?_, fun y => absurd h y⟩
    split at e
    · split at e
      · omega
      · rcases (fm_spec (b := b) (t := t) (p := p) 14 0 rfl).2 with d | d <;> omega
    · split at e
      · omega
      · split at e
        · omega
        · split at e <;> omega
  · rw [if_neg h]; exact ⟨fun _ => h, fun _ => rfl⟩
theorem cd_14 {b : Nat → Nat} {t p : Nat} : cd b t p = 14 ↔ (wle b t p = 1 ∧ b p ≤ 104) := by
  unfold cd
  by_cases h : p < t
  · rw [if_pos h]
    by_cases l : isL (b p) = true
    · rw [if_pos l]
      by_cases z : wle b t p = 1 ∧ b p ≤ 104
      · rw [if_pos z]; exact ⟨fun _ => z, fun _ => rfl⟩
      · rw [if_neg z]
        refine ⟨fun e => ?_, fun y => absurd y z⟩
        rcases (fm_spec (b := b) (t := t) (p := p) 14 0 rfl).2 with d | d <;> omega
    · rw [if_neg l]
      have e0 := wle_0 (t := t) (Or.inr l)
      refine ⟨fun e => ?_, fun y => by omega⟩
      split at e
      · omega
      · split at e
        · omega
        · split at e <;> omega
  · rw [if_neg h]
    have e0 := wle_0 (b := b) (Or.inl h)
    exact ⟨fun e => by omega, fun y => by omega⟩
theorem cd_15 {b : Nat → Nat} {t p : Nat} : cd b t p = 15 ↔ (p < t ∧ isDg (b p) = true) := by
  unfold cd
  by_cases h : p < t
  · rw [if_pos h]
    by_cases l : isL (b p) = true
    · rw [if_pos l]
      have l' := (isL_iff _).mp l
      refine ⟨fun e => ?_, fun y => by have := (isDg_iff _).mp y.2; omega⟩
      split at e
      · omega
      · rcases (fm_spec (b := b) (t := t) (p := p) 14 0 rfl).2 with d | d <;> omega
    · rw [if_neg l]
      by_cases z : isDg (b p) = true
      · rw [if_pos z]; exact ⟨fun _ => ⟨h, z⟩, fun _ => rfl⟩
      · rw [if_neg z]
        refine ⟨fun e => ?_, fun y => absurd y.2 z⟩
        split at e
        · omega
        · split at e <;> omega
  · rw [if_neg h]; exact ⟨fun e => by omega, fun y => absurd y.1 h⟩
theorem cd_16 {b : Nat → Nat} {t p : Nat} : cd b t p = 16 ↔ (p < t ∧ (b p = 60 ∨ b p = 61 ∨ b p = 62)) := by
  unfold cd
  by_cases h : p < t
  · rw [if_pos h]
    by_cases l : isL (b p) = true
    · rw [if_pos l]
      have l' := (isL_iff _).mp l
      refine ⟨fun e => ?_, fun y => by omega⟩
      split at e
      · omega
      · rcases (fm_spec (b := b) (t := t) (p := p) 14 0 rfl).2 with d | d <;> omega
    · rw [if_neg l]
      by_cases z : isDg (b p) = true
      · rw [if_pos z]
        have := (isDg_iff _).mp z
        exact ⟨fun e => by omega, fun y => by omega⟩
      · rw [if_neg z]
        by_cases y : b p = 60 ∨ b p = 61 ∨ b p = 62
        · rw [if_pos y]; exact ⟨fun _ => ⟨h, y⟩, fun _ => rfl⟩
        · rw [if_neg y]
          refine ⟨fun e => ?_, fun x => absurd x.2 y⟩
          split at e <;> omega
  · rw [if_neg h]; exact ⟨fun e => by omega, fun y => absurd y.1 h⟩
theorem cd_17 {b : Nat → Nat} {t p : Nat} : cd b t p = 17 ↔ (p < t ∧ b p = 59) := by
  unfold cd
  by_cases h : p < t
  · rw [if_pos h]
    by_cases l : isL (b p) = true
    · rw [if_pos l]
      have l' := (isL_iff _).mp l
      refine ⟨fun e => ?_, fun y => by omega⟩
      split at e
      · omega
      · rcases (fm_spec (b := b) (t := t) (p := p) 14 0 rfl).2 with d | d <;> omega
    · rw [if_neg l]
      by_cases z : isDg (b p) = true
      · rw [if_pos z]
        have := (isDg_iff _).mp z
        exact ⟨fun e => by omega, fun y => by omega⟩
      · rw [if_neg z]
        by_cases y : b p = 60 ∨ b p = 61 ∨ b p = 62
        · rw [if_pos y]; exact ⟨fun e => by omega, fun x => by omega⟩
        · rw [if_neg y]
          by_cases x : b p = 59
          · rw [if_pos x]; exact ⟨fun _ => ⟨h, x⟩, fun _ => rfl⟩
          · rw [if_neg x]; exact ⟨fun e => by omega, fun v => absurd v.2 x⟩
  · rw [if_neg h]; exact ⟨fun e => by omega, fun y => absurd y.1 h⟩
theorem cd_le {b : Nat → Nat} {t p : Nat} : cd b t p ≤ 19 := by
  unfold cd
  split
  · split
    · split
      · omega
      · rcases (fm_spec (b := b) (t := t) (p := p) 14 0 rfl).2 with d | d <;> omega
    · split
      · omega
      · split
        · omega
        · split <;> omega
  · omega
theorem en_gt {b : Nat → Nat} {t p : Nat} (h : p < t) : p < en b t p ∧ en b t p ≤ t := by
  unfold en
  split
  · rename_i l
    rw [scn_go h l]
    have := scn_spec isL b t (p + 1)
    exact ⟨by omega, this.2.1 (by omega)⟩
  · split
    · rename_i l z
      rw [nde, if_pos h, if_pos z]
      have := nde_spec (b := b) (t := t) 6 (p + 1)
      exact ⟨by omega, this.2.2.1 (by omega)⟩
    · omega
theorem en_word {b : Nat → Nat} {t p w : Nat} (hw : w < 14) (h : mt b t p w) : p < t ∧ en b t p = p + wlen w := by
  have hb := wlen_b w hw
  by_cases l : p < t ∧ isL (b p) = true
  · refine ⟨l.1, ?_⟩
    unfold en
    rw [if_pos l.2]
    have := (scn_spec isL b t p).1
    have h1 := h.1
    unfold wle at h1
    omega
  · exfalso
    have h1 := h.1
    rw [wle_0 (by by_cases z : p < t; exact Or.inr (fun y => l ⟨z, y⟩); exact Or.inl z)] at h1
    omega
/-- the tokens' places -/
def tkp (b : Nat → Nat) (t : Nat) : Nat → Nat
  | 0 => scn isBl b t 0
  | k + 1 => if tkp b t k < t then scn isBl b t (en b t (tkp b t k)) else tkp b t k
theorem tkp_le (b : Nat → Nat) (t k : Nat) : tkp b t k ≤ t := by
  induction k with
  | zero => exact (scn_spec isBl b t 0).2.1 (Nat.zero_le _)
  | succ k ih =>
    rw [tkp]
    split
    · rename_i h
      exact (scn_spec isBl b t _).2.1 (en_gt (b := b) h).2
    · exact ih
theorem tkp_lt {b : Nat → Nat} {t k : Nat} (h : tkp b t k < t) : tkp b t k < tkp b t (k + 1) := by
  rw [tkp, if_pos h]
  have := (scn_spec isBl b t (en b t (tkp b t k))).1
  have := (en_gt (b := b) h).1
  omega
theorem tkp_ge {b : Nat → Nat} {t : Nat} (k : Nat) (h : ∀ j, j < k → tkp b t j < t) : k ≤ tkp b t k := by
  induction k with
  | zero => exact Nat.zero_le _
  | succ k ih =>
    have := ih (fun j hj => h j (by omega))
    have := tkp_lt (h k (by omega))
    omega
theorem tkp_idem (b : Nat → Nat) (t k : Nat) : scn isBl b t (tkp b t k) = tkp b t k := by
  induction k with
  | zero => exact scn_idem _ _ _ _
  | succ k ih =>
    rw [tkp]
    split
    · exact scn_idem _ _ _ _
    · exact ih
/-- how many tokens -/
theorem tkp_N (b : Nat → Nat) (t : Nat) : ∃ N, N ≤ t ∧ tkp b t N = t ∧ ∀ k, k < N → tkp b t k < t := by
  have ex : ∃ n, ¬ tkp b t n < t := by
    by_cases z : ∃ n, ¬ tkp b t n < t
    · exact z
    · exfalso
      have := tkp_ge (b := b) (t := t) (t + 1) (fun j _ => by
        by_cases y : tkp b t j < t
        · exact y
        · exact absurd ⟨j, y⟩ z)
      have := tkp_le b t (t + 1)
      omega
  obtain ⟨N, h1, h2⟩ := least ex
  have hlt : ∀ k, k < N → tkp b t k < t := fun k hk => by
    by_cases y : tkp b t k < t
    · exact y
    · exact absurd y (h2 k hk)
  have := tkp_le b t N
  have := tkp_ge N hlt
  exact ⟨N, by omega, by omega, hlt⟩
