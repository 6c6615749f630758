/-! the class's course: its beginning, the news in order -/
theorem fi_52 : ∀ (f i : Nat) (v : Int32) (S : AS), i ≤ 24 → 24 - i < f → ∃ T, (∀ J : AS → Option AS, f_Arrays_fill_i_52_L5 J v 24 f (nI i) S = J T) ∧ fr (fun c k => c = 52 ∧ i ≤ k) S T ∧ ∀ k, i ≤ k → k < 24 → gi T 52 k = v := by
  intro f
  induction f with
  | zero => intro i v S _ h; omega
  | succ f ih =>
    intro i v S hi hf
    have e24 : (24 : Int32) = nI 24 := rfl
    rcases Nat.lt_or_ge i 24 with q | q
    · obtain ⟨T, t1, t2, t3⟩ := ih (i + 1) v (si S 52 i v) (by omega) (by omega)
      refine ⟨T, fun J => ?_, (fr.si (fr_rf _ S) ⟨rfl, Nat.le_refl _⟩).tr (t2.mono (fun c k h => ⟨h.1, by omega⟩)), fun p p1 p2 => ?_⟩
      · rw [f_Arrays_fill_i_52_L5, e24, if_neg (nI_ge q (by omega)), chk_pos (in_nI (by omega) (by decide)), ix_nI (by omega)]
        simp only [nm_eq]
        rw [nI_1, ← e24]; exact t1 J
      · rcases Nat.lt_or_ge i p with z | z
        · exact t3 p (by omega) p2
        · have e : p = i := by omega
          subst e
          rw [t2.2.1 52 p (by omega), gi_si, if_pos ⟨rfl, rfl⟩]
    · refine ⟨S, fun J => ?_, fr_rf _ _, fun p p1 p2 => by omega⟩
      rw [f_Arrays_fill_i_52_L5, e24, if_pos (nI_le q (by omega))]
theorem fill_52 (v : Int32) (S : AS) : ∃ T, f_Arrays_fill_i_52 v S = some T ∧ fr (fun c k => c = 52) S T ∧ ∀ k, k < 24 → gi T 52 k = v := by
  obtain ⟨T, t1, t2, t3⟩ := fi_52 FU 0 v S (by omega) (by rw [FU_succ]; omega)
  rw [nI_0] at t1
  refine ⟨T, ?_, t2.mono (fun c k h => h.1), fun k hk => t3 k (by omega) hk⟩
  unfold f_Arrays_fill_i_52
  simp only [nm_k]
  exact t1 _
theorem fi_56 : ∀ (f i : Nat) (v : Int32) (S : AS), i ≤ 48 → 48 - i < f → ∃ T, (∀ J : AS → Option AS, f_Arrays_fill_i_56_L5 J v 48 f (nI i) S = J T) ∧ fr (fun c k => c = 56 ∧ i ≤ k) S T ∧ ∀ k, i ≤ k → k < 48 → gi T 56 k = v := by
  intro f
  induction f with
  | zero => intro i v S _ h; omega
  | succ f ih =>
    intro i v S hi hf
    have e24 : (48 : Int32) = nI 48 := rfl
    rcases Nat.lt_or_ge i 48 with q | q
    · obtain ⟨T, t1, t2, t3⟩ := ih (i + 1) v (si S 56 i v) (by omega) (by omega)
      refine ⟨T, fun J => ?_, (fr.si (fr_rf _ S) ⟨rfl, Nat.le_refl _⟩).tr (t2.mono (fun c k h => ⟨h.1, by omega⟩)), fun p p1 p2 => ?_⟩
      · rw [f_Arrays_fill_i_56_L5, e24, if_neg (nI_ge q (by omega)), chk_pos (in_nI (by omega) (by decide)), ix_nI (by omega)]
        simp only [nm_eq]
        rw [nI_1, ← e24]; exact t1 J
      · rcases Nat.lt_or_ge i p with z | z
        · exact t3 p (by omega) p2
        · have e : p = i := by omega
          subst e
          rw [t2.2.1 56 p (by omega), gi_si, if_pos ⟨rfl, rfl⟩]
    · refine ⟨S, fun J => ?_, fr_rf _ _, fun p p1 p2 => by omega⟩
      rw [f_Arrays_fill_i_56_L5, e24, if_pos (nI_le q (by omega))]
theorem fill_56 (v : Int32) (S : AS) : ∃ T, f_Arrays_fill_i_56 v S = some T ∧ fr (fun c k => c = 56) S T ∧ ∀ k, k < 48 → gi T 56 k = v := by
  obtain ⟨T, t1, t2, t3⟩ := fi_56 FU 0 v S (by omega) (by rw [FU_succ]; omega)
  rw [nI_0] at t1
  refine ⟨T, ?_, t2.mono (fun c k h => h.1), fun k hk => t3 k (by omega) hk⟩
  unfold f_Arrays_fill_i_56
  simp only [nm_k]
  exact t1 _
theorem fi_57 : ∀ (f i : Nat) (v : Int32) (S : AS), i ≤ 48 → 48 - i < f → ∃ T, (∀ J : AS → Option AS, f_Arrays_fill_i_57_L5 J v 48 f (nI i) S = J T) ∧ fr (fun c k => c = 57 ∧ i ≤ k) S T ∧ ∀ k, i ≤ k → k < 48 → gi T 57 k = v := by
  intro f
  induction f with
  | zero => intro i v S _ h; omega
  | succ f ih =>
    intro i v S hi hf
    have e24 : (48 : Int32) = nI 48 := rfl
    rcases Nat.lt_or_ge i 48 with q | q
    · obtain ⟨T, t1, t2, t3⟩ := ih (i + 1) v (si S 57 i v) (by omega) (by omega)
      refine ⟨T, fun J => ?_, (fr.si (fr_rf _ S) ⟨rfl, Nat.le_refl _⟩).tr (t2.mono (fun c k h => ⟨h.1, by omega⟩)), fun p p1 p2 => ?_⟩
      · rw [f_Arrays_fill_i_57_L5, e24, if_neg (nI_ge q (by omega)), chk_pos (in_nI (by omega) (by decide)), ix_nI (by omega)]
        simp only [nm_eq]
        rw [nI_1, ← e24]; exact t1 J
      · rcases Nat.lt_or_ge i p with z | z
        · exact t3 p (by omega) p2
        · have e : p = i := by omega
          subst e
          rw [t2.2.1 57 p (by omega), gi_si, if_pos ⟨rfl, rfl⟩]
    · refine ⟨S, fun J => ?_, fr_rf _ _, fun p p1 p2 => by omega⟩
      rw [f_Arrays_fill_i_57_L5, e24, if_pos (nI_le q (by omega))]
theorem fill_57 (v : Int32) (S : AS) : ∃ T, f_Arrays_fill_i_57 v S = some T ∧ fr (fun c k => c = 57) S T ∧ ∀ k, k < 48 → gi T 57 k = v := by
  obtain ⟨T, t1, t2, t3⟩ := fi_57 FU 0 v S (by omega) (by rw [FU_succ]; omega)
  rw [nI_0] at t1
  refine ⟨T, ?_, t2.mono (fun c k h => h.1), fun k hk => t3 k (by omega) hk⟩
  unfold f_Arrays_fill_i_57
  simp only [nm_k]
  exact t1 _
theorem fi_68 : ∀ (f i : Nat) (v : Int32) (S : AS), i ≤ 24 → 24 - i < f → ∃ T, (∀ J : AS → Option AS, f_Arrays_fill_i_68_L5 J v 24 f (nI i) S = J T) ∧ fr (fun c k => c = 68 ∧ i ≤ k) S T ∧ ∀ k, i ≤ k → k < 24 → gi T 68 k = v := by
  intro f
  induction f with
  | zero => intro i v S _ h; omega
  | succ f ih =>
    intro i v S hi hf
    have e24 : (24 : Int32) = nI 24 := rfl
    rcases Nat.lt_or_ge i 24 with q | q
    · obtain ⟨T, t1, t2, t3⟩ := ih (i + 1) v (si S 68 i v) (by omega) (by omega)
      refine ⟨T, fun J => ?_, (fr.si (fr_rf _ S) ⟨rfl, Nat.le_refl _⟩).tr (t2.mono (fun c k h => ⟨h.1, by omega⟩)), fun p p1 p2 => ?_⟩
      · rw [f_Arrays_fill_i_68_L5, e24, if_neg (nI_ge q (by omega)), chk_pos (in_nI (by omega) (by decide)), ix_nI (by omega)]
        simp only [nm_eq]
        rw [nI_1, ← e24]; exact t1 J
      · rcases Nat.lt_or_ge i p with z | z
        · exact t3 p (by omega) p2
        · have e : p = i := by omega
          subst e
          rw [t2.2.1 68 p (by omega), gi_si, if_pos ⟨rfl, rfl⟩]
    · refine ⟨S, fun J => ?_, fr_rf _ _, fun p p1 p2 => by omega⟩
      rw [f_Arrays_fill_i_68_L5, e24, if_pos (nI_le q (by omega))]
theorem fill_68 (v : Int32) (S : AS) : ∃ T, f_Arrays_fill_i_68 v S = some T ∧ fr (fun c k => c = 68) S T ∧ ∀ k, k < 24 → gi T 68 k = v := by
  obtain ⟨T, t1, t2, t3⟩ := fi_68 FU 0 v S (by omega) (by rw [FU_succ]; omega)
  rw [nI_0] at t1
  refine ⟨T, ?_, t2.mono (fun c k h => h.1), fun k hk => t3 k (by omega) hk⟩
  unfold f_Arrays_fill_i_68
  simp only [nm_k]
  exact t1 _
theorem fi_66 : ∀ (f i : Nat) (v : Int32) (S : AS), i ≤ 24 → 24 - i < f → ∃ T, (∀ J : AS → Option AS, f_Arrays_fill_i_66_L5 J v 24 f (nI i) S = J T) ∧ fr (fun c k => c = 66 ∧ i ≤ k) S T ∧ ∀ k, i ≤ k → k < 24 → gi T 66 k = v := by
  intro f
  induction f with
  | zero => intro i v S _ h; omega
  | succ f ih =>
    intro i v S hi hf
    have e24 : (24 : Int32) = nI 24 := rfl
    rcases Nat.lt_or_ge i 24 with q | q
    · obtain ⟨T, t1, t2, t3⟩ := ih (i + 1) v (si S 66 i v) (by omega) (by omega)
      refine ⟨T, fun J => ?_, (fr.si (fr_rf _ S) ⟨rfl, Nat.le_refl _⟩).tr (t2.mono (fun c k h => ⟨h.1, by omega⟩)), fun p p1 p2 => ?_⟩
      · rw [f_Arrays_fill_i_66_L5, e24, if_neg (nI_ge q (by omega)), chk_pos (in_nI (by omega) (by decide)), ix_nI (by omega)]
        simp only [nm_eq]
        rw [nI_1, ← e24]; exact t1 J
      · rcases Nat.lt_or_ge i p with z | z
        · exact t3 p (by omega) p2
        · have e : p = i := by omega
          subst e
          rw [t2.2.1 66 p (by omega), gi_si, if_pos ⟨rfl, rfl⟩]
    · refine ⟨S, fun J => ?_, fr_rf _ _, fun p p1 p2 => by omega⟩
      rw [f_Arrays_fill_i_66_L5, e24, if_pos (nI_le q (by omega))]
theorem fill_66 (v : Int32) (S : AS) : ∃ T, f_Arrays_fill_i_66 v S = some T ∧ fr (fun c k => c = 66) S T ∧ ∀ k, k < 24 → gi T 66 k = v := by
  obtain ⟨T, t1, t2, t3⟩ := fi_66 FU 0 v S (by omega) (by rw [FU_succ]; omega)
  rw [nI_0] at t1
  refine ⟨T, ?_, t2.mono (fun c k h => h.1), fun k hk => t3 k (by omega) hk⟩
  unfold f_Arrays_fill_i_66
  simp only [nm_k]
  exact t1 _
theorem fi_53 : ∀ (f i : Nat) (v : Int64) (S : AS), i ≤ 24 → 24 - i < f → ∃ T, (∀ J : AS → Option AS, f_Arrays_fill_l_53_L6 J v 24 f (nI i) S = J T) ∧ fr (fun c k => c = 53 ∧ i ≤ k) S T ∧ ∀ k, i ≤ k → k < 24 → gl T 53 k = v := by
  intro f
  induction f with
  | zero => intro i v S _ h; omega
  | succ f ih =>
    intro i v S hi hf
    have e24 : (24 : Int32) = nI 24 := rfl
    rcases Nat.lt_or_ge i 24 with q | q
    · obtain ⟨T, t1, t2, t3⟩ := ih (i + 1) v (sl S 53 i v) (by omega) (by omega)
      refine ⟨T, fun J => ?_, (fr.sl (fr_rf _ S) ⟨rfl, Nat.le_refl _⟩).tr (t2.mono (fun c k h => ⟨h.1, by omega⟩)), fun p p1 p2 => ?_⟩
      · rw [f_Arrays_fill_l_53_L6, e24, if_neg (nI_ge q (by omega)), chk_pos (in_nI (by omega) (by decide)), ix_nI (by omega)]
        simp only [nm_eq]
        rw [nI_1, ← e24]; exact t1 J
      · rcases Nat.lt_or_ge i p with z | z
        · exact t3 p (by omega) p2
        · have e : p = i := by omega
          subst e
          rw [t2.2.2.1 53 p (by omega), gl_sl, if_pos ⟨rfl, rfl⟩]
    · refine ⟨S, fun J => ?_, fr_rf _ _, fun p p1 p2 => by omega⟩
      rw [f_Arrays_fill_l_53_L6, e24, if_pos (nI_le q (by omega))]
theorem fill_53 (v : Int64) (S : AS) : ∃ T, f_Arrays_fill_l_53 v S = some T ∧ fr (fun c k => c = 53) S T ∧ ∀ k, k < 24 → gl T 53 k = v := by
  obtain ⟨T, t1, t2, t3⟩ := fi_53 FU 0 v S (by omega) (by rw [FU_succ]; omega)
  rw [nI_0] at t1
  refine ⟨T, ?_, t2.mono (fun c k h => h.1), fun k hk => t3 k (by omega) hk⟩
  unfold f_Arrays_fill_l_53
  simp only [nm_k]
  exact t1 _
theorem bg_L34 : ∀ (f i : Nat) (S : AS), i ≤ 24 → 24 - i < f → ∃ T, (∀ J : AS → Option AS, f_Course_begin_L34 J f (nI i) S = J T) ∧ fr (fun c k => c = 54 ∧ i ≤ k) S T ∧ ∀ k, i ≤ k → k < 24 → gi T 54 k = 0 := by
  intro f
  induction f with
  | zero => intro i S _ h; omega
  | succ f ih =>
    intro i S hi hf
    have e24 : (24 : Int32) = nI 24 := rfl
    rcases Nat.lt_or_ge i 24 with q | q
    · obtain ⟨T, t1, t2, t3⟩ := ih (i + 1) (si S 54 i 0) (by omega) (by omega)
      refine ⟨T, fun J => ?_, (fr.si (fr_rf _ S) ⟨rfl, Nat.le_refl _⟩).tr (t2.mono (fun c k h => ⟨h.1, by omega⟩)), fun p p1 p2 => ?_⟩
      · rw [f_Course_begin_L34, e24, if_neg (nI_ge q (by omega)), chk_pos (in_nI (by omega) (by decide)), ix_nI (by omega)]
        simp only [nm_eq]
        rw [nI_1, show vp_nar .boolean 0 = 0 from rfl]; exact t1 J
      · rcases Nat.lt_or_ge i p with z | z
        · exact t3 p (by omega) p2
        · have e : p = i := by omega
          subst e
          rw [t2.2.1 54 p (by omega), gi_si, if_pos ⟨rfl, rfl⟩]
    · refine ⟨S, fun J => ?_, fr_rf _ _, fun p p1 p2 => by omega⟩
      rw [f_Course_begin_L34, e24, if_pos (nI_le q (by omega))]
theorem bg_L55 : ∀ (f i : Nat) (S : AS), i ≤ 48 → 48 - i < f → ∃ T, (∀ J : AS → Option AS, f_Course_begin_L55 J f (nI i) S = J T) ∧ fr (fun c k => c = 55 ∧ i ≤ k) S T ∧ ∀ k, i ≤ k → k < 48 → gi T 55 k = 0 := by
  intro f
  induction f with
  | zero => intro i S _ h; omega
  | succ f ih =>
    intro i S hi hf
    have e24 : (48 : Int32) = nI 48 := rfl
    rcases Nat.lt_or_ge i 48 with q | q
    · obtain ⟨T, t1, t2, t3⟩ := ih (i + 1) (si S 55 i 0) (by omega) (by omega)
      refine ⟨T, fun J => ?_, (fr.si (fr_rf _ S) ⟨rfl, Nat.le_refl _⟩).tr (t2.mono (fun c k h => ⟨h.1, by omega⟩)), fun p p1 p2 => ?_⟩
      · rw [f_Course_begin_L55, e24, if_neg (nI_ge q (by omega)), chk_pos (in_nI (by omega) (by decide)), ix_nI (by omega)]
        simp only [nm_eq]
        rw [nI_1, show vp_nar .boolean 0 = 0 from rfl]; exact t1 J
      · rcases Nat.lt_or_ge i p with z | z
        · exact t3 p (by omega) p2
        · have e : p = i := by omega
          subst e
          rw [t2.2.1 55 p (by omega), gi_si, if_pos ⟨rfl, rfl⟩]
    · refine ⟨S, fun J => ?_, fr_rf _ _, fun p p1 p2 => by omega⟩
      rw [f_Course_begin_L55, e24, if_pos (nI_le q (by omega))]
def mxi (D : DT) (i : Nat) : AS := (0, fun c k => if c = 85 then (if k < i ∧ k < mQ D then D 73 (3 * k + 2) else -1) else 0, fun _ _ => 0, fun _ _ => none)
theorem mxi_gi (D : DT) (i k : Nat) : gi (mxi D i) 85 k = if k < i ∧ k < mQ D then D 73 (3 * k + 2) else -1 := by
  show (if (85 : Nat) = 85 then (if k < i ∧ k < mQ D then D 73 (3 * k + 2) else -1) else 0) = _
  rw [if_pos rfl]
theorem mini_gi85 (D : DT) (k : Nat) : gi (mini D) 85 k = if k < mQ D then D 73 (3 * k + 2) else -1 := by
  show (if (85 : Nat) = 85 then (if k < mQ D then D 73 (3 * k + 2) else -1) else if (85 : Nat) = 89 ∨ (85 : Nat) = 90 then -1 else 0) = _
  rw [if_pos rfl]
theorem bg_L76 {D : DT} {W kn : Nat → Prop} {P K : Nat} (hd : DOK D W kn) : ∀ (f i : Nat) (T : AS), i ≤ 16 → 16 - i < f → CSt T D W kn P K → (∀ w, w < 24 → gi T 52 w = nI (mcnt (mxi D i) (nI w) (mQ D))) → (∀ p, p < i → p < mQ D → gi T 50 p = D 73 (3 * p + 2) ∧ gi T 51 p = 0) → ∃ T', (∀ J : AS → Option AS, f_Course_begin_L76 J f (nI i) T = J T') ∧ fr (fun c k => c = 50 ∨ c = 51 ∨ c = 52) T T' ∧ (∀ w, w < 24 → gi T' 52 w = nI (mcnt (mini D) (nI w) (mQ D))) ∧ (∀ p, p < mQ D → gi T' 50 p = D 73 (3 * p + 2) ∧ gi T' 51 p = 0) := by
  have hQ := hd.1
  intro f
  induction f with
  | zero => intro i T _ h; omega
  | succ f ih =>
    intro i T hi hf hs h52 h50
    have e16 : (16 : Int32) = nI 16 := rfl
    rcases Nat.lt_or_ge i 16 with q | q
    · have hin : vp_in (nI i) 16 := in_nI q (by decide)
      have f9 : fr (fun c k => c = 50 ∨ c = 51 ∨ c = 52) T (si (si T 50 i (-1)) 51 i 0) := ((fr_rf _ T).si (Or.inl rfl)).si (Or.inr (Or.inl rfl))
      have hs9 : CSt (si (si T 50 i (-1)) 51 i 0) D W kn P K := hs.mv (f9.mono (fun c k h => by unfold pC0; omega))
      have hold : ∀ p, p < i → p < mQ D → gi (si (si T 50 i (-1)) 51 i 0) 50 p = D 73 (3 * p + 2) ∧ gi (si (si T 50 i (-1)) 51 i 0) 51 p = 0 := fun p p1 p2 => by
        rw [gi_si, if_neg (by omega), gi_si, if_neg (by omega), gi_si, if_neg (by omega), gi_si, if_neg (by omega)]; exact h50 p p1 p2
      have h529 : ∀ w, w < 24 → gi (si (si T 50 i (-1)) 51 i 0) 52 w = nI (mcnt (mxi D i) (nI w) (mQ D)) := fun w hw => by
        rw [gi_ne (by decide), gi_ne (by decide)]; exact h52 w hw
      have e50 : gi (si (si T 50 i (-1)) 51 i 0) 50 i = -1 := by rw [gi_ne (by decide), gi_si, if_pos ⟨rfl, rfl⟩]
      have e51 : gi (si (si T 50 i (-1)) 51 i 0) 51 i = 0 := by rw [gi_si, if_pos ⟨rfl, rfl⟩]
      have unf : ∀ J : AS → Option AS, f_Course_begin_L76 J (f + 1) (nI i) T = if gi (si (si T 50 i (-1)) 51 i 0) 16 7 ≤ nI i then f_Course_begin_L76 J f (nI (i + 1)) (si (si T 50 i (-1)) 51 i 0) else bV (f_Course_place (nI i) (gi (si (si T 50 i (-1)) 51 i 0) 22 i) (si (si T 50 i (-1)) 51 i 0)) (fun S11 => f_Course_begin_L76 J f (nI (i + 1)) S11) := fun J => by
        rw [f_Course_begin_L76, e16, if_neg (nI_ge q (by omega))]
        simp only [nm_eq]
        rw [chk_pos hin, chk_pos hin, chk_pos hin, ix_nI (by omega), nI_1]
      generalize si (si T 50 i (-1)) 51 i 0 = S9 at f9 hs9 hold h529 e50 e51 unf
      have h7 : gi S9 16 7 = nI (mQ D) := hs9.2.2.1
      rcases Nat.lt_or_ge i (mQ D) with z | z
      · have hsd := (hd.2.2.1 i z).2.2
        have hv : hw24 (D 73 (3 * i + 2)) := by
          rcases hsd with y | ⟨w, y1, y2⟩
          · exact Or.inl y
          · exact Or.inr ⟨w, (hd.2.2.2.1 w y1).1, y2⟩
        have ex : gi (mxi D i) 85 i = -1 := by rw [mxi_gi, if_neg (by omega)]
        obtain ⟨S', p1, p2, p3, p4⟩ := cl_place (S := S9) (X := mxi D i) (v := D 73 (3 * i + 2)) hQ z (Or.inl ex) hv (by rw [e50, ex]) h529
        obtain ⟨T', g1, g2, g3, g4⟩ := ih (i + 1) S' (by omega) (by omega) (hs9.mv (p2.mono (fun c k h => by unfold pC0; omega))) (fun w hw => by
          rw [p4 w hw]
          congr 1
          exact mcnt_congr (fun p hp => by
            rw [gi_si, mxi_gi, mxi_gi]
            by_cases e : p = i
            · subst e
              simp [hp]
            · have e3 : (p < i + 1 ∧ p < mQ D) ↔ (p < i ∧ p < mQ D) := ⟨fun h => by omega, fun h => by omega⟩
              simp [e, e3])) (fun p y1 y2 => by
          by_cases e : p = i
          · subst e
            rw [p3, p2.2.1 51 p (by omega)]; exact ⟨rfl, e51⟩
          · rw [p2.2.1 50 p (by omega), p2.2.1 51 p (by omega)]; exact hold p (by omega) y2)
        refine ⟨T', fun J => ?_, f9.tr ((p2.mono (fun c k h => by omega)).tr g2), g3, g4⟩
        rw [unf, h7, if_neg (nI_ge z (by omega)), (hs9.2.2.2.2.1 i z).2.2, p1, bV_eq]; exact g1 J
      · obtain ⟨T', g1, g2, g3, g4⟩ := ih (i + 1) S9 (by omega) (by omega) hs9 (fun w hw => by
          rw [h529 w hw]
          congr 1
          exact mcnt_congr (fun p hp => by
            rw [mxi_gi, mxi_gi, if_pos (by omega), if_pos (by omega)])) (fun p y1 y2 => hold p (by omega) y2)
        refine ⟨T', fun J => ?_, f9.tr g2, g3, g4⟩
        rw [unf, h7, if_pos (nI_le z (by omega))]; exact g1 J
    · have e : i = 16 := by omega
      subst e
      refine ⟨T, fun J => ?_, fr_rf _ _, fun w hw => ?_, fun p hp => h50 p (by omega) hp⟩
      · rw [f_Course_begin_L76, e16, if_pos (nI_le q (by omega))]
      · rw [h52 w hw]
        congr 1
        exact mcnt_congr (fun p hp => by rw [mxi_gi, mini_gi85, if_pos (by omega), if_pos hp])
theorem mcnt_none (D : DT) (w : Nat) (hw : w < 24) (n : Nat) : mcnt (mxi D 0) (nI w) n = 0 := by
  induction n with
  | zero => rfl
  | succ n ih => rw [mcnt, ih, mxi_gi, if_neg (show ¬ (n < 0 ∧ n < mQ D) by omega), if_neg (fun e => nI_ne_m1 (a := w) (by omega) e.symm)]
theorem cl_begin {S : AS} {D : DT} {W kn : Nat → Prop} {P K : Nat} (hd : DOK D W kn) (hs : CSt S D W kn P K) : ∃ S', f_Course_begin S = some S' ∧ fr pC0 S S' ∧ RC S' D (mini D) := by
  obtain ⟨T1, a1, a2, a3⟩ := fill_52 0 S
  obtain ⟨T2, b1, b2, b3⟩ := fill_53 0 T1
  obtain ⟨T3, c1, c2, c3⟩ := fill_56 (-1) T2
  obtain ⟨T4, d1, d2, d3⟩ := fill_57 (-1) T3
  obtain ⟨T5, e1, e2, e3⟩ := bg_L34 FU 0 T4 (by omega) (by rw [FU_succ]; omega)
  obtain ⟨T6, f1, f2, f3⟩ := bg_L55 FU 0 T5 (by omega) (by rw [FU_succ]; omega)
  have h1 : fr pC0 S T1 := a2.mono (fun c k h => by unfold pC0; omega)
  have h2 : fr pC0 S T2 := h1.tr (b2.mono (fun c k h => by unfold pC0; omega))
  have h3 : fr pC0 S T3 := h2.tr (c2.mono (fun c k h => by unfold pC0; omega))
  have h4 : fr pC0 S T4 := h3.tr (d2.mono (fun c k h => by unfold pC0; omega))
  have h5 : fr pC0 S T5 := h4.tr (e2.mono (fun c k h => by unfold pC0; omega))
  have h6 : fr pC0 S T6 := h5.tr (f2.mono (fun c k h => by unfold pC0; omega))
  have k52 : ∀ w, w < 24 → gi T6 52 w = nI (mcnt (mxi D 0) (nI w) (mQ D)) := fun w hw => by
    rw [f2.2.1 52 w (by omega), e2.2.1 52 w (by omega), d2.2.1 52 w (by omega), c2.2.1 52 w (by omega), b2.2.1 52 w (by omega), a3 w hw, mcnt_none D w hw]; rfl
  obtain ⟨T7, g1, g2, g3, g4⟩ := bg_L76 hd FU 0 T6 (by omega) (by rw [FU_succ]; omega) (hs.mv h6) k52 (fun p hp => by omega)
  refine ⟨T7, ?_, h6.tr (g2.mono (fun c k h => by unfold pC0; omega)), fun p hp => ?_, fun w hw => ?_, fun k hk => ?_⟩
  · unfold f_Course_begin
    simp only [nm_k]
    rw [nI_0] at e1 f1 g1
    rw [a1, bV_eq, b1, bV_eq, c1, bV_eq, d1, bV_eq, e1, f1, g1]
  · rw [(g4 p hp).1, (g4 p hp).2, mini_gi85, if_pos hp]
    exact ⟨rfl, fun _ => rfl⟩
  · rw [g3 w hw, g2.2.2.1 53 w (by omega), f2.2.2.1 53 w (by omega), e2.2.2.1 53 w (by omega), d2.2.2.1 53 w (by omega), c2.2.2.1 53 w (by omega), b3 w hw, g2.2.1 54 w (by omega), f2.2.1 54 w (by omega), e3 w (by omega) hw]
    exact ⟨rfl, rfl, rfl⟩
  · rw [g2.2.1 55 k (by omega), f3 k (by omega) hk, g2.2.1 56 k (by omega), f2.2.1 56 k (by omega), e2.2.1 56 k (by omega), d2.2.1 56 k (by omega), c3 k hk, g2.2.1 57 k (by omega), f2.2.1 57 k (by omega), e2.2.1 57 k (by omega), d3 k hk]
    exact ⟨rfl, rfl, rfl⟩
/-! a frame in which the rules in force may change -/
def frq (P : Nat → Nat → Prop) (S S' : AS) : Prop := S'.1 = S.1 ∧ (∀ c k, ¬ P c k → gi S' c k = gi S c k) ∧ (∀ c k, ¬ P c k → gl S' c k = gl S c k) ∧ (∀ c k, ¬ (c = 49 ∧ k = 15) → gr S' c k = gr S c k)
def pCT (c k : Nat) : Prop := (c = 49 ∧ 14 ≤ k) ∨ (50 ≤ c ∧ c ≤ 59)
theorem frq_rf (P : Nat → Nat → Prop) (S : AS) : frq P S S := ⟨rfl, fun _ _ _ => rfl, fun _ _ _ => rfl, fun _ _ _ => rfl⟩
theorem frq.tr {P : Nat → Nat → Prop} {S T U : AS} (h : frq P S T) (h2 : frq P T U) : frq P S U := ⟨h2.1.trans h.1, fun c k hc => (h2.2.1 c k hc).trans (h.2.1 c k hc), fun c k hc => (h2.2.2.1 c k hc).trans (h.2.2.1 c k hc), fun c k hc => (h2.2.2.2 c k hc).trans (h.2.2.2 c k hc)⟩
theorem fr.q {P : Nat → Nat → Prop} {S T : AS} (h : fr P S T) : frq P S T := ⟨h.1, h.2.1, h.2.2.1, fun c k _ => h.2.2.2 c k⟩
theorem frq.mono {P Q : Nat → Nat → Prop} {S T : AS} (h : frq P S T) (hPQ : ∀ c k, P c k → Q c k) : frq Q S T := ⟨h.1, fun c k hc => h.2.1 c k (fun q => hc (hPQ c k q)), fun c k hc => h.2.2.1 c k (fun q => hc (hPQ c k q)), h.2.2.2⟩
theorem pC0_T {S T : AS} (h : fr pC0 S T) : frq pCT S T := h.q.mono (fun c k h => by unfold pC0 at h; unfold pCT; omega)
theorem BK.mq {S T : AS} {D : DT} {r q : Nat} (h : BK S D r q) (hq : q = 41 ∨ 99 ≤ q) (hf : ∀ c k, (41 ≤ c ∧ c ≤ 48) ∨ 99 ≤ c → gi T c k = gi S c k) : BK T D r q := by
  have e : ∀ j k, j ≤ 7 → gi T (q + j) k = gi S (q + j) k := fun j k hj => hf (q + j) k (by omega)
  unfold BK at h ⊢
  have e0 := e 0 4 (by omega)
  rw [Nat.add_zero] at e0
  rw [e0]
  refine ⟨h.1, fun i hi => ?_⟩
  obtain ⟨h1, h2, a, h3, h4, h5, h6⟩ := h.2 i hi
  rw [e 1 i (by omega), e 2 i (by omega)]
  refine ⟨h1, h2, a, h3, by rw [e 3 i (by omega)]; exact h4, by rw [e 4 i (by omega)]; exact h5, fun t ht => ?_⟩
  rw [e 5 _ (by omega), e 6 _ (by omega), e 7 _ (by omega)]
  exact h6 t ht
theorem CSt.mq {S T : AS} {D : DT} {W kn : Nat → Prop} {P K : Nat} (h : CSt S D W kn P K) (hf : frq pCT S T) : CSt T D W kn P K := by
  obtain ⟨s1, s2, s3, s4, s5, s6, s7, s8, s9, s10⟩ := h
  have e : ∀ c k, c < 49 → gi T c k = gi S c k := fun c k hc => hf.2.1 c k (by unfold pCT; omega)
  refine ⟨s1, s2, by rw [e 16 7 (by omega)]; exact s3, by rw [e 23 8 (by omega)]; exact s4, fun p hp => ?_, fun w hw => ?_, fun k hk => ?_, by rw [e 38 3 (by omega)]; exact s8, fun r hr => ?_, by rw [e 41 4 (by omega)]; exact s10⟩
  · rw [e 20 p (by omega), e 21 p (by omega), e 22 p (by omega)]; exact s5 p hp
  · rw [e 17 w (by omega), e 18 w (by omega), e 19 w (by omega)]; exact s6 w hw
  · rw [e 24 k (by omega), e 25 k (by omega), e 26 k (by omega), e 27 k (by omega), e 28 k (by omega), e 29 k (by omega)]; exact s7 k hk
  · rw [e 39 r (by omega)]
    obtain ⟨h1, q, h2, h3, h4⟩ := s9 r hr
    exact ⟨h1, q, h2, by rw [hf.2.2.2 40 r (by omega)]; exact h3, h4.mq (Or.inr h2) (fun c k hc => hf.2.1 c k (by unfold pCT; omega))⟩
theorem RC.mq {S T : AS} {D : DT} {X : AS} (h : RC S D X) (h1 : ∀ c k, 50 ≤ c → c ≤ 57 → gi T c k = gi S c k) (h2 : ∀ k, gl T 53 k = gl S 53 k) : RC T D X := by
  obtain ⟨a, b, c⟩ := h
  refine ⟨fun p hp => ?_, fun w hw => ?_, fun k hk => ?_⟩
  · rw [h1 50 p (by omega) (by omega), h1 51 p (by omega) (by omega)]; exact a p hp
  · rw [h1 52 w (by omega) (by omega), h2, h1 54 w (by omega) (by omega)]; exact b w hw
  · rw [h1 55 k (by omega) (by omega), h1 56 k (by omega) (by omega), h1 57 k (by omega) (by omega)]; exact c k hk
theorem cl_force {S : AS} {D : DT} {W kn : Nat → Prop} {P K : Nat} (hd : DOK D W kn) (hs : CSt S D W kn P K) (t : Int32) : ∃ q, f_Reigns_inForceAt t S = some (q, S) ∧ TB S D t q ∧ (q = 41 ∨ ∃ r, gr S 40 r = some q) := by
  obtain ⟨d1, d2, d3, d4, d5, d6, d7, d8⟩ := id hd
  obtain ⟨s1, s2, s3, s4, s5, s6, s7, s8, s9, s10⟩ := id hs
  have key : ∀ (J : Int32 → AS → Option (Nat × AS)) (n i : Nat), i ≤ mR D → mR D - i < n → f_Reigns_inForceAt_L4 J t n (mfor D t i) (nI i) S = J (mfor D t (mR D)) S := by
    intro J n
    induction n with
    | zero => intro i _ h; omega
    | succ n ih =>
      intro i hi hn
      rw [f_Reigns_inForceAt_L4, s8]
      rcases Nat.lt_or_ge i (mR D) with q | q
      · have e := ih (i + 1) (by omega) (by omega)
        rw [mfor] at e
        have hin : vp_in (nI i) 6 := in_nI (by omega) (by decide)
        rw [if_neg (nI_ge q (by omega))]
        simp only [nm_eq]
        rw [chk_pos hin, chk_pos hin, ix_nI (by omega), (s9 i q).1, nI_1]
        by_cases h1 : t < D 80 i
        · rw [if_pos h1]
          rw [if_neg (fun z => absurd h1 (Int32.not_lt.mpr z.1))] at e
          exact e
        · have h1' : D 80 i ≤ t := Int32.not_lt.mp h1
          rw [if_neg h1]
          rcases mfor_ok D t i with h2 | ⟨r, r1, r2, -⟩
          · rw [if_pos ⟨h1', Or.inl h2⟩] at e
            rw [if_pos h2]; exact e
          · have hne : ¬ mfor D t i = -1 := by rw [r2]; exact nI_ne_m1 (by omega)
            rw [if_neg hne]
            rw [r2, ix_nI (by omega)] at e
            rw [r2, chk_pos (in_nI (by omega) (by decide)), ix_nI (by omega), (s9 r (by omega)).1]
            by_cases h3 : D 80 i < D 80 r
            · rw [if_neg (fun z => z.2.elim (nI_ne_m1 (by omega)) (fun z => absurd h3 (Int32.not_lt.mpr z)))] at e
              rw [if_pos h3]; exact e
            · rw [if_pos ⟨h1', Or.inr (Int32.not_lt.mp h3)⟩] at e
              rw [if_neg h3]; exact e
      · rw [if_pos (nI_le q (by omega)), show i = mR D by omega]
  have k0 : ∀ J : Int32 → AS → Option (Nat × AS), f_Reigns_inForceAt_L4 J t FU (-1) 0 S = J (mfor D t (mR D)) S := fun J => by
    have h := key J FU 0 (by omega) (by rw [FU_succ]; omega)
    rw [show mfor D t 0 = -1 from rfl, nI_0] at h
    exact h
  unfold f_Reigns_inForceAt
  simp only [nm_k]
  rw [k0]
  rcases mfor_ok D t (mR D) with h | ⟨r, h1, h2, -⟩
  · rw [if_pos h]
    exact ⟨41, rfl, ⟨Or.inl rfl, Or.inl ⟨h, s10⟩⟩, Or.inl rfl⟩
  · obtain ⟨-, q, q1, q2, q3⟩ := s9 r h1
    rw [h2, if_neg (nI_ne_m1 (by omega)), chk_pos (in_nI (by omega) (by decide)), ix_nI (by omega), q2, oel_some, chk_pos (in_nI (by omega) (by decide)), oel_some]
    exact ⟨q, rfl, ⟨Or.inr q1, Or.inr ⟨r, h1, h2, q3⟩⟩, Or.inr ⟨r, q2⟩⟩
theorem cl_goTo {S : AS} {D : DT} {W kn : Nat → Prop} {P K : Nat} {X : AS} (hd : DOK D W kn) (hs : CSt S D W kn P K) (hsh : Sh S) (hr : RC S D X) {t : Int32} (ht : bnd t 9999999) : ∃ S', f_Course_goTo t S = some S' ∧ frq (fun c k => c = 49 ∧ k = 14) S S' ∧ Sh S' ∧ RC S' D X ∧ TR S' D t := by
  have f1 : fr (fun c k => c = 49 ∧ k = 14) S (si S 49 14 t) := (fr_rf _ S).si ⟨rfl, rfl⟩
  have hs1 : CSt (si S 49 14 t) D W kn P K := hs.mq (f1.q.mono (fun c k h => by unfold pCT; omega))
  obtain ⟨q, q1, q2, q3⟩ := cl_force hd hs1 t
  have sh1 := f1.sh hsh
  have hb : isBk (si S 49 14 t) q := by
    rcases q3 with h | ⟨r, h⟩
    · exact Or.inr (Or.inl h)
    · exact sh1.2.2.2.2 r q h
  refine ⟨sr (si S 49 14 t) 49 15 (some q), ?_, ⟨rfl, fun c k hc => f1.2.1 c k hc, fun c k hc => rfl, fun c k hc => by rw [gr_sr, if_neg hc]; rfl⟩, sp_rules hb sh1, hr.mq (fun c k h1 h2 => by rw [gi_sr, gi_si, if_neg (by omega)]) (fun k => rfl), ⟨by rw [gi_sr, gi_si, if_pos ⟨rfl, rfl⟩], ht, q, by rw [gr_sr, if_pos ⟨rfl, rfl⟩], ⟨q2.1, ?_⟩⟩⟩
  · unfold f_Course_goTo
    simp only [nm_eq]
    rw [q1, bR_eq, chk_pos hb]
  · rcases q2.2 with ⟨a, b⟩ | ⟨r, a, b, c⟩
    · exact Or.inl ⟨a, b⟩
    · exact Or.inr ⟨r, a, b, c.mq q2.1 (fun c k _ => rfl)⟩
def ORD (S : AS) (D : DT) (n : Nat) (m : Nat) (o : Nat → Nat) : Prop := m ≤ 160 ∧ gi S 32 6 = nI m ∧ (∀ i, i < m → gi S 37 i = nI (o i) ∧ 1 ≤ o i ∧ o i ≤ 160) ∧ (∀ i j, i < j → j < m → gi S 34 (o i) ≤ gi S 34 (o j)) ∧ (∀ i j, i < j → j < m → o i ≤ n → o j ≤ n → ltN D (o i) (o j)) ∧ (∀ k, 1 ≤ k → k ≤ n → ¬ D 74 k = 4 → ∃ i, i < m ∧ o i = k) ∧ (∀ i, i < m → o i ≤ n → ¬ D 74 (o i) = 4)
theorem ct_loop {S : AS} {D : DT} {W kn : Nat → Prop} {P K n M : Nat} {u : Int32} {o : Nat → Nat} (hd : DOK D W kn) (hN : NOK D W kn P n) (hN2 : NOK2 D n) (hs : CSt S D W kn P K) (hc : NCt S D kn n) (hO : ORD S D n M o) : ∀ (f i j : Nat) (l : Nat → Nat) (T : AS), i ≤ M → M - i < f → j ≤ i → frq pCT S T → Sh T → RC T D (mrun D l j) → (∀ a, a < j → okN D n u (l a) ∧ ∃ i', i' < i ∧ o i' = l a) → (∀ a b, a < b → b < j → ltN D (l a) (l b)) → (∀ i', i' < i → okN D n u (o i') → ∃ a, a < j ∧ l a = o i') → ∃ T' m l', (∀ J : AS → Option AS, f_Course_tell_L37 J J (nI n) u f (nI i) T = J T') ∧ frq pCT S T' ∧ Sh T' ∧ RC T' D (mrun D l' m) ∧ m ≤ 160 ∧ SQ D n u m l' := by
  have hn := hN.1
  obtain ⟨o1, o2, o3, o4, o5, o6, o7⟩ := id hO
  intro f
  induction f with
  | zero => intro i j l T _ h; omega
  | succ f ih =>
    intro i j l T hi hf hji hfr hsh hr hl1 hl2 hl3
    have h6 : gi T 32 6 = nI M := by rw [hfr.2.1 32 6 (by unfold pCT; omega)]; exact o2
    rcases Nat.lt_or_ge i M with q | q
    · obtain ⟨a1, a2, a3⟩ := o3 i q
      have e37 : gi T 37 i = nI (o i) := by rw [hfr.2.1 37 i (by unfold pCT; omega)]; exact a1
      have e34 : gi T 34 (o i) = gi S 34 (o i) := hfr.2.1 34 (o i) (by unfold pCT; omega)
      have hin : vp_in (nI i) 160 := in_nI (by omega) (by decide)
      have hin2 : vp_in (nI (o i)) 161 := in_nI (by omega) (by decide)
      have unf : ∀ J : AS → Option AS, f_Course_tell_L37 J J (nI n) u (f + 1) (nI i) T = if gi S 34 (o i) ≤ u then (if nI n < nI (o i) then f_Course_tell_L37 J J (nI n) u f (nI (i + 1)) T else bV (f_Course_goTo (gi S 34 (o i)) T) fun S11 => bV (f_Course_happen (nI (o i)) (nI n) S11) fun S12 => f_Course_tell_L37 J J (nI n) u f (nI (i + 1)) S12) else J T := fun J => by
        rw [f_Course_tell_L37, h6, if_neg (nI_ge q (by omega))]
        simp only [nm_eq]
        rw [chk_pos hin, ix_nI (by omega), e37, chk_pos hin2, chk_pos hin2, ix_nI (by omega), e34, nI_1]
      by_cases hu : gi S 34 (o i) ≤ u
      · rcases Nat.lt_or_ge n (o i) with z | z
        · obtain ⟨T', m, l', g1, g2⟩ := ih (i + 1) j l T (by omega) (by omega) (by omega) hfr hsh hr (fun a ha => by
            obtain ⟨y1, i', y2, y3⟩ := hl1 a ha
            exact ⟨y1, i', by omega, y3⟩) hl2 (fun i' h1 h2 => by
            rcases Nat.lt_or_ge i' i with y | y
            · exact hl3 i' y h2
            · have e : i' = i := by omega
              subst e
              have := h2.2.1
              omega)
          exact ⟨T', m, l', fun J => by rw [unf, if_pos hu, if_pos (nI_lt z (by omega))]; exact g1 J, g2⟩
        · have k4 := o7 i q z
          obtain ⟨c1, c2⟩ := hc.1 (o i) a2 z
          obtain ⟨c3, c4, c5⟩ := c2 k4
          have hb : bnd (D 75 (o i)) 9999999 := by
            rcases hN.2 (o i) a2 z with y | ⟨y, -⟩
            · exact absurd y k4
            · exact y
          obtain ⟨T1, b1, b2, b3, b4, b5⟩ := cl_goTo hd (hs.mq hfr) hsh hr hb
          have f1 : frq pCT S T1 := hfr.tr (b2.mono (fun c k h => by unfold pCT; omega))
          have hx : XOK D W kn (mrun D l j) := XOK.run hd hN (fun a ha => (hl1 a ha).1)
          have hc1 : NCt T1 D kn n := ⟨fun k k1 k2 => by
            rw [f1.2.1 33 k (by unfold pCT; omega), f1.2.1 34 k (by unfold pCT; omega), f1.2.1 35 k (by unfold pCT; omega), f1.2.1 36 k (by unfold pCT; omega)]; exact hc.1 k k1 k2, fun j hj => by
            rw [f1.2.1 31 j (by unfold pCT; omega)]; exact hc.2 j hj⟩
          obtain ⟨T2, d1, d2, d3⟩ := cl_happen hd hN hN2 (hs.mq f1) hc1 hx b4 a2 z k4 b5
          have f2 : frq pCT S T2 := f1.tr (pC0_T d2)
          have sh2 := d2.sh b3
          have hgo : ∀ T', (∀ J : AS → Option AS, f_Course_tell_L37 J J (nI n) u f (nI (i + 1)) T2 = J T') → ∀ J : AS → Option AS, f_Course_tell_L37 J J (nI n) u (f + 1) (nI i) T = J T' := fun T' h J => by
            rw [unf, if_pos hu, if_neg (nI_nlt z (by omega)), c3, b1, bV_eq, d1, bV_eq]; exact h J
          by_cases hv : D 74 (o i) = 0 ∧ D 79 (ix (D 76 (o i))) = 1
          · rw [pif_pos hv] at d3
            obtain ⟨T', m, l', g1, g2⟩ := ih (i + 1) j l T2 (by omega) (by omega) (by omega) f2 sh2 d3 (fun a ha => by
              obtain ⟨y1, i', y2, y3⟩ := hl1 a ha
              exact ⟨y1, i', by omega, y3⟩) hl2 (fun i' h1 h2 => by
              rcases Nat.lt_or_ge i' i with y | y
              · exact hl3 i' y h2
              · have e : i' = i := by omega
                subst e
                exact absurd hv h2.2.2.2.2)
            exact ⟨T', m, l', hgo T' g1, g2⟩
          · rw [pif_neg hv] at d3
            have okn : okN D n u (o i) := ⟨a2, z, k4, by rw [← c3]; exact hu, hv⟩
            obtain ⟨T', m, l', g1, g2⟩ := ih (i + 1) (j + 1) (fun a => if a = j then o i else l a) T2 (by omega) (by omega) (by omega) f2 sh2 (by
              rw [mrun, if_pos rfl, mrun_congr (l := fun a => if a = j then o i else l a) (l' := l) (fun a ha => if_neg (by omega))]
              exact d3) (fun a ha => by
              by_cases e : a = j
              · simp only [e, if_true]; exact ⟨okn, i, by omega, rfl⟩
              · simp only [e, if_false]
                obtain ⟨y1, i', y2, y3⟩ := hl1 a (by omega)
                exact ⟨y1, i', by omega, y3⟩) (fun a b hab hb2 => by
              by_cases e : b = j
              · simp only [e, show ¬ a = j by omega, if_true, if_false]
                obtain ⟨y1, i', y2, y3⟩ := hl1 a (by omega)
                rw [← y3]
                exact o5 i' i y2 q (by rw [y3]; exact y1.2.1) z
              · simp only [e, show ¬ a = j by omega, if_false]
                exact hl2 a b hab (by omega)) (fun i' h1 h2 => by
              rcases Nat.lt_or_ge i' i with y | y
              · obtain ⟨a, x1, x2⟩ := hl3 i' y h2
                exact ⟨a, by omega, by simp only [show ¬ a = j by omega, if_false]; exact x2⟩
              · have e : i' = i := by omega
                subst e
                exact ⟨j, by omega, by simp⟩)
            exact ⟨T', m, l', hgo T' g1, g2⟩
      · refine ⟨T, j, l, fun J => by rw [unf, if_neg hu], hfr, hsh, hr, by omega, fun a ha => (hl1 a ha).1, hl2, fun k hk => ?_⟩
        obtain ⟨i', x1, x2⟩ := o6 k hk.1 hk.2.1 hk.2.2.1
        rcases Nat.lt_or_ge i' i with y | y
        · obtain ⟨a, z1, z2⟩ := hl3 i' y (by rw [x2]; exact hk)
          exact ⟨a, z1, by rw [z2]; exact x2⟩
        · exfalso
          have e75 : gi S 34 k = D 75 k := ((hc.1 k hk.1 hk.2.1).2 hk.2.2.1).1
          have hle : gi S 34 (o i) ≤ gi S 34 (o i') := by
            rcases Nat.lt_or_ge i i' with w | w
            · exact o4 i i' w x1
            · rw [show i = i' by omega]; exact Int32.le_refl _
          rw [x2, e75] at hle
          apply hu
          have h1 := hk.2.2.2.1
          rw [Int32.le_iff_toInt_le] at hle h1 ⊢
          omega
    · have e : i = M := by omega
      subst e
      refine ⟨T, j, l, fun J => ?_, hfr, hsh, hr, by omega, fun a ha => (hl1 a ha).1, hl2, fun k hk => ?_⟩
      · rw [f_Course_tell_L37, h6, if_pos (nI_le q (by omega))]
      · obtain ⟨i', x1, x2⟩ := o6 k hk.1 hk.2.1 hk.2.2.1
        obtain ⟨a, z1, z2⟩ := hl3 i' x1 (by rw [x2]; exact hk)
        exact ⟨a, z1, by rw [z2]; exact x2⟩
