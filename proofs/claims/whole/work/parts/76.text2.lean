/-! the class cuts the text into tokens -/
def TX (S : AS) (b : Nat → Nat) (t : Nat) : Prop := gi S 1 1 = nI t ∧ t ≤ 400 ∧ ∀ i, gi S 2 i = nI (b i) ∧ b i ≤ 255
theorem TX.mv {S T : AS} {b : Nat → Nat} {t : Nat} (h : TX S b t) (e : ∀ c k, c = 1 ∨ c = 2 → gi T c k = gi S c k) : TX T b t := by
  obtain ⟨a, c, d⟩ := h
  exact ⟨by rw [e 1 1 (by omega)]; exact a, c, fun i => by rw [e 2 i (by omega)]; exact d i⟩
theorem let_spec {x : Nat} (hx : x ≤ 255) (S : AS) : f_TokenRow_isLetter (nI x) S = some (if isL x = true then 1 else 0, S) := by
  unfold f_TokenRow_isLetter
  simp only [nm_k]
  by_cases h : isL x = true
  · have h' := (isL_iff x).mp h
    rw [if_pos h, if_neg (show ¬ nI x < 97 from nI_nlt (b := 97) h'.1 (by omega)), if_neg (show ¬ (122 : Int32) < nI x from nI_nlt (a := 122) h'.2 (by decide))]
  · rw [if_neg h]
    rcases Nat.lt_or_ge x 97 with q | q
    · rw [if_pos (show nI x < 97 from nI_lt (b := 97) q (by decide))]
    · have : 122 < x := by
        rcases Nat.lt_or_ge 122 x with y | y
        · exact y
        · exact absurd ((isL_iff x).mpr ⟨q, y⟩) h
      rw [if_neg (show ¬ nI x < 97 from nI_nlt (b := 97) q (by omega)), if_pos (show (122 : Int32) < nI x from nI_lt (a := 122) this (by omega))]
theorem dig_spec {x : Nat} (hx : x ≤ 255) (S : AS) : f_TokenRow_isDigit (nI x) S = some (if isDg x = true then 1 else 0, S) := by
  unfold f_TokenRow_isDigit
  simp only [nm_k]
  by_cases h : isDg x = true
  · have h' := (isDg_iff x).mp h
    rw [if_pos h, if_neg (show ¬ nI x < 48 from nI_nlt (b := 48) h'.1 (by omega)), if_neg (show ¬ (57 : Int32) < nI x from nI_nlt (a := 57) h'.2 (by decide))]
  · rw [if_neg h]
    rcases Nat.lt_or_ge x 48 with q | q
    · rw [if_pos (show nI x < 48 from nI_lt (b := 48) q (by decide))]
    · have : 57 < x := by
        rcases Nat.lt_or_ge 57 x with y | y
        · exact y
        · exact absurd ((isDg_iff x).mpr ⟨q, y⟩) h
      rw [if_neg (show ¬ nI x < 48 from nI_nlt (b := 48) q (by omega)), if_pos (show (57 : Int32) < nI x from nI_lt (a := 57) this (by omega))]
theorem skip_L {S : AS} {b : Nat → Nat} {t : Nat} (h : TX S b t) : ∀ (f i : Nat), i ≤ t → t - i < f → ∀ J : Int32 → AS → Option (Int32 × AS), f_TokenRow_skipBlanks_L2 J f (nI i) S = J (nI (scn isBl b t i)) S := by
  obtain ⟨h1, h2, h3⟩ := h
  intro f
  induction f with
  | zero => intro i _ h; omega
  | succ f ih =>
    intro i hi hf J
    rw [f_TokenRow_skipBlanks_L2, h1]
    rcases Nat.lt_or_ge i t with q | q
    · have hin : vp_in (nI i) 400 := in_nI (by omega) (by decide)
      obtain ⟨e, hb⟩ := h3 i
      rw [if_neg (nI_ge q (by omega)), chk_pos hin, ix_nI (by omega), e]
      simp only [nm_k]
      by_cases z : b i = 32
      · rw [if_pos (show nI (b i) = 32 by rw [z]; rfl), nI_1, scn_go q ((isBl_iff _).mpr (Or.inl z))]
        exact ih (i + 1) (by omega) (by omega) J
      · rw [if_neg (show ¬ nI (b i) = 32 from fun y => z (nI_inj (b := 32) (by omega) (by decide) y)), chk_pos hin]
        by_cases y : b i = 10
        · rw [if_pos (show nI (b i) = 10 by rw [y]; rfl), nI_1, scn_go q ((isBl_iff _).mpr (Or.inr y))]
          exact ih (i + 1) (by omega) (by omega) J
        · rw [if_neg (show ¬ nI (b i) = 10 from fun x => y (nI_inj (b := 10) (by omega) (by decide) x)), scn_stop (fun x => by rcases (isBl_iff _).mp x with x | x; exact z x; exact y x)]
    · rw [if_pos (nI_le q (by omega)), scn_end (by omega)]
theorem skip_spec {S : AS} {b : Nat → Nat} {t i : Nat} (h : TX S b t) (hi : i ≤ t) : f_TokenRow_skipBlanks (nI i) S = some (nI (scn isBl b t i), S) := by
  unfold f_TokenRow_skipBlanks
  simp only [nm_k]
  exact skip_L h FU i hi (by have := h.2.1; rw [FU_succ]; omega) _
theorem tw_L {S : AS} {b : Nat → Nat} {t : Nat} (h : TX S b t) {z : Int32} : ∀ (f i : Nat), i ≤ t → t - i < f → ∀ J : Int32 → AS → Option (Int32 × AS), f_TokenRow_takeWord_L2 J z f (nI i) S = J (nI (scn isL b t i)) S := by
  obtain ⟨h1, h2, h3⟩ := h
  intro f
  induction f with
  | zero => intro i _ h; omega
  | succ f ih =>
    intro i hi hf J
    rw [f_TokenRow_takeWord_L2, h1]
    rcases Nat.lt_or_ge i t with q | q
    · obtain ⟨e, hb⟩ := h3 i
      rw [if_neg (nI_ge q (by omega)), chk_pos (in_nI (by omega) (by decide)), ix_nI (by omega), e, let_spec hb, bI_eq]
      by_cases y : isL (b i) = true
      · rw [if_pos y, if_neg ne10, nI_1, scn_go q y]
        exact ih (i + 1) (by omega) (by omega) J
      · rw [if_neg y, if_pos rfl, scn_stop y]
    · rw [if_pos (nI_le q (by omega)), scn_end (by omega)]
theorem isw_spec {S : AS} {b : Nat → Nat} {t p w : Nat} (h : TX S b t) (hp : p < t) (hw : w < 14) : f_TokenRow_isWord (nI w) (nI p) (nI (wle b t p)) S = some (pif (mt b t p w) 1 0, S) := by
  obtain ⟨h1, h2, h3⟩ := h
  have hb := wlen_b w hw
  obtain ⟨s1, s2, s3, s4⟩ := scn_spec isL b t p
  have s2' := s2 (by omega)
  have hl : ∀ i, i < wle b t p → isL (b (p + i)) = true := fun i hi => s3 (p + i) (by omega) (by unfold wle at hi; omega)
  have hL : p + wle b t p ≤ t := by unfold wle; omega
  unfold f_TokenRow_isWord
  rcases Nat.lt_or_ge (wle b t p) 8 with q | q
  · rw [if_pos (show nI (wle b t p) < 8 from nI_lt (b := 8) q (by decide))]
    simp only [nm_k]
    have e8 : nI w * 8 = nI (8 * w) := by rw [show (8 : Int32) = nI 8 from rfl, pk_mul, Nat.mul_comm]
    rw [e8]
    have key : ∀ (f i : Nat), i ≤ wle b t p → wle b t p - i < f → ∀ J : AS → Option (Int32 × AS), f_TokenRow_isWord_L17 J (nI p) (nI (wle b t p)) (nI (8 * w)) f (nI i) S = pif (∀ j, i ≤ j → j < wle b t p → wch (nI (8 * w + j)) = nI (b (p + j))) (J S) (some (0, S)) := by
      intro f
      induction f with
      | zero => intro i _ h; omega
      | succ f ih =>
        intro i hi hf J
        rw [f_TokenRow_isWord_L17]
        rcases Nat.lt_or_ge i (wle b t p) with y | y
        · rw [if_neg (nI_ge y (by omega)), nI_add, nI_add, chk_pos (in_nI (by omega) (by decide)), chk_pos (in_nI (by omega) (by decide)), ix_nI (by omega), (h3 (p + i)).1]
          by_cases z : wch (nI (8 * w + i)) = nI (b (p + i))
          · rw [if_pos z, nI_1, ih (i + 1) (by omega) (by omega) J]
            by_cases x : ∀ j, i + 1 ≤ j → j < wle b t p → wch (nI (8 * w + j)) = nI (b (p + j))
            · rw [pif_pos x, pif_pos (fun j j1 j2 => by
                by_cases v : j = i
                · rw [v]; exact z
                · exact x j (by omega) j2)]
            · rw [pif_neg x, pif_neg (fun v => x (fun j j1 j2 => v j (by omega) j2))]
          · rw [if_neg z, pif_neg (fun v => z (v i (Nat.le_refl _) y))]
        · rw [if_pos (nI_le y (by omega)), pif_pos (fun j j1 j2 => by omega)]
    have k0 := key FU 0 (by omega) (by rw [FU_succ]; omega) (fun S2 => chk (vp_in (nI (8 * w) + nI (wle b t p)) 112) (if wch (nI (8 * w) + nI (wle b t p)) = 32 then some (1, S2) else some (0, S2)))
    rw [nI_0] at k0
    rw [k0, nI_add, chk_pos (in_nI (by omega) (by decide))]
    by_cases m : mt b t p w
    · have e := m.1
      rw [pif_pos m, pif_pos (fun j _ j2 => (m.2 j (by omega)).symm), if_pos (by rw [e]; exact wch_bl w hw)]
    · rw [pif_neg m]
      by_cases x : ∀ j, 0 ≤ j → j < wle b t p → wch (nI (8 * w + j)) = nI (b (p + j))
      · rw [pif_pos x, if_neg (fun y => m (by
          have hlen : wle b t p = wlen w := by
            rcases Nat.lt_or_ge (wle b t p) (wlen w) with v | v
            · exact absurd y (wch_in w hw _ (by omega) v)
            · rcases Nat.lt_or_ge (wlen w) (wle b t p) with u | u
              · exfalso
                have e1 := x (wlen w) (by omega) u
                rw [wch_bl w hw] at e1
                have l' := (isL_iff _).mp (hl (wlen w) u)
                have := nI_inj (a := 32) (by decide) (by omega) e1
                omega
              · omega
          exact ⟨hlen, fun i hi => (x i (by omega) (by omega)).symm⟩))]
      · rw [pif_neg x]
  · rw [if_neg (show ¬ nI (wle b t p) < 8 from nI_nlt (b := 8) q (by omega)), pif_neg (fun m => by have := m.1; omega)]
def pTk (k : Nat) (c i : Nat) : Prop := (c = 13 ∧ i = k) ∨ (c = 15 ∧ i = k)
theorem tw_100 {b : Nat → Nat} {t p k : Nat} (hp : p < t) (hk : k ≤ 400) : ∀ (f c w : Nat) (T : AS), w + c = 14 → c < f → TX T b t → gi T 12 4 = nI k → gi T 13 k = 18 → ∃ T', (∀ J : AS → Option (Int32 × AS), f_TokenRow_takeWord_L100 J (nI p) (nI (scn isL b t p)) f (nI w) T = J T') ∧ fr (fun c i => c = 13 ∧ i = k) T T' ∧ gi T' 13 k = nI (fm b t p c w) := by
  intro f
  induction f with
  | zero => intro c w T _ h; omega
  | succ f ih =>
    intro c w T hc hf hT h12 h13
    have hin : vp_in (nI k) 401 := in_nI (by omega) (by decide)
    have s1 := (scn_spec isL b t p).1
    cases c with
    | zero =>
      refine ⟨T, fun J => ?_, fr_rf _ _, h13⟩
      rw [f_TokenRow_takeWord_L100, if_pos (show (14 : Int32) ≤ nI w from nI_le (a := 14) (by omega) (by omega))]
    | succ c =>
      have unf : ∀ J : AS → Option (Int32 × AS), f_TokenRow_takeWord_L100 J (nI p) (nI (scn isL b t p)) (f + 1) (nI w) T = pif (mt b t p w) (f_TokenRow_takeWord_L100 J (nI p) (nI (scn isL b t p)) f (nI (w + 1)) (si T 13 k (nI w))) (f_TokenRow_takeWord_L100 J (nI p) (nI (scn isL b t p)) f (nI (w + 1)) T) := fun J => by
        rw [f_TokenRow_takeWord_L100, if_neg (show ¬ (14 : Int32) ≤ nI w from nI_ge (b := 14) (by omega) (by decide)), h12, chk_pos hin, ix_nI (by omega), h13, if_pos rfl, pk_sub s1]
        have := isw_spec hT hp (show w < 14 by omega)
        unfold wle at this
        rw [this, bI_eq]
        simp only [nm_k]
        by_cases m : mt b t p w
        · rw [pif_pos m, pif_pos m, if_neg ne10, h12, chk_pos hin, ix_nI (by omega), nI_1]
        · rw [pif_neg m, pif_neg m, if_pos rfl, nI_1]
      rw [fm]
      by_cases m : mt b t p w
      · rw [pif_pos m]
        refine ⟨si T 13 k (nI w), fun J => ?_, (fr_rf _ T).si ⟨rfl, rfl⟩, by rw [gi_si, if_pos ⟨rfl, rfl⟩]⟩
        rw [unf, pif_pos m]
        obtain ⟨f', rfl⟩ : ∃ f', f = f' + 1 := ⟨f - 1, by omega⟩
        have g12 : gi (si T 13 k (nI w)) 12 4 = nI k := by rw [gi_si, if_neg (by omega)]; exact h12
        have g13 : gi (si T 13 k (nI w)) 13 k = nI w := by rw [gi_si, if_pos ⟨rfl, rfl⟩]
        rw [f_TokenRow_takeWord_L100]
        by_cases z : 14 ≤ w + 1
        · rw [if_pos (show (14 : Int32) ≤ nI (w + 1) from nI_le (a := 14) z (by omega))]
        · rw [if_neg (show ¬ (14 : Int32) ≤ nI (w + 1) from nI_ge (b := 14) (by omega) (by decide)), g12, chk_pos hin, ix_nI (by omega), g13, if_neg (show ¬ nI w = 18 from fun y => by have := nI_inj (b := 18) (by omega) (by decide) y; omega)]
      · rw [pif_neg m]
        obtain ⟨T', a, d, e⟩ := ih c (w + 1) T (by omega) (by omega) hT h12 h13
        exact ⟨T', fun J => by rw [unf, pif_neg m]; exact a J, d, e⟩
theorem tw_spec {S : AS} {b : Nat → Nat} {t p k : Nat} (hT : TX S b t) (hp : p < t) (hl : isL (b p) = true) (hk : k ≤ 400) (h12 : gi S 12 4 = nI k) (h15 : gi S 15 k = 0) : ∃ S', f_TokenRow_takeWord (nI p) S = some (nI (en b t p), S') ∧ fr (pTk k) S S' ∧ gi S' 13 k = nI (cd b t p) ∧ gi S' 15 k = vl b t p := by
  have hin : vp_in (nI k) 401 := in_nI (by omega) (by decide)
  have h400 := hT.2.1
  have hb := (hT.2.2 p).2
  have hl' := (isL_iff _).mp hl
  have s1 := (scn_spec isL b t p).1
  have s2 := (scn_spec isL b t p).2.1 (by omega)
  have een : en b t p = scn isL b t p := by unfold en; rw [if_pos hl]
  have ecd : cd b t p = if wle b t p = 1 ∧ b p ≤ 104 then 14 else fm b t p 14 0 := by unfold cd; rw [if_pos hp, if_pos hl]
  have evl : vl b t p = if wle b t p = 1 ∧ b p ≤ 104 then nI (b p) - 97 else 0 := by unfold vl; rw [if_pos hl]
  have w1 : (nI (scn isL b t p) - nI p = 1) ↔ wle b t p = 1 := by
    rw [pk_sub s1]
    exact ⟨fun y => by unfold wle; exact nI_inj (b := 1) (by omega) (by decide) y, fun y => by unfold wle at y; rw [y]; rfl⟩
  -- the word's end is known
  have start : f_TokenRow_takeWord (nI p) S = (nm (si S 13 k 18) fun S3 => nm (fun (S4 : AS) => f_TokenRow_takeWord_L100 (fun S5 => some (nI (scn isL b t p), S5)) (nI p) (nI (scn isL b t p)) FU 0 S4) fun J98 => if wle b t p = 1 then (if 104 < nI (b p) then J98 S3 else J98 (si (si S3 13 k 14) 15 k (nI (b p) - 97))) else J98 S3) := by
    unfold f_TokenRow_takeWord
    simp only [nm_k]
    rw [tw_L hT FU p (by omega) (by rw [FU_succ]; omega), h12, chk_pos hin, ix_nI (by omega)]
    have e2 : gi (si S 13 k 18) 2 (ix (nI p)) = nI (b p) := by rw [ix_nI (by omega), gi_si, if_neg (by omega)]; exact (hT.2.2 p).1
    have e12 : gi (si S 13 k 18) 12 4 = nI k := by rw [gi_si, if_neg (by omega)]; exact h12
    have e12' : gi (si (si S 13 k 18) 13 k 14) 12 4 = nI k := by rw [gi_si, if_neg (by omega)]; exact e12
    have e2' : gi (si (si S 13 k 18) 13 k 14) 2 (ix (nI p)) = nI (b p) := by rw [gi_si, if_neg (by omega)]; exact e2
    by_cases z : wle b t p = 1
    · rw [if_pos (w1.mpr z), if_pos z, chk_pos (in_nI (by omega) (by decide)), e2]
      by_cases y : (104 : Int32) < nI (b p)
      · rw [if_pos y, if_pos y]
      · rw [if_neg y, if_neg y, e12, chk_pos hin, ix_nI (n := k) (by omega), chk_pos (in_nI (by omega) (by decide)), e12', chk_pos hin, e2', ix_nI (n := k) (by omega)]
    · rw [if_neg (fun y => z (w1.mp y)), if_neg z]
  have hT3 : TX (si S 13 k 18) b t := hT.mv (fun c i hc => by rw [gi_si, if_neg (by omega)])
  have g12 : gi (si S 13 k 18) 12 4 = nI k := by rw [gi_si, if_neg (by omega)]; exact h12
  have g13 : gi (si S 13 k 18) 13 k = 18 := by rw [gi_si, if_pos ⟨rfl, rfl⟩]
  rw [start, een, ecd, evl]
  simp only [nm_k]
  have normal : ∃ S', f_TokenRow_takeWord_L100 (fun S5 => some (nI (scn isL b t p), S5)) (nI p) (nI (scn isL b t p)) FU 0 (si S 13 k 18) = some (nI (scn isL b t p), S') ∧ fr (pTk k) S S' ∧ gi S' 13 k = nI (fm b t p 14 0) ∧ gi S' 15 k = 0 := by
    obtain ⟨T', a, d, e⟩ := tw_100 hp hk FU 14 0 (si S 13 k 18) rfl (by rw [FU_succ]; omega) hT3 g12 g13
    rw [nI_0] at a
    exact ⟨T', a _, fr.tr (P := pTk k) ((fr_rf _ S).si (Or.inl ⟨rfl, rfl⟩)) (d.mono (fun c i h => Or.inl h)), e, by rw [d.2.1 15 k (by omega), gi_si, if_neg (by omega)]; exact h15⟩
  by_cases z : wle b t p = 1
  · rw [if_pos z]
    by_cases y : b p ≤ 104
    · rw [if_neg (show ¬ (104 : Int32) < nI (b p) from nI_nlt (a := 104) y (by decide)), if_pos ⟨z, y⟩, if_pos ⟨z, y⟩]
      refine ⟨si (si (si S 13 k 18) 13 k 14) 15 k (nI (b p) - 97), ?_, (((fr_rf _ S).si (Or.inl ⟨rfl, rfl⟩)).si (Or.inl ⟨rfl, rfl⟩)).si (Or.inr ⟨rfl, rfl⟩), by rw [gi_si, if_neg (by omega), gi_si, if_pos ⟨rfl, rfl⟩]; rfl, by rw [gi_si, if_pos ⟨rfl, rfl⟩]⟩
      rw [FU_succ, f_TokenRow_takeWord_L100, if_neg (by decide), show gi (si (si (si S 13 k 18) 13 k 14) 15 k (nI (b p) - 97)) 12 4 = nI k by rw [gi_si, if_neg (by omega), gi_si, if_neg (by omega)]; exact g12, chk_pos hin, ix_nI (by omega), show gi (si (si (si S 13 k 18) 13 k 14) 15 k (nI (b p) - 97)) 13 k = 14 by rw [gi_si, if_neg (by omega), gi_si, if_pos ⟨rfl, rfl⟩], if_neg (by decide)]
    · rw [if_pos (show (104 : Int32) < nI (b p) from nI_lt (a := 104) (by omega) (by omega)), if_neg (fun x => y x.2), if_neg (fun x => y x.2)]
      exact normal
  · rw [if_neg z, if_neg (fun x => z x.1), if_neg (fun x => z x.1)]
    exact normal
theorem tn_L {b : Nat → Nat} {t p k : Nat} (hk : k ≤ 400) (ht : t ≤ 400) : ∀ (f c i : Nat) (T : AS), i + c = p + 7 → p ≤ i → i ≤ t → c < f → TX T b t → gi T 12 4 = nI k → ∃ T', (∀ J : Int32 → AS → Option (Int32 × AS), f_TokenRow_takeNumber_L13 J (nI p) f (nI i) T = J (nI (nde b t c i)) T') ∧ fr (fun c i => c = 15 ∧ i = k) T T' ∧ gi T' 15 k = ndv b t c i (gi T 15 k) := by
  intro f
  induction f with
  | zero => intro c i T _ _ _ h; omega
  | succ f ih =>
    intro c i T hc hpi hit hf hT h12
    have hin : vp_in (nI k) 401 := in_nI (by omega) (by decide)
    rcases Nat.lt_or_ge i t with q | q
    · cases c with
      | zero =>
        refine ⟨T, fun J => ?_, fr_rf _ _, rfl⟩
        rw [f_TokenRow_takeNumber_L13, hT.1, if_neg (nI_ge q (by omega)), pk_sub hpi, if_pos (show (7 : Int32) ≤ nI (i - p) from nI_le (a := 7) (by omega) (by omega))]; rfl
      | succ c =>
        obtain ⟨e, hb⟩ := hT.2.2 i
        rw [nde, ndv, if_pos q, if_pos q]
        by_cases z : isDg (b i) = true
        · rw [if_pos z, if_pos z]
          obtain ⟨T', a, d, g⟩ := ih c (i + 1) (si T 15 k ((gi T 15 k * 10 + nI (b i)) - 48)) (by omega) (by omega) (by omega) (by omega) (hT.mv (fun c j hc => by rw [gi_si, if_neg (by omega)])) (by rw [gi_si, if_neg (by omega)]; exact h12)
          rw [gi_si T, if_pos ⟨rfl, rfl⟩] at g
          refine ⟨T', fun J => ?_, fr.tr (P := fun c i => c = 15 ∧ i = k) ((fr_rf _ T).si ⟨rfl, rfl⟩) d, g⟩
          rw [f_TokenRow_takeNumber_L13, hT.1, if_neg (nI_ge q (by omega)), pk_sub hpi, if_neg (show ¬ (7 : Int32) ≤ nI (i - p) from nI_ge (b := 7) (by omega) (by decide)), chk_pos (in_nI (by omega) (by decide)), ix_nI (n := i) (by omega), e, dig_spec hb, bI_eq, if_pos z, if_neg ne10, h12, chk_pos hin, chk_pos (in_nI (by omega) (by decide)), chk_pos hin, ix_nI (n := k) (by omega), e, nI_1]
          simp only [nm_k]
          exact a J
        · rw [if_neg z, if_neg z]
          refine ⟨T, fun J => ?_, fr_rf _ _, rfl⟩
          rw [f_TokenRow_takeNumber_L13, hT.1, if_neg (nI_ge q (by omega)), pk_sub hpi, if_neg (show ¬ (7 : Int32) ≤ nI (i - p) from nI_ge (b := 7) (by omega) (by decide)), chk_pos (in_nI (by omega) (by decide)), ix_nI (n := i) (by omega), e, dig_spec hb, bI_eq, if_neg z, if_pos rfl]
    · have e1 : nde b t c i = i := by cases c with | zero => rfl | succ c => rw [nde, if_neg (by omega)]
      have e2 : ndv b t c i (gi T 15 k) = gi T 15 k := by cases c with | zero => rfl | succ c => rw [ndv, if_neg (by omega)]
      refine ⟨T, fun J => ?_, fr_rf _ _, e2.symm⟩
      rw [f_TokenRow_takeNumber_L13, hT.1, if_pos (nI_le q (by omega)), e1]
theorem take_spec {S : AS} {b : Nat → Nat} {t p k : Nat} (hT : TX S b t) (hp : p < t) (hk : k ≤ 400) (h12 : gi S 12 4 = nI k) (h15 : gi S 15 k = 0) : ∃ S', f_TokenRow_take (nI p) S = some (nI (en b t p), S') ∧ fr (pTk k) S S' ∧ gi S' 13 k = nI (cd b t p) ∧ gi S' 15 k = vl b t p := by
  have h400 := hT.2.1
  have hb := (hT.2.2 p).2
  have hin : vp_in (nI k) 401 := in_nI (by omega) (by decide)
  unfold f_TokenRow_take
  rw [chk_pos (in_nI (by omega) (by decide)), ix_nI (by omega), (hT.2.2 p).1]
  simp only [nm_k]
  rw [let_spec hb, bI_eq]
  by_cases l : isL (b p) = true
  · rw [if_pos l, if_neg ne10]
    obtain ⟨S', a, d, e, g⟩ := tw_spec hT hp l hk h12 h15
    exact ⟨S', by rw [a, bI_eq], d, e, g⟩
  rw [if_neg l, if_pos rfl, dig_spec hb, bI_eq]
  by_cases z : isDg (b p) = true
  · rw [if_pos z, if_neg ne10]
    have een : en b t p = nde b t 7 p := by unfold en; rw [if_neg l, if_pos z]
    have evl : vl b t p = ndv b t 7 p 0 := by unfold vl; rw [if_neg l, if_pos z]
    have ecd : cd b t p = 15 := cd_15.mpr ⟨hp, z⟩
    obtain ⟨T', a, d, g⟩ := tn_L (b := b) (t := t) (p := p) hk h400 FU 7 p (si S 13 k 15) rfl (Nat.le_refl _) (by omega) (by rw [FU_succ]; omega) (hT.mv (fun c j hc => by rw [gi_si, if_neg (by omega)])) (by rw [gi_si, if_neg (by omega)]; exact h12)
    rw [gi_si, if_neg (by omega), h15] at g
    refine ⟨T', ?_, fr.tr (P := pTk k) ((fr_rf _ S).si (Or.inl ⟨rfl, rfl⟩)) (d.mono (fun c i h => Or.inr h)), by rw [d.2.1 13 k (by omega), gi_si, if_pos ⟨rfl, rfl⟩, ecd]; rfl, by rw [g, evl]⟩
    unfold f_TokenRow_takeNumber
    rw [h12, chk_pos hin, ix_nI (by omega)]
    simp only [nm_k]
    rw [a, bI_eq, een]
  rw [if_neg z, if_pos rfl, nI_1]
  have een : en b t p = p + 1 := by unfold en; rw [if_neg l, if_neg z]
  have ecd : cd b t p = if b p = 60 ∨ b p = 61 ∨ b p = 62 then 16 else if b p = 59 then 17 else 18 := by unfold cd; rw [if_pos hp, if_neg l, if_neg z]
  have evl : vl b t p = if b p = 60 then -1 else if b p = 62 then 1 else 0 := by unfold vl; rw [if_neg l, if_neg z]
  have n : ∀ c : Nat, c < 256 → (nI (b p) = nI c ↔ b p = c) := fun c hc => ⟨fun y => nI_inj (by omega) (by omega) y, fun y => by rw [y]⟩
  have n60 := n 60 (by decide)
  have n62 := n 62 (by decide)
  have n61 := n 61 (by decide)
  have n59 := n 59 (by decide)
  have e12 : gi (si S 13 k 16) 12 4 = nI k := by rw [gi_si, if_neg (by omega)]; exact h12
  have e15 : gi (si S 13 k 16) 15 k = 0 := by rw [gi_si, if_neg (by omega)]; exact h15
  have f1 : fr (pTk k) S (si S 13 k 16) := (fr_rf _ S).si (Or.inl ⟨rfl, rfl⟩)
  have g13 : gi (si S 13 k 16) 13 k = 16 := by rw [gi_si, if_pos ⟨rfl, rfl⟩]
  unfold f_TokenRow_takeMark
  rw [h12, chk_pos hin, ix_nI (by omega), een, ecd, evl]
  simp only [nm_k]
  rw [e12]
  by_cases y60 : b p = 60
  · rw [if_pos (show nI (b p) = 60 from n60.mpr y60), chk_pos hin, bV_eq, ix_nI (by omega), if_pos (Or.inl y60), if_pos y60]
    exact ⟨_, rfl, f1.si (Or.inr ⟨rfl, rfl⟩), by rw [gi_si, if_neg (by omega)]; exact g13, by rw [gi_si, if_pos ⟨rfl, rfl⟩]⟩
  rw [if_neg (show ¬ nI (b p) = 60 from fun q => y60 (n60.mp q)), if_neg y60]
  by_cases y62 : b p = 62
  · rw [if_pos (show nI (b p) = 62 from n62.mpr y62), chk_pos hin, bV_eq, ix_nI (by omega), if_pos (Or.inr (Or.inr y62)), if_pos y62]
    exact ⟨_, rfl, f1.si (Or.inr ⟨rfl, rfl⟩), by rw [gi_si, if_neg (by omega)]; exact g13, by rw [gi_si, if_pos ⟨rfl, rfl⟩]⟩
  rw [if_neg (show ¬ nI (b p) = 62 from fun q => y62 (n62.mp q)), if_neg y62]
  by_cases y61 : b p = 61
  · rw [if_pos (show nI (b p) = 61 from n61.mpr y61), bV_eq, if_pos (Or.inr (Or.inl y61))]
    exact ⟨_, rfl, f1, g13, e15⟩
  rw [if_neg (show ¬ nI (b p) = 61 from fun q => y61 (n61.mp q)), if_neg (show ¬ (b p = 60 ∨ b p = 61 ∨ b p = 62) from fun q => by omega)]
  by_cases y59 : b p = 59
  · rw [if_pos (show nI (b p) = 59 from n59.mpr y59), chk_pos hin, bV_eq, ix_nI (by omega), if_pos y59]
    exact ⟨_, rfl, f1.si (Or.inl ⟨rfl, rfl⟩), by rw [gi_si, if_pos ⟨rfl, rfl⟩]; rfl, by rw [gi_si, if_neg (by omega)]; exact e15⟩
  · rw [if_neg (show ¬ nI (b p) = 59 from fun q => y59 (n59.mp q)), chk_pos hin, bV_eq, ix_nI (by omega), if_neg y59]
    exact ⟨_, rfl, f1.si (Or.inl ⟨rfl, rfl⟩), by rw [gi_si, if_pos ⟨rfl, rfl⟩]; rfl, by rw [gi_si, if_neg (by omega)]; exact e15⟩
def TKS (S : AS) (b : Nat → Nat) (t n : Nat) : Prop := ∀ k, k < n → gi S 13 k = nI (cd b t (tkp b t k)) ∧ gi S 14 k = nI (tkp b t k) ∧ gi S 15 k = vl b t (tkp b t k)
def pTR (c i : Nat) : Prop := (c = 12 ∧ i = 4) ∨ c = 13 ∨ c = 14 ∨ c = 15
theorem scan_L {b : Nat → Nat} {t N : Nat} (hN : N ≤ t) (hN1 : tkp b t N = t) (hN2 : ∀ k, k < N → tkp b t k < t) : ∀ (f k : Nat) (T : AS), k ≤ N → N - k < f → TX T b t → gi T 12 4 = nI k → TKS T b t k → ∃ T', (∀ J : AS → Option AS, f_TokenRow_scan_L11 J f (nI (tkp b t k)) T = J T') ∧ fr pTR T T' ∧ gi T' 12 4 = nI N ∧ TKS T' b t N := by
  intro f
  induction f with
  | zero => intro k T _ h; omega
  | succ f ih =>
    intro k T hk hf hT h12 hS
    have h400 := hT.2.1
    rcases Nat.lt_or_ge k N with q | q
    · have hp := hN2 k q
      have hk4 := tkp_ge k (fun j hj => hN2 j (by omega))
      have hin : vp_in (nI k) 401 := in_nI (by omega) (by decide)
      have f0 : fr pTR T (si (si T 14 k (nI (tkp b t k))) 15 k 0) := ((fr_rf _ T).si (by unfold pTR; omega)).si (by unfold pTR; omega)
      have g12 : gi (si (si T 14 k (nI (tkp b t k))) 15 k 0) 12 4 = nI k := by rw [gi_si, if_neg (by omega), gi_si, if_neg (by omega)]; exact h12
      obtain ⟨T1, a1, a2, a3, a4⟩ := take_spec (S := si (si T 14 k (nI (tkp b t k))) 15 k 0) (hT.mv (fun c j hc => by rw [gi_si, if_neg (by omega), gi_si, if_neg (by omega)])) hp (show k ≤ 400 by omega) g12 (by rw [gi_si, if_pos ⟨rfl, rfl⟩])
      have he := en_gt (b := b) hp
      have e12 : gi T1 12 4 = nI k := by rw [a2.2.1 12 4 (by unfold pTk; omega)]; exact g12
      have hTT : TX (si T1 12 4 (nI (k + 1))) b t := hT.mv (fun c j hc => by rw [gi_si, if_neg (by omega), a2.2.1 c j (by unfold pTk; omega), gi_si, if_neg (by omega), gi_si, if_neg (by omega)])
      have fT : fr pTR T (si T1 12 4 (nI (k + 1))) := (f0.tr (a2.mono (fun c i h => by unfold pTk at h; unfold pTR; omega))).si (by unfold pTR; omega)
      have e14 : ∀ j, gi (si T1 12 4 (nI (k + 1))) 14 j = if j = k then nI (tkp b t k) else gi T 14 j := fun j => by
        rw [gi_si, if_neg (by omega), a2.2.1 14 j (by unfold pTk; omega), gi_si, if_neg (by omega), gi_si]
        by_cases y : j = k
        · rw [if_pos ⟨rfl, y⟩, if_pos y]
        · rw [if_neg (fun z => y z.2), if_neg y]
      obtain ⟨T', c1, c2, c3, c4⟩ := ih (k + 1) (si T1 12 4 (nI (k + 1))) (by omega) (by omega) hTT (by rw [gi_si, if_pos ⟨rfl, rfl⟩]) (fun j hj => by
        rw [e14]
        by_cases y : j = k
        · subst y
          rw [if_pos rfl, gi_si, if_neg (by omega), gi_si, if_neg (by omega), a3, a4]
          exact ⟨rfl, rfl, rfl⟩
        · rw [if_neg y, gi_si, if_neg (by omega), gi_si, if_neg (by omega), a2.2.1 13 j (by unfold pTk; omega), a2.2.1 15 j (by unfold pTk; omega), gi_si, if_neg (by omega), gi_si, if_neg (by omega), gi_si, if_neg (by omega), gi_si, if_neg (by omega)]
          exact hS j (by omega))
      refine ⟨T', fun J => ?_, fT.tr c2, c3, c4⟩
      have emx : imx (nI (tkp b t k) + 1) (nI (en b t (tkp b t k))) = nI (en b t (tkp b t k)) := by
        unfold imx
        rw [nI_1]
        by_cases y : tkp b t k + 1 < en b t (tkp b t k)
        · rw [if_pos (nI_lt y (by omega))]
        · rw [if_neg (nI_nlt (by omega) (by omega)), show tkp b t k + 1 = en b t (tkp b t k) by omega]
      have g12a : gi (si T 14 k (nI (tkp b t k))) 12 4 = nI k := by rw [gi_si, if_neg (by omega)]; exact h12
      rw [f_TokenRow_scan_L11, hT.1, if_neg (nI_ge hp (by omega)), h12, if_neg (show ¬ (400 : Int32) ≤ nI k from nI_ge (b := 400) (by omega) (by decide)), chk_pos hin, ix_nI (n := k) (by omega)]
      simp only [nm_k]
      rw [g12a, chk_pos hin, ix_nI (n := k) (by omega), a1, bI_eq, emx, e12, nI_1, skip_spec hTT he.2, bI_eq]
      have ek : tkp b t (k + 1) = scn isBl b t (en b t (tkp b t k)) := by rw [tkp, if_pos hp]
      rw [← ek]
      exact c1 J
    · have e : k = N := by omega
      subst e
      refine ⟨T, fun J => ?_, fr_rf _ _, h12, hS⟩
      rw [f_TokenRow_scan_L11, hT.1, hN1, if_pos (nI_le (Nat.le_refl _) (by omega))]
def TOK (S : AS) (b : Nat → Nat) (t N : Nat) : Prop := N ≤ 400 ∧ gi S 12 4 = nI (N + 1) ∧ (∀ k, k ≤ N → gi S 13 k = nI (cd b t (tkp b t k)) ∧ gi S 14 k = nI (tkp b t k)) ∧ ∀ k, k < N → gi S 15 k = vl b t (tkp b t k)
theorem scan_spec {S : AS} {b : Nat → Nat} {t N : Nat} (hT : TX S b t) (hN : N ≤ t) (hN1 : tkp b t N = t) (hN2 : ∀ k, k < N → tkp b t k < t) : ∃ S', f_TokenRow_scan S = some S' ∧ fr pTR S S' ∧ TOK S' b t N := by
  have h400 := hT.2.1
  have hT1 : TX (si S 12 4 0) b t := hT.mv (fun c j hc => by rw [gi_si, if_neg (by omega)])
  obtain ⟨T, a1, a2, a3, a4⟩ := scan_L hN hN1 hN2 FU 0 (si S 12 4 0) (by omega) (by rw [FU_succ]; omega) hT1 (by rw [gi_si, if_pos ⟨rfl, rfl⟩]; rfl) (fun k hk => by omega)
  have hin : vp_in (nI N) 401 := in_nI (by omega) (by decide)
  have e12 : gi (si T 13 N 19) 12 4 = nI N := by rw [gi_si, if_neg (by omega)]; exact a3
  have e1 : gi (si T 13 N 19) 1 1 = nI t := by rw [gi_si, if_neg (by omega), a2.2.1 1 1 (by unfold pTR; omega)]; exact hT1.1
  have e12' : gi (si (si T 13 N 19) 14 N (nI t)) 12 4 = nI N := by rw [gi_si, if_neg (by omega)]; exact e12
  refine ⟨si (si (si T 13 N 19) 14 N (nI t)) 12 4 (nI (N + 1)), ?_, (((((fr_rf _ S).si (by unfold pTR; omega)).tr a2).si (by unfold pTR; omega)).si (by unfold pTR; omega)).si (by unfold pTR; omega), by omega, by rw [gi_si, if_pos ⟨rfl, rfl⟩], fun k hk => ?_, fun k hk => ?_⟩
  · unfold f_TokenRow_scan
    simp only [nm_k]
    have s0 := skip_spec hT1 (Nat.zero_le t)
    rw [nI_0] at s0
    rw [s0, bI_eq]
    have a0 := a1 (fun S4 => chk (vp_in (gi S4 12 4) 401) (chk (vp_in (gi (si S4 13 (ix (gi S4 12 4)) 19) 12 4) 401) (some (si (si (si S4 13 (ix (gi S4 12 4)) 19) 14 (ix (gi (si S4 13 (ix (gi S4 12 4)) 19) 12 4)) (gi (si S4 13 (ix (gi S4 12 4)) 19) 1 1)) 12 4 (gi (si (si S4 13 (ix (gi S4 12 4)) 19) 14 (ix (gi (si S4 13 (ix (gi S4 12 4)) 19) 12 4)) (gi (si S4 13 (ix (gi S4 12 4)) 19) 1 1)) 12 4 + 1)))))
    rw [show tkp b t 0 = scn isBl b t 0 from rfl] at a0
    rw [a0, a3, chk_pos hin, ix_nI (by omega), e12, chk_pos hin, ix_nI (by omega), e1, e12', nI_1]
  · rw [gi_si, if_neg (by omega), gi_si, if_neg (by omega), gi_si (si (si T 13 N 19) 14 N (nI t)), if_neg (by omega), gi_si (si T 13 N 19)]
    by_cases y : k = N
    · subst y
      rw [gi_si, if_pos ⟨rfl, rfl⟩, if_pos ⟨rfl, rfl⟩, hN1, cd_19.mpr (by omega)]
      exact ⟨rfl, rfl⟩
    · rw [gi_si, if_neg (fun z => y z.2), if_neg (fun z => y z.2), gi_si, if_neg (by omega)]
      exact ⟨(a4 k (by omega)).1, (a4 k (by omega)).2.1⟩
  · rw [gi_si, if_neg (by omega), gi_si, if_neg (by omega), gi_si, if_neg (by omega)]
    exact (a4 k hk).2.2
