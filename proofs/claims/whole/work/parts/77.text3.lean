/-! the reference reads the text -/
theorem si_si (S : AS) (c k : Nat) (v w : Int32) : si (si S c k v) c k w = si S c k w := by
  unfold si
  simp only []
  congr 1
  congr 1
  funext a j
  by_cases h : a = c ∧ j = k
  · rw [if_pos h, if_pos h]
  · rw [if_neg h, if_neg h, if_neg h]
theorem si_same {S : AS} {c k : Nat} {v : Int32} (h : gi S c k = v) : si S c k v = S := by
  obtain ⟨n, i, l, r⟩ := S
  unfold si
  simp only []
  congr 1
  congr 1
  funext a j
  by_cases e : a = c ∧ j = k
  · rw [if_pos e, e.1, e.2]; exact h.symm
  · rw [if_neg e]
def MR (U : AS) (b : Nat → Nat) (t a : Nat) : Prop := gi U 70 23 = nI t ∧ t ≤ 400 ∧ (∀ i, gi U 71 i = nI (b i) ∧ b i ≤ 255) ∧ gi U 70 22 = nI a ∧ a ≤ 1000
theorem MR.at {U : AS} {b : Nat → Nat} {t a : Nat} (h : MR U b t a) {x : Nat} (hx : x ≤ 1000) : MR (si U 70 22 (nI x)) b t x := by
  obtain ⟨h1, h2, h3, h4, h5⟩ := h
  exact ⟨by rw [gi_si, if_neg (by omega)]; exact h1, h2, fun i => by rw [gi_si, if_neg (by omega)]; exact h3 i, by rw [gi_si, if_pos ⟨rfl, rfl⟩], hx⟩
theorem MR.mv {U V : AS} {b : Nat → Nat} {t a : Nat} (h : MR U b t a) (e : ∀ c k, (c = 70 ∧ (k = 22 ∨ k = 23)) ∨ c = 71 → gi V c k = gi U c k) : MR V b t a := by
  obtain ⟨h1, h2, h3, h4, h5⟩ := h
  exact ⟨by rw [e 70 23 (by omega)]; exact h1, h2, fun i => by rw [e 71 i (by omega)]; exact h3 i, by rw [e 70 22 (by omega)]; exact h4, h5⟩
theorem scn_le1000 {b : Nat → Nat} {t a : Nat} (ht : t ≤ 400) (ha : a ≤ 1000) (q : Nat → Bool) : scn q b t a ≤ 1000 := by
  rcases Nat.lt_or_ge a t with h | h
  · have := (scn_spec q b t a).2.1 (by omega); omega
  · rw [scn_end (by omega)]; exact ha
theorem here_L {b : Nat → Nat} {t : Nat} : ∀ (f a : Nat) (U : AS), MR U b t a → t - a < f → ∀ J : AS → Option (Int32 × AS), f_Md_here_L0 J f U = J (si U 70 22 (nI (scn isBl b t a))) := by
  intro f
  induction f with
  | zero => intro a U _ h; omega
  | succ f ih =>
    intro a U hU hf J
    obtain ⟨h1, h2, h3, h4, h5⟩ := id hU
    rw [f_Md_here_L0, h1, h4]
    rcases Nat.lt_or_ge a t with q | q
    · obtain ⟨e, hb⟩ := h3 a
      have hin : vp_in (nI a) 400 := in_nI (by omega) (by decide)
      rw [if_neg (nI_ge q (by omega)), chk_pos hin, ix_nI (by omega), e]
      simp only [nm_k]
      have next := ih (a + 1) (si U 70 22 (nI (a + 1))) (hU.at (by omega)) (by omega) J
      rw [si_si] at next
      by_cases z : b a = 32
      · rw [if_pos (show nI (b a) = 32 by rw [z]; rfl), h4, nI_1, scn_go q ((isBl_iff _).mpr (Or.inl z))]
        exact next
      · rw [if_neg (show ¬ nI (b a) = 32 from fun y => z (nI_inj (b := 32) (by omega) (by decide) y)), chk_pos hin]
        by_cases y : b a = 10
        · rw [if_pos (show nI (b a) = 10 by rw [y]; rfl), h4, nI_1, scn_go q ((isBl_iff _).mpr (Or.inr y))]
          exact next
        · rw [if_neg (show ¬ nI (b a) = 10 from fun x => y (nI_inj (b := 10) (by omega) (by decide) x)), scn_stop (fun x => by rcases (isBl_iff _).mp x with x | x; exact z x; exact y x), si_same h4]
    · rw [if_pos (nI_le q (by omega)), scn_end (by omega), si_same h4]
theorem here_spec {U : AS} {b : Nat → Nat} {t a : Nat} (hU : MR U b t a) : f_Md_here U = some (if scn isBl b t a < t then nI (b (scn isBl b t a)) else -1, si U 70 22 (nI (scn isBl b t a))) := by
  have h400 := hU.2.1
  have hs := scn_le1000 (b := b) h400 hU.2.2.2.2 isBl
  unfold f_Md_here
  simp only [nm_k]
  rw [here_L FU a U hU (by rw [FU_succ]; omega)]
  obtain ⟨h1, h2, h3, h4, h5⟩ := hU.at hs
  rw [h1, h4]
  by_cases q : scn isBl b t a < t
  · rw [if_neg (nI_ge q (by omega)), chk_pos (in_nI (by omega) (by decide)), ix_nI (by omega), (h3 _).1, if_pos q]
  · rw [if_pos (nI_le (by omega) (by omega)), if_neg q]
theorem mlet_spec {x : Nat} (hx : x ≤ 255) (S : AS) : f_Md_isLetter (nI x) S = some (if isL x = true then 1 else 0, S) := let_spec hx S
theorem mdig_spec {x : Nat} (hx : x ≤ 255) (S : AS) : f_Md_isDigit (nI x) S = some (if isDg x = true then 1 else 0, S) := dig_spec hx S
theorem ws_L {V : AS} {b : Nat → Nat} {t p : Nat} (hV : MR V b t p) : ∀ (f i : Nat), t - (p + i) < f → i ≤ 1000 → ∀ J : Int32 → AS → Option (Int32 × AS), f_Md_wordSize_L7 J f (nI i) V = J (nI (scn isL b t (p + i) - p)) V := by
  obtain ⟨h1, h2, h3, h4, h5⟩ := hV
  intro f
  induction f with
  | zero => intro i h; omega
  | succ f ih =>
    intro i hf hi J
    rw [f_Md_wordSize_L7, h1, h4, nI_add]
    rcases Nat.lt_or_ge (p + i) t with q | q
    · obtain ⟨e, hb⟩ := h3 (p + i)
      rw [if_neg (nI_ge q (by omega)), chk_pos (in_nI (by omega) (by decide)), ix_nI (by omega), e, mlet_spec hb, bI_eq]
      by_cases y : isL (b (p + i)) = true
      · rw [if_pos y, if_neg ne10, nI_1, scn_go q y]
        exact ih (i + 1) (by omega) (by omega) J
      · rw [if_neg y, if_pos rfl, scn_stop y, show p + i - p = i by omega]
    · rw [if_pos (nI_le q (by omega)), scn_end (by omega), show p + i - p = i by omega]
theorem ws_spec {U : AS} {b : Nat → Nat} {t a : Nat} (hU : MR U b t a) : f_Md_wordSize U = some (nI (wle b t (scn isBl b t a)), si U 70 22 (nI (scn isBl b t a))) := by
  have h400 := hU.2.1
  have hs := scn_le1000 (b := b) h400 hU.2.2.2.2 isBl
  unfold f_Md_wordSize
  rw [here_spec hU, bI_eq]
  simp only [nm_k]
  have k0 := ws_L (hU.at hs) FU 0 (by rw [FU_succ]; omega) (by omega) (fun a3 S4 => some (a3, S4))
  rw [nI_0] at k0
  exact k0
/-- a word as a long -/
def PX (x : Int64) (w : Nat) : Prop := ∀ k, k < 7 → k < wlen w → ((((x.toUInt64 >>> ((8 * ((nI (wlen w) - 1) - nI k)).toInt64.toUInt64 &&& Int64.toUInt64 63)).toInt64) &&& 255).toInt32) = wch (nI (8 * w + k))
theorem px_0 : PX 512970880104 0 := by unfold PX; decide +kernel
theorem px_1 : PX 28263424800944997 1 := by unfold PX; decide +kernel
theorem px_2 : PX 110386690024805 2 := by unfold PX; decide +kernel
theorem px_3 : PX 1918987883 3 := by unfold PX; decide +kernel
theorem px_4 : PX 482906174579 4 := by unfold PX; decide +kernel
theorem px_5 : PX 1684108389 5 := by unfold PX; decide +kernel
theorem px_6 : PX 1684109683 6 := by unfold PX; decide +kernel
theorem px_7 : PX 2003399784 7 := by unfold PX; decide +kernel
theorem px_8 : PX 1752132965 8 := by unfold PX; decide +kernel
theorem px_9 : PX 1751738216 9 := by unfold PX; decide +kernel
theorem px_10 : PX 7106423 10 := by unfold PX; decide +kernel
theorem px_11 : PX 6447474 11 := by unfold PX; decide +kernel
theorem px_12 : PX 26982 12 := by unfold PX; decide +kernel
theorem px_13 : PX 6385252 13 := by unfold PX; decide +kernel
theorem sp_L {V : AS} {b : Nat → Nat} {t p w : Nat} {x : Int64} (hV : MR V b t p) (hw : w < 14) (hx : PX x w) (hp : p + wlen w ≤ t) : ∀ (f i : Nat) (c : Int32), i ≤ wlen w → wlen w - i < f → (c = 0 ∨ c = 1) → ∀ J : Int32 → AS → Option (Int32 × AS), f_Md_spells_L16 J x (nI (wlen w)) f c (nI i) V = J (pif (c = 1 ∧ ∀ j, i ≤ j → j < wlen w → nI (b (p + j)) = wch (nI (8 * w + j))) 1 0) V := by
  obtain ⟨h1, h2, h3, h4, h5⟩ := hV
  have hb := wlen_b w hw
  intro f
  induction f with
  | zero => intro i c _ h; omega
  | succ f ih =>
    intro i c hi hf hc J
    rw [f_Md_spells_L16]
    rcases Nat.lt_or_ge i (wlen w) with q | q
    · rw [if_neg (nI_ge q (by omega))]
      simp only [nm_k]
      rcases hc with hc | hc
      · rw [if_pos hc, nI_1, ih (i + 1) 0 (by omega) (by omega) (Or.inl rfl) J, pif_neg (fun y => absurd y.1 (by decide)), pif_neg (fun y => by rw [hc] at y; exact absurd y.1 (by decide))]
      · rw [hc, if_neg ne10, h4, nI_add, chk_pos (in_nI (by omega) (by decide)), ix_nI (by omega), (h3 _).1, hx i (by omega) q, nI_1]
        by_cases z : nI (b (p + i)) = wch (nI (8 * w + i))
        · rw [if_pos z, ih (i + 1) 1 (by omega) (by omega) (Or.inr rfl) J]
          by_cases y : (1 : Int32) = 1 ∧ ∀ j, i + 1 ≤ j → j < wlen w → nI (b (p + j)) = wch (nI (8 * w + j))
          · rw [pif_pos y, pif_pos ⟨rfl, fun j j1 j2 => by
              by_cases v : j = i
              · rw [v]; exact z
              · exact y.2 j (by omega) j2⟩]
          · rw [pif_neg y, pif_neg (fun v => y ⟨rfl, fun j j1 j2 => v.2 j (by omega) j2⟩)]
        · rw [if_neg z, ih (i + 1) 0 (by omega) (by omega) (Or.inl rfl) J, pif_neg (fun y => absurd y.1 (by decide)), pif_neg (fun v => z (v.2 i (Nat.le_refl _) q))]
    · rw [if_pos (nI_le q (by omega))]
      rcases hc with hc | hc
      · rw [pif_neg (fun y => by rw [hc] at y; exact absurd y.1 (by decide)), hc]
      · rw [pif_pos ⟨hc, fun j j1 j2 => by omega⟩, hc]
theorem sp_spec {U : AS} {b : Nat → Nat} {t a w : Nat} {x : Int64} (hU : MR U b t a) (hw : w < 14) (hx : PX x w) {L : Int32} (hL : L = nI (wlen w)) : f_Md_spells x L U = some (pif (mt b t (scn isBl b t a) w) 1 0, si U 70 22 (nI (scn isBl b t a))) := by
  subst hL
  have h400 := hU.2.1
  have hs := scn_le1000 (b := b) h400 hU.2.2.2.2 isBl
  have hb := wlen_b w hw
  unfold f_Md_spells
  rw [ws_spec hU, bI_eq]
  have hwl : wle b t (scn isBl b t a) ≤ 400 := by
    unfold wle
    rcases Nat.lt_or_ge (scn isBl b t a) t with q | q
    · have := (scn_spec isL b t (scn isBl b t a)).2.1 (by omega); omega
    · rw [scn_end (q := isL) (by omega)]; omega
  by_cases e : wle b t (scn isBl b t a) = wlen w
  · have hp : scn isBl b t a + wlen w ≤ t := by
      rcases Nat.lt_or_ge (scn isBl b t a) t with q | q
      · have h1 := (scn_spec isL b t (scn isBl b t a)).2.1 (by omega)
        have h2 := (scn_spec isL b t (scn isBl b t a)).1
        unfold wle at e; omega
      · have := wle_0 (b := b) (t := t) (p := scn isBl b t a) (Or.inl (by omega))
        omega
    rw [if_pos (by rw [e])]
    simp only [nm_k]
    have k0 := sp_L (hU.at hs) hw hx hp FU 0 1 (by omega) (by rw [FU_succ]; omega) (Or.inr rfl) (fun a3 S4 => chk (isb a3) (some (a3, S4)))
    rw [nI_0] at k0
    rw [k0]
    by_cases m : mt b t (scn isBl b t a) w
    · rw [pif_pos ⟨rfl, fun j _ hj => m.2 j hj⟩, pif_pos m, chk_pos isb_1]
    · rw [pif_neg (fun y => m ⟨e, fun j hj => y.2 j (by omega) hj⟩), pif_neg m, chk_pos isb_0]
  · rw [if_neg (fun y => e (nI_inj (by omega) (by omega) y)), pif_neg (fun m => e m.1)]
theorem ps_spec {U : AS} {b : Nat → Nat} {t a w : Nat} {x : Int64} (hU : MR U b t a) (hw : w < 14) (hx : PX x w) {L : Int32} (hL : L = nI (wlen w)) : f_Md_passes x L U = some (if cd b t (scn isBl b t a) = w then 1 else 0, si U 70 22 (nI (if cd b t (scn isBl b t a) = w then en b t (scn isBl b t a) else scn isBl b t a))) := by
  have h400 := hU.2.1
  have hs := scn_le1000 (b := b) h400 hU.2.2.2.2 isBl
  have hb := wlen_b w hw
  unfold f_Md_passes
  rw [sp_spec hU hw hx hL, bI_eq]
  simp only [nm_k]
  have h4 : gi (si U 70 22 (nI (scn isBl b t a))) 70 22 = nI (scn isBl b t a) := by rw [gi_si, if_pos ⟨rfl, rfl⟩]
  rw [h4]
  by_cases m : mt b t (scn isBl b t a) w
  · have e := cd_word (b := b) (t := t) (p := scn isBl b t a) hw
    obtain ⟨p1, p2⟩ := en_word hw m
    rw [pif_pos m, if_neg ne10, if_pos (e.mpr m), if_pos (e.mpr m), chk_pos isb_1, si_si, hL, nI_add, p2]
  · have e := cd_word (b := b) (t := t) (p := scn isBl b t a) hw
    rw [pif_neg m, if_pos rfl, if_neg (fun y => m (e.mp y)), if_neg (fun y => m (e.mp y)), chk_pos isb_0, si_si, show nI (scn isBl b t a) + 0 = nI (scn isBl b t a + 0) from nI_add _ 0, Nat.add_zero]
theorem blame_spec (f x : Int32) (U : AS) : f_Md_blame f x U = some (if gi U 70 24 ≤ 0 then si (si U 70 24 f) 70 25 x else U) := by
  unfold f_Md_blame
  simp only [nm_k]
  split <;> rfl
theorem subj_spec {U : AS} {b : Nat → Nat} {t a : Nat} (hU : MR U b t a) : f_Md_subject U = if cd b t (scn isBl b t a) ≤ 6 then some (nI (cd b t (scn isBl b t a)), si U 70 22 (nI (en b t (scn isBl b t a)))) else bV (f_Md_blame 1 (nI (scn isBl b t a)) (si U 70 22 (nI (scn isBl b t a)))) fun S15 => some (0, S15) := by
  have h400 := hU.2.1
  have hs := scn_le1000 (b := b) h400 hU.2.2.2.2 isBl
  have hV := hU.at hs
  have hid := scn_idem isBl b t a
  have g22 : gi (si U 70 22 (nI (scn isBl b t a))) 70 22 = nI (scn isBl b t a) := by rw [gi_si, if_pos ⟨rfl, rfl⟩]
  have q0 := ps_spec hU (w := 0) (by decide) px_0 (L := 5) rfl
  have q1 := ps_spec hV (w := 1) (by decide) px_1 (L := 7) rfl
  have q2 := ps_spec hV (w := 2) (by decide) px_2 (L := 6) rfl
  have q3 := ps_spec hV (w := 3) (by decide) px_3 (L := 4) rfl
  have q4 := ps_spec hV (w := 4) (by decide) px_4 (L := 5) rfl
  have q5 := ps_spec hV (w := 5) (by decide) px_5 (L := 4) rfl
  have q6 := ps_spec hV (w := 6) (by decide) px_6 (L := 4) rfl
  rw [hid, si_si] at q1 q2 q3 q4 q5 q6
  unfold f_Md_subject
  rw [q0, bI_eq]
  by_cases h0 : cd b t (scn isBl b t a) = 0
  · rw [if_pos h0, if_pos h0, if_neg ne10, if_pos (by omega), h0]; rfl
  rw [if_neg h0, if_neg h0, if_pos rfl, q1, bI_eq]
  by_cases h1 : cd b t (scn isBl b t a) = 1
  · rw [if_pos h1, if_pos h1, if_neg ne10, if_pos (by omega), h1]; rfl
  rw [if_neg h1, if_neg h1, if_pos rfl, q2, bI_eq]
  by_cases h2 : cd b t (scn isBl b t a) = 2
  · rw [if_pos h2, if_pos h2, if_neg ne10, if_pos (by omega), h2]; rfl
  rw [if_neg h2, if_neg h2, if_pos rfl, q3, bI_eq]
  by_cases h3 : cd b t (scn isBl b t a) = 3
  · rw [if_pos h3, if_pos h3, if_neg ne10, if_pos (by omega), h3]; rfl
  rw [if_neg h3, if_neg h3, if_pos rfl, q4, bI_eq]
  by_cases h4 : cd b t (scn isBl b t a) = 4
  · rw [if_pos h4, if_pos h4, if_neg ne10, if_pos (by omega), h4]; rfl
  rw [if_neg h4, if_neg h4, if_pos rfl, q5, bI_eq]
  by_cases h5 : cd b t (scn isBl b t a) = 5
  · rw [if_pos h5, if_pos h5, if_neg ne10, if_pos (by omega), h5]; rfl
  rw [if_neg h5, if_neg h5, if_pos rfl, q6, bI_eq]
  by_cases h6 : cd b t (scn isBl b t a) = 6
  · rw [if_pos h6, if_pos h6, if_neg ne10, if_pos (by omega), h6]; rfl
  rw [if_neg h6, if_neg h6, if_pos rfl, if_neg (by omega), g22]
/-- an eighth digit -/
def ovf (b : Nat → Nat) (t c i : Nat) : Prop := nde b t c i = i + c ∧ nde b t c i < t ∧ isDg (b (nde b t c i)) = true
def pMr (c k : Nat) : Prop := (c = 70 ∧ 21 ≤ k ∧ k ≤ 25) ∨ c = 84
def FM (U : AS) (f : Int32) (x : Nat) : Prop := gi U 70 24 = f ∧ gi U 70 25 = nI x
theorem dg_L {b : Nat → Nat} {t p : Nat} : ∀ (f c i : Nat) (v : Int32) (V : AS), MR V b t i → gi V 70 24 = 0 → c ≤ 7 → i ≤ t → c + 2 < f → (¬ ovf b t c i → ∀ J : Int32 → AS → Option (Int32 × AS), f_Md_digits_L25 J f v (nI (7 - c)) V = J (ndv b t c i v) (si V 70 22 (nI (nde b t c i)))) ∧ (ovf b t c i → ∃ v' V', (∀ J : Int32 → AS → Option (Int32 × AS), f_Md_digits_L25 J f v (nI (7 - c)) V = J v' V') ∧ fr pMr V V' ∧ MR V' b t (nde b t c i + 1) ∧ FM V' 1 (nde b t c i)) := by
  intro f
  induction f with
  | zero => intro c i v V _ _ _ _ h; omega
  | succ f ih =>
    intro c i v V hV h24 hc hit hf
    obtain ⟨h1, h2, h3, h4, h5⟩ := id hV
    rcases Nat.lt_or_ge i t with q | q
    · obtain ⟨e, hb⟩ := h3 i
      have hin : vp_in (nI i) 400 := in_nI (by omega) (by decide)
      by_cases z : isDg (b i) = true
      · cases c with
        | zero =>
          refine ⟨fun y => absurd ⟨rfl, q, z⟩ y, fun _ => ?_⟩
          -- the eighth: blame it, and stop
          have gf : ∀ J : Int32 → AS → Option (Int32 × AS), f_Md_digits_L25 J (f + 1) v (nI (7 - 0)) V = f_Md_digits_L25 J f ((10 * v + nI (b i)) - 48) (nI 8) (si (si (si V 70 24 1) 70 25 (nI i)) 70 22 (nI (i + 1))) := fun J => by
            have g22 : gi (si (si V 70 24 1) 70 25 (nI i)) 70 22 = nI i := by rw [gi_si, if_neg (by omega), gi_si, if_neg (by omega)]; exact h4
            have g71 : gi (si (si V 70 24 1) 70 25 (nI i)) 71 i = nI (b i) := by rw [gi_si, if_neg (by omega), gi_si, if_neg (by omega)]; exact e
            rw [f_Md_digits_L25, h1, h4, if_neg (nI_ge q (by omega)), chk_pos hin, ix_nI (n := i) (by omega), e, mdig_spec hb, bI_eq, if_pos z, if_neg ne10, h24, if_pos rfl]
            simp only [nm_k]
            rw [if_pos (show nI (7 - 0) = 7 from rfl), h4, blame_spec, h24, if_pos (by decide), bV_eq, g22, chk_pos hin, ix_nI (n := i) (by omega), g71, nI_1, nI_1, show 7 - 0 + 1 = 8 from rfl]
          have hV' : MR (si (si (si V 70 24 1) 70 25 (nI i)) 70 22 (nI (i + 1))) b t (i + 1) := (hV.mv (fun c k hc => by rw [gi_si, if_neg (by omega), gi_si, if_neg (by omega)]) : MR (si (si V 70 24 1) 70 25 (nI i)) b t i).at (by omega)
          have g24 : gi (si (si (si V 70 24 1) 70 25 (nI i)) 70 22 (nI (i + 1))) 70 24 = 1 := by rw [gi_si, if_neg (by omega), gi_si, if_neg (by omega), gi_si, if_pos ⟨rfl, rfl⟩]
          have g25 : gi (si (si (si V 70 24 1) 70 25 (nI i)) 70 22 (nI (i + 1))) 70 25 = nI i := by rw [gi_si, if_neg (by omega), gi_si, if_pos ⟨rfl, rfl⟩]
          refine ⟨(10 * v + nI (b i)) - 48, si (si (si V 70 24 1) 70 25 (nI i)) 70 22 (nI (i + 1)), fun J => ?_, (((fr_rf _ V).si (by unfold pMr; omega)).si (by unfold pMr; omega)).si (by unfold pMr; omega), hV', g24, g25⟩
          rw [gf]
          obtain ⟨f', rfl⟩ : ∃ f', f = f' + 1 := ⟨f - 1, by omega⟩
          obtain ⟨w1, w2, w3, w4, w5⟩ := hV'
          rw [f_Md_digits_L25, w1, w4]
          by_cases y : t ≤ i + 1
          · rw [if_pos (nI_le y (by omega))]
          · rw [if_neg (nI_ge (by omega) (by omega)), chk_pos (in_nI (by omega) (by decide)), ix_nI (by omega), (w3 _).1, mdig_spec (w3 _).2, bI_eq, g24]
            by_cases x : isDg (b (i + 1)) = true
            · rw [if_pos x, if_neg ne10, if_neg ne10]
            · rw [if_neg x, if_pos rfl]
        | succ c =>
          have hV1 := hV.at (show i + 1 ≤ 1000 by omega)
          have g24 : gi (si V 70 22 (nI (i + 1))) 70 24 = 0 := by rw [gi_si, if_neg (by omega)]; exact h24
          obtain ⟨x1, x2⟩ := ih c (i + 1) ((10 * v + nI (b i)) - 48) (si V 70 22 (nI (i + 1))) hV1 g24 (by omega) (by omega) (by omega)
          have hn : nde b t (c + 1) i = nde b t c (i + 1) := by rw [nde, if_pos q, if_pos z]
          have hv : ndv b t (c + 1) i v = ndv b t c (i + 1) ((10 * v + nI (b i)) - 48) := by rw [ndv, if_pos q, if_pos z, Int32.mul_comm v 10]
          have ho : ovf b t (c + 1) i ↔ ovf b t c (i + 1) := by unfold ovf; rw [hn, show i + (c + 1) = i + 1 + c by omega]
          have unf : ∀ J : Int32 → AS → Option (Int32 × AS), f_Md_digits_L25 J (f + 1) v (nI (7 - (c + 1))) V = f_Md_digits_L25 J f ((10 * v + nI (b i)) - 48) (nI (7 - c)) (si V 70 22 (nI (i + 1))) := fun J => by
            rw [f_Md_digits_L25, h1, h4, if_neg (nI_ge q (by omega)), chk_pos hin, ix_nI (n := i) (by omega), e, mdig_spec hb, bI_eq, if_pos z, if_neg ne10, h24, if_pos rfl]
            simp only [nm_k]
            rw [if_neg (show ¬ nI (7 - (c + 1)) = 7 from fun y => by have := nI_inj (b := 7) (by omega) (by decide) y; omega), h4, chk_pos hin, ix_nI (n := i) (by omega), e, nI_1, nI_1, show 7 - (c + 1) + 1 = 7 - c by omega]
          refine ⟨fun y J => ?_, fun y => ?_⟩
          · rw [unf, x1 (fun w => y (ho.mpr w)), si_si, hn, hv]
          · obtain ⟨v', V', a1, a2, a3, a4⟩ := x2 (ho.mp y)
            rw [hn]
            exact ⟨v', V', fun J => by rw [unf]; exact a1 J, fr.tr (P := pMr) ((fr_rf _ V).si (by unfold pMr; omega)) a2, a3, a4⟩
      · have hn : nde b t c i = i := by cases c with | zero => rfl | succ c => rw [nde, if_pos q, if_neg z]
        have hv : ndv b t c i v = v := by cases c with | zero => rfl | succ c => rw [ndv, if_pos q, if_neg z]
        refine ⟨fun _ J => ?_, fun y => ?_⟩
        · rw [f_Md_digits_L25, h1, h4, if_neg (nI_ge q (by omega)), chk_pos hin, ix_nI (n := i) (by omega), e, mdig_spec hb, bI_eq, if_neg z, if_pos rfl, hn, hv, si_same h4]
        · have := y.2.2
          rw [hn] at this
          exact absurd this z
    · have hn : nde b t c i = i := by cases c with | zero => rfl | succ c => rw [nde, if_neg (by omega)]
      have hv : ndv b t c i v = v := by cases c with | zero => rfl | succ c => rw [ndv, if_neg (by omega)]
      refine ⟨fun _ J => ?_, fun y => ?_⟩
      · rw [f_Md_digits_L25, h1, h4, if_pos (nI_le q (by omega)), hn, hv, si_same h4]
      · have := y.2.1
        omega
theorem dg_spec {U : AS} {b : Nat → Nat} {t a : Nat} (hU : MR U b t a) (h24 : gi U 70 24 = 0) : (¬ cd b t (scn isBl b t a) = 15 → f_Md_digits U = some (0, si (si (si U 70 22 (nI (scn isBl b t a))) 70 24 1) 70 25 (nI (scn isBl b t a)))) ∧ (cd b t (scn isBl b t a) = 15 → ¬ ovf b t 7 (scn isBl b t a) → f_Md_digits U = some (ndv b t 7 (scn isBl b t a) 0, si U 70 22 (nI (nde b t 7 (scn isBl b t a))))) ∧ (cd b t (scn isBl b t a) = 15 → ovf b t 7 (scn isBl b t a) → ∃ v' V', f_Md_digits U = some (v', V') ∧ fr pMr U V' ∧ MR V' b t (nde b t 7 (scn isBl b t a) + 1) ∧ FM V' 1 (nde b t 7 (scn isBl b t a))) := by
  have h400 := hU.2.1
  have hs := scn_le1000 (b := b) h400 hU.2.2.2.2 isBl
  have hV := hU.at hs
  have g24 : gi (si U 70 22 (nI (scn isBl b t a))) 70 24 = 0 := by rw [gi_si, if_neg (by omega)]; exact h24
  have g22 : gi (si U 70 22 (nI (scn isBl b t a))) 70 22 = nI (scn isBl b t a) := by rw [gi_si, if_pos ⟨rfl, rfl⟩]
  have start : f_Md_digits U = if (scn isBl b t a < t ∧ isDg (b (scn isBl b t a)) = true) then f_Md_digits_L25 (fun a5 S6 => some (a5, S6)) FU 0 0 (si U 70 22 (nI (scn isBl b t a))) else some (0, si (si (si U 70 22 (nI (scn isBl b t a))) 70 24 1) 70 25 (nI (scn isBl b t a))) := by
    unfold f_Md_digits
    rw [here_spec hU, bI_eq]
    simp only [nm_k]
    by_cases q : scn isBl b t a < t
    · rw [if_pos q, mdig_spec (hV.2.2.1 _).2, bI_eq]
      by_cases z : isDg (b (scn isBl b t a)) = true
      · rw [if_pos z, if_neg ne10, if_pos ⟨q, z⟩]
      · rw [if_neg z, if_pos rfl, if_neg (fun y => z y.2), g22, blame_spec, g24, if_pos (by decide), bV_eq]
    · rw [if_neg q, if_neg (fun y => q y.1)]
      have : f_Md_isDigit (-1) (si U 70 22 (nI (scn isBl b t a))) = some (0, si U 70 22 (nI (scn isBl b t a))) := by
        unfold f_Md_isDigit
        simp only [nm_k]
        rw [if_pos (by decide)]
      rw [this, bI_eq, if_pos rfl, g22, blame_spec, g24, if_pos (by decide), bV_eq]
  have c15 := cd_15 (b := b) (t := t) (p := scn isBl b t a)
  refine ⟨fun n => ?_, fun y n => ?_, fun y o => ?_⟩
  · rw [start, if_neg (fun z => n (c15.mpr z))]
  · obtain ⟨y1, y2⟩ := c15.mp y
    have k := (dg_L (b := b) (t := t) (p := 0) FU 7 (scn isBl b t a) 0 (si U 70 22 (nI (scn isBl b t a))) hV g24 (Nat.le_refl _) (by omega) (by rw [FU_succ]; omega)).1 n (fun a5 S6 => some (a5, S6))
    rw [start, if_pos ⟨y1, y2⟩]
    rw [si_si] at k
    exact k
  · obtain ⟨y1, y2⟩ := c15.mp y
    obtain ⟨v', V', a1, a2, a3, a4⟩ := (dg_L (b := b) (t := t) (p := 0) FU 7 (scn isBl b t a) 0 (si U 70 22 (nI (scn isBl b t a))) hV g24 (Nat.le_refl _) (by omega) (by rw [FU_succ]; omega)).2 o
    refine ⟨v', V', ?_, fr.tr (P := pMr) ((fr_rf _ U).si (by unfold pMr; omega)) a2, a3, a4⟩
    rw [start, if_pos ⟨y1, y2⟩]
    exact a1 _
