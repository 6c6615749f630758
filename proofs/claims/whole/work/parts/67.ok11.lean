/-! claims: the row, in order -/
def mrk (D : DT) (X : AS) (p : Nat) (t : Int32) (k : Nat) (x : Nat → Nat) : Nat → Nat
  | 0 => 0
  | r + 1 => if mDec D X p k (x r) t < 0 then r + 1 else mrk D X p t k x r
def mins (x : Nat → Nat) (r k : Nat) : Nat → Nat := fun i => if i < r then x i else if i = r then k else x (i - 1)
def mcl (D : DT) (X : AS) (p : Nat) (t : Int32) : Nat → Nat × (Nat → Nat)
  | 0 => (0, fun _ => 0)
  | k + 1 => if mmay D X k p t = 0 then mcl D X p t k else ((mcl D X p t k).1 + 1, mins (mcl D X p t k).2 (mrk D X p t k (mcl D X p t k).2 (mcl D X p t k).1) k)
theorem mrk_le (D : DT) (X : AS) (p : Nat) (t : Int32) (k : Nat) (x : Nat → Nat) (r : Nat) : mrk D X p t k x r ≤ r := by
  induction r with
  | zero => exact Nat.le_refl _
  | succ r ih =>
    rw [mrk]
    split
    · exact Nat.le_refl _
    · omega
theorem mcl_ok {D : DT} {W kn : Nat → Prop} {X : AS} (hx : XOK D W kn X) (p : Nat) (t : Int32) (k : Nat) : (mcl D X p t k).1 ≤ k ∧ ∀ i, i < (mcl D X p t k).1 → (mcl D X p t k).2 i < k ∧ kn ((mcl D X p t k).2 i) := by
  induction k with
  | zero => exact ⟨Nat.le_refl _, fun i hi => absurd hi (Nat.not_lt_zero i)⟩
  | succ k ih =>
    rw [mcl]
    by_cases h : mmay D X k p t = 0
    · rw [if_pos h]
      exact ⟨by omega, fun i hi => ⟨by have := (ih.2 i hi).1; omega, (ih.2 i hi).2⟩⟩
    · rw [if_neg h]
      have hk : kn k := by
        rcases hx.2.1 k with q | ⟨-, q⟩
        · exact absurd q (mmay_live h)
        · exact q
      refine ⟨by have := ih.1; simp only []; omega, fun i hi => ?_⟩
      simp only [] at hi ⊢
      unfold mins
      have hr := mrk_le D X p t k (mcl D X p t k).2 (mcl D X p t k).1
      by_cases h1 : i < mrk D X p t k (mcl D X p t k).2 (mcl D X p t k).1
      · rw [if_pos h1]
        exact ⟨by have := (ih.2 i (by omega)).1; omega, (ih.2 i (by omega)).2⟩
      · rw [if_neg h1]
        by_cases h2 : i = mrk D X p t k (mcl D X p t k).2 (mcl D X p t k).1
        · rw [if_pos h2]; exact ⟨by omega, hk⟩
        · rw [if_neg h2]
          exact ⟨by have := (ih.2 (i - 1) (by omega)).1; omega, (ih.2 (i - 1) (by omega)).2⟩
theorem CSt.g {S T : AS} {D : DT} {W kn : Nat → Prop} {P K : Nat} (h : CSt S D W kn P K) (hf : ∀ c k, (16 ≤ c ∧ c ≤ 48) ∨ 99 ≤ c → gi T c k = gi S c k) (hr : ∀ k, gr T 40 k = gr S 40 k) : CSt T D W kn P K := by
  obtain ⟨s1, s2, s3, s4, s5, s6, s7, s8, s9, s10⟩ := h
  refine ⟨s1, s2, by rw [hf 16 7 (by omega)]; exact s3, by rw [hf 23 8 (by omega)]; exact s4, fun p hp => by rw [hf 20 p (by omega), hf 21 p (by omega), hf 22 p (by omega)]; exact s5 p hp, fun w hw => by rw [hf 17 w (by omega), hf 18 w (by omega), hf 19 w (by omega)]; exact s6 w hw, fun k hk => by rw [hf 24 k (by omega), hf 25 k (by omega), hf 26 k (by omega), hf 27 k (by omega), hf 28 k (by omega), hf 29 k (by omega)]; exact s7 k hk, by rw [hf 38 3 (by omega)]; exact s8, fun r hr' => ?_, by rw [hf 41 4 (by omega)]; exact s10⟩
  obtain ⟨a, q, b, c, d⟩ := s9 r hr'
  exact ⟨by rw [hf 39 r (by omega)]; exact a, q, b, by rw [hr]; exact c, d.mq (Or.inr b) (fun c k hc => hf c k (by omega))⟩
theorem MSt.g {S T : AS} {D : DT} {W kn : Nat → Prop} {P K : Nat} (h : MSt S D W kn P K) (e : ∀ c k, (c = 70 ∧ k ≤ 15) ∨ (72 ≤ c ∧ c ≤ 83) → gi T c k = gi S c k) : MSt T D W kn P K := by
  obtain ⟨s1, s2, s3, s4, s5, s6, s7, s8, s9, s10⟩ := h
  exact ⟨s1, s2, by rw [e 70 2 (by omega)]; exact s3, by rw [e 70 11 (by omega)]; exact s4, by rw [e 70 4 (by omega)]; exact s5, by rw [e 70 15 (by omega)]; exact s6, fun k => by rw [e 73 k (by omega)]; exact s7 k, fun c k x y => by rw [e c k (by omega)]; exact s8 c k x y, fun w hw => ⟨(s9 w hw).1, fun i hi => by rw [e 72 _ (by omega)]; exact (s9 w hw).2 i hi⟩, fun k hk => ⟨(s10 k hk).1, fun i hi => by rw [e 78 _ (by omega)]; exact (s10 k hk).2 i hi⟩⟩
theorem RM.g {S T : AS} {D : DT} {P K : Nat} {X : AS} (h : RM S D P K X) (e : ∀ c k, 85 ≤ c → c ≤ 90 → gi T c k = gi S c k) (el : ∀ k, gl T 91 k = gl S 91 k) : RM T D P K X := by
  obtain ⟨a, b, c⟩ := h
  exact ⟨fun p hp => by rw [e 85 p (by omega) (by omega), e 86 p (by omega) (by omega)]; exact a p hp, fun w hw => by rw [e 87 w (by omega) (by omega), el]; exact b w hw, fun k hk => by rw [e 88 k (by omega) (by omega), e 89 k (by omega) (by omega), e 90 k (by omega) (by omega)]; exact c k hk⟩
def pG (c k : Nat) : Prop := c = 58 ∨ c = 59 ∨ c = 69
theorem gc_in {T1 : AS} {D : DT} {W kn : Nat → Prop} {P K : Nat} {X : AS} {t : Int32} (hd : DOK D W kn) (hs : CSt T1 D W kn P K) (hr : RC T1 D X) (hT : TR T1 D t) {p k c : Nat} {x : Nat → Nat} {z1 z2 : Int32} (hp : p < mQ D) (hk : kn k) (hc : c ≤ 47) (hxk : ∀ i, i < c → kn (x i) ∧ ¬ k = x i) : ∀ (f j : Nat) (T : AS), j ≤ c → j < f → fr pG T1 T → (∀ i, i < j → gi T 69 i = nI (x i)) → (∀ i, j < i → i ≤ c → gi T 69 i = nI (x (i - 1))) → ∃ T', (∀ J : Int32 → AS → Option (Int32 × AS), f_Course_gatherClaims_69_L52 J (nI p) z1 z2 (nI k) f (nI j) T = J (nI (mrk D X p t k x j)) T') ∧ fr pG T1 T' ∧ (∀ i, i < mrk D X p t k x j → gi T' 69 i = nI (x i)) ∧ (∀ i, mrk D X p t k x j < i → i ≤ c → gi T' 69 i = nI (x (i - 1))) := by
  intro f
  induction f with
  | zero => intro j T _ h; omega
  | succ f ih =>
    intro j T hj hf hfr h1 h2
    cases j with
    | zero => exact ⟨T, fun J => by rw [f_Course_gatherClaims_69_L52, if_pos (show nI 0 ≤ 0 by decide)]; rfl, hfr, h1, h2⟩
    | succ j =>
      have hsT : CSt T D W kn P K := hs.g (fun c k h => hfr.2.1 c k (by unfold pG; omega)) (fun k => hfr.2.2.2 40 k)
      have hrT : RC T D X := hr.cg (fun c k x y => hfr.2.1 c k (by unfold pG; omega)) (fun k => hfr.2.2.1 53 k (by unfold pG; omega))
      have hTT : TR T D t := hT.cg (fun c k h => hfr.2.1 c k (by unfold pG; omega)) (hfr.2.2.2 49 15)
      obtain ⟨T2, b1, b2⟩ := cl_duel hd hsT hrT hTT hp hk (hxk j (by omega)).1 (hxk j (by omega)).2
      have fT2 : fr pG T1 T2 := hfr.tr (b2.mono (fun c k h => by unfold pCF at h; unfold pG; omega))
      have u2 : ∀ i, gi T2 69 i = gi T 69 i := fun i => b2.2.1 69 i (by unfold pCF; omega)
      have unf : ∀ J : Int32 → AS → Option (Int32 × AS), f_Course_gatherClaims_69_L52 J (nI p) z1 z2 (nI k) (f + 1) (nI (j + 1)) T = if mDec D X p k (x j) t < 0 then J (nI (j + 1)) T2 else f_Course_gatherClaims_69_L52 J (nI p) z1 z2 (nI k) f (nI j) (si T2 69 (j + 1) (gi T2 69 j)) := fun J => by
        rw [f_Course_gatherClaims_69_L52, if_neg (nI_nle (by omega) (by omega)), nI_pred, chk_pos (in_nI (by omega) (by decide)), ix_nI (show j < 2147483648 by omega), h1 j (by omega), b1, bI_eq]
        by_cases z : mDec D X p k (x j) t < 0
        · rw [if_pos z, if_pos z]
        · rw [if_neg z, if_neg z, chk_pos (in_nI (by omega) (by decide)), chk_pos (in_nI (by omega) (by decide)), nm_eq, ix_nI (by omega), pk_m1]
      rw [mrk]
      by_cases z : mDec D X p k (x j) t < 0
      · rw [if_pos z]
        exact ⟨T2, fun J => by rw [unf, if_pos z], fT2, fun i hi => by rw [u2]; exact h1 i hi, fun i i1 i2 => by rw [u2]; exact h2 i i1 i2⟩
      · rw [if_neg z]
        obtain ⟨T', c1, c2, c3, c4⟩ := ih j (si T2 69 (j + 1) (gi T2 69 j)) (by omega) (by omega) (fT2.si (by unfold pG; omega)) (fun i hi => by rw [gi_si, if_neg (by omega), u2]; exact h1 i (by omega)) (fun i i1 i2 => by
          rw [gi_si]
          by_cases e : i = j + 1
          · rw [if_pos ⟨rfl, e⟩, u2, h1 j (by omega), e]; rfl
          · rw [if_neg (by omega), u2]; exact h2 i (by omega) i2)
        exact ⟨T', fun J => by rw [unf, if_neg z]; exact c1 J, c2, c3, c4⟩
theorem gc_out {T1 : AS} {D : DT} {W kn : Nat → Prop} {P K : Nat} {X : AS} {t : Int32} (hd : DOK D W kn) (hs : CSt T1 D W kn P K) (hx : XOK D W kn X) (hr : RC T1 D X) (hT : TR T1 D t) {p : Nat} {z : Int32} (hp : p < mQ D) : ∀ (f k : Nat) (T : AS), k ≤ K → K - k < f → fr pG T1 T → (∀ i, i < (mcl D X p t k).1 → gi T 69 i = nI ((mcl D X p t k).2 i)) → ∃ T', (∀ J : Int32 → AS → Option (Int32 × AS), f_Course_gatherClaims_69_L19 J (nI p) z f (nI (mcl D X p t k).1) (nI k) T = J (nI (mcl D X p t K).1) T') ∧ fr pG T1 T' ∧ ∀ i, i < (mcl D X p t K).1 → gi T' 69 i = nI ((mcl D X p t K).2 i) := by
  have hK48 := hs.2.1
  intro f
  induction f with
  | zero => intro k T _ h; omega
  | succ f ih =>
    intro k T hk hf hfr h1
    have hsT : CSt T D W kn P K := hs.g (fun c k h => hfr.2.1 c k (by unfold pG; omega)) (fun k => hfr.2.2.2 40 k)
    have hrT : RC T D X := hr.cg (fun c k x y => hfr.2.1 c k (by unfold pG; omega)) (fun k => hfr.2.2.1 53 k (by unfold pG; omega))
    have hTT : TR T D t := hT.cg (fun c k h => hfr.2.1 c k (by unfold pG; omega)) (hfr.2.2.2 49 15)
    rcases Nat.lt_or_ge k K with q | q
    · obtain ⟨T2, b1, b2⟩ := cl_may hd hsT hx hrT hTT hp q
      have fT2 : fr pG T1 T2 := hfr.tr (b2.mono (fun c k h => by unfold pCF at h; unfold pG; omega))
      have u2 : ∀ i, gi T2 69 i = gi T 69 i := fun i => b2.2.1 69 i (by unfold pCF; omega)
      obtain ⟨o1, o2⟩ := mcl_ok hx p t k
      have unf : ∀ J : Int32 → AS → Option (Int32 × AS), f_Course_gatherClaims_69_L19 J (nI p) z (f + 1) (nI (mcl D X p t k).1) (nI k) T = if mmay D X k p t = 0 then f_Course_gatherClaims_69_L19 J (nI p) z f (nI (mcl D X p t k).1) (nI (k + 1)) T2 else f_Course_gatherClaims_69_L52 (fun a10 S11 => chk (vp_in a10 48) (f_Course_gatherClaims_69_L19 J (nI p) z f (nI ((mcl D X p t k).1 + 1)) (nI (k + 1)) (si S11 69 (ix a10) (nI k)))) (nI p) z (nI (mcl D X p t k).1) (nI k) FU (nI (mcl D X p t k).1) T2 := fun J => by
        rw [f_Course_gatherClaims_69_L19, hsT.2.2.2.1, if_neg (nI_ge q (by omega)), if_neg (show ¬ (48 : Int32) ≤ nI (mcl D X p t k).1 from nI_ge (b := 48) (by omega) (by decide)), b1, bI_eq]
        simp only [nm_eq, nI_1]
      by_cases z0 : mmay D X k p t = 0
      · have e : mcl D X p t (k + 1) = mcl D X p t k := by rw [mcl, if_pos z0]
        obtain ⟨T', c1, c2⟩ := ih (k + 1) T2 (by omega) (by omega) fT2 (by rw [e]; exact fun i hi => by rw [u2]; exact h1 i hi)
        rw [e] at c1
        exact ⟨T', fun J => by rw [unf, if_pos z0]; exact c1 J, c2⟩
      · have e : mcl D X p t (k + 1) = ((mcl D X p t k).1 + 1, mins (mcl D X p t k).2 (mrk D X p t k (mcl D X p t k).2 (mcl D X p t k).1) k) := by rw [mcl, if_neg z0]
        have hkk : kn k := by
          rcases hx.2.1 k with y | ⟨-, y⟩
          · exact absurd y (mmay_live z0)
          · exact y
        have hrl := mrk_le D X p t k (mcl D X p t k).2 (mcl D X p t k).1
        obtain ⟨T3, d1, d2, d3, d4⟩ := gc_in (z1 := z) (z2 := nI (mcl D X p t k).1) hd hs hr hT hp hkk (show (mcl D X p t k).1 ≤ 47 by omega) (fun i hi => ⟨(o2 i hi).2, by have := (o2 i hi).1; omega⟩) FU (mcl D X p t k).1 T2 (Nat.le_refl _) (by rw [FU_succ]; omega) fT2 (fun i hi => by rw [u2]; exact h1 i hi) (fun i i1 i2 => by omega)
        generalize mrk D X p t k (mcl D X p t k).2 (mcl D X p t k).1 = r at *
        obtain ⟨T', c1, c2⟩ := ih (k + 1) (si T3 69 r (nI k)) (by omega) (by omega) (d2.si (by unfold pG; omega)) (by
          rw [e]
          intro i hi
          simp only [] at hi ⊢
          unfold mins
          rw [gi_si]
          by_cases y1 : i < r
          · rw [if_neg (by omega), if_pos y1]; exact d3 i y1
          · by_cases y2 : i = r
            · rw [if_pos ⟨rfl, y2⟩, if_neg y1, if_pos y2]
            · rw [if_neg (by omega), if_neg y1, if_neg y2]; exact d4 i (by omega) (by omega))
        rw [e] at c1
        refine ⟨T', fun J => ?_, c2⟩
        rw [unf, if_neg z0, d1, chk_pos (in_nI (by omega) (by decide)), ix_nI (by omega)]
        exact c1 J
    · have e : k = K := by omega
      subst e
      refine ⟨T, fun J => ?_, hfr, h1⟩
      rw [f_Course_gatherClaims_69_L19, hsT.2.2.2.1, if_pos (nI_le (Nat.le_refl _) (by omega))]
def pH (c k : Nat) : Prop := c = 93 ∨ (c = 70 ∧ k = 35)
theorem gm_in {U1 : AS} {D : DT} {W kn : Nat → Prop} {P K : Nat} {X : AS} {t : Int32} (hd : DOK D W kn) (ht : bnd t 9999999) (hs : MSt U1 D W kn P K) (hr : RM U1 D P K X) {p k c : Nat} {x : Nat → Nat} (hp : p < mQ D) (hk : kn k) (hc : c ≤ 47) (hxk : ∀ i, i < c → kn (x i) ∧ ¬ k = x i) : ∀ (f j : Nat) (T : AS), j ≤ c → j < f → fr pH U1 T → (∀ i, i < j → gi T 93 i = nI (x i)) → (∀ i, j < i → i ≤ c → gi T 93 i = nI (x (i - 1))) → ∃ T', (∀ J : Int32 → AS → Option (Int32 × AS), f_Md_claims_L67 J (nI p) t (nI k) f (nI j) T = J (nI (mrk D X p t k x j)) T') ∧ fr (fun c _ => c = 93) T T' ∧ (∀ i, i < mrk D X p t k x j → gi T' 93 i = nI (x i)) ∧ (∀ i, mrk D X p t k x j < i → i ≤ c → gi T' 93 i = nI (x (i - 1))) := by
  intro f
  induction f with
  | zero => intro j T _ h; omega
  | succ f ih =>
    intro j T hj hf hfr h1 h2
    cases j with
    | zero => exact ⟨T, fun J => by rw [f_Md_claims_L67, if_pos (show nI 0 ≤ 0 by decide)]; rfl, fr_rf _ _, h1, h2⟩
    | succ j =>
      have hsT : MSt T D W kn P K := hs.g (fun c k h => hfr.2.1 c k (by unfold pH; omega))
      have hrT : RM T D P K X := hr.g (fun c k x y => hfr.2.1 c k (by unfold pH; omega)) (fun k => hfr.2.2.1 91 k (by unfold pH; omega))
      have b1 := md_dec hd hsT hrT hp (hxk j (by omega)).1 hk t
      have an := mDec_anti (X := X) hd ht hp hk (hxk j (by omega)).1 (hxk j (by omega)).2
      have unf : ∀ J : Int32 → AS → Option (Int32 × AS), f_Md_claims_L67 J (nI p) t (nI k) (f + 1) (nI (j + 1)) T = if mDec D X p k (x j) t < 0 then J (nI (j + 1)) T else f_Md_claims_L67 J (nI p) t (nI k) f (nI j) (si T 93 (j + 1) (gi T 93 j)) := fun J => by
        rw [f_Md_claims_L67, if_neg (nI_nle (by omega) (by omega)), nI_pred, chk_pos (in_nI (by omega) (by decide)), ix_nI (show j < 2147483648 by omega), h1 j (by omega), b1, bI_eq]
        by_cases z : mDec D X p k (x j) t < 0
        · rw [if_pos z, if_pos (Int32.not_lt.mp (an.mp z))]
        · have z2 : mDec D X p (x j) k t < 0 := by
            by_cases y : mDec D X p (x j) k t < 0
            · exact y
            · exact absurd (an.mpr y) z
          rw [if_neg z, if_neg (fun y => absurd z2 (Int32.not_lt.mpr y)), chk_pos (in_nI (by omega) (by decide)), chk_pos (in_nI (by omega) (by decide)), nm_eq, ix_nI (by omega), pk_m1, h1 j (by omega)]
      rw [mrk]
      by_cases z : mDec D X p k (x j) t < 0
      · rw [if_pos z]
        exact ⟨T, fun J => by rw [unf, if_pos z], fr_rf _ _, h1, h2⟩
      · rw [if_neg z]
        obtain ⟨T', c1, c2, c3, c4⟩ := ih j (si T 93 (j + 1) (gi T 93 j)) (by omega) (by omega) (hfr.si (by unfold pH; omega)) (fun i hi => by rw [gi_si, if_neg (by omega)]; exact h1 i (by omega)) (fun i i1 i2 => by
          rw [gi_si]
          by_cases e : i = j + 1
          · rw [if_pos ⟨rfl, e⟩, h1 j (by omega), e]; rfl
          · rw [if_neg (by omega)]; exact h2 i (by omega) i2)
        exact ⟨T', fun J => by rw [unf, if_neg z]; exact c1 J, fr.tr (P := fun c _ => c = 93) ((fr_rf _ T).si rfl) c2, c3, c4⟩
theorem gm_out {U1 : AS} {D : DT} {W kn : Nat → Prop} {P K : Nat} {X : AS} {t : Int32} (hd : DOK D W kn) (ht : bnd t 9999999) (hs : MSt U1 D W kn P K) (hx : XOK D W kn X) (hr : RM U1 D P K X) {p : Nat} (hp : p < mQ D) : ∀ (f k : Nat) (T : AS), k ≤ K → K - k < f → fr pH U1 T → gi T 70 35 = nI (mcl D X p t k).1 → (∀ i, i < (mcl D X p t k).1 → gi T 93 i = nI ((mcl D X p t k).2 i)) → ∃ T', (∀ J : AS → Option (Int32 × AS), f_Md_claims_L40 J (nI p) t f (nI k) T = J T') ∧ fr pH U1 T' ∧ gi T' 70 35 = nI (mcl D X p t K).1 ∧ ∀ i, i < (mcl D X p t K).1 → gi T' 93 i = nI ((mcl D X p t K).2 i) := by
  have hK48 := hs.2.1
  intro f
  induction f with
  | zero => intro k T _ h; omega
  | succ f ih =>
    intro k T hk hf hfr h35 h1
    have hsT : MSt T D W kn P K := hs.g (fun c k h => hfr.2.1 c k (by unfold pH; omega))
    have hrT : RM T D P K X := hr.g (fun c k x y => hfr.2.1 c k (by unfold pH; omega)) (fun k => hfr.2.2.1 91 k (by unfold pH; omega))
    rcases Nat.lt_or_ge k K with q | q
    · have b1 := md_may hd hsT hx hrT hp q t
      obtain ⟨o1, o2⟩ := mcl_ok hx p t k
      have unf : ∀ J : AS → Option (Int32 × AS), f_Md_claims_L40 J (nI p) t (f + 1) (nI k) T = if mmay D X k p t = 0 then f_Md_claims_L40 J (nI p) t f (nI (k + 1)) T else f_Md_claims_L67 (fun a15 S16 => chk (vp_in a15 48) (f_Md_claims_L40 J (nI p) t f (nI (k + 1)) (si (si S16 93 (ix a15) (nI k)) 70 35 (gi (si S16 93 (ix a15) (nI k)) 70 35 + 1)))) (nI p) t (nI k) FU (nI (mcl D X p t k).1) T := fun J => by
        rw [f_Md_claims_L40, hsT.2.2.2.1, if_neg (nI_ge q (by omega)), b1, bI_eq]
        simp only [nm_k, nI_1, h35]
      by_cases z0 : mmay D X k p t = 0
      · have e : mcl D X p t (k + 1) = mcl D X p t k := by rw [mcl, if_pos z0]
        obtain ⟨T', c1, c2⟩ := ih (k + 1) T (by omega) (by omega) hfr (by rw [e]; exact h35) (by rw [e]; exact h1)
        exact ⟨T', fun J => by rw [unf, if_pos z0]; exact c1 J, c2⟩
      · have e : mcl D X p t (k + 1) = ((mcl D X p t k).1 + 1, mins (mcl D X p t k).2 (mrk D X p t k (mcl D X p t k).2 (mcl D X p t k).1) k) := by rw [mcl, if_neg z0]
        have hkk : kn k := by
          rcases hx.2.1 k with y | ⟨-, y⟩
          · exact absurd y (mmay_live z0)
          · exact y
        have hrl := mrk_le D X p t k (mcl D X p t k).2 (mcl D X p t k).1
        obtain ⟨T3, d1, d2, d3, d4⟩ := gm_in hd ht hs hr hp hkk (show (mcl D X p t k).1 ≤ 47 by omega) (fun i hi => ⟨(o2 i hi).2, by have := (o2 i hi).1; omega⟩) FU (mcl D X p t k).1 T (Nat.le_refl _) (by rw [FU_succ]; omega) hfr h1 (fun i i1 i2 => by omega)
        have e35 : gi T3 70 35 = nI (mcl D X p t k).1 := by rw [d2.2.1 70 35 (by omega)]; exact h35
        generalize mrk D X p t k (mcl D X p t k).2 (mcl D X p t k).1 = r at *
        have fT3 : fr pH U1 T3 := hfr.tr (d2.mono (fun c k h => by unfold pH; omega))
        obtain ⟨T', c1, c2⟩ := ih (k + 1) (si (si T3 93 r (nI k)) 70 35 (nI ((mcl D X p t k).1 + 1))) (by omega) (by omega) ((fT3.si (by unfold pH; omega)).si (by unfold pH; omega)) (by rw [e, gi_si, if_pos ⟨rfl, rfl⟩]) (by
          rw [e]
          intro i hi
          simp only [] at hi ⊢
          unfold mins
          rw [gi_si, if_neg (by omega), gi_si]
          by_cases y1 : i < r
          · rw [if_neg (by omega), if_pos y1]; exact d3 i y1
          · by_cases y2 : i = r
            · rw [if_pos ⟨rfl, y2⟩, if_neg y1, if_pos y2]
            · rw [if_neg (by omega), if_neg y1, if_neg y2]; exact d4 i (by omega) (by omega))
        refine ⟨T', fun J => ?_, c2⟩
        rw [unf, if_neg z0, d1, chk_pos (in_nI (by omega) (by decide)), ix_nI (by omega), gi_si T3, if_neg (by omega), e35, nI_1]
        exact c1 J
    · have e : k = K := by omega
      subst e
      refine ⟨T, fun J => ?_, hfr, h35, h1⟩
      rw [f_Md_claims_L40, hsT.2.2.2.1, if_pos (nI_le (Nat.le_refl _) (by omega))]
