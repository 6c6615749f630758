theorem lr_2 {R : RD} {A0 A : Nat → Prop} {Q : Nat} (hQ : Q ≤ 16) (hR : RG R A0 Q) (hA : ∀ w, A w → A0 w) {S : AS} (hO : OFF S R A) (h68 : ∀ w, w < 24 → A w → gi S 68 w = pif (cyc R A w) (nI (pt R A w)) (-1)) : ∀ (f i : Nat) (T : AS), i ≤ 24 → 24 - i < f → fr (fun c k => c = 66) S T → (∀ w, i ≤ w → gi T 66 w = gi S 66 w) → ∃ T', (∀ J : Int32 → AS → Option (Int32 × AS), f_Exchange_leaveInRings_L53 J f (nI (cntP (fun w => cyc R A w ∧ ¬ pt R A w = R.2.2.2 w) i)) (nI i) T = J (nI (cntP (fun w => cyc R A w ∧ ¬ pt R A w = R.2.2.2 w) 24)) T') ∧ fr (fun c k => c = 66 ∧ i ≤ k) T T' ∧ ∀ w, i ≤ w → w < 24 → gi T' 66 w = pif (A w ∧ ¬ cyc R A w) (nI (R.2.2.2 w)) (-1) := by
  intro f
  induction f with
  | zero => intro i T _ h; omega
  | succ f ih =>
    intro i T hi hf hfr h66
    rcases Nat.lt_or_ge i 24 with q | q
    · have eT : ∀ c k, ¬ c = 66 → gi T c k = gi S c k := fun c k hc => hfr.2.1 c k hc
      have hin : vp_in (nI i) 24 := in_nI q (by decide)
      have t66 : gi T 66 i = pif (A i) (nI (R.2.2.2 i)) (-1) := by rw [h66 i (Nat.le_refl _)]; exact hO i q
      have t68 : A i → gi T 68 i = pif (cyc R A i) (nI (pt R A i)) (-1) := fun z => by rw [eT 68 i (by omega)]; exact h68 i q z
      have unf : ∀ J : Int32 → AS → Option (Int32 × AS), f_Exchange_leaveInRings_L53 J (f + 1) (nI (cntP (fun w => cyc R A w ∧ ¬ pt R A w = R.2.2.2 w) i)) (nI i) T = f_Exchange_leaveInRings_L53 J f (nI (cntP (fun w => cyc R A w ∧ ¬ pt R A w = R.2.2.2 w) (i + 1))) (nI (i + 1)) (pif (cyc R A i) (si T 66 i (-1)) T) := fun J => by
        rw [f_Exchange_leaveInRings_L53, if_neg (show ¬ (24 : Int32) ≤ nI i from nI_ge (b := 24) q (by decide)), chk_pos hin, ix_nI (by omega), t66]
        simp only [nm_k]
        rw [cntP]
        by_cases z : A i
        · obtain ⟨s1, s2, s3, s4⟩ := pt_spec hR hA z
          have o16 := (hR.1 i (hA i z)).2.1
          rw [pif_pos z, if_neg (nI_ne_m1 (by omega)), chk_pos hin, t68 z]
          by_cases y : cyc R A i
          · rw [pif_pos y, pif_pos y, if_neg (nI_ne_m1 (by omega)), chk_pos hin, chk_pos hin]
            by_cases x : pt R A i = R.2.2.2 i
            · rw [pif_neg (fun h => h.2 x), if_pos (by rw [x]), nI_1, chk_pos hin]
              rw [show nI (cntP (fun w => cyc R A w ∧ ¬ pt R A w = R.2.2.2 w) i) + 0 = nI (cntP (fun w => cyc R A w ∧ ¬ pt R A w = R.2.2.2 w) i + 0) from nI_add _ 0]
            · rw [pif_pos ⟨y, x⟩, if_neg (fun h => x (nI_inj (by omega) (by omega) h)), nI_1, nI_1, chk_pos hin]
          · rw [pif_neg y, pif_neg y, if_pos rfl, nI_1, pif_neg (fun h => y h.1)]; exact rfl
        · rw [pif_neg z, if_pos rfl, nI_1, pif_neg (fun h => z h.1.1), pif_neg (fun h => z h.1)]; exact rfl
      have fr1 : fr (fun c k => c = 66 ∧ i ≤ k) T (pif (cyc R A i) (si T 66 i (-1)) T) := by
        by_cases y : cyc R A i
        · rw [pif_pos y]; exact (fr_rf _ T).si ⟨rfl, Nat.le_refl _⟩
        · rw [pif_neg y]; exact fr_rf _ T
      have v1 : ∀ w, gi (pif (cyc R A i) (si T 66 i (-1)) T) 66 w = if w = i then pif (cyc R A i) (-1) (gi T 66 i) else gi T 66 w := fun w => by
        by_cases y : cyc R A i
        · rw [pif_pos y, pif_pos y, gi_si]
          by_cases e : w = i
          · rw [if_pos ⟨rfl, e⟩, if_pos e]
          · rw [if_neg (fun z => e z.2), if_neg e]
        · rw [pif_neg y, pif_neg y]
          by_cases e : w = i
          · rw [if_pos e, e]
          · rw [if_neg e]
      obtain ⟨T', a, b, c⟩ := ih (i + 1) (pif (cyc R A i) (si T 66 i (-1)) T) (by omega) (by omega) (hfr.tr (fr1.mono (fun c k h => h.1))) (fun w hw => by rw [v1, if_neg (by omega)]; exact h66 w (by omega))
      refine ⟨T', fun J => by rw [unf]; exact a J, fr.tr (P := fun c k => c = 66 ∧ i ≤ k) fr1 (b.mono (fun c k h => ⟨h.1, by omega⟩)), fun w w1 w2 => ?_⟩
      by_cases e : w = i
      · rw [e, b.2.1 66 i (by omega), v1, if_pos rfl, t66]
        by_cases y : cyc R A i
        · rw [pif_pos y, pif_neg (fun h => h.2 y)]
        · rw [pif_neg y]
          by_cases z : A i
          · rw [pif_pos z, pif_pos ⟨z, y⟩]
          · rw [pif_neg z, pif_neg (fun h => z h.1)]
      · exact c w (by omega) w2
    · refine ⟨T, fun J => ?_, fr_rf _ _, fun w w1 w2 => by omega⟩
      rw [f_Exchange_leaveInRings_L53, if_pos (show (24 : Int32) ≤ nI i from nI_le (a := 24) q (by omega)), show i = 24 by omega]
theorem cl_leave {R : RD} {A0 A : Nat → Prop} {Q : Nat} (hQ : Q ≤ 16) (hR : RG R A0 Q) (hA : ∀ w, A w → A0 w) {S : AS} (hO : OFF S R A) (h67 : ∀ w, w < 24 → gi S 67 w = pif (A w) (nI (tt R A w)) (-1)) (h68 : ∀ w, w < 24 → A w → gi S 68 w = -1) : ∃ T, f_Exchange_leaveInRings S = some (nI (cntP (fun w => cyc R A w ∧ ¬ pt R A w = R.2.2.2 w) 24), T) ∧ fr (fun c _ => c = 66 ∨ c = 68) S T ∧ OFF T R (fun w => A w ∧ ¬ cyc R A w) ∧ ∀ w, w < 24 → gi T 68 w = pif (cyc R A w) (nI (pt R A w)) (gi S 68 w) := by
  obtain ⟨T1, a1, a2, a3⟩ := lr_1 hQ hR hA hO h67 FU 0 S (by omega) (by rw [FU_succ]; omega) (fr_rf _ _)
  have hO1 : OFF T1 R A := fun w hw => by rw [a2.2.1 66 w (by omega)]; exact hO w hw
  obtain ⟨T2, b1, b2, b3⟩ := lr_2 hQ hR hA hO1 (fun w hw hAw => by rw [a3 w (by omega) hw, h68 w hw hAw]) FU 0 T1 (by omega) (by rw [FU_succ]; omega) (fr_rf _ _) (fun _ _ => rfl)
  refine ⟨T2, ?_, (a2.mono (fun c k h => Or.inr h.1)).tr (b2.mono (fun c k h => Or.inl h.1)), fun w hw => b3 w (by omega) hw, fun w hw => by rw [b2.2.1 68 w (by omega)]; exact a3 w (by omega) hw⟩
  unfold f_Exchange_leaveInRings
  simp only [nm_k]
  rw [nI_0] at a1
  rw [a1]
  have b0 := b1 (fun a2 S3 => some (a2, S3))
  rw [show cntP (fun w => cyc R A w ∧ ¬ pt R A w = R.2.2.2 w) 0 = 0 from rfl, nI_0] at b0
  exact b0
theorem gf_ex (R : RD) (A0 : Nat → Prop) : ∃ g : Nat → Nat, ∀ w r, cyc R (mA R A0 r) w → pt R (mA R A0 r) w = g w := by
  have key : ∀ w, ∃ y, ∀ r, cyc R (mA R A0 r) w → pt R (mA R A0 r) w = y := fun w => by
    by_cases h : ∃ r, cyc R (mA R A0 r) w
    · obtain ⟨r, hr⟩ := h
      exact ⟨pt R (mA R A0 r) w, fun s hs => by rw [lev_uniq hs hr]⟩
    · exact ⟨0, fun r hr => absurd ⟨r, hr⟩ h⟩
  exact Classical.skolem.mp key
def pXc (c k : Nat) : Prop := c = 66 ∨ c = 67 ∨ c = 68
theorem tn_loop {S X : AS} {Q : Nat} {g : Nat → Nat} (hT : TRN S X Q) (hg : ∀ w r, cyc (mRD S X Q) (mA (mRD S X Q) (mA0 X Q) r) w → pt (mRD S X Q) (mA (mRD S X Q) (mA0 X Q) r) w = g w) : ∀ (f r : Nat) (T : AS), r ≤ 24 → 24 - r < f → fr pXc S T → OFF T (mRD S X Q) (mA (mRD S X Q) (mA0 X Q) r) → (∀ w, w < 24 → gi T 68 w = pif (mA0 X Q w ∧ ¬ mA (mRD S X Q) (mA0 X Q) r w) (nI (g w)) (-1)) → ∃ T', (∀ J : Int32 → AS → Option (Int32 × AS), f_Exchange_turn_50_L19 J f (nI (cntP (fun w => mA0 X Q w ∧ ¬ mA (mRD S X Q) (mA0 X Q) r w ∧ ¬ g w = (mRD S X Q).2.2.2 w) 24)) (nI r) T = J (nI (cntP (fun w => mA0 X Q w ∧ ¬ mA (mRD S X Q) (mA0 X Q) 24 w ∧ ¬ g w = (mRD S X Q).2.2.2 w) 24)) T') ∧ fr pXc S T' ∧ ∀ w, w < 24 → gi T' 68 w = pif (mA0 X Q w ∧ ¬ mA (mRD S X Q) (mA0 X Q) 24 w) (nI (g w)) (-1) := by
  have hR := mRG (S := S) (X := X) hT.1 hT.2.2.2
  intro f
  induction f with
  | zero => intro r T _ h; omega
  | succ f ih =>
    intro r T hr hf hfr hO h68
    rcases Nat.lt_or_ge r 24 with q | q
    · have hTT : TRN T X Q := hT.mv (fun c k h => hfr.2.1 c k (by unfold pXc; omega))
      have eR : mRD T X Q = mRD S X Q := mRD_congr (fun c k h => hfr.2.1 c k (by unfold pXc; omega))
      have hmA : ∀ w, mA (mRD S X Q) (mA0 X Q) r w → mA0 X Q w := fun w h => mA_0 h
      generalize hRR : mRD S X Q = R at *
      obtain ⟨T1, a1, a2, a3⟩ := pa_loop (A := mA R (mA0 X Q) r) hmA hTT (by rw [eR]; exact hO) FU 0 T (by omega) (by rw [FU_succ]; omega) (fr_rf _ _)
      rw [eR] at a3
      have hO1 : OFF T1 R (mA R (mA0 X Q) r) := fun w hw => by rw [a2.2.1 66 w (by omega)]; exact hO w hw
      obtain ⟨T2, b1, b2, b3, b4⟩ := cl_leave hT.1 hR hmA hO1 (fun w hw => a3 w (by omega) hw) (fun w hw hAw => by rw [a2.2.1 68 w (by omega), h68 w hw, pif_neg (fun z => z.2 hAw)])
      have fT2 : fr pXc S T2 := hfr.tr ((a2.mono (fun c k h => by unfold pXc; omega)).tr (b2.mono (fun c k h => by unfold pXc; omega)))
      have hc : cntP (fun w => mA0 X Q w ∧ ¬ mA R (mA0 X Q) (r + 1) w ∧ ¬ g w = R.2.2.2 w) 24 = cntP (fun w => mA0 X Q w ∧ ¬ mA R (mA0 X Q) r w ∧ ¬ g w = R.2.2.2 w) 24 + cntP (fun w => cyc R (mA R (mA0 X Q) r) w ∧ ¬ pt R (mA R (mA0 X Q) r) w = R.2.2.2 w) 24 := by
        refine cntP_add (fun w _ => ?_) (fun w _ h => h.1.2.1 h.2.1.1)
        constructor
        · intro h
          by_cases z : mA R (mA0 X Q) r w
          · by_cases y : cyc R (mA R (mA0 X Q) r) w
            · exact Or.inr ⟨y, by rw [hg w r y]; exact h.2.2⟩
            · exact absurd ⟨z, y⟩ h.2.1
          · exact Or.inl ⟨h.1, z, h.2.2⟩
        · intro h
          rcases h with ⟨x, y, z⟩ | ⟨x, y⟩
          · exact ⟨x, fun h => y h.1, z⟩
          · exact ⟨hmA w x.1, fun h => h.2 x, by rw [← hg w r x]; exact y⟩
      obtain ⟨T', c1, c2⟩ := ih (r + 1) T2 (by omega) (by omega) fT2 b3 (fun w hw => by
        rw [b4 w hw, a2.2.1 68 w (by omega), h68 w hw]
        by_cases y : cyc R (mA R (mA0 X Q) r) w
        · rw [pif_pos y, pif_pos ⟨hmA w y.1, fun h => h.2 y⟩, hg w r y]
        · rw [pif_neg y]
          by_cases z : mA0 X Q w ∧ ¬ mA R (mA0 X Q) r w
          · rw [pif_pos z, pif_pos ⟨z.1, fun h => z.2 h.1⟩]
          · rw [pif_neg z, pif_neg (fun h => z ⟨h.1, fun x => h.2 ⟨x, y⟩⟩)])
      refine ⟨T', fun J => ?_, c2⟩
      have p1 : f_Exchange_pointAll_50 T = some T1 := by
        unfold f_Exchange_pointAll_50
        simp only [nm_k]
        rw [nI_0] at a1
        exact a1 _
      rw [f_Exchange_turn_50_L19, if_neg (show ¬ (24 : Int32) ≤ nI r from nI_ge (b := 24) q (by decide)), p1, bV_eq, b1, bI_eq]
      simp only [nm_k]
      rw [nI_add, ← hc, nI_1]
      exact c1 J
    · have e : r = 24 := by omega
      subst e
      refine ⟨T, fun J => ?_, hfr, h68⟩
      rw [f_Exchange_turn_50_L19, if_pos (by decide)]
theorem cl_turn {S X : AS} {Q : Nat} {g : Nat → Nat} (hT : TRN S X Q) (hg : ∀ w r, cyc (mRD S X Q) (mA (mRD S X Q) (mA0 X Q) r) w → pt (mRD S X Q) (mA (mRD S X Q) (mA0 X Q) r) w = g w) : ∃ T, f_Exchange_turn_50 (nI Q) S = some (nI (cntP (fun w => mA0 X Q w ∧ ¬ g w = (mRD S X Q).2.2.2 w) 24), T) ∧ fr pXc S T ∧ ∀ w, w < 24 → gi T 68 w = pif (mA0 X Q w) (nI (g w)) (-1) := by
  have hR := mRG (S := S) (X := X) hT.1 hT.2.2.2
  have hQ := hT.1
  obtain ⟨T1, a1, a2, a3⟩ := fill_68 (-1) S
  obtain ⟨T2, b1, b2, b3⟩ := fill_66 (-1) T1
  obtain ⟨T3, c1, c2, c3⟩ := of_out (X := X) hQ FU 0 T2 (by omega) (by rw [FU_succ]; omega) (fun q hq => by rw [b2.2.1 50 q (by omega), a2.2.1 50 q (by omega)]; exact hT.2.2.1 q hq)
  have fT3 : fr pXc S T3 := (a2.mono (fun c k h => by unfold pXc; omega)).tr ((b2.mono (fun c k h => by unfold pXc; omega)).tr (c2.mono (fun c k h => by unfold pXc; omega)))
  have hO : OFF T3 (mRD S X Q) (mA0 X Q) := fun w hw => by
    rw [c3 w (by omega) hw]
    by_cases z : mcnt X (nI w) Q = 1
    · obtain ⟨q, q1, q2, -⟩ := lst_spec z
      rw [if_pos z, pif_pos ⟨hw, z⟩]
      show lst X (nI w) Q = nI (ix (lst X (nI w) Q))
      rw [q2, ix_nI (by omega)]
    · rw [if_neg z, pif_neg (fun h => z h.2)]
  obtain ⟨T4, d1, d2, d3⟩ := tn_loop hT hg FU 0 T3 (by omega) (by rw [FU_succ]; omega) fT3 hO (fun w hw => by
    rw [c2.2.1 68 w (by omega), b2.2.1 68 w (by omega), a3 w hw, pif_neg (fun h => h.2 h.1)])
  have h24 : ∀ w, mA0 X Q w → ¬ mA (mRD S X Q) (mA0 X Q) 24 w := fun w hw => cntP_zero (by have := mA_cnt hR 24 (A0 := mA0 X Q); omega) w hw.1
  refine ⟨T4, ?_, d2, fun w hw => ?_⟩
  · unfold f_Exchange_turn_50 f_Exchange_offerSinglePosts_50
    simp only [nm_k]
    rw [nI_0] at c1
    have d0 := d1 (fun a3 S4 => some (a3, S4))
    have z0 : cntP (fun w => mA0 X Q w ∧ ¬ mA (mRD S X Q) (mA0 X Q) 0 w ∧ ¬ g w = (mRD S X Q).2.2.2 w) 24 = 0 := by
      rcases Nat.eq_zero_or_pos (cntP (fun w => mA0 X Q w ∧ ¬ mA (mRD S X Q) (mA0 X Q) 0 w ∧ ¬ g w = (mRD S X Q).2.2.2 w) 24) with q | q
      · exact q
      · exfalso
        have e0 : cntP (fun w => mA0 X Q w ∧ ¬ mA (mRD S X Q) (mA0 X Q) 0 w ∧ ¬ g w = (mRD S X Q).2.2.2 w) 24 = cntP (fun _ => False) 24 := cntP_congr (fun w _ => ⟨fun h => h.2.1 h.1, fun h => h.elim⟩)
        have h0 : ∀ n, cntP (fun _ => False) n = 0 := fun n => by
          induction n with
          | zero => rfl
          | succ n ih => rw [cntP, ih, pif_neg (fun x => x)]
        rw [h0] at e0
        omega
    have z24 : cntP (fun w => mA0 X Q w ∧ ¬ mA (mRD S X Q) (mA0 X Q) 24 w ∧ ¬ g w = (mRD S X Q).2.2.2 w) 24 = cntP (fun w => mA0 X Q w ∧ ¬ g w = (mRD S X Q).2.2.2 w) 24 := cntP_congr (fun w _ => ⟨fun h => ⟨h.1, h.2.2⟩, fun h => ⟨h.1, h24 w h.1, h.2⟩⟩)
    rw [z0, z24, nI_0] at d0
    rw [a1, bV_eq, b1, bV_eq, c1, bV_eq, d0]
  · rw [d3 w hw]
    by_cases z : mA0 X Q w
    · rw [pif_pos ⟨z, h24 w z⟩, pif_pos z]
    · rw [pif_neg (fun h => z h.1), pif_neg z]
