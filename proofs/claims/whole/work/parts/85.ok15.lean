/-! reign -/
def pRg (c k : Nat) : Prop := (c = 1 ∧ k = 1) ∨ (3 ≤ c ∧ c ≤ 15) ∨ (c = 70 ∧ (k = 1 ∨ (21 ≤ k ∧ k ≤ 25))) ∨ c = 84
theorem INV.rg {m : Nat} {S Z : AS} (h : INV m S) (hfr : fr pRg S Z) (e1 : gi Z 1 1 = 0) (e70 : gi Z 70 1 = 0) (hG' : iG Z) : INV (m + 1) Z := by
  obtain ⟨hs, hA, hB, hC, hO, hD, hE, hG, hH, hU, hJ, hW, hF, hK⟩ := h
  have hA' : iA Z := by
    obtain ⟨t, t1, t2, t3, t4⟩ := hA
    exact ⟨0, by omega, e1, e70, fun i => by rw [hfr.2.1 2 i (by unfold pRg; omega), hfr.2.1 71 i (by unfold pRg; omega)]; exact t4 i⟩
  exact ⟨hfr.sh hs, hA', hB.fr hfr (fun c k hd hp => by unfold dB at hd; unfold pRg at hp; omega), hC.fr hfr (fun c k hd hp => by unfold dC at hd; unfold pRg at hp; omega), hO.fr hfr (fun c k hd hp => by unfold dO at hd; unfold pRg at hp; omega), hD.fr hfr (fun c k hd hp => by unfold dD at hd; unfold pRg at hp; omega), hE.fr hfr (fun c k hd hp => by unfold dE at hd; unfold pRg at hp; omega), hG', hH.fr hfr (fun c k hd hp => by unfold dH at hd; unfold pRg at hp; omega), hU.fr hfr (fun c k hd hp => by unfold dU at hd; unfold pRg at hp; omega), hJ.fr hfr (fun c k hd hp => by unfold dJ at hd; unfold pRg at hp; omega), hW.fr hfr (by unfold pRg; omega), hF.fr hfr (fun c k hd hp => by unfold dF at hd; unfold pRg at hp; omega), hK.fr hfr (fun c k hd hp => by unfold dK at hd; unfold pRg at hp; omega) hB hD⟩
def pAd (c k : Nat) : Prop := pRg c k ∨ (c = 16 ∧ k = 8) ∨ (c = 38 ∧ k = 3) ∨ c = 39 ∨ (80 ≤ c ∧ c ≤ 83) ∨ (c = 70 ∧ k = 15) ∨ 99 ≤ c
theorem INV.ad {m : Nat} {S Z : AS} (h : INV m S) (hs' : Sh Z) (e : ∀ c k, ¬ pAd c k → gi Z c k = gi S c k) (el : ∀ c k, ¬ pAd c k → gl Z c k = gl S c k) (e1 : gi Z 1 1 = 0) (e70 : gi Z 70 1 = 0) (hG' : iG Z) (hW' : iW (m + 1) Z) (hF' : iF Z) (hK' : iK Z) : INV (m + 1) Z := by
  obtain ⟨hs, hA, hB, hC, hO, hD, hE, hG, hH, hU, hJ, hW, hF, hK⟩ := h
  have hA' : iA Z := by
    obtain ⟨t, t1, t2, t3, t4⟩ := hA
    exact ⟨0, by omega, e1, e70, fun i => by rw [e 2 i (by unfold pAd pRg; omega), e 71 i (by unfold pAd pRg; omega)]; exact t4 i⟩
  have hfr : fr pAd S (S.1, Z.2.1, Z.2.2.1, S.2.2.2) := ⟨rfl, e, el, fun _ _ => rfl⟩
  unfold pAd pRg at hfr
  exact ⟨hs', hA', (hB.fr hfr (fun c k hd hp => by unfold dB at hd; omega) : iB (S.1, Z.2.1, Z.2.2.1, S.2.2.2)), (hC.fr hfr (fun c k hd hp => by unfold dC at hd; omega) : iC (S.1, Z.2.1, Z.2.2.1, S.2.2.2)), (hO.fr hfr (fun c k hd hp => by unfold dO at hd; omega) : iO (S.1, Z.2.1, Z.2.2.1, S.2.2.2)), (hD.fr hfr (fun c k hd hp => by unfold dD at hd; omega) : iD (S.1, Z.2.1, Z.2.2.1, S.2.2.2)), (hE.fr hfr (fun c k hd hp => by unfold dE at hd; omega) : iE (S.1, Z.2.1, Z.2.2.1, S.2.2.2)), hG', (hH.fr hfr (fun c k hd hp => by unfold dH at hd; omega) : iH (S.1, Z.2.1, Z.2.2.1, S.2.2.2)), (hU.fr hfr (fun c k hd hp => by unfold dU at hd; omega) : iU (S.1, Z.2.1, Z.2.2.1, S.2.2.2)), (hJ.fr hfr (fun c k hd hp => by unfold dJ at hd; omega) : iJ (S.1, Z.2.1, Z.2.2.1, S.2.2.2)), hW', hF', hK'⟩
def mkU (V : AS) (t : Nat) : AS := si (si (si (si (si (si V 70 23 (nI t)) 70 1 0) 70 22 0) 70 21 0) 70 24 0) 70 25 (-1)
theorem mkU_gi (V : AS) (t c k : Nat) (h : ¬ (c = 70 ∧ (k = 1 ∨ (21 ≤ k ∧ k ≤ 25)))) : gi (mkU V t) c k = gi V c k := by
  unfold mkU
  rw [gi_si, if_neg (by omega), gi_si, if_neg (by omega), gi_si, if_neg (by omega), gi_si, if_neg (by omega), gi_si, if_neg (by omega), gi_si, if_neg (by omega)]
theorem mkU_fr {P : Nat → Nat → Prop} {S V : AS} (t : Nat) (h : fr P S V) (hp : ∀ k, k = 1 ∨ (21 ≤ k ∧ k ≤ 25) → P 70 k) : fr P S (mkU V t) := (((((h.si (hp 23 (by omega))).si (hp 1 (by omega))).si (hp 22 (by omega))).si (hp 21 (by omega))).si (hp 24 (by omega))).si (hp 25 (by omega))
theorem mkU_f (V : AS) (t : Nat) : gi (mkU V t) 70 23 = nI t ∧ gi (mkU V t) 70 1 = 0 ∧ gi (mkU V t) 70 22 = 0 ∧ gi (mkU V t) 70 21 = 0 ∧ gi (mkU V t) 70 24 = 0 ∧ gi (mkU V t) 70 25 = -1 := by
  unfold mkU
  refine ⟨?_, ?_, ?_, ?_, ?_, ?_⟩
  · rw [gi_si, if_neg (by omega), gi_si, if_neg (by omega), gi_si, if_neg (by omega), gi_si, if_neg (by omega), gi_si, if_neg (by omega), gi_si, if_pos ⟨rfl, rfl⟩]
  · rw [gi_si, if_neg (by omega), gi_si, if_neg (by omega), gi_si, if_neg (by omega), gi_si, if_neg (by omega), gi_si, if_pos ⟨rfl, rfl⟩]
  · rw [gi_si, if_neg (by omega), gi_si, if_neg (by omega), gi_si, if_neg (by omega), gi_si, if_pos ⟨rfl, rfl⟩]
  · rw [gi_si, if_neg (by omega), gi_si, if_neg (by omega), gi_si, if_pos ⟨rfl, rfl⟩]
  · rw [gi_si, if_neg (by omega), gi_si, if_pos ⟨rfl, rfl⟩]
  · rw [gi_si, if_pos ⟨rfl, rfl⟩]
noncomputable def T82 (p1 a7 : Int32) (S8 : AS) : Option (Int32 × AS) := if (gi S8 70 24) ≤ 0 then (bI (f_Md_is p1 0 9999999 S8) fun r10 S9 => nm (fun (S11 : AS) => some ((-2), S11)) fun J110 => if r10 = 0 then (J110 S9) else (if (gi S9 70 15) = 6 then (J110 S9) else (nm (fun (S12 : AS) => chk (vp_in (gi S12 70 15) 6) (nm (si S12 80 (ix (gi S12 70 15)) p1) fun S13 => chk (vp_in (gi S13 70 15) 6) (nm (si S13 81 (ix (gi S13 70 15)) a7) fun S14 => chk (vp_in (gi S14 70 15) 6) (nm (si S14 82 (ix (gi S14 70 15)) (gi S14 70 21)) fun S15 => nm (si S15 70 15 ((gi S15 70 15) + 1)) fun S16 => some (a7, S16))))) fun J150 => f_Md_reign_L115 J150 p1 a7 FU 0 S9))) else (some ((-1), S8))
theorem mreign_unf (p1 : Int32) (V : AS) (t : Nat) (h : gi V 70 1 = nI t) : f_Md_reign p1 V = f_Md_reign_L35 (T82 p1) p1 FU 0 (mkU V t) := by
  show f_Md_reign p1 V = f_Md_reign_L35 (fun a7 S8 => T82 p1 a7 S8) p1 FU 0 (mkU V t)
  unfold f_Md_reign mkU T82
  simp only [nm_k]
  rw [h]
theorem cut0 {S : AS} {t : Nat} (ht : t ≤ 400) (h : gi S 1 1 = nI t) : f_Tape_cutTo 0 S = some (1, si S 1 1 0) := by
  unfold f_Tape_cutTo
  rw [if_neg (by decide), h, if_pos (nI_pos' (by omega)), nm_k]
theorem ok_reign {m : Nat} {S : AS} (hm : m < 600) (h : INV m S) (p1 : Int32) : ∃ (r : Int32) (S1 S2 : AS), f_Chan_reign p1 S = some (r, S1) ∧ f_Md_reign p1 S1 = some (r, S2) ∧ INV (m + 1) S2 := by
  obtain ⟨hs, hA, hB, hC, hO, hD, hE, hG, hH, hU, hJ, hW, hF, hK⟩ := id h
  obtain ⟨t, ht, a1, a2, a3⟩ := id hA
  obtain ⟨b, hb⟩ : ∃ b : Nat → Nat, ∀ i, gi S 71 i = nI (b i) ∧ b i ≤ 255 := ⟨fun i => ix (gi S 71 i), fun i => by
    obtain ⟨x, x1, x2⟩ := (a3 i).2
    show gi S 71 i = nI (ix (gi S 71 i)) ∧ ix (gi S 71 i) ≤ 255
    rw [x2, ix_nI (by omega)]; exact ⟨rfl, x1⟩⟩
  have hT : TX S b t := ⟨a1, ht, fun i => by rw [(a3 i).1]; exact hb i⟩
  have hMR : ∀ V : AS, (∀ i, gi V 71 i = gi S 71 i) → MR (mkU V t) b t 0 := fun V hV => by
    obtain ⟨u1, u2, u3, u4, u5, u6⟩ := mkU_f V t
    exact ⟨u1, ht, fun i => by rw [mkU_gi V t 71 i (by omega), hV]; exact hb i, u3, by omega⟩
  have key := fun (V : AS) (hV : ∀ i, gi V 71 i = gi S 71 i) => rd_both (S := S) (U := mkU V t) (x1 := p1) hT (hMR V hV) (mkU_f V t).2.2.2.2.1 (mkU_f V t).2.2.2.1
  rcases key S (fun _ => rfl) with ⟨S1, -, -, -, -, rd, -, fS, -⟩ | ⟨S1, -, n, -, -, rd, -, fS, -, -, -, hn, h44, -⟩
  · -- a fault
    have e1 : ∀ c k, ¬ (pCr c k ∨ pTR c k) → gi S1 c k = gi S c k := fS.2.1
    have hcls : f_Chan_reign p1 S = some (-1, si S1 1 1 0) := by
      unfold f_Chan_reign
      rw [rd, bI_eq, cut0 ht (by rw [e1 1 1 (by unfold pCr pTR; omega)]; exact a1), bI_eq, if_pos rfl]
    have hV : ∀ i, gi (si S1 1 1 0) 71 i = gi S 71 i := fun i => by rw [gi_si, if_neg (by omega)]; exact e1 71 i (by unfold pCr pTR; omega)
    rcases key (si S1 1 1 0) hV with ⟨S1', U', l, f, x, rd', hl, -, hFC, fU, hFM, hf⟩ | ⟨S1', -, -, -, -, rd', -⟩
    rotate_left
    · have := rd.symm.trans rd'
      cases this
    have eS : S1' = S1 := by
      have := rd.symm.trans rd'
      cases this
      rfl
    subst eS
    have h70 : gi (si S1' 1 1 0) 70 1 = nI t := by rw [gi_si, if_neg (by omega), e1 70 1 (by unfold pCr pTR; omega)]; exact a2
    have fall : fr pRg S U' := ((mkU_fr t ((fS.mono (fun c k h => by unfold pCr pTR at h; unfold pRg; omega)).si (show pRg 1 1 by unfold pRg; omega)) (fun k hk => by unfold pRg; omega))).tr (fU.mono (fun c k h => by unfold pMr at h; unfold pRg; omega))
    have g1 : ∀ c k, ¬ pMr c k → ¬ (c = 70 ∧ k = 1) → gi U' c k = gi (si S1' 1 1 0) c k := fun c k h1 h2 => by rw [fU.2.1 c k h1]; exact mkU_gi _ _ _ _ (by unfold pMr at h1; omega)
    refine ⟨-1, si S1' 1 1 0, U', hcls, ?_, h.rg fall (by rw [g1 1 1 (by unfold pMr; omega) (by omega), gi_si, if_pos ⟨rfl, rfl⟩]) (by rw [fU.2.1 70 1 (by unfold pMr; omega)]; exact (mkU_f _ t).2.1) ⟨?_, ?_⟩⟩
    · rw [mreign_unf p1 _ t h70, hl]
      unfold T82
      rw [hFM.1, if_neg (by rcases hf with e | e <;> rw [e] <;> decide)]
    · rw [g1 3 4 (by unfold pMr; omega) (by omega), gi_si, if_neg (by omega), hFC.1, hFM.1]
    · rw [g1 3 5 (by unfold pMr; omega) (by omega), gi_si, if_neg (by omega), hFC.2, hFM.2]
  · -- a sound text
    have e1 : ∀ c k, ¬ (pCr c k ∨ pTR c k) → gi S1 c k = gi S c k := fS.2.1
    obtain ⟨f1, f2, f3, f4, f5, f6⟩ := id hF
    have fS3 : fr pRg S (si S1 1 1 0) := (fS.mono (fun c k h => by unfold pCr pTR at h; unfold pRg; omega)).si (show pRg 1 1 by unfold pRg; omega)
    have e3 : ∀ c k, ¬ pRg c k → gi (si S1 1 1 0) c k = gi S c k := fS3.2.1
    have hcls : f_Chan_reign p1 S = bI (f_Chan_isTime p1 (si S1 1 1 0)) fun r6 S5 => if r6 = 0 then some (-2, S5) else (if (gi S5 38 3) < 6 then (bV (f_Reigns_add_4 p1 S5) fun S8 => some (gi (si S8 16 8 ((gi S8 16 8) + 1)) 4 4, si S8 16 8 ((gi S8 16 8) + 1))) else some (-2, S5)) := by
      unfold f_Chan_reign
      rw [rd, bI_eq, cut0 ht (by rw [e1 1 1 (by unfold pCr pTR; omega)]; exact a1), bI_eq, if_neg ne10]
      simp only [nm_k]
    -- the reference, from any state that the class leaves behind
    have ref : ∀ V : AS, (∀ i, gi V 71 i = gi S 71 i) → gi V 70 1 = nI t → ∃ U' n' m' c', f_Md_reign p1 V = T82 p1 (nI n') U' ∧ fr pMo (mkU V t) U' ∧ n' ≤ 16 ∧ gi S1 4 4 = nI n' ∧ gi S1 3 4 = 0 ∧ gi S1 3 5 = -1 ∧ gi U' 70 21 = nI m' ∧ DRF S1 U' n' m' c' ∧ m' ≤ 3 * (n' + c') ∧ 7 * c' ≤ 400 := fun V hV h70 => by
      rcases key V hV with ⟨S1', U', l, f, x, rd', -⟩ | ⟨S1', U', n', m', c', rd', hl, -, g34, g35, fU, hn', h44', h21, hDR, hm', hc'⟩
      · have := rd.symm.trans rd'
        cases this
      · have eS : S1' = S1 := by
          have := rd.symm.trans rd'
          cases this
          rfl
        subst eS
        exact ⟨U', n', m', c', by rw [mreign_unf p1 V t h70]; exact hl _, fU, hn', h44', g34, g35, h21, hDR, hm', hc'⟩
    -- refused: the time, or six reigns
    have refuse : ∀ b6 : Prop, ((if p1 < 0 then (0 : Int32) else if 9999999 < p1 then 0 else 1) = 0 ∨ nR S = 6) → ∃ S2, f_Md_reign p1 (si S1 1 1 0) = some (-2, S2) ∧ INV (m + 1) S2 := fun _ hz => by
      obtain ⟨U', n', m', c', r1, r2, r3, r4, r5, r6, -⟩ := ref (si S1 1 1 0) (fun i => e3 71 i (by unfold pRg; omega)) (by rw [gi_si, if_neg (by omega), e1 70 1 (by unfold pCr pTR; omega)]; exact a2)
      obtain ⟨u1, u2, u3, u4, u5, u6⟩ := mkU_f (si S1 1 1 0) t
      have g24 : gi U' 70 24 = 0 := by rw [r2.2.1 70 24 (by unfold pMo; omega)]; exact u5
      have g15 : gi U' 70 15 = nI (nR S) := by rw [r2.2.1 70 15 (by unfold pMo; omega), mkU_gi _ _ _ _ (by omega), e3 70 15 (by unfold pRg; omega)]; exact f2
      have fall : fr pRg S U' := (mkU_fr t fS3 (fun k hk => by unfold pRg; omega)).tr (r2.mono (fun c k h => by unfold pMo at h; unfold pRg; omega))
      have g1 : ∀ c k, ¬ pMo c k → ¬ (c = 70 ∧ (k = 1 ∨ (21 ≤ k ∧ k ≤ 25))) → gi U' c k = gi (si S1 1 1 0) c k := fun c k h1 h2 => by rw [r2.2.1 c k h1]; exact mkU_gi _ _ _ _ h2
      refine ⟨U', ?_, h.rg fall (by rw [g1 1 1 (by unfold pMo; omega) (by omega), gi_si, if_pos ⟨rfl, rfl⟩]) (by rw [r2.2.1 70 1 (by unfold pMo; omega)]; exact u2) ⟨?_, ?_⟩⟩
      · rw [r1]
        unfold T82
        rw [g24, if_pos (by decide), is_spec, bI_eq]
        simp only [nm_k]
        rcases hz with hz | hz
        · rw [hz, if_pos rfl]
        · by_cases y : (if p1 < 0 then (0 : Int32) else if 9999999 < p1 then 0 else 1) = 0
          · rw [if_pos y]
          · rw [if_neg y, g15, hz, if_pos (by decide)]
      · rw [g1 3 4 (by unfold pMo; omega) (by omega), gi_si, if_neg (by omega), r5, g24]
      · rw [g1 3 5 (by unfold pMo; omega) (by omega), gi_si, if_neg (by omega), r6, r2.2.1 70 25 (by unfold pMo; omega)]; exact u6.symm
    rw [hcls, time_spec, bI_eq]
    rcases rng_cases p1 9999999 (by decide) with r1 | ⟨tm, htm, etm, r1⟩
    · have r1' : (if p1 < 0 then (0 : Int32) else if 9999999 < p1 then 0 else 1) = 0 := r1
      obtain ⟨S2, x1, x2⟩ := refuse True (Or.inl r1')
      exact ⟨-2, _, S2, by rw [r1', if_pos rfl], x1, x2⟩
    have r1' : (if p1 < 0 then (0 : Int32) else if 9999999 < p1 then 0 else 1) = 1 := r1
    have g38 : gi (si S1 1 1 0) 38 3 = nI (nR S) := by rw [e3 38 3 (by unfold pRg; omega)]; exact f3
    rw [r1', if_neg ne10, g38]
    by_cases hR6 : nR S = 6
    · obtain ⟨S2, x1, x2⟩ := refuse True (Or.inr hR6)
      exact ⟨-2, _, S2, by rw [hR6, if_neg (by decide)], x1, x2⟩
    have hR : nR S < 6 := by omega
    rw [if_pos (show nI (nR S) < 6 from nI_lt (b := 6) hR (by decide))]
    obtain ⟨T, t1, t2, t3, t4, t5, t6, t7, t8, t9, t10, t11, t12⟩ := radd_spec (S := si S1 1 1 0) (R := nR S) (fS3.sh hs) g38 hR (by rw [fS3.1]; exact f5) p1
    obtain ⟨w, hw, ew⟩ := id hW
    have e16 : gi T 16 8 = nI w := by rw [t4 16 8 (by omega) (by omega) (by omega), e3 16 8 (by unfold pRg; omega)]; exact ew
    rw [t1, bV_eq, e16, nI_1]
    have eE : ∀ c k, c < 99 → ¬ (c = 38 ∧ k = 3) → ¬ (c = 39 ∧ k = nR S) → ¬ (c = 16 ∧ k = 8) → gi (si T 16 8 (nI (w + 1))) c k = gi (si S1 1 1 0) c k := fun c k h1 h2 h3 h4 => by rw [gi_si, if_neg h4]; exact t4 c k (by omega) h2 h3
    have eE2 : ∀ c k, 99 ≤ c → gi (si T 16 8 (nI (w + 1))) c k = gi T c k := fun c k h1 => by rw [gi_si, if_neg (by omega)]
    have sE : Sh (si T 16 8 (nI (w + 1))) := Sh.congr (S := T) rfl rfl t2
    have eN : (si T 16 8 (nI (w + 1))).1 = 99 + 8 * nR S + 8 := t3
    have g16 : gi (si T 16 8 (nI (w + 1))) 16 8 = nI (w + 1) := by rw [gi_si, if_pos ⟨rfl, rfl⟩]
    have eGr : ∀ c k, gr (si T 16 8 (nI (w + 1))) c k = gr T c k := fun c k => rfl
    have eGl : ∀ c k, gl (si T 16 8 (nI (w + 1))) c k = gl T c k := fun c k => rfl
    have g38' : gi (si T 16 8 (nI (w + 1))) 38 3 = nI (nR S + 1) := by rw [gi_si, if_neg (by omega)]; exact t7
    have g39' : gi (si T 16 8 (nI (w + 1))) 39 (nR S) = p1 := by rw [gi_si, if_neg (by omega)]; exact t8
    have g39o : ∀ r, r < nR S → gi (si T 16 8 (nI (w + 1))) 39 r = gi S 39 r := fun r hr => by rw [eE 39 r (by omega) (by omega) (by omega) (by omega)]; exact e3 39 r (by unfold pRg; omega)
    generalize si T 16 8 (nI (w + 1)) = V at eE eE2 sE eN g16 eGr eGl g38' g39' g39o
    obtain ⟨U', n', m', c', q1, q2, q3, q4, q5, q6, q7, q8, q9, q10⟩ := ref V (fun i => by rw [eE 71 i (by omega) (by omega) (by omega) (by omega)]; exact e3 71 i (by unfold pRg; omega)) (by rw [eE 70 1 (by omega) (by omega) (by omega) (by omega), gi_si, if_neg (by omega), e1 70 1 (by unfold pCr pTR; omega)]; exact a2)
    obtain ⟨u1, u2, u3, u4, u5, u6⟩ := mkU_f V t
    have g1 : ∀ c k, ¬ pMo c k → ¬ (c = 70 ∧ (k = 1 ∨ (21 ≤ k ∧ k ≤ 25))) → gi U' c k = gi V c k := fun c k h1 h2 => by rw [q2.2.1 c k h1]; exact mkU_gi _ _ _ _ h2
    have g24 : gi U' 70 24 = 0 := by rw [q2.2.1 70 24 (by unfold pMo; omega)]; exact u5
    have g15 : gi U' 70 15 = nI (nR S) := by rw [g1 70 15 (by unfold pMo; omega) (by omega), eE 70 15 (by omega) (by omega) (by omega) (by omega), e3 70 15 (by unfold pRg; omega)]; exact f2
    obtain ⟨W, w1, w2, w3⟩ := cp_loop (z1 := p1) (z2 := nI n') hR (show m' ≤ 600 by omega) FU 0 U' (by omega) (by rw [FU_succ]; omega) q7 g15
    rw [nI_0] at w1
    have wo : ∀ c k, ¬ c = 83 → gi W c k = gi U' c k := fun c k hc => w2.2.1 c k (by omega)
    have hin : vp_in (nI (nR S)) 6 := in_nI hR (by decide)
    have w15 : gi W 70 15 = nI (nR S) := by rw [wo 70 15 (by omega)]; exact g15
    have w21 : gi W 70 21 = nI m' := by rw [wo 70 21 (by omega)]; exact q7
    have fZ : fr (fun c k => c = 80 ∨ c = 81 ∨ c = 82 ∨ (c = 70 ∧ k = 15)) W (si (si (si (si W 80 (nR S) p1) 81 (nR S) (nI n')) 82 (nR S) (nI m')) 70 15 (nI (nR S + 1))) := ((((fr_rf _ W).si (by omega)).si (by omega)).si (by omega)).si (by omega)
    have z80 : ∀ k, gi (si (si (si (si W 80 (nR S) p1) 81 (nR S) (nI n')) 82 (nR S) (nI m')) 70 15 (nI (nR S + 1))) 80 k = if k = nR S then p1 else gi W 80 k := fun k => by
      rw [gi_si, if_neg (by omega), gi_si, if_neg (by omega), gi_si, if_neg (by omega), gi_si]
      by_cases y : k = nR S
      · rw [if_pos ⟨rfl, y⟩, if_pos y]
      · rw [if_neg (fun z => y z.2), if_neg y]
    have z81 : ∀ k, gi (si (si (si (si W 80 (nR S) p1) 81 (nR S) (nI n')) 82 (nR S) (nI m')) 70 15 (nI (nR S + 1))) 81 k = if k = nR S then nI n' else gi W 81 k := fun k => by
      rw [gi_si, if_neg (by omega), gi_si, if_neg (by omega), gi_si]
      by_cases y : k = nR S
      · rw [if_pos ⟨rfl, y⟩, if_pos y]
      · rw [if_neg (fun z => y z.2), if_neg y, gi_si, if_neg (by omega)]
    have z82 : ∀ k, gi (si (si (si (si W 80 (nR S) p1) 81 (nR S) (nI n')) 82 (nR S) (nI m')) 70 15 (nI (nR S + 1))) 82 k = if k = nR S then nI m' else gi W 82 k := fun k => by
      rw [gi_si, if_neg (by omega), gi_si]
      by_cases y : k = nR S
      · rw [if_pos ⟨rfl, y⟩, if_pos y]
      · rw [if_neg (fun z => y z.2), if_neg y, gi_si, if_neg (by omega), gi_si, if_neg (by omega)]
    have z15 : gi (si (si (si (si W 80 (nR S) p1) 81 (nR S) (nI n')) 82 (nR S) (nI m')) 70 15 (nI (nR S + 1))) 70 15 = nI (nR S + 1) := by rw [gi_si, if_pos ⟨rfl, rfl⟩]
    have hres : f_Md_reign p1 V = some (nI n', si (si (si (si W 80 (nR S) p1) 81 (nR S) (nI n')) 82 (nR S) (nI m')) 70 15 (nI (nR S + 1))) := by
      rw [q1]
      unfold T82
      rw [g24, if_pos (by decide), is_spec, bI_eq]
      simp only [nm_k]
      rw [r1', if_neg ne10, g15, if_neg (show ¬ nI (nR S) = 6 from fun z => hR6 (nI_inj (b := 6) (by omega) (by decide) z)), w1, w15, chk_pos hin, ix_nI (n := nR S) (by omega), show gi (si W 80 (nR S) p1) 70 15 = nI (nR S) by rw [gi_si, if_neg (by omega)]; exact w15, chk_pos hin, ix_nI (n := nR S) (by omega), show gi (si (si W 80 (nR S) p1) 81 (nR S) (nI n')) 70 15 = nI (nR S) by rw [gi_si, if_neg (by omega), gi_si, if_neg (by omega)]; exact w15, chk_pos hin, ix_nI (n := nR S) (by omega), show gi (si (si W 80 (nR S) p1) 81 (nR S) (nI n')) 70 21 = nI m' by rw [gi_si, if_neg (by omega), gi_si, if_neg (by omega)]; exact w21, show gi (si (si (si W 80 (nR S) p1) 81 (nR S) (nI n')) 82 (nR S) (nI m')) 70 15 = nI (nR S) by rw [gi_si, if_neg (by omega), gi_si, if_neg (by omega), gi_si, if_neg (by omega)]; exact w15, nI_1]
    have zZ : Sh (si (si (si (si W 80 (nR S) p1) 81 (nR S) (nI n')) 82 (nR S) (nI m')) 70 15 (nI (nR S + 1))) := fZ.sh (w2.sh (q2.sh ((mkU_fr (P := fun _ _ => True) t (fr_rf _ V) (fun _ _ => trivial)).sh sE)))
    have zN : (si (si (si (si W 80 (nR S) p1) 81 (nR S) (nI n')) 82 (nR S) (nI m')) 70 15 (nI (nR S + 1))).1 = 99 + 8 * nR S + 8 := by
      have x1 : W.1 = U'.1 := w2.1
      have x2 : U'.1 = (mkU V t).1 := q2.1
      have x3 : (mkU V t).1 = V.1 := rfl
      show W.1 = _
      rw [x1, x2, x3, eN]
    have zr : ∀ c k, gr (si (si (si (si W 80 (nR S) p1) 81 (nR S) (nI n')) 82 (nR S) (nI m')) 70 15 (nI (nR S + 1))) c k = gr T c k := fun c k => by
      rw [fZ.2.2.2, w2.2.2.2, q2.2.2.2, (mkU_fr (P := fun _ _ => True) t (fr_rf _ V) (fun _ _ => trivial)).2.2.2, eGr]
    have zl : ∀ c k, ¬ pAd c k → gl (si (si (si (si W 80 (nR S) p1) 81 (nR S) (nI n')) 82 (nR S) (nI m')) 70 15 (nI (nR S + 1))) c k = gl S c k := fun c k hp => by
      unfold pAd pRg at hp
      rw [fZ.2.2.1 c k (by omega), w2.2.2.1 c k (by omega), q2.2.2.1 c k (by unfold pMo; omega)]
      have x3 : gl (mkU V t) c k = gl V c k := rfl
      rw [x3, eGl, t5 c k (by omega)]
      exact fS3.2.2.1 c k (by unfold pRg; omega)
    have zo : ∀ c k, ¬ c = 83 → ¬ (80 ≤ c ∧ c ≤ 82) → ¬ pMo c k → ¬ (c = 70 ∧ (k = 1 ∨ k = 15 ∨ (21 ≤ k ∧ k ≤ 25))) → gi (si (si (si (si W 80 (nR S) p1) 81 (nR S) (nI n')) 82 (nR S) (nI m')) 70 15 (nI (nR S + 1))) c k = gi V c k := fun c k h1 h2 h3 h4 => by
      rw [fZ.2.1 c k (by omega), wo c k h1]; exact g1 c k h3 (by omega)
    have z83 : ∀ k, gi (si (si (si (si W 80 (nR S) p1) 81 (nR S) (nI n')) 82 (nR S) (nI m')) 70 15 (nI (nR S + 1))) 83 k = gi W 83 k := fun k => fZ.2.1 83 k (by omega)
    have z70 : gi (si (si (si (si W 80 (nR S) p1) 81 (nR S) (nI n')) 82 (nR S) (nI m')) 70 15 (nI (nR S + 1))) 70 1 = 0 := by rw [fZ.2.1 70 1 (by omega), wo 70 1 (by omega), q2.2.1 70 1 (by unfold pMo; omega)]; exact u2
    have z24 : gi (si (si (si (si W 80 (nR S) p1) 81 (nR S) (nI n')) 82 (nR S) (nI m')) 70 15 (nI (nR S + 1))) 70 24 = 0 := by rw [fZ.2.1 70 24 (by omega), wo 70 24 (by omega)]; exact g24
    have z25 : gi (si (si (si (si W 80 (nR S) p1) 81 (nR S) (nI n')) 82 (nR S) (nI m')) 70 15 (nI (nR S + 1))) 70 25 = -1 := by rw [fZ.2.1 70 25 (by omega), wo 70 25 (by omega), q2.2.1 70 25 (by unfold pMo; omega)]; exact u6
    have wS : ∀ c k, 80 ≤ c → c ≤ 82 → gi W c k = gi S c k := fun c k h1 h2 => by
      rw [wo c k (by omega), g1 c k (by unfold pMo; omega) (by omega), eE c k (by omega) (by omega) (by omega) (by omega)]; exact e3 c k (by unfold pRg; omega)
    refine ⟨nI n', V, si (si (si (si W 80 (nR S) p1) 81 (nR S) (nI n')) 82 (nR S) (nI m')) 70 15 (nI (nR S + 1)), ?_, hres, ?_⟩
    · rw [eE 4 4 (by omega) (by omega) (by omega) (by omega), gi_si, if_neg (by omega), q4]
    · generalize si (si (si (si W 80 (nR S) p1) 81 (nR S) (nI n')) 82 (nR S) (nI m')) 70 15 (nI (nR S + 1)) = Z at zZ zN zr zl zo z83 z70 z24 z25 z80 z81 z82 z15
      have hx83 : ∀ x, x < m' → gi Z 83 (600 * nR S + x) = gi U' 84 x := fun x hx => by rw [z83]; exact w3 x (by omega) hx
      have nRZ : nR Z = nR S + 1 := by
        show ix (gi Z 70 15) = _
        rw [z15]; exact ix_nI (by omega)
      have zq : ∀ c k, 99 ≤ c → gi Z c k = gi T c k := fun c k hc => by rw [zo c k (by omega) (by omega) (by unfold pMo; omega) (by omega)]; exact eE2 c k hc
      have hF' : iF Z := by
        refine ⟨by omega, by rw [nRZ]; exact z15, by rw [nRZ, zo 38 3 (by omega) (by omega) (by unfold pMo; omega) (by omega)]; exact g38', by rw [zo 41 4 (by omega) (by omega) (by unfold pMo; omega) (by omega), eE 41 4 (by omega) (by omega) (by omega) (by omega), e3 41 4 (by unfold pRg; omega)]; exact f4, by rw [zN, nRZ]; omega, fun r hr => ?_⟩
        rw [nRZ] at hr
        by_cases er : r = nR S
        · subst er
          obtain ⟨x1, x2⟩ := book_new (S := S1) (U := U') (Z := Z) (R := nR S) q3 (show m' ≤ 600 by omega) (show c' ≤ 64 by omega) q8 hx83 (by rw [z80, if_pos rfl]; exact ⟨tm, htm, etm⟩) (by rw [z81, if_pos rfl]) (by rw [z82, if_pos rfl]) (by rw [zq _ _ (by omega), t10, gi_si, if_neg (by omega)]; exact q4) (fun j i j1 j2 hi => by rw [zq _ _ (by omega), t11 j i j1 j2 hi, gi_si, if_neg (by omega)]) (fun j i j1 j2 hi => by rw [zq _ _ (by omega), t12 j i j1 j2 hi, gi_si, if_neg (by omega)])
          exact ⟨by rw [z80, if_pos rfl, zo 39 _ (by omega) (by omega) (by unfold pMo; omega) (by omega)]; exact g39', by rw [zr]; exact t9, x1, x2⟩
        · have hr' : r < nR S := by omega
          obtain ⟨y1, y2, y3, y4⟩ := f6 r hr'
          have h83 : ∀ k, 600 * r ≤ k → k < 600 * r + 600 → gi Z 83 k = gi S 83 k := fun k k1 k2 => by
            rw [z83, w2.2.1 83 k (by omega), g1 83 k (by unfold pMo; omega) (by omega), eE 83 k (by omega) (by omega) (by omega) (by omega)]; exact e3 83 k (by unfold pRg; omega)
          have h8 : ∀ c, 80 ≤ c → c ≤ 82 → gi Z c r = gi S c r := fun c c1 c2 => by
            have h3 : c = 80 ∨ c = 81 ∨ c = 82 := by omega
            rcases h3 with rfl | rfl | rfl
            · rw [z80, if_neg er]; exact wS 80 r (by omega) (by omega)
            · rw [z81, if_neg er]; exact wS 81 r (by omega) (by omega)
            · rw [z82, if_neg er]; exact wS 82 r (by omega) (by omega)
          refine ⟨by rw [zo 39 r (by omega) (by omega) (by unfold pMo; omega) (by omega), g39o r hr', h8 80 (by omega) (by omega)]; exact y1, by rw [zr, t6 40 r (by omega) (by omega), fS3.2.2.2]; exact y2, y3.lc h8 h83, y4.lc y3 (fun j k hj => ?_) (h8 81 (by omega) (by omega)) h83⟩
          rw [zq _ _ (by omega), t4 _ _ (by omega) (by omega) (by omega)]; exact e3 _ _ (by unfold pRg; omega)
      have eZ : ∀ c k, ¬ pAd c k → gi Z c k = gi S c k := fun c k hp => by
        unfold pAd pRg at hp
        rw [zo c k (by omega) (by omega) (by unfold pMo; omega) (by omega), eE c k (by omega) (by omega) (by omega) (by omega)]; exact e3 c k (by unfold pRg; omega)
      have z16 : gi Z 16 8 = nI (w + 1) := by rw [zo 16 8 (by omega) (by omega) (by unfold pMo; omega) (by omega)]; exact g16
      have z11 : gi Z 1 1 = 0 := by rw [zo 1 1 (by omega) (by omega) (by unfold pMo; omega) (by omega), eE 1 1 (by omega) (by omega) (by omega) (by omega), gi_si, if_pos ⟨rfl, rfl⟩]
      have z34 : gi Z 3 4 = 0 := by rw [zo 3 4 (by omega) (by omega) (by unfold pMo; omega) (by omega), eE 3 4 (by omega) (by omega) (by omega) (by omega), gi_si, if_neg (by omega)]; exact q5
      have z35 : gi Z 3 5 = -1 := by rw [zo 3 5 (by omega) (by omega) (by unfold pMo; omega) (by omega), eE 3 5 (by omega) (by omega) (by omega) (by omega), gi_si, if_neg (by omega)]; exact q6
      exact h.ad zZ eZ zl z11 z70 ⟨by rw [z34, z24], by rw [z35, z25]⟩ ⟨w + 1, by omega, z16⟩ hF' (hK.bump (w := w) (by omega) ew z16 (eZ 49 16 (by unfold pAd pRg; omega)) (fun n => eZ 62 n (by unfold pAd pRg; omega)))
