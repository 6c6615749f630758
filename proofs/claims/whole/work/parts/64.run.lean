/-! the courses: told by the class, gone by the reference -/
theorem CSt.of {S : AS} {D : DT} {W kn : Nat → Prop} {P K : Nat} (hB : iB S) (hD : iD S) (hF : iF S) (hs : MSt S D W kn P K) : CSt S D W kn P K := by
  obtain ⟨b1, b2, b3, b4, b5, b6, b7, b8⟩ := hB
  obtain ⟨d1, d2, d3, d4⟩ := hD
  obtain ⟨f1, f2, f3, f4, f5, f6⟩ := hF
  obtain ⟨s1, s2, s3, s4, s5, s6, s7, s8, s9, s10⟩ := hs
  have eQ : mQ D = nQ S := by unfold mQ nQ; rw [s5]
  have eR : mR D = nR S := by unfold mR nR; rw [s6]
  have eP : nP S = P := by unfold nP; rw [s3]; exact ix_nI (by omega)
  have eK : nK S = K := by unfold nK; rw [s4]; exact ix_nI (by omega)
  refine ⟨s1, s2, by rw [eQ]; exact b6, by rw [← eK]; exact d3, fun p hp => ?_, fun w hw => ?_, fun k hk => ?_, by rw [eR]; exact f3, fun r hr => ?_, f4⟩
  · obtain ⟨q1, q2, q3, -⟩ := b8 p (by omega)
    rw [q1, q2, q3, s7, s7, s7]; exact ⟨rfl, rfl, rfl⟩
  · obtain ⟨h1, h2⟩ := s9 w hw
    obtain ⟨q1, q2, q3, -⟩ := b7 w (by omega)
    rw [q1, q2, q3]
    exact ⟨h1, h2 0 (by omega), h2 1 (by omega), h2 2 (by omega)⟩
  · obtain ⟨h1, h2⟩ := s10 k hk
    obtain ⟨q1, q2, q3, q4, q5, q6, -⟩ := d4 k (by omega)
    rw [q1, q2, q3, q4, q5, q6]
    exact ⟨h1, h2 0 (by omega), h2 1 (by omega), h2 2 (by omega), h2 3 (by omega), h2 4 (by omega), h2 5 (by omega)⟩
  · obtain ⟨g1, g2, g3, g4⟩ := f6 r (by omega)
    exact ⟨by rw [g1, s8 80 r (by omega) (by omega)], 99 + 8 * r, by omega, g2, g4.cg (fun j k _ => rfl) (fun c k x y => (s8 c k x y).symm)⟩
/-- the data, as they stand -/
def mkD (S : AS) (n : Nat) : DT := fun c k => if c = 79 then (if ¬ gi S 79 k ≤ 0 ∧ ¬ nI n < gi S 79 k then 1 else 0) else gi S c k
theorem mkD_ne (S : AS) (n : Nat) (c k : Nat) (h : ¬ c = 79) : mkD S n c k = gi S c k := by unfold mkD; exact if_neg h
theorem mkD_79 (S : AS) (n k : Nat) : mkD S n 79 k = 1 ↔ (¬ gi S 79 k ≤ 0 ∧ ¬ nI n < gi S 79 k) := by
  unfold mkD
  rw [if_pos rfl]
  by_cases z : (¬ gi S 79 k ≤ 0 ∧ ¬ nI n < gi S 79 k)
  · rw [if_pos z]; exact ⟨fun _ => z, fun _ => rfl⟩
  · rw [if_neg z]; exact ⟨fun q => absurd q (by decide), fun q => absurd q z⟩
theorem mkD_ok {m : Nat} {S : AS} (h : INV m S) {n : Nat} (hn : n ≤ nN S) : DOK (mkD S n) (fun w => w < nP S) (fun k => k < nK S) ∧ NOK (mkD S n) (fun w => w < nP S) (fun k => k < nK S) (nP S) n ∧ MSt S (mkD S n) (fun w => w < nP S) (fun k => k < nK S) (nP S) (nK S) ∧ NMt S (mkD S n) (fun k => k < nK S) n ∧ NCt S (mkD S n) (fun k => k < nK S) n ∧ NOK2 (mkD S n) n ∧ ∃ M o, ORD S (mkD S n) n M o := by
  obtain ⟨hs, hA, hB, hC, hO, hD, hE, hG, hH, hU, hJ, hW, hF, hK⟩ := id h
  obtain ⟨b1, b2, b3, b4, b5, b6, b7, b8⟩ := hB
  obtain ⟨c1, c2, c3, c4⟩ := hC
  obtain ⟨d1, d2, d3, d4⟩ := hD
  obtain ⟨f1, f2, f3, f4, f5, f6⟩ := hF
  obtain ⟨M, o, o1, o2, o3, o4, o5⟩ := hO
  have e := mkD_ne S n
  have e79 := mkD_79 S n
  generalize mkD S n = D at e e79
  have eQ : mQ D = nQ S := by unfold mQ nQ; rw [e 70 4 (by decide)]
  have eR : mR D = nR S := by unfold mR nR; rw [e 70 15 (by decide)]
  have tmb : ∀ k, 1 ≤ k → k ≤ nN S → ¬ gi S 74 k = 4 → ∃ x, x ≤ 9999999 ∧ gi S 75 k = nI x ∧ gi S 34 k = nI x ∧ ix (gi S 75 k) = x := fun k h1 h2 h3 => by
    obtain ⟨-, -, q⟩ := c4 k h1 h2
    rcases q with q | ⟨q1, ⟨x, q2, q3⟩, -⟩
    · exact absurd q h3
    · exact ⟨x, q2, q3, by rw [q1]; exact q3, by rw [q3]; exact ix_nI (by omega)⟩
  refine ⟨⟨by rw [eQ]; exact b2, by rw [eQ, e 70 4 (by decide)]; exact b5, fun p hp => ?_, fun w hw => ?_, fun k hk => ?_, by rw [eR]; exact f1, by rw [eR, e 70 15 (by decide)]; exact f2, fun r hr => ?_⟩, ⟨by omega, fun k k1 k2 => ?_⟩, ⟨b1, d1, b3, d2, (e 70 4 (by decide)).symm, (e 70 15 (by decide)).symm, fun k => (e 73 k (by decide)).symm, fun c k x y => (e c k (by omega)).symm, fun w hw => ⟨hw, fun i _ => (e 72 _ (by decide)).symm⟩, fun k hk => ⟨hk, fun i _ => (e 78 _ (by decide)).symm⟩⟩, ⟨fun k _ _ => ⟨(e 74 k (by decide)).symm, (e 75 k (by decide)).symm, (e 76 k (by decide)).symm, (e 77 k (by decide)).symm⟩, fun j _ => (e79 j).symm⟩, ⟨fun k k1 k2 => ?_, fun j hj => ?_⟩, fun k k1 k2 k3 => ?_, M, o, by omega, o2, fun i hi => ⟨(o3 i hi).1, (o3 i hi).2.1, by have := (o3 i hi).2.2.1; omega⟩, fun i j hij hj => ?_, fun i j hij hj hin hjn => ?_, fun k k1 k2 k3 => ?_, fun i hi hin => ?_⟩
  · obtain ⟨-, -, -, q4, q5, q6, q7⟩ := b8 p (by omega)
    rw [e 73 (3 * p) (by decide), e 73 (3 * p + 1) (by decide), e 73 (3 * p + 2) (by decide)]
    exact ⟨q4, q5, q7⟩
  · have hw' : w < nP S := hw
    obtain ⟨-, -, -, q4, q5, q6⟩ := b7 w hw'
    rw [e 72 (3 * w) (by decide), e 72 (3 * w + 1) (by decide), e 72 (3 * w + 2) (by decide)]
    exact ⟨by omega, q4, q5, q6⟩
  · have hk' : k < nK S := hk
    obtain ⟨-, -, -, -, -, -, -, q8, q9, q10, q11, q12, q13, -⟩ := d4 k hk'
    rw [e 78 (7 * k) (by decide), e 78 (7 * k + 1) (by decide), e 78 (7 * k + 2) (by decide), e 78 (7 * k + 3) (by decide), e 78 (7 * k + 4) (by decide), e 78 (7 * k + 5) (by decide)]
    exact ⟨by omega, q8, q9, q10, q11, q12, q13⟩
  · exact (f6 r (by omega)).2.2.1.cg (fun c k x y => e c k (by omega))
  · rw [e 74 k (by decide), e 75 k (by decide), e 76 k (by decide), e 77 k (by decide)]
    obtain ⟨-, -, q⟩ := c4 k k1 (by omega)
    rcases q with q | ⟨-, q2, q⟩
    · exact Or.inl q
    · refine Or.inr ⟨q2, ?_⟩
      rcases q with ⟨a, j, hj, ej, -⟩ | ⟨a, w, hw, ew⟩ | ⟨a, -, p, w, hp, hw, ep, ew⟩ | ⟨a, -, p, q, hp, hq, -, ep, eq⟩
      · exact Or.inl ⟨a, j, hj, ej⟩
      · exact Or.inr (Or.inl ⟨a, w, hw, ew⟩)
      · exact Or.inr (Or.inr (Or.inl ⟨a, p, w, by omega, hw, ep, ew⟩))
      · exact Or.inr (Or.inr (Or.inr ⟨a, p, q, by omega, by omega, ep, eq⟩))
  · rw [e 74 k (by decide), e 75 k (by decide), e 76 k (by decide), e 77 k (by decide)]
    obtain ⟨q1, q2, q⟩ := c4 k k1 (by omega)
    refine ⟨q1, fun h4 => ?_⟩
    rcases q with q | ⟨q3, -, q⟩
    · exact absurd q h4
    · refine ⟨q3, q2, fun hk => ?_⟩
      rcases q with ⟨a, -⟩ | ⟨a, -⟩ | ⟨a, b, -⟩ | ⟨a, b, -⟩
      · rw [a] at hk; exact absurd hk (by decide)
      · rw [a] at hk; exact absurd hk (by decide)
      · exact b
      · exact b
  · rw [e79]
    have hj' : j < nK S := hj
    obtain ⟨-, -, -, -, -, -, -, -, -, -, -, -, -, -, q⟩ := d4 j hj'
    rcases q with ⟨x1, x2⟩ | ⟨v, v1, v2, x1, x2⟩
    · rw [x1, x2]; exact ⟨fun z => absurd rfl z.1, fun z => absurd (by decide : (0 : Int32) ≤ 0) z.1⟩
    · rw [x1, x2]; exact ⟨fun z => ⟨nI_nle (by omega) (by omega), z.2⟩, fun z => ⟨nI_ne_m1 (by omega), z.2⟩⟩
  · rw [e 74 k (by decide)] at k3
    rw [e 76 k (by decide), e 77 k (by decide)]
    obtain ⟨-, -, q⟩ := c4 k k1 (by omega)
    rcases q with q | ⟨-, -, q⟩
    · rw [q] at k3; exact absurd k3 (by decide)
    · rcases q with ⟨a, -⟩ | ⟨a, -⟩ | ⟨a, -⟩ | ⟨a, -, p, q, hp, hq, hne, ep, eq⟩
      · rw [a] at k3; exact absurd k3 (by decide)
      · rw [a] at k3; exact absurd k3 (by decide)
      · rw [a] at k3; exact absurd k3 (by decide)
      · rw [ep, eq]; exact fun z => hne (nI_inj (by omega) (by omega) z)
  · obtain ⟨-, i1, i2, i3⟩ := o3 i (by omega)
    obtain ⟨-, j1, j2, j3⟩ := o3 j hj
    obtain ⟨x, x1, x2, x3, x4⟩ := tmb (o i) i1 i2 i3
    obtain ⟨y, y1, y2, y3, y4⟩ := tmb (o j) j1 j2 j3
    rw [x3, y3]
    have := o4 i j hij hj
    rw [x4, y4] at this
    exact nI_le (by omega) (by omega)
  · obtain ⟨-, i1, i2, i3⟩ := o3 i (by omega)
    obtain ⟨-, j1, j2, j3⟩ := o3 j hj
    obtain ⟨x, x1, x2, x3, x4⟩ := tmb (o i) i1 i2 i3
    obtain ⟨y, y1, y2, y3, y4⟩ := tmb (o j) j1 j2 j3
    have := o4 i j hij hj
    rw [x4, y4] at this
    unfold ltN
    rw [e 75 (o i) (by decide), e 75 (o j) (by decide), x2, y2]
    rcases this with q | ⟨q, q2⟩
    · exact Or.inl (nI_lt q (by omega))
    · exact Or.inr ⟨by rw [q], q2⟩
  · rw [e 74 k (by decide)] at k3
    exact o5 k k1 (by omega) k3
  · rw [e 74 (o i) (by decide)]
    exact (o3 i hi).2.2.2
theorem DAT.fg {S S' : AS} {n : Nat} {u : Int32} {D : DT} {W kn : Nat → Prop} {P K m : Nat} {l : Nat → Nat} (h : DAT S n u D W kn P K m l) (e : ∀ c k, (c = 70 ∧ k ≤ 15) ∨ (72 ≤ c ∧ c ≤ 83) → gi S' c k = gi S c k) : DAT S' n u D W kn P K m l := by
  obtain ⟨a, b, ⟨s1, s2, s3, s4, s5, s6, s7, s8, s9, s10⟩, d, f, g⟩ := h
  refine ⟨a, b, ⟨s1, s2, by rw [e 70 2 (by omega)]; exact s3, by rw [e 70 11 (by omega)]; exact s4, by rw [e 70 4 (by omega)]; exact s5, by rw [e 70 15 (by omega)]; exact s6, fun k => by rw [e 73 k (by omega)]; exact s7 k, fun c k x y => by rw [e c k (by omega)]; exact s8 c k x y, fun w hw => ⟨(s9 w hw).1, fun i hi => by rw [e 72 _ (by omega)]; exact (s9 w hw).2 i hi⟩, fun k hk => ⟨(s10 k hk).1, fun i hi => by rw [e 78 _ (by omega)]; exact (s10 k hk).2 i hi⟩⟩, ⟨fun k k1 k2 => by rw [e 74 k (by omega), e 75 k (by omega), e 76 k (by omega), e 77 k (by omega)]; exact d.1 k k1 k2, fun j hj => by rw [e 79 j (by omega)]; exact d.2 j hj⟩, f, g⟩
theorem INV.q {m : Nat} {S S' : AS} (h : INV m S) (hf : frq pCT S S') (hs' : Sh S') (hK' : iK S') : INV m S' := by
  obtain ⟨hs, hA, hB, hC, hO, hD, hE, hG, hH, hU, hJ, ⟨w, hw, ew⟩, hF, hK⟩ := h
  have hfr : fr pCT S (S.1, S'.2.1, S'.2.2.1, S.2.2.2) := ⟨rfl, hf.2.1, hf.2.2.1, fun _ _ => rfl⟩
  refine ⟨hs', (hA.fr hfr (fun c k hd hp => by unfold dA at hd; unfold pCT at hp; omega) : iA (S.1, S'.2.1, S'.2.2.1, S.2.2.2)), (hB.fr hfr (fun c k hd hp => by unfold dB at hd; unfold pCT at hp; omega) : iB (S.1, S'.2.1, S'.2.2.1, S.2.2.2)), (hC.fr hfr (fun c k hd hp => by unfold dC at hd; unfold pCT at hp; omega) : iC (S.1, S'.2.1, S'.2.2.1, S.2.2.2)), (hO.fr hfr (fun c k hd hp => by unfold dO at hd; unfold pCT at hp; omega) : iO (S.1, S'.2.1, S'.2.2.1, S.2.2.2)), (hD.fr hfr (fun c k hd hp => by unfold dD at hd; unfold pCT at hp; omega) : iD (S.1, S'.2.1, S'.2.2.1, S.2.2.2)), (hE.fr hfr (fun c k hd hp => by unfold dE at hd; unfold pCT at hp; omega) : iE (S.1, S'.2.1, S'.2.2.1, S.2.2.2)), (hG.fr hfr (fun c k hd hp => by unfold dG at hd; unfold pCT at hp; omega) : iG (S.1, S'.2.1, S'.2.2.1, S.2.2.2)), (hH.fr hfr (fun c k hd hp => by unfold dH at hd; unfold pCT at hp; omega) : iH (S.1, S'.2.1, S'.2.2.1, S.2.2.2)), (hU.fr hfr (fun c k hd hp => by unfold dU at hd; unfold pCT at hp; omega) : iU (S.1, S'.2.1, S'.2.2.1, S.2.2.2)), (hJ.fr hfr (fun c k hd hp => by unfold dJ at hd; unfold pCT at hp; omega) : iJ (S.1, S'.2.1, S'.2.2.1, S.2.2.2)), ⟨w, hw, by rw [hf.2.1 16 8 (by unfold pCT; omega)]; exact ew⟩, iF.frG hf.1 (fun c k hd => hf.2.1 c k (by unfold dF at hd; unfold pCT; omega)) (fun k => hf.2.2.2 40 k (by omega)) hF, hK'⟩
theorem iK.told {S S' : AS} {n : Nat} {u : Int32} {D : DT} {W kn : Nat → Prop} {P K M : Nat} {l : Nat → Nat} (hi : iK S) (e : ∀ c k, (c = 16 ∧ k = 8) ∨ c = 61 ∨ c = 62 ∨ (c = 70 ∧ k ≤ 15) ∨ (72 ≤ c ∧ c ≤ 83) → gi S' c k = gi S c k) (hn : n ≤ nN S) (h16 : gi S' 49 16 = gi S 16 8) (h17 : gi S' 49 17 = nI n) (h18 : gi S' 49 18 = u) (hd : DAT S' n u D W kn P K M l) (hr : RC S' D (mrun D l M)) (ht : TR S' D u) : iK S' := by
  obtain ⟨w, w1, w2, w3, w4, w5⟩ := hi
  have eN : nN S' = nN S := by unfold nN; rw [e 70 6 (by omega)]
  refine ⟨w, w1, by rw [e 16 8 (by omega)]; exact w2, Or.inr ⟨w, Nat.le_refl _, by rw [h16]; exact w2⟩, fun _ => ⟨n, D, W, kn, P, K, M, l, by rw [eN]; exact hn, h17, by rw [h18]; exact hd, hr, by rw [h18]; exact ht⟩, fun j hj => ?_⟩
  rw [e 62 j (by omega)]
  refine ⟨(w5 j hj).1, fun z => ?_⟩
  obtain ⟨D', W', kn', P', K', m', l', q1, q2, q3⟩ := (w5 j hj).2 z
  exact ⟨D', W', kn', P', K', m', l', by rw [eN]; exact q1, q2.fg (fun c k hc => e c k (by omega)), fun p hp => by rw [e 61 _ (by omega)]; exact q3 p hp⟩
theorem tell_ok {m : Nat} {S : AS} (h : INV m S) {n : Nat} (hn : n ≤ nN S) {u : Int32} (hu : bnd u 9999999) : ∃ S1 D W kn P K M l, f_Course_tell (nI n) u S = some S1 ∧ frq pCT S S1 ∧ INV m S1 ∧ DAT S1 n u D W kn P K M l ∧ RC S1 D (mrun D l M) ∧ TR S1 D u ∧ gi S1 49 16 = gi S1 16 8 ∧ gi S1 49 17 = nI n ∧ gi S1 49 18 = u := by
  obtain ⟨hs, hA, hB, hC, hO, hD, hE, hG, hH, hU, hJ, hW, hF, hK⟩ := id h
  have hN := hC.1
  by_cases hc : gi S 49 16 = gi S 16 8 ∧ gi S 49 17 = nI n ∧ gi S 49 18 = u
  · obtain ⟨c1, c2, c3⟩ := hc
    obtain ⟨w, w1, w2, w3, w4, w5⟩ := id hK
    obtain ⟨n', D, W, kn, P, K, M, l, q1, q2, q3, q4, q5⟩ := w4 (by rw [c1]; exact w2)
    have en : n' = n := nI_inj (by omega) (by omega) (q2.symm.trans c2)
    subst en
    rw [c3] at q3 q5
    refine ⟨S, D, W, kn, P, K, M, l, ?_, frq_rf _ _, h, q3, q4, q5, c1, c2, c3⟩
    unfold f_Course_tell
    rw [nm_k, if_pos c1, if_pos c2, if_pos c3]
  · obtain ⟨g1, g2, g3, g4, g5, g6, M0, o, g7⟩ := mkD_ok h hn
    obtain ⟨S1, M, l, t1, t2, t3, t4, t5, t6, t7, t8, t9, t10⟩ := cl_tell g1 g2 g6 (CSt.of hB hD hF g3) g5 g7 hs hu hc
    have hd : DAT S1 n u (mkD S n) (fun w => w < nP S) (fun k => k < nK S) (nP S) (nK S) M l := DAT.fg (S := S) ⟨g1, g2, g3, g4, t7, t6⟩ (fun c k hc => t2.2.1 c k (by unfold pCT; omega))
    have e8 : gi S1 16 8 = gi S 16 8 := t2.2.1 16 8 (by unfold pCT; omega)
    exact ⟨S1, mkD S n, _, _, _, _, M, l, t1, t2, h.q t2 t3 (hK.told (fun c k hc => t2.2.1 c k (by unfold pCT; omega)) hn t8 t9 t10 hd t4 t5), hd, t4, t5, by rw [e8]; exact t8, t9, t10⟩
theorem goes_ok {S : AS} {n : Nat} {u : Int32} {D : DT} {W kn : Nat → Prop} {P K M : Nat} {l : Nat → Nat} (h : DAT S n u D W kn P K M l) : ∃ S', f_Md_goes (nI n) u S = some S' ∧ fr pMG S S' ∧ RM S' D P K (mrun D l M) := by
  obtain ⟨a, b, c, d, e, f⟩ := h
  exact md_goes a b c d e (by omega)
theorem INV.g {m : Nat} {S S' : AS} (h : INV m S) (hfr : fr pMG S S') : INV m S' := by
  obtain ⟨hs, hA, hB, hC, hO, hD, hE, hG, hH, hU, hJ, ⟨w, hw, ew⟩, hF, hK⟩ := h
  exact ⟨hfr.sh hs, hA.fr hfr (fun c k hd hp => by unfold dA at hd; unfold pMG at hp; omega), hB.fr hfr (fun c k hd hp => by unfold dB at hd; unfold pMG at hp; omega), hC.fr hfr (fun c k hd hp => by unfold dC at hd; unfold pMG at hp; omega), hO.fr hfr (fun c k hd hp => by unfold dO at hd; unfold pMG at hp; omega), hD.fr hfr (fun c k hd hp => by unfold dD at hd; unfold pMG at hp; omega), hE.fr hfr (fun c k hd hp => by unfold dE at hd; unfold pMG at hp; omega), hG.fr hfr (fun c k hd hp => by unfold dG at hd; unfold pMG at hp; omega), hH.fr hfr (fun c k hd hp => by unfold dH at hd; unfold pMG at hp; omega), hU.fr hfr (fun c k hd hp => by unfold dU at hd; unfold pMG at hp; omega), hJ.fr hfr (fun c k hd hp => by unfold dJ at hd; unfold pMG at hp; omega), ⟨w, hw, by rw [hfr.2.1 16 8 (by unfold pMG; omega)]; exact ew⟩, hF.fr hfr (fun c k hd hp => by unfold dF at hd; unfold pMG at hp; omega), hK.fr hfr (fun c k hd hp => by unfold dK at hd; unfold pMG at hp; omega) hB hD⟩
theorem known_ok {m : Nat} {S : AS} (h : INV m S) : ∃ n, n ≤ nN S ∧ f_Chan_knownNow S = some (nI n, S) ∧ ∀ T, gi T 70 14 = gi S 70 14 → gi T 70 6 = gi S 70 6 → f_Md_known T = some (nI n, T) := by
  obtain ⟨hs, hA, hB, ⟨c1, c2, c3, c4⟩, hO, hD, ⟨e1, e2⟩, hG, hH, hU, hJ, hW, hF, hK⟩ := h
  unfold f_Chan_knownNow f_Md_known
  rcases e2 with q | ⟨n, q1, q2⟩
  · refine ⟨nN S, Nat.le_refl _, by rw [e1, if_pos q, c3], fun T t1 t2 => by rw [t1, if_pos q, t2, c2]⟩
  · have hne : ¬ nI n = -1 := nI_ne_m1 (by omega)
    refine ⟨n, q1, by rw [e1, q2, if_neg hne], fun T t1 t2 => by rw [t1, q2, if_neg hne]⟩
theorem mtime_spec (p : Int32) (S : AS) : f_Md_isTime p S = some (if p < 0 then 0 else if 9999999 < p then 0 else 1, S) := by
  unfold f_Md_isTime
  rw [is_spec, bI_eq]
  refine chk_pos ?_
  split
  · exact isb_0
  · split
    · exact isb_0
    · exact isb_1
theorem LAST_bnd : bnd 9999999 9999999 := ⟨9999999, Nat.le_refl _, rfl⟩
theorem sq_ok {m : Nat} {S : AS} (h : INV m S) {n : Nat} (hn : n ≤ nN S) {u : Int32} : ∃ M l, SQ (mkD S n) n u M l ∧ M ≤ 160 := by
  obtain ⟨hs, hA, hB, hC, hO, hD, hE, hG, hH, hU, hJ, hW, hF, hK⟩ := id h
  obtain ⟨g1, g2, g3, g4, g5, g6, M0, o, g7⟩ := mkD_ok h hn
  have hcs := CSt.of hB hD hF g3
  obtain ⟨T1, a1, a2, a3⟩ := cl_begin g1 hcs
  obtain ⟨T2, M, l, b1, b2, b3, b4, b5, b6⟩ := ct_loop (u := u) g1 g2 g6 hcs g5 g7 FU 0 0 (fun a => a) T1 (by omega) (by have := g7.1; rw [FU_succ]; omega) (by omega) (pC0_T a2) (a2.sh hs) a3 (fun a ha => by omega) (fun a b _ h => by omega) (fun i hi => by omega)
  exact ⟨M, l, b6, b5⟩
theorem goes_S {m : Nat} {S : AS} (h : INV m S) {n : Nat} (hn : n ≤ nN S) (u : Int32) : ∃ V, f_Md_goes (nI n) u S = some V ∧ INV m V := by
  obtain ⟨g1, g2, g3, g4, g5, g6, -⟩ := mkD_ok h hn
  obtain ⟨M, l, q1, q2⟩ := sq_ok h hn (u := u)
  obtain ⟨V, v1, v2, v3⟩ := md_goes g1 g2 g3 g4 q1 (by omega)
  exact ⟨V, v1, h.g v2⟩
