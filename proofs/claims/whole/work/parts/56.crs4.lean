theorem nm_k {α β : Type} (a : α) (f : α → β) : nm a f = f a := by
  have h : nm a f = f a := rfl
  exact h
theorem mkil_gi (D : DT) (X : AS) (w : Nat) (n c k : Nat) : gi (mkil D X w n) c k = if c = 88 ∧ k < n then (if gi X 88 k = 0 then 0 else if D 78 (7 * k) = nI w then 0 else 1) else gi X c k := by
  induction n with
  | zero => rw [mkil, if_neg (by omega)]
  | succ n ih =>
    rw [mkil, gi_si]
    by_cases h : c = 88 ∧ k = n
    · obtain ⟨h1, h2⟩ := h
      subst h1; subst h2
      rw [if_pos ⟨rfl, rfl⟩, if_pos (show 88 = 88 ∧ k < k + 1 from ⟨rfl, Nat.lt_succ_self k⟩)]
    · rw [if_neg h, ih]
      by_cases h2 : c = 88 ∧ k < n
      · rw [if_pos h2, if_pos (show c = 88 ∧ k < n + 1 from ⟨h2.1, by omega⟩)]
      · rw [if_neg h2, if_neg (by omega)]
theorem mkil_gl (D : DT) (X : AS) (w : Nat) (n c k : Nat) : gl (mkil D X w n) c k = gl X c k := by
  induction n with
  | zero => rfl
  | succ n ih => rw [mkil, gl_si, ih]
theorem md_dies {S : AS} {D : DT} {W kn : Nat → Prop} {P K : Nat} {X : AS} (hd : DOK D W kn) (hs : MSt S D W kn P K) (hx : XOK D W kn X) (hr : RM S D P K X) {w : Nat} (hw : w < P) (t : Int32) : ∃ S', f_Md_dies (nI w) t S = some S' ∧ fr pMC S S' ∧ RM S' D P K (mdie D X w t) := by
  obtain ⟨d1, d2, d3, d4, d5, d6, d7, d8⟩ := id hd
  obtain ⟨s1, s2, s3, s4, s5, s6, s7, s8, s9, s10⟩ := id hs
  unfold f_Md_dies mdie
  simp only [nm_k]
  rw [chk_pos (in_nI (by omega) (by decide)), chk_pos (in_nI (by omega) (by decide)), ix_nI (by omega), (hr.2.1 w hw).1]
  by_cases h0 : gi X 87 w = 0
  rotate_left
  · rw [if_neg h0, if_neg h0]; exact ⟨S, rfl, fr_rf _ _, hr⟩
  rw [if_pos h0, if_pos h0, show vp_nar .boolean 1 = 1 from rfl]
  have hr1 : RM (si S 87 w 1) D P K (si X 87 w 1) := hr.si 87 w 1
  have hf1 : fr pMC S (si S 87 w 1) := fr.si (fr_rf pMC S) (by unfold pMC; omega)
  have hx1 : XOK D W kn (si X 87 w 1) := hx.dead w
  generalize si S 87 w 1 = T at hr1 hf1
  generalize si X 87 w 1 = Y at hr1 hx1
  have key : ∀ (J : AS → Option AS) (f i : Nat) (T : AS), fr pMC S T → RM T D P K (mkil D Y w i) → i ≤ K → K - i < f → ∃ T', f_Md_dies_L19 J (nI w) t f (nI i) T = J T' ∧ fr pMC S T' ∧ RM T' D P K (mkil D Y w K) := by
    intro J f
    induction f with
    | zero => intro i T _ _ _ h; omega
    | succ f ih =>
      intro i T hf hrT hi hfu
      rw [f_Md_dies_L19, hf.2.1 70 11 (by unfold pMC; omega), s4]
      rcases Nat.lt_or_ge i K with q | q
      · have e88 : gi T 88 i = gi Y 88 i := by rw [(hrT.2.2 i q).1, mkil_gi, if_neg (by omega)]
        rw [if_neg (nI_ge q (by omega)), chk_pos (in_nI (by omega) (by decide)), ix_nI (by omega), e88]
        simp only [nm_k]
        rw [chk_pos (in_nI (by omega) (by decide)), ix_nI (by omega)]
        have goon : ∀ v : Int32, v = (if gi Y 88 i = 0 then 0 else if D 78 (7 * i) = nI w then 0 else 1) → ∃ T', f_Md_dies_L19 J (nI w) t f (nI i + 1) (si T 88 i v) = J T' ∧ fr pMC S T' ∧ RM T' D P K (mkil D Y w K) := by
          intro v hv
          rw [nI_1]
          refine ih (i + 1) _ (fr.si hf (by unfold pMC; omega)) ?_ (by omega) (by omega)
          rw [mkil, ← hv]; exact hrT.si 88 i v
        by_cases hz : gi Y 88 i = 0
        · rw [if_pos hz, show vp_nar .boolean 0 = 0 from rfl]
          exact goon 0 (by rw [if_pos hz])
        · have hki : kn i := by
            rcases hx1.2.1 i with z | z
            · exact absurd z hz
            · exact z.2
          have e78 : gi T 78 (7 * i) = D 78 (7 * i) := by rw [hf.2.1 78 _ (by unfold pMC; omega)]; exact (s10 i hki).2 0 (by omega)
          rw [if_neg hz, m7, chk_pos (in_nI (by omega) (by decide)), ix_nI (by omega), e78]
          by_cases hw2 : D 78 (7 * i) = nI w
          · rw [if_pos hw2, show vp_nar .boolean 0 = 0 from rfl]
            exact goon 0 (by rw [if_neg hz, if_pos hw2])
          · rw [if_neg hw2, chk_pos (in_nI (by omega) (by decide)), show vp_nar .boolean 1 = 1 from rfl]
            exact goon 1 (by rw [if_neg hz, if_neg hw2])
      · rw [if_pos (nI_le q (by omega))]
        have : i = K := by omega
        subst this
        exact ⟨T, rfl, hf, hrT⟩
  obtain ⟨T2, a1, a2, a3⟩ := key (fun (S2 : AS) => f_Md_dies_L68 (fun (S3 : AS) => some S3) (nI w) t FU 0 S2) FU 0 T hf1 hr1 (by omega) (by rw [FU_succ]; omega)
  rw [nI_0] at a1
  rw [a1]
  have a4 : RM T2 D P K (mkil D Y w 48) := by
    obtain ⟨r1, r2, r3⟩ := a3
    refine ⟨fun p hp => ?_, fun v hv => ?_, fun k hk => ?_⟩
    · rw [(r1 p hp).1, (r1 p hp).2]; simp only [mkil_gi]; simp
    · rw [(r2 v hv).1, (r2 v hv).2]; simp only [mkil_gi, mkil_gl]; simp
    · rw [(r3 k hk).1, (r3 k hk).2.1, (r3 k hk).2.2]; simp only [mkil_gi]; simp [hk, show k < 48 by omega]
  have hx4 : XOK D W kn (mkil D Y w 48) := hx1.kil w 48
  generalize mkil D Y w 48 = Z at a4 hx4
  have key2 : ∀ (J : AS → Option AS) (f i : Nat) (T : AS), fr pMC S T → RM T D P K (mlv D Z w t i) → i ≤ mQ D → mQ D - i < f → ∃ T', f_Md_dies_L68 J (nI w) t f (nI i) T = J T' ∧ fr pMC S T' ∧ RM T' D P K (mlv D Z w t (mQ D)) := by
    intro J f
    induction f with
    | zero => intro i T _ _ _ h; omega
    | succ f ih =>
      intro i T hf hrT hi hfu
      rw [f_Md_dies_L68, hf.2.1 70 4 (by unfold pMC; omega), s5, d2]
      rcases Nat.lt_or_ge i (mQ D) with q | q
      · rw [if_neg (nI_ge q (by omega)), chk_pos (in_nI (by omega) (by decide)), ix_nI (by omega), (hrT.1 i q).1]
        simp only [nm_k]
        rw [nI_1]
        by_cases hz : gi (mlv D Z w t i) 85 i = nI w
        · have hxi : XOK D W kn (mlv D Z w t i) := hx4.lv hd w t i
          obtain ⟨U, u1, u2, u3⟩ := md_leaves hd (hs.frM hf) hxi hrT q t
          obtain ⟨V, v1, v2, v3⟩ := md_gives hd (hs.frM (hf.tr u2)) (hxi.leave i t) u3 q t
          rw [if_pos hz, u1, bV_eq, v1, bV_eq]
          refine ih (i + 1) V ((hf.tr u2).tr v2) ?_ (by omega) (by omega)
          rw [mlv, if_pos hz]; exact v3
        · rw [if_neg hz]
          refine ih (i + 1) T hf ?_ (by omega) (by omega)
          rw [mlv, if_neg hz]; exact hrT
      · rw [if_pos (nI_le q (by omega))]
        have : i = mQ D := by omega
        subst this
        exact ⟨T, rfl, hf, hrT⟩
  obtain ⟨T3, b1, b2, b3⟩ := key2 (fun (S3 : AS) => some S3) FU 0 T2 a2 a4 (by omega) (by rw [FU_succ]; omega)
  rw [nI_0] at b1
  exact ⟨T3, b1, b2, b3⟩
theorem md_resigns {S : AS} {D : DT} {W kn : Nat → Prop} {P K : Nat} {X : AS} (hd : DOK D W kn) (hs : MSt S D W kn P K) (hx : XOK D W kn X) (hr : RM S D P K X) {p w : Nat} (hp : p < mQ D) (hw : W w) (t : Int32) : ∃ S', f_Md_resigns (nI p) (nI w) t S = some S' ∧ fr pMC S S' ∧ RM S' D P K (mres D X p w t) := by
  obtain ⟨d1, d2, d3, d4, d5, d6, d7, d8⟩ := id hd
  obtain ⟨s1, s2, s3, s4, s5, s6, s7, s8, s9, s10⟩ := id hs
  have hwP := (s9 w hw).1
  unfold f_Md_resigns mres
  simp only [nm_eq]
  rw [chk_pos (in_nI (by omega) (by decide)), ix_nI (by omega), (hr.1 p hp).1]
  by_cases h0 : gi X 85 p = -1
  · rw [if_pos h0, if_pos h0]; exact ⟨S, rfl, fr_rf _ _, hr⟩
  rw [if_neg h0, if_neg h0]
  obtain ⟨U, u1, u2, u3⟩ := md_leaves hd hs hx hr hp t
  have hxU := hx.leave (D := D) p t
  have hsU := hs.frM u2
  obtain ⟨V, v1, v2, v3⟩ := md_gives hd hsU hxU u3 hp t
  rw [u1, bV_eq, chk_pos (in_nI (by omega) (by decide)), ix_nI (by omega), (u3.2.1 w hwP).1, v1, bV_eq, md_bar hd hsU u3 hp hw (Or.inl rfl) t, bI_eq, md_takes (by omega), bV_eq, v1, bV_eq]
  by_cases h1 : gi (mleave D X p t) 87 w = 0
  · rw [if_pos h1, if_pos h1]
    by_cases h2 : mB D (mleave D X p t) p w (-1) t = 0
    · rw [if_pos h2, if_pos h2]; exact ⟨_, rfl, u2.tr (fr_take p _ t), u3.take p _ t⟩
    · rw [if_neg h2, if_neg h2]; exact ⟨V, rfl, u2.tr v2, v3⟩
  · rw [if_neg h1, if_neg h1]; exact ⟨V, rfl, u2.tr v2, v3⟩
theorem md_swaps {S : AS} {D : DT} {W kn : Nat → Prop} {P K : Nat} {X : AS} (hd : DOK D W kn) (hs : MSt S D W kn P K) (hx : XOK D W kn X) (hr : RM S D P K X) {a b : Nat} (ha : a < mQ D) (hb : b < mQ D) (t : Int32) : ∃ S', f_Md_swaps (nI a) (nI b) t S = some S' ∧ fr pMC S S' ∧ RM S' D P K (mswp D X a b t) := by
  obtain ⟨d1, d2, d3, d4, d5, d6, d7, d8⟩ := id hd
  unfold f_Md_swaps mswp
  simp only [nm_eq]
  rw [chk_pos (in_nI (by omega) (by decide)), chk_pos (in_nI (by omega) (by decide)), ix_nI (by omega), ix_nI (by omega), (hr.1 a ha).1, (hr.1 b hb).1]
  by_cases h0 : gi X 85 a = -1
  · rw [if_pos h0, if_pos h0]; exact ⟨S, rfl, fr_rf _ _, hr⟩
  rw [if_neg h0, if_neg h0]
  by_cases h1 : gi X 85 b = -1
  · rw [if_pos h1, if_pos h1]; exact ⟨S, rfl, fr_rf _ _, hr⟩
  rw [if_neg h1, if_neg h1]
  obtain ⟨U, u1, u2, u3⟩ := md_leaves hd hs hx hr ha t
  obtain ⟨V, v1, v2, v3⟩ := md_leaves hd (hs.frM u2) (hx.leave a t) u3 hb t
  rw [u1, bV_eq, v1, bV_eq, md_takes (by omega), bV_eq, md_takes (by omega), bV_eq]
  exact ⟨_, rfl, ((u2.tr v2).tr (fr_take a _ t)).tr (fr_take b _ t), (v3.take a _ t).take b _ t⟩
/-! the news -/
theorem XOK.stp {D : DT} {W kn : Nat → Prop} {X : AS} {P n : Nat} {u : Int32} {k : Nat} (hd : DOK D W kn) (hN : NOK D W kn P n) (h : XOK D W kn X) (hk : okN D n u k) : XOK D W kn (mstp D X k) := by
  obtain ⟨k1, k2, k3, -⟩ := hk
  rcases hN.2 k k1 k2 with q | ⟨-, q | q | q | q⟩
  · exact absurd q k3
  · obtain ⟨q1, j, q2, q3⟩ := q
    unfold mstp
    rw [if_pos q1, q3, ix_nI (by have := (hd.2.2.2.2.1 j q2).1; omega)]; exact h.come hd q2 _
  · obtain ⟨q1, w, q2, q3⟩ := q
    unfold mstp
    rw [q1, if_neg (by decide), if_pos rfl]; exact h.die hd _ _
  · obtain ⟨q1, p, w, q2, q3, q4, q5⟩ := q
    unfold mstp
    rw [q1, if_neg (by decide), if_neg (by decide), if_pos rfl, q5, ix_nI (n := w) (by have := (hd.2.2.2.1 w q3).1; omega)]; exact h.res hd _ q3 _
  · obtain ⟨q1, p, w, q2, q3, q4, q5⟩ := q
    have := hd.1
    unfold mstp
    rw [q1, if_neg (by decide), if_neg (by decide), if_neg (by decide), q4, q5, ix_nI (n := p) (by omega), ix_nI (n := w) (by omega)]; exact h.swp q2 q3 _
theorem XOK.ini {D : DT} {W kn : Nat → Prop} (hd : DOK D W kn) : XOK D W kn (mini D) := by
  refine ⟨fun p hp => ?_, fun k => Or.inl rfl, fun w => Or.inl rfl⟩
  have e : gi (mini D) 85 p = D 73 (3 * p + 2) := by
    show (if (85 : Nat) = 85 then (if p < mQ D then D 73 (3 * p + 2) else -1) else if (85 : Nat) = 89 ∨ (85 : Nat) = 90 then -1 else 0) = D 73 (3 * p + 2)
    rw [if_pos rfl, if_pos hp]
  rw [e]; exact (hd.2.2.1 p hp).2.2
theorem XOK.run {D : DT} {W kn : Nat → Prop} {P n : Nat} {u : Int32} (hd : DOK D W kn) (hN : NOK D W kn P n) {l : Nat → Nat} {m : Nat} (hl : ∀ i, i < m → okN D n u (l i)) : XOK D W kn (mrun D l m) := by
  induction m with
  | zero => exact XOK.ini hd
  | succ m ih => rw [mrun]; exact (ih (fun i hi => hl i (by omega))).stp hd hN (hl m (by omega))
theorem mrun_congr {D : DT} {l l' : Nat → Nat} {m : Nat} (h : ∀ i, i < m → l i = l' i) : mrun D l m = mrun D l' m := by
  induction m with
  | zero => rfl
  | succ m ih => rw [mrun, mrun, ih (fun i hi => h i (by omega)), h m (by omega)]
theorem md_step {S : AS} {D : DT} {W kn : Nat → Prop} {P K n : Nat} {X : AS} {u : Int32} {k : Nat} (hd : DOK D W kn) (hN : NOK D W kn P n) (hs : MSt S D W kn P K) (hx : XOK D W kn X) (hr : RM S D P K X) (hk : okN D n u k) :
    ∃ S', (if D 74 k = 0 then f_Md_comes (D 76 k) (D 75 k) S else if D 74 k = 1 then f_Md_dies (D 76 k) (D 75 k) S else if D 74 k = 2 then f_Md_resigns (D 76 k) (D 77 k) (D 75 k) S else f_Md_swaps (D 76 k) (D 77 k) (D 75 k) S) = some S' ∧ fr pMC S S' ∧ RM S' D P K (mstp D X k) := by
  obtain ⟨k1, k2, k3, -⟩ := hk
  unfold mstp
  rcases hN.2 k k1 k2 with q | ⟨-, q | q | q | q⟩
  · exact absurd q k3
  · obtain ⟨q1, j, q2, q3⟩ := q
    rw [if_pos q1, if_pos q1, q3, ix_nI (by have := (hd.2.2.2.2.1 j q2).1; omega)]; exact md_comes hd hs hx hr q2 _
  · obtain ⟨q1, w, q2, q3⟩ := q
    rw [q1, if_neg (by decide), if_pos rfl, if_neg (by decide), if_pos rfl, q3, ix_nI (by have := hs.1; omega)]; exact md_dies hd hs hx hr q2 _
  · obtain ⟨q1, p, w, q2, q3, q4, q5⟩ := q
    have := hd.1
    rw [q1, if_neg (by decide), if_neg (by decide), if_pos rfl, if_neg (by decide), if_neg (by decide), if_pos rfl, q4, q5, ix_nI (n := w) (by have := (hd.2.2.2.1 w q3).1; omega), ix_nI (n := p) (by omega)]; exact md_resigns hd hs hx hr q2 q3 _
  · obtain ⟨q1, p, w, q2, q3, q4, q5⟩ := q
    have := hd.1
    rw [q1, if_neg (by decide), if_neg (by decide), if_neg (by decide), if_neg (by decide), if_neg (by decide), if_neg (by decide), q4, q5, ix_nI (n := p) (by omega), ix_nI (n := w) (by omega)]; exact md_swaps hd hs hx hr q2 q3 _
