theorem mleave_self (D : DT) (X : AS) (p : Nat) (t : Int32) : gi (mleave D X p t) 85 p = -1 := by rw [mleave_gi, if_pos ⟨rfl, rfl⟩]
theorem cl_die {S : AS} {D : DT} {W kn : Nat → Prop} {P K : Nat} {X : AS} {t : Int32} (hd : DOK D W kn) (hs : CSt S D W kn P K) (hx : XOK D W kn X) (hr : RC S D X) (hT : TR S D t) {w : Nat} (hw : w < P) : ∃ S', f_Course_die (nI w) S = some S' ∧ fr pC0 S S' ∧ RC S' D (mdie D X w t) := by
  obtain ⟨d1, d2, d3, d4, d5, d6, d7, d8⟩ := id hd
  obtain ⟨s1, s2, s3, s4, s5, s6, s7, s8, s9, s10⟩ := id hs
  have hin : vp_in (nI w) 24 := in_nI (by omega) (by decide)
  unfold f_Course_die mdie
  simp only [nm_k]
  rw [chk_pos hin, chk_pos hin, ix_nI (by omega), (hr.2.1 w (by omega)).2.2]
  by_cases h0 : gi X 87 w = 0
  rotate_left
  · rw [if_neg h0, if_neg h0]; exact ⟨S, rfl, fr_rf _ _, hr⟩
  rw [if_pos h0, if_pos h0, show vp_nar .boolean 1 = 1 from rfl]
  have hr1 : RC (si S 54 w 1) D (si X 87 w 1) := hr.dead w 1
  have hf1 : fr pC0 S (si S 54 w 1) := fr.si (fr_rf pC0 S) (by unfold pC0; omega)
  have hx1 : XOK D W kn (si X 87 w 1) := hx.dead w
  generalize si S 54 w 1 = S1 at hr1 hf1
  generalize si X 87 w 1 = Y at hr1 hx1
  have key : ∀ (f i : Nat) (T : AS), fr pC0 S T → RC T D (mkil D Y w i) → i ≤ K → K - i < f → ∃ T', (∀ J : AS → Option AS, f_Course_die_L19 J (nI w) f (nI i) T = J T') ∧ fr pC0 S T' ∧ RC T' D (mkil D Y w K) := by
    intro f
    induction f with
    | zero => intro i T _ _ _ h; omega
    | succ f ih =>
      intro i T hf hrT hi hfu
      have h23 : gi T 23 8 = nI K := by rw [hf.2.1 23 8 (by unfold pC0; omega)]; exact s4
      have e24 : gi T 24 i = gi S 24 i := hf.2.1 24 i (by unfold pC0; omega)
      rcases Nat.lt_or_ge i K with q | q
      · have hin2 : vp_in (nI i) 48 := in_nI (by omega) (by decide)
        by_cases ho : gi S 24 i = nI w
        · obtain ⟨T', g1, g2, g3⟩ := ih (i + 1) (si T 55 i 0) (hf.si (by unfold pC0; omega)) (by
            rw [mkil]
            have hz : (if gi Y 88 i = 0 then (0 : Int32) else if D 78 (7 * i) = nI w then 0 else 1) = 0 := by
              rcases hx1.2.1 i with z | z
              · rw [if_pos z]
              · rw [if_neg (by rw [z.1]; decide), if_pos (by rw [← (s7 i z.2).2.1]; exact ho)]
            rw [hz]
            exact (hrT.paper i 0).1) (by omega) (by omega)
          refine ⟨T', fun J => ?_, g2, g3⟩
          rw [f_Course_die_L19, h23, if_neg (nI_ge q (by omega))]
          simp only [nm_eq]
          rw [chk_pos hin2, chk_pos hin2, ix_nI (by omega), e24, if_pos ho, nI_1, show vp_nar .boolean 0 = 0 from rfl]; exact g1 J
        · obtain ⟨T', g1, g2, g3⟩ := ih (i + 1) T hf (by
            refine hrT.congr (fun p hp => ?_) (fun v hv => ?_) (fun k hk => ?_)
            · simp only [mkil_gi]; simp
            · simp only [mkil_gi, mkil_gl]; simp
            · simp only [mkil_gi]
              by_cases e : k = i
              · subst e
                simp only [Nat.lt_irrefl, and_false, if_false, true_and, Nat.lt_succ_self, if_true]
                refine ⟨?_, by simp, by simp⟩
                rcases hx1.2.1 k with z | z
                · rw [if_pos z, z]
                · rw [if_neg (by rw [z.1]; decide), if_neg (fun y => ho (by rw [(s7 k z.2).2.1]; exact y)), z.1]
              · by_cases e3 : k < i
                · simp [e3, show k < i + 1 by omega]
                · simp [e3, show ¬ k < i + 1 by omega]) (by omega) (by omega)
          refine ⟨T', fun J => ?_, g2, g3⟩
          rw [f_Course_die_L19, h23, if_neg (nI_ge q (by omega))]
          simp only [nm_eq]
          rw [chk_pos hin2, chk_pos hin2, ix_nI (by omega), e24, if_neg ho, nI_1]; exact g1 J
      · have e : i = K := by omega
        subst e
        refine ⟨T, fun J => ?_, hf, hrT⟩
        rw [f_Course_die_L19, h23, if_pos (nI_le q (by omega))]
  obtain ⟨T2, a1, a2, a3⟩ := key FU 0 S1 hf1 hr1 (by omega) (by rw [FU_succ]; omega)
  rw [nI_0] at a1
  rw [a1]
  have a4 : RC T2 D (mkil D Y w 48) := by
    refine a3.congr (fun p hp => ?_) (fun v hv => ?_) (fun k hk => ?_)
    · simp only [mkil_gi]; simp
    · simp only [mkil_gi, mkil_gl]; simp
    · simp only [mkil_gi]
      refine ⟨?_, by simp, by simp⟩
      rcases Nat.lt_or_ge k K with z | z
      · simp [hk, z]
      · have hz : gi Y 88 k = 0 := by
          rcases hx1.2.1 k with y | y
          · exact y
          · exact absurd (s7 k y.2).1 (by omega)
        simp [hz, show ¬ k < K by omega]
  have hx4 : XOK D W kn (mkil D Y w 48) := hx1.kil w 48
  generalize mkil D Y w 48 = Z at a4 hx4
  have key2 : ∀ (f i : Nat) (T : AS), fr pC0 S T → RC T D (mlv D Z w t i) → i ≤ mQ D → mQ D - i < f → ∃ T', (∀ J : AS → Option AS, f_Course_die_L58 J (nI w) f (nI i) T = J T') ∧ fr pC0 S T' ∧ RC T' D (mlv D Z w t (mQ D)) := by
    intro f
    induction f with
    | zero => intro i T _ _ _ h; omega
    | succ f ih =>
      intro i T hf hrT hi hfu
      have h7 : gi T 16 7 = nI (mQ D) := by rw [hf.2.1 16 7 (by unfold pC0; omega)]; exact s3
      rcases Nat.lt_or_ge i (mQ D) with q | q
      · have hin2 : vp_in (nI i) 16 := in_nI (by omega) (by decide)
        have e50 := (hrT.1 i q).1
        by_cases hz : gi (mlv D Z w t i) 85 i = nI w
        · have hxi : XOK D W kn (mlv D Z w t i) := hx4.lv hd w t i
          obtain ⟨U, u1, u2, u3⟩ := cl_free hd (hs.mv hf) hxi hrT (hT.mv hf).1 q
          obtain ⟨V, v1, v2, v3⟩ := cl_fill hd (hs.mv (hf.tr u2)) (hxi.leave i t) u3 (hT.mv (hf.tr u2)) q (mleave_self D _ i t)
          obtain ⟨T', g1, g2, g3⟩ := ih (i + 1) V ((hf.tr u2).tr v2) (by rw [mlv, if_pos hz]; exact v3) (by omega) (by omega)
          refine ⟨T', fun J => ?_, g2, g3⟩
          rw [f_Course_die_L58, h7, if_neg (nI_ge q (by omega))]
          simp only [nm_eq]
          rw [chk_pos hin2, ix_nI (by omega), e50, if_pos hz, u1, bV_eq, v1, bV_eq, nI_1]; exact g1 J
        · obtain ⟨T', g1, g2, g3⟩ := ih (i + 1) T hf (by rw [mlv, if_neg hz]; exact hrT) (by omega) (by omega)
          refine ⟨T', fun J => ?_, g2, g3⟩
          rw [f_Course_die_L58, h7, if_neg (nI_ge q (by omega))]
          simp only [nm_eq]
          rw [chk_pos hin2, ix_nI (by omega), e50, if_neg hz, nI_1]; exact g1 J
      · have e : i = mQ D := by omega
        subst e
        refine ⟨T, fun J => ?_, hf, hrT⟩
        rw [f_Course_die_L58, h7, if_pos (nI_le q (by omega))]
  obtain ⟨T3, b1, b2, b3⟩ := key2 FU 0 T2 a2 a4 (by omega) (by rw [FU_succ]; omega)
  rw [nI_0] at b1
  exact ⟨T3, b1 _, b2, b3⟩
theorem cl_leaveTo {S : AS} {D : DT} {W kn : Nat → Prop} {P K : Nat} {X : AS} {t : Int32} (hd : DOK D W kn) (hs : CSt S D W kn P K) (hx : XOK D W kn X) (hr : RC S D X) (hT : TR S D t) {p w : Nat} (hp : p < mQ D) (hw : W w) : ∃ S', f_Course_leaveTo (nI p) (nI w) S = some S' ∧ fr pC0 S S' ∧ RC S' D (mres D X p w t) := by
  obtain ⟨d1, d2, d3, d4, d5, d6, d7, d8⟩ := id hd
  obtain ⟨s1, s2, s3, s4, s5, s6, s7, s8, s9, s10⟩ := id hs
  have w24 := (d4 w hw).1
  unfold f_Course_leaveTo mres
  simp only [nm_eq]
  rw [chk_pos (in_nI (by omega) (by decide)), ix_nI (by omega), (hr.1 p hp).1]
  by_cases h0 : gi X 85 p = -1
  · rw [if_pos h0, if_pos h0]; exact ⟨S, rfl, fr_rf _ _, hr⟩
  rw [if_neg h0, if_neg h0]
  obtain ⟨U, u1, u2, u3⟩ := cl_free hd hs hx hr hT.1 hp
  have hxU : XOK D W kn (mleave D X p t) := hx.leave p t
  have hfreeU := mleave_self D X p t
  generalize mleave D X p t = Y at u3 hxU hfreeU
  have hsU := hs.mv u2
  have hTU := hT.mv u2
  rw [u1, bV_eq]
  have f1 := cl_facts_58 hd hsU u3 hTU.1 hp hw (Or.inl rfl)
  have g1 : fr pCF U (ldf U 58 (fac D Y p w (-1) t)) := ldf_fr _ (fun k => Or.inl rfl)
  have hF1 := ldf_FA U 58 D Y p w (-1) t
  generalize ldf U 58 (fac D Y p w (-1) t) = V at f1 g1 hF1
  obtain ⟨t1, t2, q, t3, t4⟩ := id (hTU.mv (pCF_0 g1))
  have hsV := hsU.mv (pCF_0 g1)
  have hrV := u3.mv g1 d1
  obtain ⟨Z, z1, z2, z3⟩ := cl_fill hd hsV hxU hrV (hTU.mv (pCF_0 g1)) hp hfreeU
  rw [f1, bV_eq, chk_pos (in_nI w24 (by decide)), ix_nI (by omega), (hrV.2.1 w w24).2.2, t3, obd_some, cl_bars hd hF1 t4, bI_eq, z1, bV_eq]
  by_cases h1 : gi Y 87 w = 0
  · rw [if_pos h1, if_pos h1]
    by_cases h2 : mB D Y p w (-1) t = 0
    · obtain ⟨R, r1, r2, r3⟩ := cl_give hd hsV hxU hrV t1 hp (v := nI w) (Or.inr ⟨w, w24, rfl⟩)
      rw [if_pos h2, if_pos h2, r1, bV_eq]
      rw [mleave_free hfreeU] at r3
      exact ⟨R, rfl, (u2.tr (pCF_0 g1)).tr r2, r3⟩
    · rw [if_neg h2, if_neg h2]; exact ⟨Z, rfl, (u2.tr (pCF_0 g1)).tr z2, z3⟩
  · rw [if_neg h1, if_neg h1]; exact ⟨Z, rfl, (u2.tr (pCF_0 g1)).tr z2, z3⟩
theorem mleave_gl (D : DT) (X : AS) (p : Nat) (t : Int32) (c k : Nat) : gl (mleave D X p t) c k = if gi X 85 p = -1 then gl X c k else if c = 91 ∧ k = ix (gi X 85 p) then gl X 91 (ix (gi X 85 p)) + (D 73 (3 * p + 1)).toInt64 * (t - gi X 86 p).toInt64 else gl X c k := by
  unfold mleave
  by_cases h : gi X 85 p = -1
  · rw [if_pos h, if_pos h]
  · rw [if_neg h, if_neg h, gl_si, gl_sl]
theorem cl_swap {S : AS} {D : DT} {W kn : Nat → Prop} {P K : Nat} {X : AS} {t : Int32} (hd : DOK D W kn) (hs : CSt S D W kn P K) (hx : XOK D W kn X) (hr : RC S D X) (hT : TR S D t) {a b : Nat} (ha : a < mQ D) (hb : b < mQ D) (hab : ¬ a = b) : ∃ S', f_Course_changePlaces (nI a) (nI b) S = some S' ∧ fr pC0 S S' ∧ RC S' D (mswp D X a b t) := by
  obtain ⟨d1, d2, d3, d4, d5, d6, d7, d8⟩ := id hd
  unfold f_Course_changePlaces mswp
  simp only [nm_eq]
  rw [chk_pos (in_nI (by omega) (by decide)), chk_pos (in_nI (by omega) (by decide)), ix_nI (by omega), ix_nI (by omega), (hr.1 a ha).1, (hr.1 b hb).1]
  by_cases h0 : gi X 85 a = -1
  · rw [if_pos h0, if_pos h0]; exact ⟨S, rfl, fr_rf _ _, hr⟩
  rw [if_neg h0, if_neg h0]
  by_cases h1 : gi X 85 b = -1
  · rw [if_pos h1, if_pos h1]; exact ⟨S, rfl, fr_rf _ _, hr⟩
  rw [if_neg h1, if_neg h1]
  obtain ⟨U, u1, u2, u3⟩ := cl_give hd hs hx hr hT.1 ha (hx.h24 hd hb)
  have hx1 : XOK D W kn (mtake (mleave D X a t) a (gi X 85 b) t) := (hx.leave a t).take a (hx.1 b hb) t
  obtain ⟨V, v1, v2, v3⟩ := cl_give hd (hs.mv u2) hx1 u3 (hT.mv u2).1 hb (hx.h24 hd ha)
  rw [u1, bV_eq, v1, bV_eq]
  refine ⟨V, rfl, u2.tr v2, v3.congr (fun p hp => ?_) (fun w hw => ?_) (fun k hk => ?_)⟩
  · simp only [mtake_gi, mleave_gi]
    by_cases e1 : p = b
    · simp [e1]
    · by_cases e2 : p = a
      · simp [e1, e2, hab]
      · simp [e1, e2]
  · have hba : ¬ b = a := fun z => hab z.symm
    refine ⟨?_, by simp [mtake_gi, mleave_gi]⟩
    simp only [mtake_gl]
    rw [mleave_gl, mleave_gl D (mtake (mleave D X a t) a (gi X 85 b) t)]
    simp [mtake_gi, mtake_gl, mleave_gi, hba]
  · simp [mtake_gi, mleave_gi]
/-! news -/
def NCt (S : AS) (D : DT) (kn : Nat → Prop) (n : Nat) : Prop := (∀ k, 1 ≤ k → k ≤ n → gi S 33 k = D 74 k ∧ (¬ D 74 k = 4 → gi S 34 k = D 75 k ∧ gi S 35 k = D 76 k ∧ (D 74 k = 2 ∨ D 74 k = 3 → gi S 36 k = D 77 k))) ∧ ∀ j, kn j → ((¬ gi S 31 j = -1 ∧ ¬ nI n < gi S 31 j) ↔ D 79 j = 1)
def NOK2 (D : DT) (n : Nat) : Prop := ∀ k, 1 ≤ k → k ≤ n → D 74 k = 3 → ¬ D 76 k = D 77 k
theorem cl_happen {S : AS} {D : DT} {W kn : Nat → Prop} {P K n : Nat} {X : AS} (hd : DOK D W kn) (hN : NOK D W kn P n) (hN2 : NOK2 D n) (hs : CSt S D W kn P K) (hc : NCt S D kn n) (hx : XOK D W kn X) (hr : RC S D X) {k : Nat} (k1 : 1 ≤ k) (k2 : k ≤ n) (k3 : ¬ D 74 k = 4) (hT : TR S D (D 75 k)) : ∃ S', f_Course_happen (nI k) (nI n) S = some S' ∧ fr pC0 S S' ∧ RC S' D (pif (D 74 k = 0 ∧ D 79 (ix (D 76 k)) = 1) X (mstp D X k)) := by
  have hn := hN.1
  obtain ⟨c1, c2⟩ := hc.1 k k1 k2
  obtain ⟨c3, c4, c5⟩ := c2 k3
  have hin : vp_in (nI k) 161 := in_nI (by omega) (by decide)
  unfold f_Course_happen
  simp only [nm_eq]
  rw [chk_pos hin, chk_pos hin, chk_pos hin, ix_nI (by omega), c1, c4]
  rcases hN.2 k k1 k2 with q | ⟨-, q | q | q | q⟩
  · exact absurd q k3
  · obtain ⟨q1, j, q2, q3⟩ := q
    have hj48 := (hd.2.2.2.2.1 j q2).1
    have hv := hc.2 j q2
    have hinj : vp_in (nI j) 48 := in_nI hj48 (by decide)
    rw [if_pos q1, q3, ix_nI (by omega)]
    by_cases hz : D 79 j = 1
    · rw [pif_pos ⟨q1, hz⟩]
      obtain ⟨z1, z2⟩ := hv.mpr hz
      refine ⟨S, ?_, fr_rf _ _, hr⟩
      unfold f_PaperBox_isVoid
      simp only [nm_eq]
      rw [chk_pos hinj, chk_pos hinj, ix_nI (by omega), if_neg z1, if_neg z2, bI_eq, if_neg (by decide)]
    · rw [pif_neg (fun z => hz z.2)]
      obtain ⟨S', a, b, c⟩ := cl_come hd hs hx hr hT q2
      refine ⟨S', ?_, b, ?_⟩
      · have hvoid : f_PaperBox_isVoid (nI j) (nI n) S = some (0, S) := by
          unfold f_PaperBox_isVoid
          simp only [nm_eq]
          rw [chk_pos hinj, chk_pos hinj, ix_nI (by omega)]
          by_cases z1 : gi S 31 j = -1
          · rw [if_pos z1]
          · rw [if_neg z1]
            by_cases z2 : nI n < gi S 31 j
            · rw [if_pos z2]
            · exact absurd (hv.mp ⟨z1, z2⟩) hz
        rw [hvoid, bI_eq, if_pos rfl, a, bV_eq]
      · unfold mstp
        rw [if_pos q1, q3, ix_nI (by omega)]; exact c
  · obtain ⟨q1, w, q2, q3⟩ := q
    rw [pif_neg (by rw [q1]; exact fun z => absurd z.1 (by decide)), q1, if_neg (by decide), if_pos rfl, q3]
    obtain ⟨S', a, b, c⟩ := cl_die hd hs hx hr hT q2
    refine ⟨S', by rw [a, bV_eq], b, ?_⟩
    unfold mstp
    rw [q1, if_neg (by decide), if_pos rfl, q3, ix_nI (by have := hs.1; omega)]; exact c
  · obtain ⟨q1, p, w, q2, q3, q4, q5⟩ := q
    have := hd.1
    rw [pif_neg (by rw [q1]; exact fun z => absurd z.1 (by decide)), c5 (Or.inl q1), q1, if_neg (by decide), if_neg (by decide), if_pos rfl, q4, q5]
    obtain ⟨S', a, b, c⟩ := cl_leaveTo hd hs hx hr hT q2 q3
    refine ⟨S', by rw [a, bV_eq], b, ?_⟩
    unfold mstp
    rw [q1, if_neg (by decide), if_neg (by decide), if_pos rfl, q4, q5, ix_nI (n := w) (by have := (hd.2.2.2.1 w q3).1; omega), ix_nI (n := p) (by omega)]; exact c
  · obtain ⟨q1, p, w, q2, q3, q4, q5⟩ := q
    have := hd.1
    rw [pif_neg (by rw [q1]; exact fun z => absurd z.1 (by decide)), c5 (Or.inr q1), q1, if_neg (by decide), if_neg (by decide), if_neg (by decide), if_pos rfl, q4, q5]
    obtain ⟨S', a, b, c⟩ := cl_swap hd hs hx hr hT q2 q3 (fun z => hN2 k k1 k2 q1 (by rw [q4, q5, z]))
    refine ⟨S', by rw [a, bV_eq], b, ?_⟩
    unfold mstp
    rw [q1, if_neg (by decide), if_neg (by decide), if_neg (by decide), q4, q5, ix_nI (n := p) (by omega), ix_nI (n := w) (by omega)]; exact c
