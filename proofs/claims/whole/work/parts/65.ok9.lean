theorem DAT.eqs {S : AS} {n : Nat} {u : Int32} {D : DT} {W kn : Nat → Prop} {P K m : Nat} {l : Nat → Nat} (h : DAT S n u D W kn P K m l) : mQ D = nQ S ∧ P = nP S ∧ K = nK S := by
  obtain ⟨a, b, ⟨s1, s2, s3, s4, s5, s6, s7, s8, s9, s10⟩, d, f, g⟩ := h
  refine ⟨by unfold mQ nQ; rw [s5], ?_, ?_⟩
  · unfold nP; rw [s3]; exact (ix_nI (by omega)).symm
  · unfold nK; rw [s4]; exact (ix_nI (by omega)).symm
theorem both_ok {m : Nat} {S : AS} (h : INV m S) {n : Nat} (hn : n ≤ nN S) {u : Int32} (hu : bnd u 9999999) : ∃ T U D W kn P K M l, f_Course_tell (nI n) u S = some T ∧ f_Md_goes (nI n) u T = some U ∧ INV m T ∧ INV m U ∧ (∀ c k, c ≤ 48 ∨ 60 ≤ c → gi T c k = gi S c k) ∧ (∀ c k, c < 85 ∨ 93 ≤ c → gi U c k = gi T c k) ∧ DAT T n u D W kn P K M l ∧ RC T D (mrun D l M) ∧ RM U D P K (mrun D l M) ∧ gi T 49 14 = u ∧ mQ D = nQ S ∧ P = nP S ∧ K = nK S := by
  obtain ⟨T, D, W, kn, P, K, M, l, t1, t2, t3, t4, t5, t6, -⟩ := tell_ok h hn hu
  obtain ⟨U, g1, g2, g3⟩ := goes_ok t4
  obtain ⟨q1, q2, q3⟩ := t4.eqs
  have e : ∀ c k, c ≤ 48 ∨ 60 ≤ c → gi T c k = gi S c k := fun c k hc => t2.2.1 c k (by unfold pCT; omega)
  refine ⟨T, U, D, W, kn, P, K, M, l, t1, g1, t3, t3.g g2, e, fun c k hc => g2.2.1 c k (by unfold pMG; omega), t4, t5, g3, t6.1, ?_, ?_, ?_⟩
  · rw [q1]; unfold nQ; rw [e 70 4 (by omega)]
  · rw [q2]; unfold nP; rw [e 70 2 (by omega)]
  · rw [q3]; unfold nK; rw [e 70 11 (by omega)]
theorem ok_holder {m : Nat} {S : AS} (hm : m < 600) (h : INV m S) (p1 p2 : Int32) : ∃ (r : Int32) (S1 S2 : AS), f_Chan_holder p1 p2 S = some (r, S1) ∧ f_Md_holder p1 p2 S1 = some (r, S2) ∧ INV (m + 1) S2 := by
  obtain ⟨hs, hA, hB, hC, hO, hD, hE, hG, hH, hU, hJ, hW, hF, hK⟩ := id h
  obtain ⟨hP, hQ, e1, e2, e3, e4, bP, bQ⟩ := id hB
  have one : ¬ (1 : Int32) = 0 := by decide
  unfold f_Chan_holder f_Md_holder
  rcases idx_cases p1 (nQ S) (by omega) with ⟨p, hp, ep, q0, q1⟩ | hno
  rotate_left
  · exact ⟨-1, S, S, by rw [rq_no e4 hno, bI_eq, if_pos rfl], by rw [mq_no e3 hno, bI_eq, if_pos rfl], h.step⟩
  rcases rng_cases p2 9999999 (by decide) with r1 | ⟨t, ht, et, r1⟩
  · have r1' : (if p2 < 0 then (0 : Int32) else if 9999999 < p2 then 0 else 1) = 0 := r1
    exact ⟨-1, S, S, by rw [rq_yes e4 q0 q1, bI_eq, if_neg one, time_spec, bI_eq, r1', if_pos rfl], by rw [mq_yes e3 q0 q1, bI_eq, if_neg one, mtime_spec, bI_eq, r1', if_pos rfl], h.step⟩
  have r1' : (if p2 < 0 then (0 : Int32) else if 9999999 < p2 then 0 else 1) = 1 := r1
  subst ep
  obtain ⟨n, hn, k1, k2⟩ := known_ok h
  obtain ⟨T, U, D, W, kn, P, K, M, l, t1, g1, iT, iU', eT, eU, hd, hr, hm', hnow, eQ, eP, eK⟩ := both_ok h hn (u := p2) ⟨t, ht, et⟩
  refine ⟨gi T 50 p, T, U, ?_, ?_, iU'.step⟩
  · rw [rq_yes e4 q0 q1, bI_eq, if_neg one, time_spec, bI_eq, r1', if_neg one, k1, bI_eq, t1, bV_eq, chk_pos (in_nI (by omega) (by decide)), ix_nI (by omega)]
  · have e3' : gi T 70 4 = nI (nQ S) := by rw [eT 70 4 (by omega)]; exact e3
    rw [mq_yes e3' q0 q1, bI_eq, if_neg one, mtime_spec, bI_eq, r1', if_neg one, k2 T (eT 70 14 (by omega)) (eT 70 6 (by omega)), bI_eq, g1, bV_eq, chk_pos (in_nI (by omega) (by decide)), ix_nI (by omega), (hm'.1 p (by omega)).1, (hr.1 p (by omega)).1]
theorem ok_posts {m : Nat} {S : AS} (hm : m < 600) (h : INV m S) (p1 p2 : Int32) : ∃ (r : Int32) (S1 S2 : AS), f_Chan_posts p1 p2 S = some (r, S1) ∧ f_Md_posts p1 p2 S1 = some (r, S2) ∧ INV (m + 1) S2 := by
  obtain ⟨hs, hA, hB, hC, hO, hD, hE, hG, hH, hU, hJ, hW, hF, hK⟩ := id h
  obtain ⟨hP, hQ, e1, e2, e3, e4, bP, bQ⟩ := id hB
  have one : ¬ (1 : Int32) = 0 := by decide
  unfold f_Chan_posts f_Md_posts
  rcases idx_cases p1 (nP S) (by omega) with ⟨p, hp, ep, q0, q1⟩ | hno
  rotate_left
  · exact ⟨-1, S, S, by rw [rp_no e2 hno, bI_eq, if_pos rfl], by rw [mp_no e1 hno, bI_eq, if_pos rfl], h.step⟩
  rcases rng_cases p2 9999999 (by decide) with r1 | ⟨t, ht, et, r1⟩
  · have r1' : (if p2 < 0 then (0 : Int32) else if 9999999 < p2 then 0 else 1) = 0 := r1
    exact ⟨-1, S, S, by rw [rp_yes e2 q0 q1, bI_eq, if_neg one, time_spec, bI_eq, r1', if_pos rfl], by rw [mp_yes e1 q0 q1, bI_eq, if_neg one, mtime_spec, bI_eq, r1', if_pos rfl], h.step⟩
  have r1' : (if p2 < 0 then (0 : Int32) else if 9999999 < p2 then 0 else 1) = 1 := r1
  subst ep
  obtain ⟨n, hn, k1, k2⟩ := known_ok h
  obtain ⟨T, U, D, W, kn, P, K, M, l, t1, g1, iT, iU', eT, eU, hd, hr, hm', hnow, eQ, eP, eK⟩ := both_ok h hn (u := p2) ⟨t, ht, et⟩
  refine ⟨gi T 52 p, T, U, ?_, ?_, iU'.step⟩
  · rw [rp_yes e2 q0 q1, bI_eq, if_neg one, time_spec, bI_eq, r1', if_neg one, k1, bI_eq, t1, bV_eq, chk_pos (in_nI (by omega) (by decide)), ix_nI (by omega)]
  · have e1' : gi T 70 2 = nI (nP S) := by rw [eT 70 2 (by omega)]; exact e1
    have h4 : gi U 70 4 = nI (mQ D) := by rw [eU 70 4 (by omega), eT 70 4 (by omega), eQ]; exact e3
    rw [mp_yes e1' q0 q1, bI_eq, if_neg one, mtime_spec, bI_eq, r1', if_neg one, k2 T (eT 70 14 (by omega)) (eT 70 6 (by omega)), bI_eq, g1, bV_eq, md_held (P := P) (K := K) (by omega) h4 (fun q hq => (hm'.1 q hq).1), bI_eq, (hr.2.1 p (by omega)).1]
/-- what a person has of the posts held still, from the i-th post on -/
def mdu (D : DT) (X : AS) (w u : Int32) : Nat → Nat → Int64 → Int64
  | 0, _, v => v
  | c + 1, i, v => mdu D X w u c (i + 1) (if gi X 85 i = w then v + (D 73 (3 * i + 1)).toInt64 * (u - gi X 86 i).toInt64 else v)
theorem due_C {T : AS} {D : DT} {X : AS} {w u : Int32} {Q : Nat} (hQ : Q ≤ 16) (hw : ¬ w = -1) (h7 : gi T 16 7 = nI Q) (h14 : gi T 49 14 = u) (h21 : ∀ p, p < Q → gi T 21 p = D 73 (3 * p + 1)) (h50 : ∀ p, p < Q → gi T 50 p = gi X 85 p ∧ (¬ gi X 85 p = -1 → gi T 51 p = gi X 86 p)) : ∀ (f c i : Nat) (v : Int64), i + c = Q → c < f → ∀ J : Int64 → AS → Option (Int64 × AS), f_Course_earnedBy_L10 J w f v (nI i) T = J (mdu D X w u c i v) T := by
  intro f
  induction f with
  | zero => intro c i v _ h; omega
  | succ f ih =>
    intro c i v hi hf J
    rw [f_Course_earnedBy_L10, h7]
    cases c with
    | zero => rw [if_pos (nI_le (by omega) (by omega))]; rfl
    | succ c =>
      have hin : vp_in (nI i) 16 := in_nI (by omega) (by decide)
      rw [if_neg (nI_ge (by omega) (by omega)), chk_pos hin, ix_nI (by omega)]
      simp only [nm_eq]
      rw [(h50 i (by omega)).1, h21 i (by omega), h14, nI_1, mdu]
      by_cases z : gi X 85 i = w
      · rw [if_pos z, if_pos z, chk_pos hin, chk_pos hin, (h50 i (by omega)).2 (by rw [z]; exact hw)]
        exact ih c (i + 1) _ (by omega) (by omega) J
      · rw [if_neg z, if_neg z]
        exact ih c (i + 1) _ (by omega) (by omega) J
theorem due_M {U : AS} {D : DT} {X : AS} {w u : Int32} {Q : Nat} (hQ : Q ≤ 16) (h4 : gi U 70 4 = nI Q) (h73 : ∀ k, gi U 73 k = D 73 k) (h85 : ∀ p, p < Q → gi U 85 p = gi X 85 p ∧ gi U 86 p = gi X 86 p) : ∀ (f c i : Nat) (v : Int64), i + c = Q → c < f → ∀ J : Int64 → AS → Option (Int64 × AS), f_Md_due_L38 J w u f v (nI i) U = J (mdu D X w u c i v) U := by
  intro f
  induction f with
  | zero => intro c i v _ h; omega
  | succ f ih =>
    intro c i v hi hf J
    rw [f_Md_due_L38, h4]
    cases c with
    | zero => rw [if_pos (nI_le (by omega) (by omega))]; rfl
    | succ c =>
      have hin : vp_in (nI i) 16 := in_nI (by omega) (by decide)
      rw [if_neg (nI_ge (by omega) (by omega)), chk_pos hin, ix_nI (by omega)]
      simp only [nm_eq]
      rw [(h85 i (by omega)).1, (h85 i (by omega)).2, m31, ix_nI (by omega), h73, nI_1, mdu]
      by_cases z : gi X 85 i = w
      · rw [if_pos z, if_pos z, chk_pos (in_nI (by omega) (by decide)), chk_pos hin]
        exact ih c (i + 1) _ (by omega) (by omega) J
      · rw [if_neg z, if_neg z, show v + 0 = v from Int64.add_zero v]
        exact ih c (i + 1) _ (by omega) (by omega) J
theorem ok_due {m : Nat} {S : AS} (hm : m < 600) (h : INV m S) (p1 p2 : Int32) : ∃ (r : Int64) (S1 S2 : AS), f_Chan_due p1 p2 S = some (r, S1) ∧ f_Md_due p1 p2 S1 = some (r, S2) ∧ INV (m + 1) S2 := by
  obtain ⟨hs, hA, hB, hC, hO, hD, hE, hG, hH, hU, hJ, hW, hF, hK⟩ := id h
  obtain ⟨hP, hQ, e1, e2, e3, e4, bP, bQ⟩ := id hB
  have one : ¬ (1 : Int32) = 0 := by decide
  unfold f_Chan_due f_Md_due
  simp only [nm_eq]
  rcases idx_cases p1 (nP S) (by omega) with ⟨p, hp, ep, q0, q1⟩ | hno
  rotate_left
  · exact ⟨-1, S, S, by rw [rp_no e2 hno, bI_eq, if_pos rfl], by rw [mp_no e1 hno, bI_eq, if_pos rfl], h.step⟩
  rcases rng_cases p2 9999999 (by decide) with r1 | ⟨t, ht, et, r1⟩
  · have r1' : (if p2 < 0 then (0 : Int32) else if 9999999 < p2 then 0 else 1) = 0 := r1
    exact ⟨-1, S, S, by rw [rp_yes e2 q0 q1, bI_eq, if_neg one, time_spec, bI_eq, r1', if_pos rfl], by rw [mp_yes e1 q0 q1, bI_eq, if_neg one, mtime_spec, bI_eq, r1', if_pos rfl], h.step⟩
  have r1' : (if p2 < 0 then (0 : Int32) else if 9999999 < p2 then 0 else 1) = 1 := r1
  subst ep
  obtain ⟨n, hn, k1, k2⟩ := known_ok h
  obtain ⟨T, U, D, W, kn, P, K, M, l, t1, g1, iT, iU', eT, eU, hd, hr, hm', hnow, eQ, eP, eK⟩ := both_ok h hn (u := p2) ⟨t, ht, et⟩
  obtain ⟨-, -, hMSt, -⟩ := hd
  have hcs : CSt T D W kn P K := CSt.of iT.2.2.1 iT.2.2.2.2.2.1 iT.2.2.2.2.2.2.2.2.2.2.2.2.1 hMSt
  refine ⟨mdu D (mrun D l M) (nI p) p2 (nQ S) 0 (gl T 53 p) / 1440, T, U, ?_, ?_, iU'.step⟩
  · rw [rp_yes e2 q0 q1, bI_eq, if_neg one, time_spec, bI_eq, r1', if_neg one, k1, bI_eq, t1, bV_eq]
    unfold f_Course_earnedBy
    rw [chk_pos (in_nI (by omega) (by decide)), ix_nI (by omega)]
    simp only [nm_eq]
    have e0 := due_C (T := T) (D := D) (X := mrun D l M) (w := nI p) (u := p2) hQ (nI_ne_m1 (by omega)) (by rw [eT 16 7 (by omega)]; exact e4) hnow (fun q hq => (hcs.2.2.2.2.1 q (by omega)).2.1) (fun q hq => hr.1 q (by omega)) FU (nQ S) 0 (gl T 53 p) (by omega) (by rw [FU_succ]; omega) (fun a2 S3 => some (a2, S3))
    rw [nI_0] at e0
    rw [e0, bL_eq]
  · have e1' : gi T 70 2 = nI (nP S) := by rw [eT 70 2 (by omega)]; exact e1
    rw [mp_yes e1' q0 q1, bI_eq, if_neg one, mtime_spec, bI_eq, r1', if_neg one, k2 T (eT 70 14 (by omega)) (eT 70 6 (by omega)), bI_eq, g1, bV_eq, chk_pos (in_nI (by omega) (by decide)), ix_nI (by omega)]
    have e0 := due_M (U := U) (D := D) (X := mrun D l M) (w := nI p) (u := p2) hQ (by rw [eU 70 4 (by omega), eT 70 4 (by omega)]; exact e3) (fun k => by rw [eU 73 k (by omega)]; exact hMSt.2.2.2.2.2.2.1 k) (fun q hq => hm'.1 q (by omega)) FU (nQ S) 0 (gl U 91 p) (by omega) (by rw [FU_succ]; omega) (fun a10 S11 => some (a10 / 1440, S11))
    rw [nI_0] at e0
    rw [e0, (hm'.2.1 p (by omega)).2, (hr.2.1 p (by omega)).2.1]
theorem isk_spec {S : AS} {K : Nat} (hK : K ≤ 48) (e : gi S 23 8 = nI K) {x n : Int32} : (∃ k, k < K ∧ x = nI k ∧ f_PaperBox_isKnown x n S = some (if n < gi S 30 k then 0 else 1, S)) ∨ ((x < 0 ∨ (¬ x < 0 ∧ nI K ≤ x)) ∧ f_PaperBox_isKnown x n S = some (0, S)) := by
  unfold f_PaperBox_isKnown f_PaperBox_has
  simp only [nm_eq]
  rcases idx_cases x K (by omega) with ⟨k, hk, ek, q0, q1⟩ | hno
  · left
    refine ⟨k, hk, ek, ?_⟩
    subst ek
    rw [if_neg q0, e, if_neg q1, bI_eq, if_neg ne10, chk_pos (in_nI (by omega) (by decide)), ix_nI (by omega)]
    split <;> rfl
  · right
    refine ⟨hno, ?_⟩
    rcases hno with q | ⟨q, q2⟩
    · rw [if_pos q, bI_eq, if_pos rfl]
    · rw [if_neg q, e, if_pos q2, bI_eq, if_pos rfl]
theorem m76 (p : Nat) : (7 : Int32) * nI p + 6 = nI (7 * p + 6) := by rw [m7]; exact nI_add (7 * p) 6
theorem isp_yes {S : AS} {K k : Nat} {n : Int32} (hK : K ≤ 48) (hk : k < K) (e : gi S 70 11 = nI K) (hn : f_Md_known S = some (n, S)) : f_Md_isPaper (nI k) S = some (if n < gi S 78 (7 * k + 6) then 0 else 1, S) := by
  unfold f_Md_isPaper
  simp only [nm_eq]
  rw [if_neg (nI_pos (by omega)), e, if_neg (nI_ge hk (by omega)), m76, chk_pos (in_nI (by omega) (by decide)), hn, bI_eq, ix_nI (by omega)]
  split <;> rfl
theorem isp_no {S : AS} {K : Nat} {x : Int32} (e : gi S 70 11 = nI K) (h : x < 0 ∨ (¬ x < 0 ∧ nI K ≤ x)) : f_Md_isPaper x S = some (0, S) := by
  unfold f_Md_isPaper
  simp only [nm_eq]
  rcases h with q | ⟨q, q2⟩
  · rw [if_pos q]
  · rw [if_neg q, e, if_pos q2]
theorem ok_paperOf {m : Nat} {S : AS} (hm : m < 600) (h : INV m S) (p1 p2 : Int32) : ∃ (r : Int32) (S1 S2 : AS), f_Chan_paperOf p1 p2 S = some (r, S1) ∧ f_Md_paperOf p1 p2 S1 = some (r, S2) ∧ INV (m + 1) S2 := by
  obtain ⟨hs, hA, hB, hC, hO, hD, hE, hG, hH, hU, hJ, hW, hF, hK⟩ := id h
  obtain ⟨d1, d2, d3, d4⟩ := id hD
  have one : ¬ (1 : Int32) = 0 := by decide
  obtain ⟨n, hn, k1, k2⟩ := known_ok h
  unfold f_Chan_paperOf f_Md_paperOf
  simp only [nm_eq]
  rw [k1, bI_eq]
  rcases isk_spec (n := nI n) (x := p1) d1 d3 with ⟨k, hk, ek, i1⟩ | ⟨hno, i1⟩
  rotate_left
  · exact ⟨-2, S, S, by rw [i1, bI_eq, if_pos rfl], by rw [isp_no d2 hno, bI_eq, if_pos rfl], h.step⟩
  rw [i1, bI_eq]
  subst ek
  have a7 := (d4 k hk).2.2.2.2.2.2.1
  by_cases hlt : nI n < gi S 30 k
  · refine ⟨-2, S, S, by rw [if_pos hlt, if_pos rfl], ?_, h.step⟩
    rw [isp_yes d1 hk d2 (k2 S rfl rfl), ← a7, if_pos hlt, bI_eq, if_pos rfl]
  rw [if_neg hlt, if_neg one, within_spec, bI_eq]
  obtain ⟨T, U, D, W, kn, P, K, M, l, t1, g1, iT, iU', eT, eU, hd, hr, hm', hnow, eQ, eP, eK⟩ := both_ok h hn LAST_bnd
  obtain ⟨r1, r2, r3⟩ := hr.2.2 k (by omega)
  obtain ⟨x1, x2, x3⟩ := hm'.2.2 k (by omega)
  have hin : vp_in (nI k) 48 := in_nI (by omega) (by decide)
  have d2' : gi T 70 11 = nI (nK S) := by rw [eT 70 11 (by omega)]; exact d2
  have kT := k2 T (eT 70 14 (by omega)) (eT 70 6 (by omega))
  have a7' : gi T 78 (7 * k + 6) = gi S 30 k := by rw [eT 78 _ (by omega)]; exact a7.symm
  have hM : f_Md_isPaper (nI k) T = some (1, T) := by rw [isp_yes d1 hk d2' kT, a7', if_neg hlt]
  rcases rng_cases p2 3 (by decide) with r0 | ⟨t, ht, et, r0⟩
  · have r0' : (if p2 < 0 then (0 : Int32) else if 3 < p2 then 0 else 1) = 0 := r0
    obtain ⟨V, V1, V2⟩ := goes_S h hn 9999999
    refine ⟨-2, S, V, by rw [r0', if_pos rfl], ?_, V2.step⟩
    rw [isp_yes d1 hk d2 (k2 S rfl rfl), ← a7, if_neg hlt, bI_eq, if_neg one, k2 S rfl rfl, bI_eq, V1, bV_eq]
    have z : ∀ j : Nat, j ≤ 3 → ¬ p2 = nI j := fun j hj e => by
      rw [e, if_neg (nI_pos (by omega)), if_neg (show ¬ (3 : Int32) < nI j from nI_nlt (a := 3) hj (by decide))] at r0'
      exact absurd r0' (by decide)
    rw [if_neg (show ¬ p2 = 0 from z 0 (by omega)), if_neg (show ¬ p2 = 1 from z 1 (by omega)), if_neg (show ¬ p2 = 2 from z 2 (by omega)), if_neg (show ¬ p2 = 3 from z 3 (by omega))]
  have r0' : (if p2 < 0 then (0 : Int32) else if 3 < p2 then 0 else 1) = 1 := r0
  rw [r0', if_neg one, t1, bV_eq]
  have a1 : gi U 78 (7 * k + 1) = gi T 25 k := by rw [eU 78 _ (by omega), eT 78 _ (by omega), eT 25 _ (by omega)]; exact ((d4 k hk).2.1).symm
  have a6 : gi U 78 (7 * k + 6) = gi T 30 k := by rw [eU 78 _ (by omega), eT 78 _ (by omega), eT 30 _ (by omega)]; exact a7.symm
  have h4 : t = 0 ∨ t = 1 ∨ t = 2 ∨ t = 3 := by omega
  rcases h4 with rfl | rfl | rfl | rfl
  · have et : p2 = 0 := et
    subst et
    refine ⟨gi T 56 k, T, U, by rw [if_pos rfl, chk_pos hin, ix_nI (by omega)], ?_, iU'.step⟩
    rw [hM, bI_eq, if_neg one, kT, bI_eq, g1, bV_eq, if_pos rfl, chk_pos hin, ix_nI (by omega), x2, r2]
  · have et : p2 = 1 := et
    subst et
    by_cases z : gi (mrun D l M) 89 k = -1
    · refine ⟨-1, T, U, by rw [if_neg (by decide), if_pos rfl, chk_pos hin, ix_nI (by omega), r2, if_pos z], ?_, iU'.step⟩
      rw [hM, bI_eq, if_neg one, kT, bI_eq, g1, bV_eq, if_neg (by decide), if_pos rfl, chk_pos hin, ix_nI (by omega), x2, if_pos z]
    · refine ⟨gi T 57 k - gi T 25 k, T, U, by rw [if_neg (by decide), if_pos rfl, chk_pos hin, ix_nI (by omega), r2, if_neg z, chk_pos hin, chk_pos hin], ?_, iU'.step⟩
      rw [hM, bI_eq, if_neg one, kT, bI_eq, g1, bV_eq, if_neg (by decide), if_pos rfl, chk_pos hin, ix_nI (by omega), x2, if_neg z, chk_pos hin, m71, chk_pos (in_nI (by omega) (by decide)), ix_nI (by omega), x3, a1, r3]
  · have et : p2 = 2 := et
    subst et
    refine ⟨if gi (mrun D l M) 88 k = 0 then 0 else 1, T, U, ?_, ?_, iU'.step⟩
    · rw [if_neg (by decide), if_neg (by decide), if_pos rfl, chk_pos hin, ix_nI (by omega), r1]
      split <;> rfl
    · rw [hM, bI_eq, if_neg one, kT, bI_eq, g1, bV_eq, if_neg (by decide), if_neg (by decide), if_pos rfl, chk_pos hin, ix_nI (by omega), x1]
      split <;> rfl
  · have et : p2 = 3 := et
    subst et
    refine ⟨gi T 30 k, T, U, by rw [if_neg (by decide), if_neg (by decide), if_neg (by decide), chk_pos hin, ix_nI (by omega)], ?_, iU'.step⟩
    rw [hM, bI_eq, if_neg one, kT, bI_eq, g1, bV_eq, if_neg (by decide), if_neg (by decide), if_neg (by decide), if_pos rfl, m76, chk_pos (in_nI (by omega) (by decide)), ix_nI (by omega), a6]
theorem free_C {T : AS} {X : AS} {Q : Nat} (hQ : Q ≤ 16) (h7 : gi T 16 7 = nI Q) (h50 : ∀ p, p < Q → gi T 50 p = gi X 85 p) : f_Course_freePosts T = some (nI (mcnt X (-1) Q), T) := by
  have key : ∀ (J : Int32 → AS → Option (Int32 × AS)) (n i : Nat), i ≤ Q → Q - i < n → f_Course_freePosts_L4 J n (nI (mcnt X (-1) i)) (nI i) T = J (nI (mcnt X (-1) Q)) T := by
    intro J n
    induction n with
    | zero => intro i _ h; omega
    | succ n ih =>
      intro i hi hn
      rw [f_Course_freePosts_L4, h7]
      rcases Nat.lt_or_ge i Q with q | q
      · rw [if_neg (nI_ge q (by omega)), chk_pos (in_nI (by omega) (by decide)), ix_nI (by omega), h50 i q]
        simp only [nm_eq]
        have e := ih (i + 1) (by omega) (by omega)
        rw [mcnt] at e
        by_cases hh : gi X 85 i = -1
        · rw [if_pos hh, nI_1, nI_1]; rw [if_pos hh] at e; exact e
        · rw [if_neg hh, nI_1]; rw [if_neg hh, Nat.add_zero] at e
          exact e
      · rw [if_pos (nI_le q (by omega)), show i = Q by omega]
  unfold f_Course_freePosts
  simp only [nm_eq]
  have k0 := key (fun (a1 : Int32) (S2 : AS) => some (a1, S2)) FU 0 (by omega) (by rw [FU_succ]; omega)
  rw [show mcnt X (-1) 0 = 0 from rfl, nI_0] at k0
  exact k0
theorem free_M {U : AS} {X : AS} {Q : Nat} (hQ : Q ≤ 16) (h4 : gi U 70 4 = nI Q) (h85 : ∀ p, p < Q → gi U 85 p = gi X 85 p) (J : Int32 → AS → Option (Int32 × AS)) : f_Md_all_L81 J FU 0 0 U = J (nI (mcnt X (-1) Q)) U := by
  have key : ∀ (n i : Nat), i ≤ Q → Q - i < n → f_Md_all_L81 J n (nI (mcnt X (-1) i)) (nI i) U = J (nI (mcnt X (-1) Q)) U := by
    intro n
    induction n with
    | zero => intro i _ h; omega
    | succ n ih =>
      intro i hi hn
      rw [f_Md_all_L81, h4]
      rcases Nat.lt_or_ge i Q with q | q
      · rw [if_neg (nI_ge q (by omega)), chk_pos (in_nI (by omega) (by decide)), ix_nI (by omega), h85 i q]
        simp only [nm_eq]
        have e := ih (i + 1) (by omega) (by omega)
        rw [mcnt] at e
        by_cases hh : gi X 85 i = -1
        · rw [if_pos hh, nI_1, nI_1]; rw [if_pos hh] at e; exact e
        · rw [if_neg hh, nI_1]; rw [if_neg hh] at e
          rw [show nI (mcnt X (-1) i) + 0 = nI (mcnt X (-1) i + 0) from nI_add _ 0]
          exact e
      · rw [if_pos (nI_le q (by omega)), show i = Q by omega]
  have k0 := key FU 0 (by omega) (by rw [FU_succ]; omega)
  rw [show mcnt X (-1) 0 = 0 from rfl, nI_0] at k0
  exact k0
theorem ok_all {m : Nat} {S : AS} (hm : m < 600) (h : INV m S) (p1 : Int32) : ∃ (r : Int32) (S1 S2 : AS), f_Chan_all p1 S = some (r, S1) ∧ f_Md_all p1 S1 = some (r, S2) ∧ INV (m + 1) S2 := by
  obtain ⟨hs, hA, hB, hC, hO, hD, hE, hG, hH, hU, hJ, hW, hF, hK⟩ := id h
  obtain ⟨hP, hQ, e1, e2, e3, e4, bP, bQ⟩ := id hB
  obtain ⟨n, hn, k1, k2⟩ := known_ok h
  unfold f_Chan_all f_Md_all
  simp only [nm_eq]
  by_cases h0 : p1 = 0
  · exact ⟨_, S, S, by rw [if_pos h0], by rw [if_pos h0, e1, e2], h.step⟩
  by_cases h1 : p1 = 1
  · exact ⟨_, S, S, by rw [if_neg h0, if_pos h1], by rw [if_neg h0, if_pos h1, e3, e4], h.step⟩
  by_cases h2 : p1 = 2
  · exact ⟨_, S, S, by rw [if_neg h0, if_neg h1, if_pos h2], by rw [if_neg h0, if_neg h1, if_pos h2, hD.2.1, hD.2.2.1], h.step⟩
  by_cases h3 : p1 = 3
  · exact ⟨_, S, S, by rw [if_neg h0, if_neg h1, if_neg h2, if_pos h3], by rw [if_neg h0, if_neg h1, if_neg h2, if_pos h3, hC.2.1, hC.2.2.1], h.step⟩
  by_cases h4 : p1 = 4
  · exact ⟨_, S, S, by rw [if_neg h0, if_neg h1, if_neg h2, if_neg h3, if_pos h4], by rw [if_neg h0, if_neg h1, if_neg h2, if_neg h3, if_pos h4, hF.2.1, hF.2.2.1], h.step⟩
  by_cases h5 : p1 = 5
  · obtain ⟨T, U, D, W, kn, P, K, M, l, t1, g1, iT, iU', eT, eU, hd, hr, hm', hnow, eQ, eP, eK⟩ := both_ok h hn LAST_bnd
    refine ⟨nI (mcnt (mrun D l M) (-1) (nQ S)), T, U, ?_, ?_, iU'.step⟩
    · rw [if_neg h0, if_neg h1, if_neg h2, if_neg h3, if_neg h4, if_pos h5, k1, bI_eq, t1, bV_eq, free_C hQ (by rw [eT 16 7 (by omega)]; exact e4) (fun p hp => (hr.1 p (by omega)).1), bI_eq]
    · rw [if_neg h0, if_neg h1, if_neg h2, if_neg h3, if_neg h4, if_pos h5, k2 T (eT 70 14 (by omega)) (eT 70 6 (by omega)), bI_eq, g1, bV_eq, free_M hQ (by rw [eU 70 4 (by omega), eT 70 4 (by omega)]; exact e3) (fun p hp => (hm'.1 p (by omega)).1)]
  by_cases h6 : p1 = 6
  · exact ⟨_, S, S, by rw [if_neg h0, if_neg h1, if_neg h2, if_neg h3, if_neg h4, if_neg h5, if_pos h6, k1, bI_eq], by rw [if_neg h0, if_neg h1, if_neg h2, if_neg h3, if_neg h4, if_neg h5, if_pos h6, k2 S rfl rfl, bI_eq], h.step⟩
  · exact ⟨_, S, S, by rw [if_neg h0, if_neg h1, if_neg h2, if_neg h3, if_neg h4, if_neg h5, if_neg h6], by rw [if_neg h0, if_neg h1, if_neg h2, if_neg h3, if_neg h4, if_neg h5, if_neg h6], h.step⟩
